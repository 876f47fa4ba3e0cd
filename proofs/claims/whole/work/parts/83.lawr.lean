/-! the law: what only tells -/
theorem a0_ {L p j : Nat} {a0 : Nat → Int32} {β : Type} {g : Int32 → Option β} {I : Int32} (hp : p + 5 ≤ L) (hL : L ≤ 2560) (hj : j < 5) (e : I = nI (p + j)) : fld L a0 I g = g (a0 (p + j)) := by
  subst e; exact fld_n (by omega) (by omega)
theorem p_1 (p : Nat) : nI p + 1 = nI (p + 1) := nI_add p 1
theorem p_2 (p : Nat) : nI p + 2 = nI (p + 2) := nI_add p 2
theorem p_3 (p : Nat) : nI p + 3 = nI (p + 3) := nI_add p 3
theorem p_4 (p : Nat) : nI p + 4 = nI (p + 4) := nI_add p 4
/-- an answer of both sides -/
def An (o : Nat → Int64) (cl : Option (Int32 × (Nat → Int64))) (ml : Option (Int32 × Int32)) : Prop := ∃ k v o', cl = some (k, o') ∧ ml = some (v, k) ∧ (k = 0 → o' 0 = Int32.toInt64 v)
theorem An_v {o : Nat → Int64} {cl : Option (Int32 × (Nat → Int64))} {ml : Option (Int32 × Int32)} {v : Int32} (h1 : cl = some (0, oW o v)) (h2 : ml = some (v, 0)) : An o cl ml := ⟨0, v, _, h1, h2, fun _ => rfl⟩
theorem An_k {o : Nat → Int64} {cl : Option (Int32 × (Nat → Int64))} {ml : Option (Int32 × Int32)} {k : Int32} (h1 : cl = some (k, o)) (h2 : ml = some (0, k)) (h : k ≠ 0) : An o cl ml := ⟨k, 0, _, h1, h2, fun e => absurd e h⟩
section
variable {B : Nat} {S : aS} {c s : Nat → Int32} {th : Int32} {o : Nat → Int64}
theorem an_stopped (h : IC B S c) (hm : IM B S s) (a1 : Int32) : An o (s_L_stopped a1 c o) (s_X11_stopped a1 th s) := by
  have g6 : s 6 = stI S 0 := hm.1.1.2.2.2.2.2.2.1
  have g7 : s 7 = stI S 1 := hm.1.1.2.2.2.2.2.2.2
  rcases whatD a1 1 (by omega) with ⟨w, hw, rfl⟩ | ⟨w1, w2⟩
  · have h2 := (whatT hw (by omega)).2
    have h2 : s_X11_in (nI w) 0 1 = some 1 := h2
    have hn := nSt h.1 (w := w) (by omega)
    rcases (by omega : w = 0 ∨ w = 1) with rfl | rfl
    · refine An_v (v := stI S 0) ?_ ?_
      · exact bindE (bindE hn rfl) rfl
      · refine bindE h2 ?_
        rw [if_neg (by decide)]
        refine bindE (hold0 th) ?_
        rw [if_neg (by decide), if_pos (by rfl)]
        exact fldE (i := 6) rfl (by omega) (by omega) g6 rfl
    · refine An_v (v := stI S 1) ?_ ?_
      · exact bindE (bindE hn rfl) rfl
      · refine bindE h2 ?_
        rw [if_neg (by decide)]
        refine bindE (hold0 th) ?_
        rw [if_neg (by decide), if_neg (by decide)]
        exact fldE (i := 7) rfl (by omega) (by omega) g7 rfl
  · have w2 : s_X11_in a1 0 1 = some 0 := w2
    refine An_k (k := 1) ?_ ?_ (by decide)
    · have n0 : ¬ a1 = 0 := fun e => by subst e; exact absurd w1 (by decide)
      have n1 : ¬ a1 = 1 := fun e => by subst e; exact absurd w1 (by decide)
      refine bindE (a := .inr "java/lang/IllegalArgumentException") ?_ rfl
      show (if _ then _ else (if _ then _ else _)) = _
      rw [if_neg n0, if_neg n1]
    · exact bindE w2 rfl
theorem an_told (h : IC B S c) (hm : IM B S s) (a1 a2 : Int32) : An o (s_L_told a1 a2 c o) (s_X11_told a1 a2 th s) := by
  rcases fishD a1 with ⟨f, hf, rfl⟩ | ⟨w1, w2⟩
  · obtain ⟨f1, f2⟩ := fishT hf
    by_cases q : a2 < 0
    · refine An_k (k := 2) ?_ ?_ (by decide)
      · refine bindE (a := .inr "java/lang/IllegalArgumentException") (bindE f1 ?_) rfl
        rw [fth_l]
        exact if_neg (neg_nle q)
      · refine bindE f2 ?_
        rw [if_neg (by decide), if_neg (neg_nle q)]
        rfl
    · obtain ⟨j, hj, rfl⟩ : ∃ j, j < 2147483648 ∧ a2 = nI j := by
        have h0' : 0 ≤ a2.toInt := by rw [Int32.lt_iff_toInt_lt] at q; have : (0 : Int32).toInt = 0 := rfl; omega
        have h1' := a2.toInt_lt
        refine ⟨a2.toInt.toNat, by omega, ?_⟩
        apply Int32.toInt_inj.mp
        rw [nI_toInt (by omega)]; omega
      refine An_v (v := tdJ S f j) ?_ ?_
      · refine bindE (a := .inl (tdJ S f j)) (bindE f1 ?_) rfl
        rw [fth_l]
        show (if _ then _ else _) = _
        rw [if_pos (nneg_le q)]
        exact bindE (tdCJ h hf hj) rfl
      · refine bindE f2 ?_
        rw [if_neg (by decide), if_pos (nneg_le q)]
        refine bindE (hold0 th) ?_
        rw [if_neg (by decide)]
        exact bindE (mch hm hf hj) rfl
  · refine An_k (k := 1) (bindE (a := .inr "java/lang/IndexOutOfBoundsException") (bindE w1 rfl) rfl) (bindE w2 rfl) (by decide)
theorem an_letter (h : IC B S c) (hm : IM B S s) (a1 a2 : Int32) : An o (s_L_letter a1 a2 c o) (s_X11_letter a1 a2 th s) := by
  rcases rng a1 16 (by omega) with ⟨l, hl, rfl⟩ | h0 | ⟨h0, h1⟩
  · have h3 : s_X11_in (nI l) 0 15 = some 1 := in_T (lo := 0) (hi := 15) (by omega) (by omega) (by omega)
    have h4 : ¬ nI l < 0 := nI_pos (by omega)
    have h5 : nI l < 16 := nI_lt (b := 16) hl (by omega)
    rcases whatD a2 5 (by omega) with ⟨w, hw, rfl⟩ | ⟨w1, w2⟩
    · obtain ⟨w1, w2⟩ := whatT hw (by omega)
      refine An_v (v := olI S l w) ?_ ?_
      · refine bindE (a := .inl (olI S l w)) ?_ rfl
        show (if _ then _ else (if _ then _ else _)) = _
        rw [if_neg h4, if_pos h5]
        exact bindE w1 (bindE (oLe h hl hw) rfl)
      · refine bindE h3 ?_
        rw [if_neg (by decide)]
        refine bindE w2 ?_
        rw [if_neg (by decide)]
        refine bindE (hold0 th) ?_
        rw [if_neg (by decide)]
        exact bindE (mln hm hl hw) rfl
    · refine An_k (k := 2) ?_ ?_ (by decide)
      · refine bindE (a := .inr "java/lang/IllegalArgumentException") ?_ rfl
        show (if _ then _ else (if _ then _ else _)) = _
        rw [if_neg h4, if_pos h5]
        exact bindE w1 rfl
      · refine bindE h3 ?_
        rw [if_neg (by decide)]
        exact bindE w2 rfl
  · refine An_k (k := 1) (bindE (a := .inr "java/lang/IndexOutOfBoundsException") (by show (if _ then _ else _) = _; rw [if_pos h0]) rfl) (bindE (in_F1 (lo := 0) h0) rfl) (by decide)
  · refine An_k (k := 1) (bindE (a := .inr "java/lang/IndexOutOfBoundsException") ?_ rfl) (bindE (in_F2 (hi := 15) (lt_of h1 (by omega) (by omega))) rfl) (by decide)
    show (if _ then _ else (if _ then _ else _)) = _
    rw [if_neg h0, if_neg (by exact nlt_of (N := 16) h1)]
theorem an_knot (h : IC B S c) (hm : IM B S s) (a1 a2 a3 a4 : Int32) : An o (s_L_knot a1 a2 a3 a4 c o) (s_X11_knot a1 a2 a3 a4 th s) := by
  rcases nameD h hm a1 a2 with ⟨f, n, hf, hn, rfl, rfl⟩ | ⟨w1, w2⟩
  · obtain ⟨f1, f2⟩ := nameT h hm hf hn
    have hv := h.nam hf hn
    have hvm := hm.nam hf hn
    have h8 := hv.2.2.2.2.2.1
    rcases rng a3 8 (by omega) with ⟨k, hk, rfl⟩ | h0 | ⟨h0, h1⟩
    · have h3 : s_X11_in (nI k) 0 7 = some 1 := in_T (lo := 0) (hi := 7) (by omega) (by omega) (by omega)
      have h4 : ¬ nI k < 0 := nI_pos (by omega)
      have h5 : nI k < 8 := nI_lt (b := 8) hk (by omega)
      rcases whatD a4 2 (by omega) with ⟨w, hw, rfl⟩ | ⟨w1, w2⟩
      · obtain ⟨w1, w2⟩ := whatT hw (by omega)
        refine An_v (v := okI (nm S f n) k w) ?_ ?_
        · refine bindE (a := .inl (okI (nm S f n) k w)) (bindE f1 ?_) rfl
          rw [fth_l]
          show (if _ then _ else (if _ then _ else _)) = _
          rw [if_neg h4, if_pos h5]
          exact bindE w1 (bindE (oKt hv (by omega) hw) rfl)
        · refine bindE f2 ?_
          rw [if_neg (by decide)]
          refine bindE h3 ?_
          rw [if_neg (by decide)]
          refine bindE w2 ?_
          rw [if_neg (by decide)]
          refine bindE (hold0 th) ?_
          rw [if_neg (by decide)]
          refine bindE (whr f n) (bindE (mkn hvm) ?_)
          by_cases q : k < (nm S f n).length
          · rw [if_neg (nI_ge q (by omega))]
            exact bindE (mkx hvm q hw) rfl
          · rw [if_pos (nI_le (by omega) (by omega))]
            unfold okI
            rw [if_neg q]; rfl
      · refine An_k (k := 2) ?_ ?_ (by decide)
        · refine bindE (a := .inr "java/lang/IllegalArgumentException") (bindE f1 ?_) rfl
          rw [fth_l]
          show (if _ then _ else (if _ then _ else _)) = _
          rw [if_neg h4, if_pos h5]
          exact bindE w1 rfl
        · refine bindE f2 ?_
          rw [if_neg (by decide)]
          refine bindE h3 ?_
          rw [if_neg (by decide)]
          exact bindE w2 rfl
    · refine An_k (k := 2) ?_ ?_ (by decide)
      · refine bindE (a := .inr "java/lang/IllegalArgumentException") (bindE f1 ?_) rfl
        rw [fth_l]
        exact if_pos h0
      · refine bindE f2 ?_
        rw [if_neg (by decide)]
        exact bindE (in_F1 (lo := 0) h0) rfl
    · refine An_k (k := 2) ?_ ?_ (by decide)
      · refine bindE (a := .inr "java/lang/IllegalArgumentException") (bindE f1 ?_) rfl
        rw [fth_l]
        show (if _ then _ else (if _ then _ else _)) = _
        rw [if_neg h0, if_neg (by exact nlt_of (N := 8) h1)]
      · refine bindE f2 ?_
        rw [if_neg (by decide)]
        exact bindE (in_F2 (hi := 7) (lt_of h1 (by omega) (by omega))) rfl
  · exact An_k (k := 1) (bindE (a := .inr "java/lang/IndexOutOfBoundsException") (bindE w1 rfl) rfl) (bindE w2 rfl) (by decide)
theorem an_name (h : IC B S c) (hm : IM B S s) (a1 a2 a3 : Int32) : An o (s_L_name a1 a2 a3 c o) (s_X11_name a1 a2 a3 th s) := by
  rcases nameD h hm a1 a2 with ⟨f, n, hf, hn, rfl, rfl⟩ | ⟨w1, w2⟩
  · obtain ⟨f1, f2⟩ := nameT h hm hf hn
    rcases whatD a3 4 (by omega) with ⟨w, hw, rfl⟩ | ⟨w1, w2⟩
    · obtain ⟨w1, w2⟩ := whatT hw (by omega)
      refine An_v (v := onI (sSt S) (sD S) (sBo S) (nm S f n) w) ?_ ?_
      · exact bindE (a := .inl (onI (sSt S) (sD S) (sBo S) (nm S f n) w)) (bindE f1 (bindE w1 (bindE (oNm (h.nam hf hn) h.env hw) rfl))) rfl
      · refine bindE f2 ?_
        rw [if_neg (by decide)]
        refine bindE w2 ?_
        rw [if_neg (by decide)]
        refine bindE (hold0 th) ?_
        rw [if_neg (by decide)]
        exact bindE (whr f n) (bindE (mnn (hm.nam hf hn) hm.env hw) rfl)
    · refine An_k (k := 2) (bindE (a := .inr "java/lang/IllegalArgumentException") (bindE f1 (bindE w1 rfl)) rfl) ?_ (by decide)
      refine bindE f2 ?_
      rw [if_neg (by decide)]
      exact bindE w2 rfl
  · exact An_k (k := 1) (bindE (a := .inr "java/lang/IndexOutOfBoundsException") (bindE w1 rfl) rfl) (bindE w2 rfl) (by decide)
theorem an_fisher (h : IC B S c) (hm : IM B S s) (a1 a2 : Int32) : An o (s_L_fisher a1 a2 c o) (s_X11_fisher a1 a2 th s) := by
  rcases fishD a1 with ⟨f, hf, rfl⟩ | ⟨w1, w2⟩
  · obtain ⟨f1, f2⟩ := fishT hf
    rcases whatD a2 4 (by omega) with ⟨w, hw, rfl⟩ | ⟨w1, w2⟩
    · obtain ⟨w1, w2⟩ := whatT hw (by omega)
      refine An_v (v := ofI S f w) ?_ ?_
      · exact bindE (a := .inl (ofI S f w)) (bindE f1 (bindE w1 (bindE (oFi h hf hw) rfl))) rfl
      · refine bindE f2 ?_
        rw [if_neg (by decide)]
        refine bindE w2 ?_
        rw [if_neg (by decide)]
        refine bindE (hold0 th) ?_
        rw [if_neg (by decide)]
        exact bindE (mfn hm hf hw) rfl
    · refine An_k (k := 2) (bindE (a := .inr "java/lang/IllegalArgumentException") (bindE f1 (bindE w1 rfl)) rfl) ?_ (by decide)
      refine bindE f2 ?_
      rw [if_neg (by decide)]
      exact bindE w2 rfl
  · exact An_k (k := 1) (bindE (a := .inr "java/lang/IndexOutOfBoundsException") (bindE w1 rfl) rfl) (bindE w2 rfl) (by decide)
theorem an_ifStorm (h : IC B S c) (hm : IM B S s) (a1 a2 : Int32) : An o (s_L_ifStorm a1 a2 c o) (s_X11_ifStorm a1 a2 th s) := by
  rcases fishD a1 with ⟨f, hf, rfl⟩ | ⟨w1, w2⟩
  · obtain ⟨f1, f2⟩ := fishT hf
    rcases whatD a2 1 (by omega) with ⟨w, hw, rfl⟩ | ⟨w1, w2⟩
    · obtain ⟨w1, w2⟩ := whatT hw (by omega)
      refine An_v (v := nsI S f w) ?_ ?_
      · exact bindE (a := .inl (nsI S f w)) (bindE f1 (bindE w1 (bindE (nxS h hf hw) rfl))) rfl
      · refine bindE f2 ?_
        rw [if_neg (by decide)]
        refine bindE w2 ?_
        rw [if_neg (by decide)]
        refine bindE (hold0 th) ?_
        rw [if_neg (by decide)]
        exact bindE (mns hm hf hw) rfl
    · refine An_k (k := 2) (bindE (a := .inr "java/lang/IllegalArgumentException") (bindE f1 (bindE w1 rfl)) rfl) ?_ (by decide)
      refine bindE f2 ?_
      rw [if_neg (by decide)]
      exact bindE w2 rfl
  · exact An_k (k := 1) (bindE (a := .inr "java/lang/IndexOutOfBoundsException") (bindE w1 rfl) rfl) (bindE w2 rfl) (by decide)
theorem an_drowned (h : IC B S c) (hm : IM B S s) (a1 a2 : Int32) : An o (s_L_drowned a1 a2 c o) (s_X11_drowned a1 a2 th s) := by
  have hE := h.2.2.2.1
  have g1 : s 1 = nI (sE S).length := hm.1.1.2.1
  by_cases q : a1 < 0
  · refine An_k (k := 1) (bindE (a := .inr "java/lang/IllegalArgumentException") (by show (if _ then _ else _) = _; rw [if_neg (neg_nle q)]) rfl) ?_ (by decide)
    show (if _ then _ else _) = _
    rw [if_pos q]; rfl
  · obtain ⟨j, hj, rfl⟩ : ∃ j, j < 2147483648 ∧ a1 = nI j := by
      have h0' : 0 ≤ a1.toInt := by rw [Int32.lt_iff_toInt_lt] at q; have : (0 : Int32).toInt = 0 := rfl; omega
      have h1' := a1.toInt_lt
      refine ⟨a1.toInt.toNat, by omega, ?_⟩
      apply Int32.toInt_inj.mp
      rw [nI_toInt (by omega)]; omega
    rcases whatD a2 3 (by omega) with ⟨w, hw, rfl⟩ | ⟨w1, w2⟩
    · obtain ⟨w1, w2⟩ := whatT hw (by omega)
      refine An_v (v := oeI (sE S) j w) ?_ ?_
      · refine bindE (a := .inl (oeI (sE S) j w)) ?_ rfl
        show (if _ then _ else _) = _
        rw [if_pos (nneg_le q)]
        exact bindE w1 (bindE (oEn h hj hw) rfl)
      · show (if _ then _ else _) = _
        rw [if_neg q]
        refine bindE w2 ?_
        rw [if_neg (by decide)]
        refine bindE (hold0 th) ?_
        rw [if_neg (by decide)]
        refine fldE (i := 1) rfl (by omega) (by omega) g1 ?_
        by_cases q2 : j < (sE S).length
        · rw [if_neg (nI_ge q2 (by omega))]
          exact bindE (men hm q2 hw) rfl
        · rw [if_pos (nI_le (by omega) (by omega))]
          unfold oeI
          rw [if_neg q2]; rfl
    · refine An_k (k := 1) ?_ ?_ (by decide)
      · refine bindE (a := .inr "java/lang/IllegalArgumentException") ?_ rfl
        show (if _ then _ else _) = _
        rw [if_pos (nneg_le q)]
        exact bindE w1 rfl
      · show (if _ then _ else _) = _
        rw [if_neg q]
        exact bindE w2 rfl
theorem an_count {n : Nat} (h : IC B S c) (hm : IM B S s) (a1 : Int32) : An o (s_L_count a1 c (nI n) o) (s_X11_count a1 (nI n) th s) := by
  rcases whatD a1 13 (by omega) with ⟨w, hw, rfl⟩ | ⟨w1, w2⟩
  · obtain ⟨w1, w2⟩ := whatT hw (by omega)
    by_cases q : w = 13
    · subst q
      refine An_v (v := nI n) (bindE (a := .inl (nI n)) (bindE w1 rfl) rfl) ?_
      refine bindE w2 ?_
      rw [if_neg (by decide)]
      refine bindE (hold0 th) ?_
      rw [if_neg (by decide)]
      exact bindE mcq13 rfl
    · refine An_v (v := oaI S w) ?_ ?_
      · refine bindE (a := .inl (oaI S w)) (bindE w1 ?_) rfl
        rw [fth_l, if_neg (by rw [show (13 : Int32) = nI 13 from rfl, c_eq_f q (by omega) (by omega)]; exact id)]
        exact bindE (oAl h (by omega)) rfl
      · refine bindE w2 ?_
        rw [if_neg (by decide)]
        refine bindE (hold0 th) ?_
        rw [if_neg (by decide)]
        exact bindE (mcq hm (by omega)) rfl
  · exact An_k (k := 1) (bindE (a := .inr "java/lang/IllegalArgumentException") (bindE w1 rfl) rfl) (bindE w2 rfl) (by decide)
end
