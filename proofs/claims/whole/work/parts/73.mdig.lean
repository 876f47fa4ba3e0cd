/-! the model: the digest -/
theorem laccS {σ : Type} (F : Nat → Int32 → σ → Option (Int32 × σ)) (N : Nat) (g : Nat → σ → σ) (hN : N < 6000)
    (hs : ∀ n i x, i < N → F (n + 1) (nI i) x = F n (nI (i + 1)) (g i x)) (he : ∀ n x, F (n + 1) (nI N) x = some (nI N, x)) (x : σ) : F gF (nI 0) x = some (nI N, it N g x) := by
  have key := lp (fun n (y : Int32 × σ) => F n y.1 y.2) N (fun i y => y = (nI i, it i g x)) (fun r => r = (nI N, it N g x))
    (fun i hi n y hy => by subst hy; exact Or.inl ⟨(nI (i + 1), g i (it i g x)), hs n i _ hi, rfl⟩)
    (fun n y hy => by subst hy; exact ⟨_, he n _, rfl⟩) N 0 gF (nI 0, x) (by omega) (by unfold gF; omega) rfl
  obtain ⟨r, h1, h2⟩ := key
  rw [h2] at h1
  exact h1
theorem it_add {σ : Type} (a b : Nat) (g : Nat → σ → σ) (x : σ) : it (a + b) g x = it b (fun i => g (a + i)) (it a g x) := by
  induction b with
  | zero => rfl
  | succ n ih => show g (a + n) (it (a + n) g x) = g (a + n) _; rw [ih]
theorem it_flat {σ : Type} (N M : Nat) (hM : 0 < M) (g : Nat → Nat → σ → σ) (x : σ) : it (N * M) (fun k => g (k / M) (k % M)) x = it N (fun l x => it M (fun w => g l w) x) x := by
  induction N with
  | zero => rw [Nat.zero_mul]; rfl
  | succ n ih =>
    rw [Nat.succ_mul, it_add, ih]
    show _ = it M (fun w => g n w) _
    refine it_congr (fun i hi y => ?_) _
    have e1 : (n * M + i) / M = n := by rw [Nat.mul_comm, Nat.mul_add_div hM, Nat.div_eq_of_lt hi, Nat.add_zero]
    have e2 : (n * M + i) % M = i := by rw [Nat.mul_comm, Nat.mul_add_mod, Nat.mod_eq_of_lt hi]
    rw [e1, e2]
theorem mixE (v : Int32) (z : Int64) : s_X11_mix (Int32.toInt64 v) z = some (mx v z) := rfl
theorem mdN {B W st d b : Nat} {s : Nat → Int32} {m : aN} (h : VM B s W m) (e : EnvM B s st d b) (z : Int64) : s_X11_mixName (nI W) z s = some (hKs m (it 5 (fun w => mx (onI st d b m w)) z)) := by
  have h8 := h.2.2.2.2.1
  have z1 : ∀ z, s_X11_mixName_L2 (nI W) s gF (nI 0) z = some (nI 5, it 5 (fun w => mx (onI st d b m w)) z) := laccS (fun a i x => s_X11_mixName_L2 (nI W) s a i x) 5 (fun w => mx (onI st d b m w)) (by omega) (fun a i x hi => by
    simp (disch := omega) only [s_X11_mixName_L2, ↓reduceIte, nI_lit, mO_lit, mO_lt, mO_le, mO_gt, mO_ge, mO_ne, mO_ne', nI_add, nI_mul, nI_addlit0, bsome, c_le_f, c_le_t, c_lt_f, c_lt_t, c_eq_f, c_eq_t, if_true, if_false, fld_n, fst_n, mnn h e, mixE]) (fun a x => by simp (disch := omega) only [s_X11_mixName_L2, ↓reduceIte, nI_lit, mO_lit, mO_lt, mO_le, mO_gt, mO_ge, mO_ne, mO_ne', nI_add, nI_mul, nI_addlit0, bsome, c_le_f, c_le_t, c_lt_f, c_lt_t, c_eq_f, c_eq_t, if_true, if_false, fld_n, fst_n])
  have z2 : ∀ k, k < m.length → ∀ z, s_X11_mixName_L37 (nI W) (nI k) s gF (nI 0) z = some (nI 3, it 3 (fun w => mx (okI m k w)) z) := fun k hk => laccS (fun a i x => s_X11_mixName_L37 (nI W) (nI k) s a i x) 3 (fun w => mx (okI m k w)) (by omega) (fun a i x hi => by
    simp (disch := omega) only [s_X11_mixName_L37, ↓reduceIte, nI_lit, mO_lit, mO_lt, mO_le, mO_gt, mO_ge, mO_ne, mO_ne', nI_add, nI_mul, nI_addlit0, bsome, c_le_f, c_le_t, c_lt_f, c_lt_t, c_eq_f, c_eq_t, if_true, if_false, fld_n, fst_n, mkx h hk, mixE]) (fun a x => by simp (disch := omega) only [s_X11_mixName_L37, ↓reduceIte, nI_lit, mO_lit, mO_lt, mO_le, mO_gt, mO_ge, mO_ne, mO_ne', nI_add, nI_mul, nI_addlit0, bsome, c_le_f, c_le_t, c_lt_f, c_lt_t, c_eq_f, c_eq_t, if_true, if_false, fld_n, fst_n])
  have z3 : ∀ z, s_X11_mixName_L26 (nI W) s gF (nI 0) z = some (nI m.length, hKs m z) := laccS (fun a i x => s_X11_mixName_L26 (nI W) s a i x) m.length (fun k x => it 3 (fun w => mx (okI m k w)) x) (by omega) (fun a i x hi => by
    simp (disch := omega) only [s_X11_mixName_L26, ↓reduceIte, nI_lit, mO_lit, mO_lt, mO_le, mO_gt, mO_ge, mO_ne, mO_ne', nI_add, nI_mul, nI_addlit0, bsome, c_le_f, c_le_t, c_lt_f, c_lt_t, c_eq_f, c_eq_t, if_true, if_false, fld_n, fst_n, mkn h]
    exact bindE (z2 i hi x) rfl) (fun a x => by simp (disch := omega) only [s_X11_mixName_L26, ↓reduceIte, nI_lit, mO_lit, mO_lt, mO_le, mO_gt, mO_ge, mO_ne, mO_ne', nI_add, nI_mul, nI_addlit0, bsome, c_le_f, c_le_t, c_lt_f, c_lt_t, c_eq_f, c_eq_t, if_true, if_false, fld_n, fst_n, mkn h])
  exact bindE (z1 z) (bindE (z3 _) rfl)
theorem mdF {B f : Nat} {S : aS} {s : Nat → Int32} (h : IM B S s) (hf : f < 5) (z : Int64) : s_X11_mixFisher (nI f) z s = some (hNs S f (hFi S f z)) := by
  have h6 := h.six hf
  have hT := tdT_le h.2 hf
  have z1 : ∀ z, s_X11_mixFisher_L2 (nI f) s gF (nI 0) z = some (nI 5, it 5 (fun w => mx (ofI S f w)) z) := laccS (fun a i x => s_X11_mixFisher_L2 (nI f) s a i x) 5 (fun w => mx (ofI S f w)) (by omega) (fun a i x hi => by
    simp (disch := omega) only [s_X11_mixFisher_L2, ↓reduceIte, nI_lit, mO_lit, mO_lt, mO_le, mO_gt, mO_ge, mO_ne, mO_ne', nI_add, nI_mul, nI_addlit0, bsome, c_le_f, c_le_t, c_lt_f, c_lt_t, c_eq_f, c_eq_t, if_true, if_false, fld_n, fst_n, mfn h hf, mixE]) (fun a x => by simp (disch := omega) only [s_X11_mixFisher_L2, ↓reduceIte, nI_lit, mO_lit, mO_lt, mO_le, mO_gt, mO_ge, mO_ne, mO_ne', nI_add, nI_mul, nI_addlit0, bsome, c_le_f, c_le_t, c_lt_f, c_lt_t, c_eq_f, c_eq_t, if_true, if_false, fld_n, fst_n])
  have z2 : ∀ z, s_X11_mixFisher_L48 (nI f) s gF (nI 0) z = some (nI (tdT S f), it (tdT S f) (fun j => mx (tdJ S f j)) z) := laccS (fun a i x => s_X11_mixFisher_L48 (nI f) s a i x) (tdT S f) (fun j => mx (tdJ S f j)) (by omega) (fun a i x hi => by
    simp (disch := omega) only [s_X11_mixFisher_L48, ↓reduceIte, nI_lit, mO_lit, mO_lt, mO_le, mO_gt, mO_ge, mO_ne, mO_ne', nI_add, nI_mul, nI_addlit0, bsome, c_le_f, c_le_t, c_lt_f, c_lt_t, c_eq_f, c_eq_t, if_true, if_false, fld_n, fst_n, mch h hf, mixE]
    rw [if_neg (tdT_ne h.2 hf hi)]) (fun a x => by
    simp (disch := omega) only [s_X11_mixFisher_L48, ↓reduceIte, nI_lit, mO_lit, mO_lt, mO_le, mO_gt, mO_ge, mO_ne, mO_ne', nI_add, nI_mul, nI_addlit0, bsome, c_le_f, c_le_t, c_lt_f, c_lt_t, c_eq_f, c_eq_t, if_true, if_false, fld_n, fst_n, mch h hf]
    rw [if_pos (tdT_eq f S)])
  have z3 : ∀ z, s_X11_mixFisher_L77 (nI f) s gF (nI 0) z = some (nI (sB S f).length, hNs S f z) := laccS (fun a i x => s_X11_mixFisher_L77 (nI f) s a i x) (sB S f).length (fun n x => hKs (nm S f n) (it 5 (fun w => mx (onI (sSt S) (sD S) (sBo S) (nm S f n) w)) x)) (by omega) (fun a i x hi => by
    simp (disch := omega) only [s_X11_mixFisher_L77, ↓reduceIte, nI_lit, mO_lit, mO_lt, mO_le, mO_gt, mO_ge, mO_ne, mO_ne', nI_add, nI_mul, nI_addlit0, bsome, c_le_f, c_le_t, c_lt_f, c_lt_t, c_eq_f, c_eq_t, if_true, if_false, fld_n, fst_n, mof1 h hf, whr, mdN (h.nam hf hi) h.env]) (fun a x => by simp (disch := omega) only [s_X11_mixFisher_L77, ↓reduceIte, nI_lit, mO_lit, mO_lt, mO_le, mO_gt, mO_ge, mO_ne, mO_ne', nI_add, nI_mul, nI_addlit0, bsome, c_le_f, c_le_t, c_lt_f, c_lt_t, c_eq_f, c_eq_t, if_true, if_false, fld_n, fst_n, mof1 h hf])
  have n0 : s_X11_stormNumber (nI f) 0 s = some (nsI S f 0) := mns h hf (q := 0) (by omega)
  have n1 : s_X11_stormNumber (nI f) 1 s = some (nsI S f 1) := mns h hf (q := 1) (by omega)
  exact bindE (z1 z) (bindE n0 (bindE (mixE _ _) (bindE n1 (bindE (mixE _ _) (bindE (z2 _) (bindE (z3 _) rfl))))))
theorem mdig {B : Nat} {S : aS} {s text : Nat → Int32} {n : Nat} {b : List Nat} {len th : Int32} {z0 : Int64} {bits : Int64} (h : IM B S s) (hb : RepB b len text) (h2 : s_X11_bitsOf (shU S) = some bits) :
    s_X11_digest (nI n) len th z0 s text = some (dgI S n b bits, nI 0, dgI S n b bits) := by
  have hE := h.2.2.2.1
  have hb60 := hb.2.1
  obtain ⟨c0, c1, c2, c3, c4, c5, c6, c7⟩ := h.1.1
  have z1 : s_X11_digest_L14 (nI n) s gF (nI 0) 3917 = some (nI 14, mx (nI n) (it 13 (fun w => mx (oaI S w)) 3917)) := by
    rw [laccS (fun a i x => s_X11_digest_L14 (nI n) s a i x) 14 (fun w => mx (if w < 13 then oaI S w else nI n)) (by omega) (fun a i x hi => by
      by_cases q : i < 13
      · simp (disch := omega) only [s_X11_digest_L14, ↓reduceIte, nI_lit, mO_lit, mO_lt, mO_le, mO_gt, mO_ge, mO_ne, mO_ne', nI_add, nI_mul, nI_addlit0, bsome, c_le_f, c_le_t, c_lt_f, c_lt_t, c_eq_f, c_eq_t, if_true, if_false, fld_n, fst_n, mcq h (w := i) (by omega), mixE, if_pos q]
      · have : i = 13 := by omega
        subst this
        simp (disch := omega) only [s_X11_digest_L14, ↓reduceIte, nI_lit, mO_lit, mO_lt, mO_le, mO_gt, mO_ge, mO_ne, mO_ne', nI_add, nI_mul, nI_addlit0, bsome, c_le_f, c_le_t, c_lt_f, c_lt_t, c_eq_f, c_eq_t, if_true, if_false, fld_n, fst_n, mcq13, mixE]
        rw [if_neg (by omega)]) (fun a x => by simp (disch := omega) only [s_X11_digest_L14, ↓reduceIte, nI_lit, mO_lit, mO_lt, mO_le, mO_gt, mO_ge, mO_ne, mO_ne', nI_add, nI_mul, nI_addlit0, bsome, c_le_f, c_le_t, c_lt_f, c_lt_t, c_eq_f, c_eq_t, if_true, if_false, fld_n, fst_n])]
    show some (nI 14, mx (if 13 < 13 then oaI S 13 else nI n) (it 13 (fun w => mx (if w < 13 then oaI S w else nI n)) 3917)) = _
    rw [if_neg (by omega), it_congr (g := fun w => mx (oaI S w)) (fun i hi x => by rw [if_pos hi])]
  have z2 : ∀ z, s_X11_digest_L38 s gF (nI 0) z = some (nI 96, it 16 (fun l => it 6 (fun w => mx (olI S l w))) z) := fun z => by
    rw [laccS (fun a i x => s_X11_digest_L38 s a i x) 96 (fun k => mx (olI S (k / 6) (k % 6))) (by omega) (fun a i x hi => by
      have e1 : nI i / 6 = nI (i / 6) := nI_div (b := 6) (by omega) (by omega)
      have e2 : nI i - nI i / 6 * 6 = nI (i % 6) := nI_mod (b := 6) (by omega) (by omega)
      have e3 : s_X11_letterNumber (nI i / 6) (nI i - nI i / 6 * 6) s = some (olI S (i / 6) (i % 6)) := by
        rw [e2, e1]; exact mln h (by omega) (by omega)
      show (if _ then _ else (s_X11_letterNumber (nI i / 6) (nI i - nI i / 6 * 6) s).bind _) = _
      rw [if_neg (by rw [show (96 : Int32) = nI 96 from rfl, c_le_f (by omega) (by omega)]; exact id), e3]
      show s_X11_digest_L38 s a (nI i + 1) _ = _
      rw [show (1 : Int32) = nI 1 from rfl, nI_add]
      rfl) (fun a x => by simp (disch := omega) only [s_X11_digest_L38, ↓reduceIte, nI_lit, mO_lit, mO_lt, mO_le, mO_gt, mO_ge, mO_ne, mO_ne', nI_add, nI_mul, nI_addlit0, bsome, c_le_f, c_le_t, c_lt_f, c_lt_t, c_eq_f, c_eq_t, if_true, if_false, fld_n, fst_n])]
    have := it_flat 16 6 (by omega) (fun l w => mx (olI S l w)) z
    rw [show 16 * 6 = 96 from rfl] at this
    rw [this]
  have z3 : ∀ z, s_X11_digest_L69 s gF (nI 0) z = some (nI 5, it 5 (fun f x => hNs S f (hFi S f x)) z) := laccS (fun a i x => s_X11_digest_L69 s a i x) 5 (fun f x => hNs S f (hFi S f x)) (by omega) (fun a i x hi => by
    simp (disch := omega) only [s_X11_digest_L69, ↓reduceIte, nI_lit, mO_lit, mO_lt, mO_le, mO_gt, mO_ge, mO_ne, mO_ne', nI_add, nI_mul, nI_addlit0, bsome, c_le_f, c_le_t, c_lt_f, c_lt_t, c_eq_f, c_eq_t, if_true, if_false, fld_n, fst_n, mdF h hi]) (fun a x => by simp (disch := omega) only [s_X11_digest_L69, ↓reduceIte, nI_lit, mO_lit, mO_lt, mO_le, mO_gt, mO_ge, mO_ne, mO_ne', nI_add, nI_mul, nI_addlit0, bsome, c_le_f, c_le_t, c_lt_f, c_lt_t, c_eq_f, c_eq_t, if_true, if_false, fld_n, fst_n])
  have z4 : ∀ z, s_X11_digest_L87 s gF (nI 0) z = some (nI ((sE S).length * 4), hEs (sE S) z) := fun z => by
    rw [laccS (fun a i x => s_X11_digest_L87 s a i x) ((sE S).length * 4) (fun k => mx (oeI (sE S) (k / 4) (k % 4))) (by omega) (fun a i x hi => by
      have e1 : nI i / 4 = nI (i / 4) := nI_div (b := 4) (by omega) (by omega)
      have e2 : nI i - nI i / 4 * 4 = nI (i % 4) := nI_mod (b := 4) (by omega) (by omega)
      have e3 : s_X11_entryNumber (nI i / 4) (nI i - nI i / 4 * 4) s = some (oeI (sE S) (i / 4) (i % 4)) := by
        rw [e2, e1]; exact men h (by omega) (by omega)
      show fld 406 s 1 _ = _
      refine fldE (i := 1) rfl (by omega) (by omega) c1 ?_
      rw [show (4 : Int32) * nI (sE S).length = nI ((sE S).length * 4) from by rw [show (4 : Int32) = nI 4 from rfl, nI_mul, Nat.mul_comm], if_neg (by rw [c_le_f (by omega) (by omega)]; exact id)]
      refine bindE e3 ?_
      show s_X11_digest_L87 s a (nI i + 1) _ = _
      rw [show (1 : Int32) = nI 1 from rfl, nI_add]
      rfl) (fun a x => by
      show fld 406 s 1 _ = _
      refine fldE (i := 1) rfl (by omega) (by omega) c1 ?_
      rw [show (4 : Int32) * nI (sE S).length = nI ((sE S).length * 4) from by rw [show (4 : Int32) = nI 4 from rfl, nI_mul, Nat.mul_comm], if_pos (by rw [c_le_t (by omega) (by omega)]; exact trivial)])]
    have := it_flat (sE S).length 4 (by omega) (fun l w => mx (oeI (sE S) l w)) z
    rw [this]
    rfl
  have z5 : ∀ z, s_X11_digest_L166 len text gF (nI 0) z = some (nI b.length, it b.length (fun i => mx (nI (b.getD i 0))) z) := by
    obtain ⟨b1, b2, b3⟩ := hb
    subst b1
    exact laccS (fun a i x => s_X11_digest_L166 (nI b.length) text a i x) b.length (fun i => mx (nI (b.getD i 0))) (by omega) (fun a i x hi => by
      simp (disch := omega) only [s_X11_digest_L166, ↓reduceIte, nI_lit, mO_lit, mO_lt, mO_le, mO_gt, mO_ge, mO_ne, mO_ne', nI_add, nI_mul, nI_addlit0, bsome, c_le_f, c_le_t, c_lt_f, c_lt_t, c_eq_f, c_eq_t, if_true, if_false, fld_n, fst_n, (b3 i hi).1, mixE]) (fun a x => by simp (disch := omega) only [s_X11_digest_L166, ↓reduceIte, nI_lit, mO_lit, mO_lt, mO_le, mO_gt, mO_ge, mO_ne, mO_ne', nI_add, nI_mul, nI_addlit0, bsome, c_le_f, c_le_t, c_lt_f, c_lt_t, c_eq_f, c_eq_t, if_true, if_false, fld_n, fst_n])
  have hlen := hb.1
  refine bindE z1 (bindE (z2 _) (bindE (z3 _) (bindE (z4 _) (fldE (i := 6) rfl (by omega) (by omega) c6 (bindE (mixE _ _) (fldE (i := 7) rfl (by omega) (by omega) c7 (bindE (mixE _ _) (bindE (msh h) (bindE h2 (bindE rfl (bindE (mixE _ _) (bindE (z5 _) ?_))))))))))))
  rw [hlen]
  rfl
