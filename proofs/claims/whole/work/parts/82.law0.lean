/-! THE LAW: both worlds side by side; arguments; the wrappers' ends -/
def JR (B : Nat) (S : aS) (H : List aS) (T : Option aS) (b : List Nat) (c : Nat → Int32) (ho hs ht : Int32) (hv hn : Nat → Int32) (bs : Int32) (bc : Nat → Int32) (mm mt ml : Int32) (ms mv mn mx : Nat → Int32) : Prop :=
  IC B S c ∧ RepH B H ho hs hv ∧ TC B T ht hn ∧ RepB b bs bc ∧ IM B S ms ∧ RepHM B H mm mv ∧ TM B T mt mn ∧ RepB b ml mx
theorem RepH_mono {B B' : Nat} {H : List aS} {o z : Int32} {v : Nat → Int32} (h : RepH B H o z v) (hB : B ≤ B') (h6 : B' < 1000000) : RepH B' H o z v := by
  obtain ⟨a, h1, h2, h3, h4, h5⟩ := h
  exact ⟨a, h1, h2, h3, h4, fun j hj => ⟨(h5 j hj).1, OKS_mono (h5 j hj).2 hB h6⟩⟩
theorem RepHM_mono {B B' : Nat} {H : List aS} {z : Int32} {v : Nat → Int32} (h : RepHM B H z v) (hB : B ≤ B') (h6 : B' < 1000000) : RepHM B' H z v := by
  obtain ⟨h1, h2, h3⟩ := h
  exact ⟨h1, h2, fun j hj => ⟨(h3 j hj).1, OKS_mono (h3 j hj).2 hB h6⟩⟩
theorem TC_mono {B B' : Nat} {T : Option aS} {t : Int32} {v : Nat → Int32} (h : TC B T t v) (hB : B ≤ B') (h6 : B' < 1000000) : TC B' T t v := by
  cases T with
  | none => exact h
  | some S => exact ⟨h.1, IC_mono h.2 hB h6⟩
theorem TM_mono {B B' : Nat} {T : Option aS} {t : Int32} {v : Nat → Int32} (h : TM B T t v) (hB : B ≤ B') (h6 : B' < 1000000) : TM B' T t v := by
  cases T with
  | none => exact h
  | some S => exact ⟨h.1, IM_mono h.2 hB h6⟩
theorem JR_mono {B B' : Nat} {S : aS} {H : List aS} {T : Option aS} {b : List Nat} {c : Nat → Int32} {ho hs ht : Int32} {hv hn : Nat → Int32} {bs : Int32} {bc : Nat → Int32} {mm mt ml : Int32} {ms mv mn mx : Nat → Int32}
    (h : JR B S H T b c ho hs ht hv hn bs bc mm mt ml ms mv mn mx) (hB : B ≤ B') (h6 : B' < 1000000) : JR B' S H T b c ho hs ht hv hn bs bc mm mt ml ms mv mn mx := by
  obtain ⟨h1, h2, h3, h4, h5, h7, h8, h9⟩ := h
  exact ⟨IC_mono h1 hB h6, RepH_mono h2 hB h6, TC_mono h3 hB h6, h4, IM_mono h5 hB h6, RepHM_mono h7 hB h6, TM_mono h8 hB h6, h9⟩
/-- an int, by a range -/
theorem rng (a : Int32) (N : Nat) (hN : N < 2147483648) : (∃ w, w < N ∧ a = nI w) ∨ a < 0 ∨ (¬ a < 0 ∧ nI N ≤ a) := by
  by_cases h0 : a < 0
  · exact Or.inr (Or.inl h0)
  · have h0' : 0 ≤ a.toInt := by rw [Int32.lt_iff_toInt_lt] at h0; have : (0 : Int32).toInt = 0 := rfl; omega
    by_cases h1 : a.toInt < N
    · refine Or.inl ⟨a.toInt.toNat, by omega, ?_⟩
      apply Int32.toInt_inj.mp
      rw [nI_toInt (by omega)]; omega
    · refine Or.inr (Or.inr ⟨h0, ?_⟩)
      rw [Int32.le_iff_toInt_le, nI_toInt (by omega)]; omega
theorem lt_of {a : Int32} {m N : Nat} (h : nI N ≤ a) (hm : m < N) (hN : N < 2147483648) : nI m < a := by
  rw [Int32.le_iff_toInt_le, nI_toInt (by omega)] at h
  rw [Int32.lt_iff_toInt_lt, nI_toInt (by omega)]; omega
theorem nlt_of {a : Int32} {N : Nat} (h : nI N ≤ a) : ¬ a < nI N := by
  rw [Int32.le_iff_toInt_le] at h
  rw [Int32.lt_iff_toInt_lt]; omega
theorem nle_of {a : Int32} {m N : Nat} (h : nI N ≤ a) (hm : m < N) (hN : N < 2147483648) : ¬ a ≤ nI m := by
  rw [Int32.le_iff_toInt_le, nI_toInt (by omega)] at h
  rw [Int32.le_iff_toInt_le, nI_toInt (by omega)]; omega
theorem neg_lt {a : Int32} {m : Nat} (h : a < 0) (hm : m < 2147483648) : a < nI m := by
  rw [Int32.lt_iff_toInt_lt] at h
  have : (0 : Int32).toInt = 0 := rfl
  rw [Int32.lt_iff_toInt_lt, nI_toInt (by omega)]; omega
theorem neg_nle {a : Int32} (h : a < 0) : ¬ 0 ≤ a := by
  rw [Int32.lt_iff_toInt_lt] at h
  rw [Int32.le_iff_toInt_le]; omega
theorem nneg_le {a : Int32} (h : ¬ a < 0) : 0 ≤ a := by
  rw [Int32.lt_iff_toInt_lt] at h
  rw [Int32.le_iff_toInt_le]; omega
theorem in_T {w lo hi : Nat} (h1 : lo ≤ w) (h2 : w ≤ hi) (h3 : hi < 2147483648) : s_X11_in (nI w) (nI lo) (nI hi) = some 1 := by
  rw [min_ (by omega) (by omega) h3, decide_eq_true h1, decide_eq_true h2]; rfl
theorem in_F1 {a : Int32} {hi : Int32} {lo : Nat} (h : a < nI lo) : s_X11_in a (nI lo) hi = some 0 := if_pos h
theorem in_F2 {a : Int32} {lo : Int32} {hi : Nat} (h : nI hi < a) : s_X11_in a lo (nI hi) = some 0 := by
  unfold s_X11_in
  by_cases q : a < lo
  · rw [if_pos q]
  · rw [if_neg q, if_pos h]
theorem fishT {f : Nat} (hf : f < 5) : s_X10_needFisher (nI f) = some (.inl ()) ∧ s_X11_isFisher (nI f) = some 1 := by
  constructor
  · show (if _ then _ else (if _ then _ else _)) = _
    rw [if_neg (nI_pos (by omega)), if_pos (by exact nI_lt (b := 5) hf (by omega))]
  · have := mfis (f := f) (by omega)
    rw [decide_eq_true hf] at this; exact this
theorem fishD (a : Int32) : (∃ f, f < 5 ∧ a = nI f) ∨ (s_X10_needFisher a = some (.inr "java/lang/IndexOutOfBoundsException") ∧ s_X11_isFisher a = some 0) := by
  rcases rng a 5 (by omega) with h | h | ⟨h, h2⟩
  · exact Or.inl h
  · refine Or.inr ⟨if_pos h, bindE (a := 0) (in_F1 (lo := 0) h) ?_⟩
    exact fz_b (b := false)
  · refine Or.inr ⟨?_, bindE (a := 0) (in_F2 (hi := 4) (lt_of h2 (by omega) (by omega))) ?_⟩
    · show (if _ then _ else (if _ then _ else _)) = _
      rw [if_neg h, if_neg (by exact nlt_of (N := 5) h2)]
    · exact fz_b (b := false)
theorem whatT {w N : Nat} (hw : w ≤ N) (hN : N < 2147483648) : s_X10_needWhat (nI w) (nI N) = some (.inl ()) ∧ s_X11_in (nI w) 0 (nI N) = some 1 := by
  constructor
  · show (if _ then _ else (if _ then _ else _)) = _
    rw [if_neg (nI_pos (by omega)), if_pos (nI_le hw (by omega))]
  · exact in_T (lo := 0) (by omega) hw hN
theorem whatD (a : Int32) (N : Nat) (hN : N + 1 < 2147483648) : (∃ w, w ≤ N ∧ a = nI w) ∨ (s_X10_needWhat a (nI N) = some (.inr "java/lang/IllegalArgumentException") ∧ s_X11_in a 0 (nI N) = some 0) := by
  rcases rng a (N + 1) hN with ⟨w, h1, h2⟩ | h | ⟨h, h2⟩
  · exact Or.inl ⟨w, by omega, h2⟩
  · exact Or.inr ⟨if_pos h, in_F1 (lo := 0) h⟩
  · refine Or.inr ⟨?_, in_F2 (lt_of h2 (by omega) (by omega))⟩
    show (if _ then _ else (if _ then _ else _)) = _
    rw [if_neg h, if_neg (nle_of h2 (by omega) (by omega))]
theorem nameT {B f n : Nat} {S : aS} {c s : Nat → Int32} (h : IC B S c) (hm : IM B S s) (hf : f < 5) (hn : n < (sB S f).length) : s_X10_needName (nI f) (nI n) c = some (.inl ()) ∧ s_X11_isName (nI f) (nI n) s = some 1 := by
  have h6 := h.six hf
  have z1 := hasN2 h hf (n := n) (by omega)
  have z2 := mnam2 hm hf (n := n) (by omega)
  rw [decide_eq_true hn] at z1 z2
  refine ⟨bindE (fishT hf).1 (bindE z1 ?_), z2⟩
  rw [if_neg (by exact n10)]
theorem nameD {B : Nat} {S : aS} {c s : Nat → Int32} (h : IC B S c) (hm : IM B S s) (a1 a2 : Int32) : (∃ f n, f < 5 ∧ n < (sB S f).length ∧ a1 = nI f ∧ a2 = nI n) ∨ (s_X10_needName a1 a2 c = some (.inr "java/lang/IndexOutOfBoundsException") ∧ s_X11_isName a1 a2 s = some 0) := by
  rcases fishD a1 with ⟨f, hf, rfl⟩ | ⟨h1, h2⟩
  · have h6 := h.six hf
    rcases rng a2 1000 (by omega) with ⟨n, hn, rfl⟩ | h0 | ⟨h0, h2⟩
    · by_cases q : n < (sB S f).length
      · exact Or.inl ⟨f, n, hf, q, rfl, rfl⟩
      · have z1 := hasN2 h hf hn
        have z2 := mnam2 hm hf hn
        rw [decide_eq_false q] at z1 z2
        refine Or.inr ⟨bindE (fishT hf).1 (bindE z1 ?_), z2⟩
        rw [if_pos (by rfl)]
    · refine Or.inr ⟨bindE (fishT hf).1 (bindE (a := 0) (if_pos h0) ?_), bindE (fishT hf).2 ?_⟩
      · rw [if_pos rfl]
      · rw [if_neg (by decide)]
        exact bindE (mof1 hm hf) (bindE (in_F1 (lo := 0) h0) rfl)
    · refine Or.inr ⟨bindE (fishT hf).1 (bindE (a := 0) ?_ ?_), bindE (fishT hf).2 ?_⟩
      · show (if _ then _ else _) = _
        rw [if_neg h0]
        refine bindE (nms h hf) ?_
        rw [if_pos]
        rw [Int32.le_iff_toInt_le, nI_toInt (by omega)] at h2 ⊢
        omega
      · rw [if_pos rfl]
      · rw [if_neg (by decide)]
        refine bindE (mof1 hm hf) ?_
        rcases Nat.eq_zero_or_pos (sB S f).length with q | q
        · rw [q]
          refine bindE (a := 0) ?_ rfl
          have e : nI 0 - 1 = mO := rfl
          rw [e]
          show (if _ then _ else (if _ then _ else _)) = _
          rw [if_neg h0, if_pos]
          rw [Int32.le_iff_toInt_le, nI_toInt (by omega)] at h2
          rw [Int32.lt_iff_toInt_lt, show mO.toInt = -1 from rfl]; omega
        · have e : nI (sB S f).length - 1 = nI ((sB S f).length - 1) := nI_sub (b := 1) (by omega)
          rw [e]
          exact bindE (in_F2 (lt_of h2 (by omega) (by omega))) rfl
  · refine Or.inr ⟨bindE h1 rfl, bindE h2 ?_⟩
    rw [if_pos rfl]
/-- the ends of the law's wrappers -/
theorem fth_l {α β : Type} (x : α) (f : α → Option β) (g : String → Option β) : fth (.inl x) f g = f x := rfl
theorem fth_r {α β : Type} (E : String) (f : α → Option β) (g : String → Option β) : fth (.inr E) f g = g E := rfl
def oW (o : Nat → Int64) (v : Int32) : Nat → Int64 := vp_updL o 0 (Int32.toInt64 v)
theorem fstL_1 {β : Type} (o : Nat → Int64) (v : Int32) (g : (Nat → Int64) → Option β) : fstL 1 o 0 (Int32.toInt64 v) g = g (oW o v) := rfl
theorem oW_0 (o : Nat → Int64) (v : Int32) : oW o v 0 = Int32.toInt64 v := rfl
theorem sIA_IO : ("java/lang/IllegalArgumentException" = "java/lang/IndexOutOfBoundsException") = False := eq_false (by decide)
theorem sIS_IO : ("java/lang/IllegalStateException" = "java/lang/IndexOutOfBoundsException") = False := eq_false (by decide)
theorem sIS_IA : ("java/lang/IllegalStateException" = "java/lang/IllegalArgumentException") = False := eq_false (by decide)
theorem i10 : ((1 : Int32) = 0) = False := eq_false (by decide)
theorem hold0 (t : Int32) : s_X11_holds 0 t = some (1, 0) := rfl
theorem hold1 (t : Int32) : s_X11_holds 1 t = some (0, 1) := rfl
theorem hold2 (t : Int32) : s_X11_holds 2 t = some (0, 2) := rfl
theorem hold3 (t : Int32) : s_X11_holds 3 t = some (0, 3) := rfl
theorem lg_refl (x : Int64) : lg_cmp x x = 0 := by
  unfold lg_cmp
  rw [if_neg (fun h => by have := Int64.lt_iff_toInt_lt.mp h; omega), if_pos rfl]
theorem reg_ok {γ : Type} {k t : Int32} {o : Nat → Int64} {x : Int32} {R : γ} (h : t = k) (h2 : k = 0 → o 0 = Int32.toInt64 x) : (if t = k then (if k = 0 then (fld 1 o 0 fun v9 => if lg_cmp v9 (Int32.toInt64 x) = 0 then some R else none) else some R) else none) = some R := by
  rw [if_pos h]
  by_cases q : k = 0
  · rw [if_pos q]
    have e : ∀ g : Int64 → Option γ, fld 1 o 0 g = g (o 0) := fun g => rfl
    rw [e, h2 q, if_pos (lg_refl _)]
  · rw [if_neg q]
theorem thr (x : Int32) : s_X11_thrown x = some x := rfl
