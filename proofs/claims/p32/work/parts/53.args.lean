/-! arguments, ends, what public methods need -/
theorem IC_mono {B B' : Nat} {S : aS} {c : Nat → Int32} (h : IC B S c) (hB : B ≤ B') (h6 : B' < 1000000) : IC B' S c := ⟨h.1, OKS_mono h.2 hB h6⟩

theorem n10 : ¬ nI 1 = 0 := by decide

theorem RepH_mono {B B' : Nat} {H : List aS} {o z : Int32} {v : Nat → Int32} (h : RepH B H o z v) (hB : B ≤ B') (h6 : B' < 1000000) : RepH B' H o z v := by
  obtain ⟨a, h1, h2, h3, h4, h5⟩ := h
  exact ⟨a, h1, h2, h3, h4, fun j hj => ⟨(h5 j hj).1, OKS_mono (h5 j hj).2 hB h6⟩⟩
theorem TC_mono {B B' : Nat} {T : Option aS} {t : Int32} {v : Nat → Int32} (h : TC B T t v) (hB : B ≤ B') (h6 : B' < 1000000) : TC B' T t v := by
  cases T with
  | none => exact h
  | some S => exact ⟨h.1, IC_mono h.2 hB h6⟩
/-- an int, by a range -/
theorem rng (a : Int32) (N : Nat) (hN : N < 2147483648) : (∃ w, w < N ∧ a = nI w) ∨ a < 0 ∨ (¬ a < 0 ∧ nI N ≤ a) := by
  by_cases h0 : a < 0
  · exact Or.inr (Or.inl h0)
  · have h0' : 0 ≤ a.toInt := by rw [Int32.lt_iff_toInt_lt] at h0; have : (0 : Int32).toInt = 0 := rfl; omega
    by_cases h1 : a.toInt < N
    · refine Or.inl ⟨a.toInt.toNat, by omega, ?_⟩
      apply Int32.toInt_inj.mp
      rw [nI_toInt (by omega)]; omega
    · refine Or.inr (Or.inr ⟨h0, ?_⟩)
      rw [Int32.le_iff_toInt_le, nI_toInt (by omega)]; omega
theorem lt_of {a : Int32} {m N : Nat} (h : nI N ≤ a) (hm : m < N) (hN : N < 2147483648) : nI m < a := by
  rw [Int32.le_iff_toInt_le, nI_toInt (by omega)] at h
  rw [Int32.lt_iff_toInt_lt, nI_toInt (by omega)]; omega
theorem nlt_of {a : Int32} {N : Nat} (h : nI N ≤ a) : ¬ a < nI N := by
  rw [Int32.le_iff_toInt_le] at h
  rw [Int32.lt_iff_toInt_lt]; omega
theorem nle_of {a : Int32} {m N : Nat} (h : nI N ≤ a) (hm : m < N) (hN : N < 2147483648) : ¬ a ≤ nI m := by
  rw [Int32.le_iff_toInt_le, nI_toInt (by omega)] at h
  rw [Int32.le_iff_toInt_le, nI_toInt (by omega)]; omega
theorem neg_lt {a : Int32} {m : Nat} (h : a < 0) (hm : m < 2147483648) : a < nI m := by
  rw [Int32.lt_iff_toInt_lt] at h
  have : (0 : Int32).toInt = 0 := rfl
  rw [Int32.lt_iff_toInt_lt, nI_toInt (by omega)]; omega
theorem neg_nle {a : Int32} (h : a < 0) : ¬ 0 ≤ a := by
  rw [Int32.lt_iff_toInt_lt] at h
  rw [Int32.le_iff_toInt_le]; omega
theorem nneg_le {a : Int32} (h : ¬ a < 0) : 0 ≤ a := by
  rw [Int32.lt_iff_toInt_lt] at h
  rw [Int32.le_iff_toInt_le]; omega
/-- the ends of the law's wrappers -/
theorem fth_l {α β : Type} (x : α) (f : α → Option β) (g : String → Option β) : fth (.inl x) f g = f x := rfl
theorem fth_r {α β : Type} (E : String) (f : α → Option β) (g : String → Option β) : fth (.inr E) f g = g E := rfl
theorem sIA_IO : ("java/lang/IllegalArgumentException" = "java/lang/IndexOutOfBoundsException") = False := eq_false (by decide)
theorem sIS_IO : ("java/lang/IllegalStateException" = "java/lang/IndexOutOfBoundsException") = False := eq_false (by decide)
theorem sIS_IA : ("java/lang/IllegalStateException" = "java/lang/IllegalArgumentException") = False := eq_false (by decide)
theorem i10 : ((1 : Int32) = 0) = False := eq_false (by decide)

theorem wtI_6 (S : aS) (f : Nat) (w : List Nat) : ∃ r, r ≤ 3 ∧ wtI S f w = nI r ∧ (r = 0 → (sB S f).length < 6) := by
  unfold wtI
  by_cases q1 : (sB S f).length < 6
  · rw [if_pos q1]
    by_cases q2 : cdW w ≤ leftI S f
    · rw [if_pos q2]
      by_cases q3 : anyB (sB S f).length (fun n => rwB (nm S f n) w) = true
      · rw [if_pos q3]; exact ⟨3, by omega, rfl, fun c => by omega⟩
      · rw [if_neg q3]; exact ⟨0, by omega, rfl, fun _ => q1⟩
    · rw [if_neg q2]; exact ⟨2, by omega, rfl, fun c => by omega⟩
  · rw [if_neg q1]; exact ⟨1, by omega, rfl, fun c => by omega⟩
theorem wgI_6 (S : aS) (f n g : Nat) : ∃ r, r ≤ 5 ∧ wgI S f n g = nI r ∧ (r = 0 → f ≠ g ∧ urB (nm S f n) = false ∧ (sB S g).length < 6) := by
  unfold wgI
  by_cases q1 : f = g
  · rw [if_pos q1]; exact ⟨5, by omega, rfl, fun c => by omega⟩
  · rw [if_neg q1]
    cases q2 : urB (nm S f n) with
    | true => rw [if_pos rfl]; exact ⟨4, by omega, rfl, fun c => by omega⟩
    | false =>
      rw [if_neg (by simp)]
      obtain ⟨r, r1, r2, r3⟩ := wtI_6 S g (rdL (nm S f n))
      exact ⟨r, by omega, r2, fun c => ⟨q1, rfl, r3 c⟩⟩
theorem vow_15 {l : Nat} (h : vow l = true) : l < 15 := by
  unfold vow at h
  simp only [Bool.or_eq_true, beq_iff_eq] at h
  omega
theorem OKN_tg {B : Nat} {m : aN} (h : OKN B m) : OKN B (tgN m) := by
  unfold tgN
  refine ⟨by rw [ixM_len]; exact h.1, by rw [ixM_len]; exact h.2.1, fun k hk => ?_⟩
  rw [ixM_len] at hk
  rw [ixM_gK _ _ hk]
  have o := h.2.2 k hk
  obtain ⟨o1, o2, o3, o4⟩ := id o
  unfold tgK
  by_cases q : (gK m k).2.1 = 1
  · rw [if_pos q]
    have hv := vow_15 (o4 (by omega))
    refine ⟨?_, Nat.zero_le _, o3, fun h0 => absurd h0 (Nat.lt_irrefl 0)⟩
    show rdN (gK m k) < 16
    unfold rdN
    rw [if_neg (by omega), if_pos q]; omega
  · rw [if_neg q]; exact o
theorem OKS_fast {B f n : Nat} {S : aS} (h : OKS B S) (hf : f < 5) (hn : n < (sB S f).length) : OKS B (aFast f n S) :=
  OKS_nam h hf hn (OKN_tg ((h.2.1 f hf).2.2.2 n hn))

theorem wrdT {b : List Nat} {sz ws : Int32} {cs lt : Nat → Int32} (h : RepB b sz cs) (hw : wB b = true) : ∃ w1 w2, s_X10_needWord sz cs ws lt = some (.inl (), w1, w2) ∧ RepW (wW b) w1 w2 := by
  obtain ⟨⟨r1, w1, w2⟩, h1, h2, h3⟩ := nWd (ws := ws) (lt := lt) h
  have h2 : r1 = _ := h2
  rw [hw, if_pos rfl] at h2
  subst h2
  exact ⟨w1, w2, h1, h3 hw⟩
theorem RepB_nil {cs : Nat → Int32} : RepB [] 0 cs := ⟨rfl, by simp, fun i hi => absurd hi (Nat.not_lt_zero i)⟩

def aSd (v : Nat) : aS → aS
  | (Bs, E, st, _, r) => (Bs, E, st, v, r)
def aSb (v : Nat) : aS → aS
  | (Bs, E, st, d, _, r) => (Bs, E, st, d, v, r)
theorem IC_d {B v : Nat} {S : aS} {c : Nat → Int32} (h : IC B S c) (h1 : 1 ≤ v) (h9 : v ≤ 9) : IC B (aSd v S) (upd c 1 (nI v)) := by
  obtain ⟨g0, g1, g2, g3, g4, g5, g6, g7⟩ := h.1.1
  have hl := h.2.lns
  obtain ⟨hR, ⟨o1, o2⟩⟩ := h
  obtain ⟨Bs, E, st, d, b, kt, ct, sp, r⟩ := S
  refine ⟨RepC_head hR hl ⟨?_, upd_s, ?_, ?_, ?_, ?_, ?_, ?_⟩ (fun j hj => upd_o (by omega)) ⟨rfl, rfl, rfl, rfl, rfl⟩, ⟨o1.1, o1.2.1, h1, h9, o1.2.2.2.2⟩, o2⟩
  · rw [upd_o (by omega)]; exact g0
  · rw [upd_o (by omega)]; exact g2
  · rw [upd_o (by omega)]; exact g3
  · rw [upd_o (by omega)]; exact g4
  · rw [upd_o (by omega)]; exact g5
  · rw [upd_o (by omega)]; exact g6
  · rw [upd_o (by omega)]; exact g7
theorem IC_b {B v : Nat} {S : aS} {c : Nat → Int32} (h : IC B S c) (h8 : v ≤ 8) : IC B (aSb v S) (upd c 2 (nI v)) := by
  obtain ⟨g0, g1, g2, g3, g4, g5, g6, g7⟩ := h.1.1
  have hl := h.2.lns
  obtain ⟨hR, ⟨o1, o2⟩⟩ := h
  obtain ⟨Bs, E, st, d, b, kt, ct, sp, r⟩ := S
  refine ⟨RepC_head hR hl ⟨?_, ?_, upd_s, ?_, ?_, ?_, ?_, ?_⟩ (fun j hj => upd_o (by omega)) ⟨rfl, rfl, rfl, rfl, rfl⟩, ⟨o1.1, o1.2.1, o1.2.2.1, o1.2.2.2.1, h8⟩, o2⟩
  · rw [upd_o (by omega)]; exact g0
  · rw [upd_o (by omega)]; exact g1
  · rw [upd_o (by omega)]; exact g3
  · rw [upd_o (by omega)]; exact g4
  · rw [upd_o (by omega)]; exact g5
  · rw [upd_o (by omega)]; exact g6
  · rw [upd_o (by omega)]; exact g7
theorem set_0 {a2 ho hs : Int32} {c hv : Nat → Int32} : s_X10_set 0 a2 c ho hs hv = if a2 < 1 then some (.inr "java/lang/IllegalArgumentException", c, ho, hs, hv) else if a2 ≤ 9 then ((s_X3_push ho hs hv c).bind fun v10 => (s_X7_at (1 + 0) c).bind fun v11 => (s_X7_put (1 + 0) a2 c).bind fun v12 => some (.inl v11, v12, v10.1, v10.2.1, v10.2.2)) else some (.inr "java/lang/IllegalArgumentException", c, ho, hs, hv) := by
  unfold s_X10_set
  rw [if_pos rfl, if_pos rfl, if_pos rfl]
theorem set_1 {a2 ho hs : Int32} {c hv : Nat → Int32} : s_X10_set 1 a2 c ho hs hv = if a2 < 0 then some (.inr "java/lang/IllegalArgumentException", c, ho, hs, hv) else if a2 ≤ 8 then ((s_X3_push ho hs hv c).bind fun v10 => (s_X7_at (1 + 1) c).bind fun v11 => (s_X7_put (1 + 1) a2 c).bind fun v12 => some (.inl v11, v12, v10.1, v10.2.1, v10.2.2)) else some (.inr "java/lang/IllegalArgumentException", c, ho, hs, hv) := by
  unfold s_X10_set
  have e : ¬ (1 : Int32) = 0 := by decide
  rw [if_neg e, if_pos rfl, if_neg e, if_neg e]

theorem RepB_app {b : List Nat} {sz : Int32} {cs : Nat → Int32} {x : Nat} (h : RepB b sz cs) (h60 : b.length < 60) (h1 : 33 ≤ x) (h2 : x ≤ 126) : RepB (b ++ [x]) (nI (b.length + 1)) (upd cs b.length (nI x)) := by
  obtain ⟨r1, r2, r3⟩ := h
  refine ⟨by rw [List.length_append]; rfl, by rw [List.length_append]; simp; omega, fun i hi => ?_⟩
  rw [List.length_append] at hi
  have hi : i < b.length + 1 := hi
  by_cases q : i = b.length
  · subst q
    rw [getD_app2, upd_s]
    exact ⟨rfl, h1, h2⟩
  · rw [getD_app1 (by omega), upd_o q]
    exact r3 i (by omega)

theorem fz_b {β : Type} {b : Bool} {g : Option β} : fz (bI b) g = g := by
  unfold fz
  rw [if_pos]
  cases b
  · exact Or.inl rfl
  · exact Or.inr rfl

theorem laccS {σ : Type} (F : Nat → Int32 → σ → Option (Int32 × σ)) (N : Nat) (g : Nat → σ → σ) (hN : N < 6000)
    (hs : ∀ n i x, i < N → F (n + 1) (nI i) x = F n (nI (i + 1)) (g i x)) (he : ∀ n x, F (n + 1) (nI N) x = some (nI N, x)) (x : σ) : F gF (nI 0) x = some (nI N, it N g x) := by
  have key := lp (fun n (y : Int32 × σ) => F n y.1 y.2) N (fun i y => y = (nI i, it i g x)) (fun r => r = (nI N, it N g x))
    (fun i hi n y hy => by subst hy; exact Or.inl ⟨(nI (i + 1), g i (it i g x)), hs n i _ hi, rfl⟩)
    (fun n y hy => by subst hy; exact ⟨_, he n _, rfl⟩) N 0 gF (nI 0, x) (by omega) (by unfold gF; omega) rfl
  obtain ⟨r, h1, h2⟩ := key
  rw [h2] at h1
  exact h1

theorem fstE {β : Type} {n i : Nat} {f : Nat → Int32} {I x : Int32} {g : (Nat → Int32) → Option β} {r : Option β} (e : I = nI i) (h : i < n) (hn : n < 2147483648) (h2 : g (upd f i x) = r) : fst n f I x g = r := by
  subst e; rw [fst_n h hn]; exact h2
theorem fldE {α β : Type} {n i : Nat} {f : Nat → α} {v : α} {I : Int32} {g : α → Option β} {r : Option β} (e : I = nI i) (h : i < n) (hn : n < 2147483648) (hv : f i = v) (h2 : g v = r) : fld n f I g = r := by
  subst e; subst hv; rw [fld_n h hn]; exact h2
