/-! the law: its loop -/
theorem exI {α : Type} {c : Prop} [Decidable c] {a b : Option α} (h1 : c → ∃ r, a = some r) (h2 : ¬ c → ∃ r, b = some r) : ∃ r, (if c then a else b) = some r := by
  by_cases h : c
  · rw [if_pos h]; exact h1 h
  · rw [if_neg h]; exact h2 h
theorem exB {α β : Type} {x : Option α} {f : α → Option β} {a : α} (h : x = some a) (h2 : ∃ r, f a = some r) : ∃ r, x.bind f = some r := by subst h; exact h2
theorem exFld {β : Type} {L q : Nat} {a0 : Nat → Int32} {g : Int32 → Option β} (hq : q < L) (hL : L ≤ 2560) (h : ∃ r, g (a0 q) = some r) : ∃ r, fld L a0 (nI q) g = some r := by
  rw [fld_n hq (by omega)]; exact h
theorem lexit {L q : Nat} (hL : L ≤ 2560) (hq : q ≤ L) (h : L < q + 5) (h5 : 5 ≤ q ∨ q = 0) : nI L - 5 < nI q := by
  by_cases q5 : 5 ≤ L
  · rw [show (5 : Int32) = nI 5 from rfl, nI_sub q5]
    exact nI_lt (by omega) (by omega)
  · have : q = 0 := by omega
    subst this
    rcases (by omega : L = 0 ∨ L = 1 ∨ L = 2 ∨ L = 3 ∨ L = 4) with rfl | rfl | rfl | rfl | rfl <;> decide
theorem lgo {L q : Nat} (hL : L ≤ 2560) (h : q + 5 ≤ L) : ¬ nI L - 5 < nI q := by
  rw [show (5 : Int32) = nI 5 from rfl, nI_sub (by omega)]
  exact nI_nlt (by omega) (by omega)
theorem lawL {L : Nat} {a0 : Nat → Int32} (hL : L ≤ 2560) : ∀ (n : Nat) {i B : Nat} {S : aS} {H : List aS} {T : Option aS} {b : List Nat} {x4 : Int32} {c : Nat → Int32} {ho : Int32} {hs : Int32} {ht : Int32} {hv : Nat → Int32} {hn : Nat → Int32} {bs : Int32} {bc : Nat → Int32} {rp : Nat} {rl : Int32} {ws : Int32} {wl : Nat → Int32} {mm : Int32} {mt : Int32} {ml : Int32} {th : Int32} {sp : Int32} {sm : Int32} {pl : Int32} {kd : Int32} {on : Int32} {tw : Int32} {t3 : Int32} {bg : Int32} {dn : Int32} {sb : Int32} {hh : Int64} {ms : Nat → Int32} {mv : Nat → Int32} {mn : Nat → Int32} {mx : Nat → Int32} {o : Nat → Int64}, i + n = 513 → 5 * i ≤ L → B ≤ 61 * i → x4 = nI (5 * i) → JR B S H T b c ho hs ht hv hn bs bc mm mt ml ms mv mn mx → ∃ r, s_L_law_L23 L a0 n x4 c ho hs ht hv hn bs bc rp rl ws wl mm mt ml th sp sm pl kd on tw t3 bg dn sb hh ms mv mn mx o = some r := by
  intro n
  induction n with
  | zero => intro i B S H T b x4 c ho hs ht hv hn bs bc rp rl ws wl mm mt ml th sp sm pl kd on tw t3 bg dn sb hh ms mv mn mx o h1 h2 h3 h4 J; omega
  | succ n ih =>
    intro i B S H T b x4 c ho hs ht hv hn bs bc rp rl ws wl mm mt ml th sp sm pl kd on tw t3 bg dn sb hh ms mv mn mx o h1 h2 h3 h4 J
    have hB : B + 61 < 1000000 := by omega
    have e5 : x4 + 5 = nI (5 * (i + 1)) := by rw [h4, show (5 : Int32) = nI 5 from rfl, nI_add]; congr 1
    refine exI (fun _ => ⟨_, rfl⟩) (fun hx => ?_)
    subst h4
    have hp : 5 * i + 5 ≤ L := by
      rcases Nat.lt_or_ge L (5 * i + 5) with q | q
      · exact absurd (lexit hL h2 q (by omega)) hx
      · exact q
    refine exFld (by omega) hL ?_
    refine exI (fun _ => ?_) (fun _ => ?_)
    · obtain ⟨r, z, S', H', b', J'⟩ := rg_168 (n := 5999) hp hL J
      exact exB z (ih (i := i + 1) (by omega) (by omega) (by omega) e5 J')
    refine exI (fun _ => ?_) (fun _ => ?_)
    · obtain ⟨r, z, S', H', J'⟩ := rg_224 (n := 5999) hp hL J
      exact exB z (ih (i := i + 1) (by omega) (by omega) (by omega) e5 J')
    refine exI (fun _ => ?_) (fun _ => ?_)
    · obtain ⟨r, z, S', H', J'⟩ := rg_292 (n := 5999) hp hL J
      exact exB z (ih (i := i + 1) (by omega) (by omega) (by omega) e5 J')
    refine exI (fun _ => ?_) (fun _ => ?_)
    · obtain ⟨r, z, S', H', J'⟩ := rg_360 (n := 5999) hp hL J
      exact exB z (ih (i := i + 1) (by omega) (by omega) (by omega) e5 J')
    refine exI (fun _ => ?_) (fun _ => ?_)
    · obtain ⟨r, z, S', H', J'⟩ := rg_440 (n := 5999) hp hL (by omega) J
      exact exB z (ih (i := i + 1) (by omega) (by omega) (by omega) e5 J')
    refine exI (fun _ => ?_) (fun _ => ?_)
    · obtain ⟨r, z, S', H', J'⟩ := rg_496 (n := 5999) hp hL J
      exact exB z (ih (i := i + 1) (by omega) (by omega) (by omega) e5 J')
    refine exI (fun _ => ?_) (fun _ => ?_)
    · obtain ⟨r, z, S', H', J'⟩ := rg_564 (n := 5999) hp hL J
      exact exB z (ih (i := i + 1) (by omega) (by omega) (by omega) e5 J')
    refine exI (fun _ => ?_) (fun _ => ?_)
    · obtain ⟨r, z, b', J'⟩ := rg_632 (n := 5999) hp hL J
      exact exB z (ih (i := i + 1) (by omega) (by omega) (by omega) e5 J')
    refine exI (fun _ => ?_) (fun _ => ?_)
    · obtain ⟨r, z, b', J'⟩ := rg_688 (n := 5999) J
      exact exB z (ih (i := i + 1) (by omega) (by omega) (by omega) e5 J')
    refine exI (fun _ => ?_) (fun _ => ?_)
    · obtain ⟨r, z, J'⟩ := rg_701 (n := 5999) J
      exact exB z (ih (i := i + 1) (by omega) (by omega) (by omega) e5 J')
    refine exI (fun _ => ?_) (fun _ => ?_)
    · obtain ⟨r, z, S', H', b', J'⟩ := rg_714 (n := 5999) (by omega) J
      exact exB z (ih (i := i + 1) (by omega) (by omega) (by omega) e5 J')
    refine exI (fun _ => ?_) (fun _ => ?_)
    · obtain ⟨r, z⟩ := rg_758 (n := 5999) hp hL J
      exact exB z (ih (i := i + 1) (by omega) (by omega) (by omega) e5 J)
    refine exI (fun _ => ?_) (fun _ => ?_)
    · obtain ⟨r, z⟩ := rg_814 (n := 5999) hp hL J
      exact exB z (ih (i := i + 1) (by omega) (by omega) (by omega) e5 J)
    refine exI (fun _ => ?_) (fun _ => ?_)
    · obtain ⟨r, z, S', H', J'⟩ := rg_882 (n := 5999) J
      exact exB z (ih (i := i + 1) (by omega) (by omega) (by omega) e5 J')
    refine exI (fun _ => ?_) (fun _ => ?_)
    · obtain ⟨r, z, T', J'⟩ := rg_926 (n := 5999) J
      exact exB z (ih (i := i + 1) (by omega) (by omega) (by omega) e5 J')
    refine exI (fun _ => ?_) (fun _ => ?_)
    · obtain ⟨r, z, S', H', J'⟩ := rg_939 (n := 5999) J
      exact exB z (ih (i := i + 1) (by omega) (by omega) (by omega) e5 J')
    refine exI (fun _ => ?_) (fun _ => ?_)
    · obtain ⟨r, z⟩ := rg_983 (n := 5999) hp hL J
      exact exB z (ih (i := i + 1) (by omega) (by omega) (by omega) e5 J)
    refine exI (fun _ => ?_) (fun _ => ?_)
    · obtain ⟨r, z⟩ := rg_1051 (n := 5999) hp hL J
      exact exB z (ih (i := i + 1) (by omega) (by omega) (by omega) e5 J)
    refine exI (fun _ => ?_) (fun _ => ?_)
    · obtain ⟨r, z⟩ := rg_1143 (n := 5999) hp hL J
      exact exB z (ih (i := i + 1) (by omega) (by omega) (by omega) e5 J)
    refine exI (fun _ => ?_) (fun _ => ?_)
    · obtain ⟨r, z⟩ := rg_1223 (n := 5999) hp hL J
      exact exB z (ih (i := i + 1) (by omega) (by omega) (by omega) e5 J)
    refine exI (fun _ => ?_) (fun _ => ?_)
    · obtain ⟨r, z⟩ := rg_1291 (n := 5999) hp hL J
      exact exB z (ih (i := i + 1) (by omega) (by omega) (by omega) e5 J)
    refine exI (fun _ => ?_) (fun _ => ?_)
    · obtain ⟨r, z⟩ := rg_1359 (n := 5999) J
      exact exB z (ih (i := i + 1) (by omega) (by omega) (by omega) e5 J)
    refine exI (fun _ => ?_) (fun _ => ?_)
    · obtain ⟨r, z⟩ := rg_1403 (n := 5999) hp hL J
      exact exB z (ih (i := i + 1) (by omega) (by omega) (by omega) e5 J)
    refine exI (fun _ => ?_) (fun _ => ?_)
    · obtain ⟨r, z⟩ := rg_1459 (n := 5999) hp hL J
      exact exB z (ih (i := i + 1) (by omega) (by omega) (by omega) e5 J)
    refine exI (fun _ => ?_) (fun _ => ?_)
    · obtain ⟨r, z⟩ := rg_1515 (n := 5999) hp hL J
      exact exB z (ih (i := i + 1) (by omega) (by omega) (by omega) e5 J)
    refine exI (fun _ => ?_) (fun _ => ?_)
    · obtain ⟨r, z⟩ := rg_1595 (n := 5999) hp hL J
      exact exB z (ih (i := i + 1) (by omega) (by omega) (by omega) e5 J)
    refine exI (fun _ => ?_) (fun _ => ?_)
    · obtain ⟨r, z⟩ := rg_1663 (n := 5999) J
      exact exB z (ih (i := i + 1) (by omega) (by omega) (by omega) e5 J)
    refine exI (fun _ => ?_) (fun _ => ?_)
    · obtain ⟨r, z⟩ := rg_1707 (n := 5999) J
      exact exB z (ih (i := i + 1) (by omega) (by omega) (by omega) e5 J)
    refine exI (fun _ => ?_) (fun _ => ?_)
    · obtain ⟨r, z⟩ := rg_1748 (n := 5999) J
      exact exB z (ih (i := i + 1) (by omega) (by omega) (by omega) e5 J)
    exact ih (i := i + 1) (by omega) (by omega) (by omega) e5 J
