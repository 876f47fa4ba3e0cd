/-! the share -/
def nA (S : aS) (g : aN → Nat) : Nat := sN 5 (fun f => sN (sB S f).length (fun n => g (nm S f n)))
theorem sA_nA (S : aS) (g : aN → Nat) : sA S (fun m => nI (g m)) = nI (nA S g) := by
  unfold sA nA
  rw [← sI_nI]
  exact sI_congr fun f _ => sI_nI _ _
theorem sN_mono {N : Nat} {f g : Nat → Nat} (h : ∀ i, i < N → f i ≤ g i) : sN N f ≤ sN N g := by
  induction N with
  | zero => exact Nat.le_refl _
  | succ n ih =>
    have h1 := ih (fun i hi => h i (by omega))
    have h2 := h n (by omega)
    show sN n f + f n ≤ sN n g + g n
    omega
theorem kN_mono (m : aN) : kN 1 mO m ≤ kN 0 mO m := by
  unfold kN
  refine sN_mono fun k _ => ?_
  show bN (pK 1 mO (gK m k)) ≤ 1
  exact bN_le _
theorem kN_8 {B : Nat} {m : aN} (h : OKN B m) : kN 0 mO m ≤ 8 := by
  have h1 := sN_le (N := m.length) (f := fun k => bN (pK 0 mO (gK m k))) (b := 1) (fun i _ => bN_le _)
  have h2 := h.2.1
  unfold kN; omega
theorem nA_240 {B : Nat} {S : aS} (h : OKS B S) : nA S (kN 0 mO) ≤ 240 := by
  unfold nA
  have h1 := sN_le (N := 5) (f := fun f => sN (sB S f).length (fun n => kN 0 mO (nm S f n))) (b := 48) (fun f hf => by
    have h2 := sN_le (N := (sB S f).length) (f := fun n => kN 0 mO (nm S f n)) (b := 8) (fun n hn => kN_8 ((h.2.1 f hf).2.2.2 n hn))
    have h3 := (h.2.1 f hf).1
    show sN (sB S f).length (fun n => kN 0 mO (nm S f n)) ≤ 48
    omega)
  omega
theorem nA_mono (S : aS) : nA S (kN 1 mO) ≤ nA S (kN 0 mO) := sN_mono fun f _ => sN_mono fun n _ => kN_mono _
def shU (S : aS) : UInt64 := if nA S (kN 0 mO) = 0 then FP.dconst1 else fpQ (nA S (kN 0 mO) - nA S (kN 1 mO)) (nA S (kN 0 mO))
theorem csh {B : Nat} {S : aS} {c : Nat → Int32} (h : IC B S c) : s_X8_shareThatReadsTrue c = some (shU S) := by
  have h1 := nA_240 h.2
  have h2 := nA_mono S
  have z1 : s_X8_knotsThatAre 0 (-1) c = some (nI (nA S (kN 0 mO))) := by rw [← sA_nA]; exact kTA (kind := 0) (l := mO) h (by omega)
  have z2 : s_X8_knotsThatAre 1 (-1) c = some (nI (nA S (kN 1 mO))) := by rw [← sA_nA]; exact kTA (kind := 1) (l := mO) h (by omega)
  refine bindE z1 (bindE z2 ?_)
  unfold shU
  by_cases q : nA S (kN 0 mO) = 0
  · rw [if_pos q, q]; rfl
  · rw [if_neg q, if_neg (nI_ne0 (by omega) (by omega)), nI_sub h2]
    exact fnn_ok (fp_ok (by omega) (by omega) h1).1
theorem sh_self {B : Nat} {S : aS} (h : OKS B S) : FP.dcmp (shU S) (shU S) = some .eq := by
  have h1 := nA_240 h
  unfold shU
  by_cases q : nA S (kN 0 mO) = 0
  · rw [if_pos q]; decide +kernel
  · rw [if_neg q]; exact (fp_ok (by omega) (by omega) h1).2
