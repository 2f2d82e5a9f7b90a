/-! THE DAY'S METHODS over rows -/
theorem p_reelPlace {S : St} {a b : Nat} {K : Int32 → Prop} (h : K (nI (6 * a + b))) : w_X3_reelPlace S (nI a) (nI b) K := by
  unfold w_X3_reelPlace
  rw [show (6 : Int32) = nI 6 from rfl, n_mul, nI_add, Nat.mul_comm a 6]
  exact h
/- copyFrom -/
def CP (S0 : St) (o0 o1 j : Nat) (S : St) : Prop := (∀ k, k < j → ∀ i, i < sz k → S o0 k i = S0 o1 k i) ∧ ∀ p, p ≠ o0 → S p = S0 p
theorem CP.arr {S0 S : St} {o0 o1 j : Nat} (h : CP S0 o0 o1 j S) (hne : o1 ≠ o0) (n : Nat) (hn : sz j ≤ n) : CP S0 o0 o1 (j + 1) (upA S o0 j (va_cpy (S o1 j) (S o0 j) 0 0 n)) := by
  refine ⟨fun k hk i hi => ?_, fun p hp => ?_⟩
  · by_cases q : k = j
    · subst q
      unfold upA va_cpy
      rw [if_pos ⟨rfl, rfl⟩, if_pos ⟨Nat.zero_le _, by omega⟩, h.2 o1 hne]
      simp
    · rw [upA_ne (fun z => q z.2)]
      exact h.1 k (by omega) i hi
  · rw [upA_obj hp]
    exact h.2 p hp
theorem CP.num {S0 S : St} {o0 o1 j : Nat} (h : CP S0 o0 o1 j S) (hne : o1 ≠ o0) (hn : sz j = 1) : CP S0 o0 o1 (j + 1) (up3 S o0 j 0 (S o1 j 0)) := by
  refine ⟨fun k hk i hi => ?_, fun p hp => ?_⟩
  · by_cases q : k = j
    · subst q
      have : i = 0 := by omega
      subst this
      unfold up3
      rw [if_pos ⟨rfl, rfl, rfl⟩, h.2 o1 hne]
    · rw [up3_ne (fun z => q z.2)]
      exact h.1 k (by omega) i hi
  · rw [up3_obj hp]
    exact h.2 p hp
theorem p_copyFrom {S : St} {o0 o1 : Nat} {N : Row} {K : St → Prop} (hne : o1 ≠ o0) (hD : DR S o1 N) (h : ∀ S', DR S' o0 N → (∀ p, p ≠ o0 → S' p = S p) → K S') : w_X0_copyFrom o0 o1 S K := by
  unfold w_X0_copyFrom
  have c0 : CP S o0 o1 0 S := ⟨fun k hk => absurd hk (Nat.not_lt_zero k), fun _ _ => rfl⟩
  intro S1 e1; have c1 := c0.arr hne 4 (by decide); rw [← e1] at c1
  intro S2 e2; have c2 := c1.arr hne 24 (by decide); rw [← e2] at c2
  intro S3 e3; have c3 := c2.arr hne 24 (by decide); rw [← e3] at c3
  intro S4 e4; have c4 := c3.arr hne 4 (by decide); rw [← e4] at c4
  intro S5 e5; have c5 := c4.num hne (by decide); rw [← e5] at c5
  intro S6 e6; have c6 := c5.arr hne 5 (by decide); rw [← e6] at c6
  intro S7 e7; have c7 := c6.num hne (by decide); rw [← e7] at c7
  intro S8 e8; have c8 := c7.arr hne 4 (by decide); rw [← e8] at c8
  intro S9 e9; have c9 := c8.num hne (by decide); rw [← e9] at c9
  intro S10 e10; have c10 := c9.arr hne 6 (by decide); rw [← e10] at c10
  intro S11 e11; have c11 := c10.arr hne 6 (by decide); rw [← e11] at c11
  intro S12 e12; have c12 := c11.arr hne 6 (by decide); rw [← e12] at c12
  intro S13 e13; have c13 := c12.num hne (by decide); rw [← e13] at c13
  intro S14 e14; have c14 := c13.arr hne 8 (by decide); rw [← e14] at c14
  intro S15 e15; have c15 := c14.arr hne 8 (by decide); rw [← e15] at c15
  intro S16 e16; have c16 := c15.arr hne 8 (by decide); rw [← e16] at c16
  exact h S16 (fun k hk i hi => (c16.1 k hk i hi).trans (hD k hk i hi)) c16.2
/- loops that ask -/
def anyF (N : Row) (f : Nat) : Nat → Nat → Bool
  | 0, _ => false
  | c + 1, b => if N (74 + b) = f then true else anyF N f c (b + 1)
theorem p_isShown {S : St} {o f : Nat} {N : Row} {K : Int32 → Prop} (hD : DR S o N) (hW : WF N) (hf : f < 4) (h1 : anyF N f (N 67) 0 = true → K 1) (h0 : anyF N f (N 67) 0 = false → K 0) : w_X0_isShown o S (nI f) K := by
  have hc := w_sc hW
  refine ⟨fun n x => ∃ j, x = nI j ∧ j + n = N 67 ∧ anyF N f n j = anyF N f (N 67) 0, ⟨N 67, 0, nI_0.symm, Nat.zero_add _, rfl⟩, ?_⟩
  rintro n x ⟨j, rfl, hj, ha⟩
  rw [d_sc hD, n_le (by omega) (by omega)]
  refine ⟨fun h => ?_, fun h => ⟨n_in (by omega) (by omega), ?_⟩⟩
  · have : n = 0 := by omega
    subst this
    exact h0 ha.symm
  · obtain ⟨c, rfl⟩ : ∃ c, n = c + 1 := ⟨n - 1, by omega⟩
    have hsf := w_sf hW (i := j) (by omega)
    rw [n_clamp (by omega), d_sf hD (by omega), n_eq (by omega) (by omega)]
    change (if N (74 + j) = f then true else anyF N f c (j + 1)) = _ at ha
    refine ⟨fun h2 => ?_, fun h2 => ?_⟩
    · rw [if_neg h2] at ha
      intro y ey
      exact ⟨c, by omega, j + 1, by rw [ey, nI_1], by omega, ha⟩
    · rw [if_pos h2] at ha
      exact h1 ha.symm
def sumL (N : Row) (f : Nat) : Nat → Nat
  | 0 => 0
  | r + 1 => sumL N f r + N (4 + (6 * f + r))
theorem p_sumOfLengths {S : St} {o f : Nat} {N : Row} {K : Int32 → Prop} (hD : DR S o N) (hW : WF N) (hf : f < 4) (hK : K (nI (sumL N f (N f)))) : w_X0_sumOfLengths o S (nI f) K := by
  have hc := w_rc hW hf
  refine ⟨fun n x y => ∃ j, y = nI j ∧ j + n = N f ∧ x = nI (sumL N f j), ⟨N f, 0, nI_0.symm, Nat.zero_add _, nI_0.symm⟩, ?_⟩
  rintro n x y ⟨j, rfl, hj, rfl⟩
  refine ⟨n_in (by omega) (by omega), ?_⟩
  rw [n_clamp (by omega), d_rc hD hf, n_le (by omega) (by omega)]
  refine ⟨fun h => ?_, fun h => ?_⟩
  · have : j = N f := by omega
    rw [this]
    exact hK
  · refine p_reelPlace ⟨n_in (by omega) (by omega), fun y26 e26 y27 e27 => ⟨n - 1, by omega, j + 1, by rw [e27, nI_1], by omega, ?_⟩⟩
    rw [e26, n_clamp (by omega), d_len hD (by omega), nI_add]
    rfl
def fmF (N : Row) (h : Nat) : Nat → Nat → Option Nat
  | 0, _ => none
  | c + 1, b => if N (57 + b) = h then some b else fmF N h c (b + 1)
theorem fmF_lt {N : Row} {h : Nat} : ∀ (c b m : Nat), fmF N h c b = some m → b ≤ m ∧ m < b + c ∧ N (57 + m) = h ∧ ∀ i, b ≤ i → i < m → N (57 + i) ≠ h
  | 0, b, m, e => by cases e
  | c + 1, b, m, e => by
    unfold fmF at e
    by_cases q : N (57 + b) = h
    · rw [if_pos q] at e
      cases e
      exact ⟨Nat.le_refl _, by omega, q, fun i h1 h2 => by omega⟩
    · rw [if_neg q] at e
      obtain ⟨a1, a2, a3, a4⟩ := fmF_lt c (b + 1) m e
      refine ⟨by omega, by omega, a3, fun i h1 h2 => ?_⟩
      by_cases z : i = b
      · rw [z]; exact q
      · exact a4 i (by omega) h2
theorem fmF_none {N : Row} {h : Nat} : ∀ (c b : Nat), fmF N h c b = none → ∀ i, b ≤ i → i < b + c → N (57 + i) ≠ h
  | 0, b, _, i, h1, h2 => by omega
  | c + 1, b, e, i, h1, h2 => by
    unfold fmF at e
    by_cases q : N (57 + b) = h
    · rw [if_pos q] at e; cases e
    · rw [if_neg q] at e
      by_cases z : i = b
      · rw [z]; exact q
      · exact fmF_none c (b + 1) e i (by omega) (by omega)
theorem p_firstMachineIn {S : St} {o hs : Nat} {N : Row} {K : Int32 → Prop} (hD : DR S o N) (hW : WF N) (hh : hs < 1000) (h1 : ∀ m, fmF N hs (N 56) 0 = some m → K (nI m)) (h0 : fmF N hs (N 56) 0 = none → K (-1)) : w_X0_firstMachineIn o S (nI hs) K := by
  have hc := w_mc hW
  refine ⟨fun n x => ∃ j, x = nI j ∧ j + n = N 56 ∧ fmF N hs n j = fmF N hs (N 56) 0, ⟨N 56, 0, nI_0.symm, Nat.zero_add _, rfl⟩, ?_⟩
  rintro n x ⟨j, rfl, hj, ha⟩
  rw [d_mc hD, n_le (by omega) (by omega)]
  refine ⟨fun h => ?_, fun h => ⟨n_in (by omega) (by omega), ?_⟩⟩
  · have : n = 0 := by omega
    subst this
    exact h0 ha.symm
  · obtain ⟨c, rfl⟩ : ∃ c, n = c + 1 := ⟨n - 1, by omega⟩
    have hsf := w_mh hW (i := j) (by omega)
    rw [n_clamp (by omega), d_mh hD (by omega), n_eq (by omega) (by omega)]
    change (if N (57 + j) = hs then some j else fmF N hs c (j + 1)) = _ at ha
    refine ⟨fun h2 => ?_, fun h2 => ?_⟩
    · rw [if_neg h2] at ha
      intro y ey
      exact ⟨c, by omega, j + 1, by rw [ey, nI_1], by omega, ha⟩
    · rw [if_pos h2] at ha
      exact h1 j ha.symm
def rpF (N : Row) (s r : Nat) : Nat → Nat → Nat → Nat
  | 0, _, acc => acc
  | c + 1, b, acc => rpF N s r c (b + 1) (if N (87 + b) = s then (if N (95 + b) = r then acc + N (103 + b) else acc) else acc)
theorem p_repairTime {S : St} {o s r : Nat} {N : Row} {K : Int32 → Prop} (hD : DR S o N) (hW : WF N) (hs : s < 1000) (hr : r < 1000) (hK : K (nI (rpF N s r (N 86) 0 0))) : w_X0_repairTime o S (nI s) (nI r) K := by
  have hc := w_bc hW
  refine ⟨fun n x y => ∃ j a, y = nI j ∧ x = nI a ∧ j + n = N 86 ∧ rpF N s r n j a = rpF N s r (N 86) 0 0, ⟨N 86, 0, 0, nI_0.symm, nI_0.symm, Nat.zero_add _, rfl⟩, ?_⟩
  rintro n x y ⟨j, a, rfl, rfl, hj, ha⟩
  rw [d_bc hD, n_le (by omega) (by omega)]
  refine ⟨fun h => ?_, fun h => ⟨n_in (by omega) (by omega), ?_⟩⟩
  · have : n = 0 := by omega
    subst this
    rw [show a = rpF N s r (N 86) 0 0 from ha]
    exact hK
  · obtain ⟨c, rfl⟩ : ∃ c, n = c + 1 := ⟨n - 1, by omega⟩
    have h1 := w_bs hW (i := j) (by omega)
    have h2 := w_br hW (i := j) (by omega)
    rw [n_clamp (by omega), d_bs hD (by omega), d_br hD (by omega), d_rp hD (by omega), n_eq (by omega) (by omega), n_eq (by omega) (by omega)]
    change rpF N s r c (j + 1) (if N (87 + j) = s then (if N (95 + j) = r then a + N (103 + j) else a) else a) = _ at ha
    refine ⟨fun q => ?_, fun q => ⟨n_in (by omega) (by omega), fun q2 => ?_, fun q2 => ⟨n_in (by omega) (by omega), fun y45 e45 => ?_⟩⟩⟩
    · rw [if_neg q] at ha
      intro y ey
      exact ⟨c, by omega, j + 1, a, by rw [ey, nI_1], rfl, by omega, ha⟩
    · rw [if_pos q, if_neg q2] at ha
      intro y ey
      exact ⟨c, by omega, j + 1, a, by rw [ey, nI_1], rfl, by omega, ha⟩
    · rw [if_pos q, if_pos q2] at ha
      intro y ey
      exact ⟨c, by omega, j + 1, a + N (103 + j), by rw [ey, nI_1], by rw [e45, nI_add], by omega, ha⟩
/- writes -/
theorem p_appendReel {S : St} {o f l a : Nat} {N : Row} {K : St → Prop} (hD : DR S o N) (hf : f < 4) (hc : N f < 6) (hK : ∀ S', DR S' o (upN (upN (upN N (4 + (6 * f + N f)) l) (28 + (6 * f + N f)) a) f (N f + 1)) → (∀ p, p ≠ o → S' p = S p) → K S') : w_X0_appendReel o S (nI f) (nI l) (nI a) K := by
  refine ⟨n_in hf (by omega), ?_⟩
  rw [n_clamp (by omega), d_rc hD hf]
  refine p_reelPlace ⟨n_in (by omega) (by omega), ?_⟩
  rw [n_clamp (by omega)]
  intro S1 e1
  have d1 : DR S1 o (upN N (4 + (6 * f + N f)) l) := by rw [e1]; exact hD.put (k := 1) (by decide) (show _ < 24 by omega)
  refine ⟨n_in (by omega) (by omega), ?_⟩
  intro S2 e2
  have d2 : DR S2 o (upN (upN N (4 + (6 * f + N f)) l) (28 + (6 * f + N f)) a) := by rw [e2]; exact d1.put (k := 2) (by decide) (show _ < 24 by omega)
  refine ⟨n_in hf (by omega), n_in hf (by omega), ?_⟩
  intro S3 e3
  refine hK S3 ?_ (fun p hp => by rw [e3, up3_obj hp, e2, up3_obj hp, e1, up3_obj hp])
  rw [e3, d_rc d2 hf, nI_1]
  have q := d2.put (k := 0) (i := f) (v := upN (upN N (4 + (6 * f + N f)) l) (28 + (6 * f + N f)) a f + 1) (by decide) hf
  rw [show of 0 + f = f from Nat.zero_add f] at q
  have e : upN (upN N (4 + (6 * f + N f)) l) (28 + (6 * f + N f)) a f = N f := by
    unfold upN
    rw [if_neg (by omega), if_neg (by omega)]
  rw [e] at q ⊢
  exact q
theorem p_appendMachine {S : St} {o h : Nat} {N : Row} {K : St → Prop} (hD : DR S o N) (hc : N 56 < 5) (hK : ∀ S', DR S' o (upN (upN N (57 + N 56) h) 56 (N 56 + 1)) → (∀ p, p ≠ o → S' p = S p) → K S') : w_X0_appendMachine o S (nI h) K := by
  unfold w_X0_appendMachine
  rw [d_mc hD, n_clamp (by omega)]
  refine ⟨n_in hc (by omega), ?_⟩
  intro S1 e1
  have d1 : DR S1 o (upN N (57 + N 56) h) := by rw [e1]; exact hD.put (k := 5) (by decide) hc
  rw [d_mc d1, nI_1]
  intro S2 e2
  have e : upN N (57 + N 56) h 56 = N 56 := by unfold upN; rw [if_neg (by omega)]
  rw [e] at e2
  refine hK S2 ?_ (fun p hp => by rw [e2, up3_obj hp, e1, up3_obj hp])
  rw [e2]
  exact d1.put (k := 4) (i := 0) (by decide) (by decide)
/-- c numbers move down from b + x + 1 on -/
def shf (b : Nat) : Nat → Nat → Row → Row
  | 0, _, N => N
  | c + 1, x, N => shf b c (x + 1) (upN N (b + x) (N (b + (x + 1))))
theorem shf_keep {b i : Nat} : ∀ (c x : Nat) (N : Row), (∀ j, x ≤ j → j < x + c → i ≠ b + j) → shf b c x N i = N i
  | 0, _, _, _ => rfl
  | c + 1, x, N, h => by
    unfold shf
    rw [shf_keep c (x + 1) _ (fun j h1 h2 => h j (by omega) (by omega))]
    unfold upN
    rw [if_neg (h x (Nat.le_refl _) (by omega))]
theorem p_dropMachine {S : St} {o x : Nat} {N : Row} {K : St → Prop} (hD : DR S o N) (hW : WF N) (hx : x < N 56) (hK : ∀ S', DR S' o (shf 57 (N 56 - 1 - x) x (upN N 56 (N 56 - 1))) → (∀ p, p ≠ o → S' p = S p) → K S') : w_X0_dropMachine o S (nI x) K := by
  have hc := w_mc hW
  unfold w_X0_dropMachine
  rw [d_mc hD, show (1 : Int32) = nI 1 from rfl, n_sub (by omega)]
  intro S1 e1
  have d1 : DR S1 o (upN N 56 (N 56 - 1)) := by rw [e1]; exact hD.put (k := 4) (i := 0) (by decide) (by decide)
  have f1 : ∀ p, p ≠ o → S1 p = S p := fun p hp => by rw [e1, up3_obj hp]
  generalize hfin : shf 57 (N 56 - 1 - x) x (upN N 56 (N 56 - 1)) = F at hK
  refine ⟨fun n S' y => ∃ j M, y = nI j ∧ DR S' o M ∧ M 56 = N 56 - 1 ∧ j + n = N 56 - 1 ∧ shf 57 n j M = F ∧ ∀ p, p ≠ o → S' p = S p, ⟨N 56 - 1 - x, x, _, rfl, d1, by unfold upN; rw [if_pos rfl], by omega, hfin, f1⟩, ?_⟩
  rintro n S' y ⟨j, M, rfl, dM, hM, hj, hF, hfr⟩
  rw [d_mc dM, n_le (by omega) (by omega), hM]
  refine ⟨fun h => ?_, fun h => ?_⟩
  · have : n = 0 := by omega
    subst this
    rw [show M = F from hF] at dM
    exact hK S' dM hfr
  · obtain ⟨c, rfl⟩ : ∃ c, n = c + 1 := ⟨n - 1, by omega⟩
    rw [nI_1, n_clamp (by omega), n_clamp (by omega), d_mh dM (by omega)]
    refine ⟨n_in (by omega) (by omega), n_in (by omega) (by omega), ?_⟩
    intro S2 e2 y2 ey2
    refine ⟨c, by omega, j + 1, upN M (57 + j) (M (57 + (j + 1))), ey2, by rw [e2]; exact dM.put (k := 5) (by decide) (show j < 5 by omega), by unfold upN; rw [if_neg (by omega)]; exact hM, by omega, hF, fun p hp => by rw [e2, up3_obj hp]; exact hfr p hp⟩
theorem p_appendShow {S : St} {o h f s : Nat} {N : Row} {K : St → Prop} (hD : DR S o N) (hc : N 67 < 6) (hK : ∀ S', DR S' o (upN (upN (upN (upN N (68 + N 67) h) (74 + N 67) f) (80 + N 67) s) 67 (N 67 + 1)) → (∀ p, p ≠ o → S' p = S p) → K S') : w_X0_appendShow o S (nI h) (nI f) (nI s) K := by
  unfold w_X0_appendShow
  rw [d_sc hD, n_clamp (by omega)]
  refine ⟨n_in hc (by omega), ?_⟩
  intro S1 e1
  have d1 : DR S1 o (upN N (68 + N 67) h) := by rw [e1]; exact hD.put (k := 9) (by decide) hc
  have g1 : upN N (68 + N 67) h 67 = N 67 := by unfold upN; rw [if_neg (by omega)]
  rw [d_sc d1, g1, n_clamp (by omega)]
  refine ⟨n_in hc (by omega), ?_⟩
  intro S2 e2
  have d2 : DR S2 o (upN (upN N (68 + N 67) h) (74 + N 67) f) := by rw [e2]; exact d1.put (k := 10) (by decide) hc
  have g2 : upN (upN N (68 + N 67) h) (74 + N 67) f 67 = N 67 := (upN_ne (by omega)).trans g1
  rw [d_sc d2, g2, n_clamp (by omega)]
  refine ⟨n_in hc (by omega), ?_⟩
  intro S3 e3
  have d3 : DR S3 o (upN (upN (upN N (68 + N 67) h) (74 + N 67) f) (80 + N 67) s) := by rw [e3]; exact d2.put (k := 11) (by decide) hc
  have g3 : upN (upN (upN N (68 + N 67) h) (74 + N 67) f) (80 + N 67) s 67 = N 67 := (upN_ne (by omega)).trans g2
  rw [d_sc d3, g3, nI_1]
  intro S4 e4
  refine hK S4 ?_ (fun p hp => by rw [e4, up3_obj hp, e3, up3_obj hp, e2, up3_obj hp, e1, up3_obj hp])
  rw [e4]
  exact d3.put (k := 8) (i := 0) (by decide) (by decide)
theorem p_appendBreak {S : St} {o h f s : Nat} {N : Row} {K : St → Prop} (hD : DR S o N) (hc : N 86 < 8) (hK : ∀ S', DR S' o (upN (upN (upN (upN N (87 + N 86) h) (95 + N 86) f) (103 + N 86) s) 86 (N 86 + 1)) → (∀ p, p ≠ o → S' p = S p) → K S') : w_X0_appendBreak o S (nI h) (nI f) (nI s) K := by
  unfold w_X0_appendBreak
  rw [d_bc hD, n_clamp (by omega)]
  refine ⟨n_in hc (by omega), ?_⟩
  intro S1 e1
  have d1 : DR S1 o (upN N (87 + N 86) h) := by rw [e1]; exact hD.put (k := 13) (by decide) hc
  have g1 : upN N (87 + N 86) h 86 = N 86 := by unfold upN; rw [if_neg (by omega)]
  rw [d_bc d1, g1, n_clamp (by omega)]
  refine ⟨n_in hc (by omega), ?_⟩
  intro S2 e2
  have d2 : DR S2 o (upN (upN N (87 + N 86) h) (95 + N 86) f) := by rw [e2]; exact d1.put (k := 14) (by decide) hc
  have g2 : upN (upN N (87 + N 86) h) (95 + N 86) f 86 = N 86 := (upN_ne (by omega)).trans g1
  rw [d_bc d2, g2, n_clamp (by omega)]
  refine ⟨n_in hc (by omega), ?_⟩
  intro S3 e3
  have d3 : DR S3 o (upN (upN (upN N (87 + N 86) h) (95 + N 86) f) (103 + N 86) s) := by rw [e3]; exact d2.put (k := 15) (by decide) hc
  have g3 : upN (upN (upN N (87 + N 86) h) (95 + N 86) f) (103 + N 86) s 86 = N 86 := (upN_ne (by omega)).trans g2
  rw [d_bc d3, g3, nI_1]
  intro S4 e4
  refine hK S4 ?_ (fun p hp => by rw [e4, up3_obj hp, e3, up3_obj hp, e2, up3_obj hp, e1, up3_obj hp])
  rw [e4]
  exact d3.put (k := 12) (i := 0) (by decide) (by decide)
/-- the homes of a mask -/
def homeF (m : Nat) : Nat → Nat → Row → Row
  | 0, _, N => N
  | c + 1, f, N => homeF m c (f + 1) (upN N (52 + f) (m / 2 ^ f % 2))
theorem bit_of : ∀ m ∈ List.range 16, ∀ f ∈ List.range 4, ((nI m >>> (nI f &&& 31)) &&& 1) = nI (m / 2 ^ f % 2) := by decide +kernel
theorem p_setHomes {S : St} {o m : Nat} {N : Row} {K : St → Prop} (hD : DR S o N) (hm : m < 16) (hK : ∀ S', DR S' o (homeF m 4 0 N) → (∀ p, p ≠ o → S' p = S p) → K S') : w_X0_setHomes o S (nI m) K := by
  refine ⟨fun n S' x => ∃ j M, x = nI j ∧ j + n = 4 ∧ DR S' o M ∧ homeF m n j M = homeF m 4 0 N ∧ ∀ p, p ≠ o → S' p = S p, ⟨4, 0, N, nI_0.symm, rfl, hD, rfl, fun _ _ => rfl⟩, ?_⟩
  rintro n S' x ⟨j, M, rfl, hj, dM, hF, hfr⟩
  rw [show (4 : Int32) = nI 4 from rfl, n_le (by omega) (by omega)]
  refine ⟨fun h => ?_, fun h => ⟨n_in (by omega) (by omega), ?_⟩⟩
  · have : n = 0 := by omega
    subst this
    rw [show M = homeF m 4 0 N from hF] at dM
    exact hK S' dM hfr
  · obtain ⟨c, rfl⟩ : ∃ c, n = c + 1 := ⟨n - 1, by omega⟩
    rw [n_clamp (by omega), bit_of m (List.mem_range.mpr hm) j (List.mem_range.mpr (by omega))]
    intro S2 e2 y ey
    exact ⟨c, by omega, j + 1, _, by rw [ey, nI_1], by omega, by rw [e2]; exact dM.put (k := 3) (by decide) (show j < 4 by omega), hF, fun p hp => by rw [e2, up3_obj hp]; exact hfr p hp⟩
