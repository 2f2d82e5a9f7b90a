/-! QUESTIONS -/
theorem pair_query {w3 w4 : St → (Int32 → St → Prop) → Prop} {q : Row → Int32} (h3 : ∀ S N K, DR S 0 N → WF N → (∀ S', (∀ p, p ≠ 1 → p ≠ 8 → S' p = S p) → K (q N) S') → w3 S K) (h4 : ∀ S N K, MR S N → WF N → (∀ S', MR S' N → S' 10 1 = S 10 1 → S' 10 2 = S 10 2 → (∀ p, p ≠ 10 → S' p = S p) → K (q N) S') → w4 S K) {S : St} (hI : INV S) {K3 : Int32 → St → Prop} (hK3 : ∀ r S1, (∀ K4 : Int32 → St → Prop, (∀ S2, INV S2 → K4 r S2) → w4 S1 K4) → K3 r S1) : w3 S K3 := by
  obtain ⟨N, h, n, hW, hh, hD, hH, hM, hB⟩ := hI
  refine h3 S N K3 hD hW (fun S1 f1 => hK3 _ S1 (fun K4 hK4 => ?_))
  have f10 : S1 10 = S 10 := f1 10 (by decide) (by decide)
  refine h4 S1 N K4 (hM.at (by rw [f10])) hW (fun S2 m2 e1 e2 f2 => hK4 S2 ⟨N, h, n, hW, hh, (hD.at (f1 0 (by decide) (by decide))).at (f2 0 (by decide)), (hH.at (fun p h1 h2 => f1 p (by omega) (by omega))).at (fun p h1 h2 => f2 p (by omega)), m2, (hB.at (S' := S1) (by rw [f10]) (by rw [f10])).at e1 e2⟩)
theorem pair_pure {w3 w4 : St → (Int32 → Prop) → Prop} {q : Row → Int32} (h3 : ∀ S N K, DR S 0 N → WF N → K (q N) → w3 S K) (h4 : ∀ S N K, MR S N → WF N → K (q N) → w4 S K) {S : St} (hI : INV S) {K3 : Int32 → Prop} (hK3 : ∀ r, (∀ K4 : Int32 → Prop, K4 r → w4 S K4) → K3 r) : w3 S K3 := by
  obtain ⟨N, h, n, hW, hh, hD, hH, hM, hB⟩ := hI
  exact h3 S N K3 hD hW (hK3 _ (fun K4 hK4 => h4 S N K4 hM hW hK4))
def recOf (x : Int32) (N : Row) : Rec := (planF N).2.2 x.toNatClampNeg
def qStart (x r : Int32) (N : Row) : Int32 := if isRl x r N then (if (recOf x N).1 = 0 then -4 else (recOf x N).2.2.2.2.1 r.toNatClampNeg) else -1
def qMach (x r : Int32) (N : Row) : Int32 := if isRl x r N then (if (recOf x N).1 = 0 then -4 else (recOf x N).2.2.2.2.2 r.toNatClampNeg) else -1
def qEnd (x : Int32) (N : Row) : Int32 := if inR x 0 ((N 67 : Int) - 1) then (if (recOf x N).1 = 0 then -4 else (recOf x N).2.2.2.1) else -1
def qDelay (x : Int32) (N : Row) : Int32 := if inR x 0 ((N 67 : Int) - 1) then (recOf x N).2.1 else -1
def qGap (x : Int32) (N : Row) : Int32 := if inR x 0 ((N 67 : Int) - 1) then (recOf x N).2.2.1 else -1
def qTime (x : Int32) (N : Row) : Int32 := if inR x 0 ((N 56 : Int) - 1) then (planF N).1 6 x.toNatClampNeg else -1
section Q3
variable {S : St} {N : Row} {K : Int32 → St → Prop}
theorem x3_startOf {x r : Int32} (hD : DR S 0 N) (hW : WF N) (hK : ∀ S', (∀ p, p ≠ 1 → p ≠ 8 → S' p = S p) → K (qStart x r N) S') : w_X3_startOf S x r K := by
  unfold qStart recOf at hK
  refine p_isReel3 hD hW (fun q => (z11.mpr ?_).symm) (fun q => (z01.mpr ?_).symm)
  · rw [if_pos q] at hK
    obtain ⟨j, i, rfl, rfl, hj, hi, hj6, hi6, hf⟩ := isRl_nat hW q
    rw [n_clamp (by omega), n_clamp (by omega)] at hK
    refine p_make hD (by decide) hW (fun S1 q1 l1 r1 f1 => ?_)
    have rs := r1 j hj
    rw [n_clamp (by omega), rs.1]
    refine ⟨n_in hj6 (by omega), fun z => ?_, fun z => p_reelPlace ?_⟩
    · rw [if_pos z] at hK; exact hK S1 (fun p _ h8 => f1 p h8)
    · rw [if_neg z] at hK
      rw [n_clamp (by omega), ((rs.2.2.2 z).2 i hi).1]
      exact ⟨n_in (by omega) (by omega), hK S1 (fun p _ h8 => f1 p h8)⟩
  · rw [if_neg q] at hK; exact hK S (fun _ _ _ => rfl)
theorem x3_machineOf {x r : Int32} (hD : DR S 0 N) (hW : WF N) (hK : ∀ S', (∀ p, p ≠ 1 → p ≠ 8 → S' p = S p) → K (qMach x r N) S') : w_X3_machineOf S x r K := by
  unfold qMach recOf at hK
  refine p_isReel3 hD hW (fun q => (z11.mpr ?_).symm) (fun q => (z01.mpr ?_).symm)
  · rw [if_pos q] at hK
    obtain ⟨j, i, rfl, rfl, hj, hi, hj6, hi6, hf⟩ := isRl_nat hW q
    rw [n_clamp (by omega), n_clamp (by omega)] at hK
    refine p_make hD (by decide) hW (fun S1 q1 l1 r1 f1 => ?_)
    have rs := r1 j hj
    rw [n_clamp (by omega), rs.1]
    refine ⟨n_in hj6 (by omega), fun z => ?_, fun z => p_reelPlace ?_⟩
    · rw [if_pos z] at hK; exact hK S1 (fun p _ h8 => f1 p h8)
    · rw [if_neg z] at hK
      rw [n_clamp (by omega), ((rs.2.2.2 z).2 i hi).2]
      exact ⟨n_in (by omega) (by omega), hK S1 (fun p _ h8 => f1 p h8)⟩
  · rw [if_neg q] at hK; exact hK S (fun _ _ _ => rfl)
theorem x3_endOf {x : Int32} (hD : DR S 0 N) (hW : WF N) (hK : ∀ S', (∀ p, p ≠ 1 → p ≠ 8 → S' p = S p) → K (qEnd x N) S') : w_X3_endOf S x K := by
  unfold qEnd recOf at hK
  have hc := w_sc hW
  refine p_isShow3 hD hW (fun q => (z11.mpr ?_).symm) (fun q => (z01.mpr ?_).symm)
  · rw [if_pos q] at hK
    obtain ⟨j, hj, rfl⟩ := inR_lt (by omega) q
    rw [n_clamp (by omega)] at hK
    refine p_make hD (by decide) hW (fun S1 q1 l1 r1 f1 => ?_)
    have rs := r1 j hj
    rw [n_clamp (by omega), rs.1]
    refine ⟨n_in (by omega) (by omega), fun z => ?_, fun z => ⟨n_in (by omega) (by omega), ?_⟩⟩
    · rw [if_pos z] at hK; exact hK S1 (fun p _ h8 => f1 p h8)
    · rw [if_neg z] at hK
      rw [(rs.2.2.2 z).1]
      exact hK S1 (fun p _ h8 => f1 p h8)
  · rw [if_neg q] at hK; exact hK S (fun _ _ _ => rfl)
theorem x3_delayOf {x : Int32} (hD : DR S 0 N) (hW : WF N) (hK : ∀ S', (∀ p, p ≠ 1 → p ≠ 8 → S' p = S p) → K (qDelay x N) S') : w_X3_delayOf S x K := by
  unfold qDelay recOf at hK
  have hc := w_sc hW
  refine p_isShow3 hD hW (fun q => (z11.mpr ?_).symm) (fun q => (z01.mpr ?_).symm)
  · rw [if_pos q] at hK
    obtain ⟨j, hj, rfl⟩ := inR_lt (by omega) q
    rw [n_clamp (by omega)] at hK
    refine p_make hD (by decide) hW (fun S1 q1 l1 r1 f1 => ?_)
    have rs := r1 j hj
    rw [n_clamp (by omega), rs.2.1]
    exact ⟨n_in (by omega) (by omega), hK S1 (fun p _ h8 => f1 p h8)⟩
  · rw [if_neg q] at hK; exact hK S (fun _ _ _ => rfl)
theorem x3_gapOf {x : Int32} (hD : DR S 0 N) (hW : WF N) (hK : ∀ S', (∀ p, p ≠ 1 → p ≠ 8 → S' p = S p) → K (qGap x N) S') : w_X3_gapOf S x K := by
  unfold qGap recOf at hK
  have hc := w_sc hW
  refine p_isShow3 hD hW (fun q => (z11.mpr ?_).symm) (fun q => (z01.mpr ?_).symm)
  · rw [if_pos q] at hK
    obtain ⟨j, hj, rfl⟩ := inR_lt (by omega) q
    rw [n_clamp (by omega)] at hK
    refine p_make hD (by decide) hW (fun S1 q1 l1 r1 f1 => ?_)
    have rs := r1 j hj
    rw [n_clamp (by omega), rs.2.2.1]
    exact ⟨n_in (by omega) (by omega), hK S1 (fun p _ h8 => f1 p h8)⟩
  · rw [if_neg q] at hK; exact hK S (fun _ _ _ => rfl)
theorem x3_machineTime {x : Int32} (hD : DR S 0 N) (hW : WF N) (hK : ∀ S', (∀ p, p ≠ 1 → p ≠ 8 → S' p = S p) → K (qTime x N) S') : w_X3_machineTime S x K := by
  unfold qTime at hK
  have hc := w_mc hW
  refine p_isMachine3 hD hW (fun q => ?_) (fun q => ?_)
  · rw [if_pos q] at hK
    obtain ⟨j, hj, rfl⟩ := inR_lt (by omega) q
    rw [n_clamp (by omega)] at hK
    refine p_make hD (by decide) hW (fun S1 q1 l1 r1 f1 => ?_)
    rw [n_clamp (by omega), q1 6 j (show j < 5 by omega)]
    exact ⟨n_in (by omega) (by omega), hK S1 (fun p _ h8 => f1 p h8)⟩
  · rw [if_neg q] at hK; exact hK S (fun _ _ _ => rfl)
theorem x3_loss (hD : DR S 0 N) (hW : WF N) (hK : ∀ S', (∀ p, p ≠ 1 → p ≠ 8 → S' p = S p) → K (planF N).2.1 S') : w_X3_loss S K := p_lossWith hD (by decide) hW (fun S1 f1 => hK S1 (fun p _ h8 => f1 p h8))
theorem x3_carriedReels (hD : DR S 0 N) (hW : WF N) (hK : ∀ S', (∀ p, p ≠ 1 → p ≠ 8 → S' p = S p) → K ((planF N).1 7 0) S') : w_X3_carriedReels S K := by
  refine p_make hD (by decide) hW (fun S1 q1 l1 r1 f1 => ?_)
  rw [q1 7 0 (by decide)]
  exact hK S1 (fun p _ h8 => f1 p h8)
theorem x3_plateChanges (hD : DR S 0 N) (hW : WF N) (hK : ∀ S', (∀ p, p ≠ 1 → p ≠ 8 → S' p = S p) → K ((planF N).1 8 0) S') : w_X3_plateChanges S K := by
  refine p_make hD (by decide) hW (fun S1 q1 l1 r1 f1 => ?_)
  rw [q1 8 0 (by decide)]
  exact hK S1 (fun p _ h8 => f1 p h8)
end Q3
section Q4
variable {S : St} {N : Row} {K : Int32 → St → Prop}
theorem x4_startOf {x r : Int32} (hM : MR S N) (hW : WF N) (hK : ∀ S', MR S' N → S' 10 1 = S 10 1 → S' 10 2 = S 10 2 → (∀ p, p ≠ 10 → S' p = S p) → K (qStart x r N) S') : w_X4_startOf S x r K := by
  unfold qStart recOf at hK
  refine p_isReel4 hM hW (fun q => (z11.mpr ?_).symm) (fun q => (z01.mpr ?_).symm)
  · rw [if_pos q] at hK
    obtain ⟨j, i, rfl, rfl, hj, hi, hj6, hi6, hf⟩ := isRl_nat hW q
    rw [n_clamp (by omega), n_clamp (by omega)] at hK
    refine p_plans hM hW (fun S1 q1 r1 k1 f1 => ?_)
    have rs := r1 j hj
    have go := hK S1 (hM.at (k1 0 (by omega))) (k1 1 (by omega)) (k1 2 (by omega)) f1
    rw [n_clamp (by omega), show S1 10 11 j = _ from rs.1, mul6, nI_add, n_clamp (by omega)]
    refine ⟨n_in hj6 (by omega), fun z => ?_, fun z => ⟨n_in (by omega) (by omega), ?_⟩⟩
    · rw [if_pos z] at go; exact go
    · rw [if_neg z] at go
      rw [show S1 10 9 (6 * j + i) = _ from ((rs.2.2.2 z).2 i hi).1]
      exact go
  · rw [if_neg q] at hK; exact hK S hM rfl rfl (fun _ _ => rfl)
theorem x4_machineOf {x r : Int32} (hM : MR S N) (hW : WF N) (hK : ∀ S', MR S' N → S' 10 1 = S 10 1 → S' 10 2 = S 10 2 → (∀ p, p ≠ 10 → S' p = S p) → K (qMach x r N) S') : w_X4_machineOf S x r K := by
  unfold qMach recOf at hK
  refine p_isReel4 hM hW (fun q => (z11.mpr ?_).symm) (fun q => (z01.mpr ?_).symm)
  · rw [if_pos q] at hK
    obtain ⟨j, i, rfl, rfl, hj, hi, hj6, hi6, hf⟩ := isRl_nat hW q
    rw [n_clamp (by omega), n_clamp (by omega)] at hK
    refine p_plans hM hW (fun S1 q1 r1 k1 f1 => ?_)
    have rs := r1 j hj
    have go := hK S1 (hM.at (k1 0 (by omega))) (k1 1 (by omega)) (k1 2 (by omega)) f1
    rw [n_clamp (by omega), show S1 10 11 j = _ from rs.1, mul6, nI_add, n_clamp (by omega)]
    refine ⟨n_in hj6 (by omega), fun z => ?_, fun z => ⟨n_in (by omega) (by omega), ?_⟩⟩
    · rw [if_pos z] at go; exact go
    · rw [if_neg z] at go
      rw [show S1 10 10 (6 * j + i) = _ from ((rs.2.2.2 z).2 i hi).2]
      exact go
  · rw [if_neg q] at hK; exact hK S hM rfl rfl (fun _ _ => rfl)
theorem x4_endOf {x : Int32} (hM : MR S N) (hW : WF N) (hK : ∀ S', MR S' N → S' 10 1 = S 10 1 → S' 10 2 = S 10 2 → (∀ p, p ≠ 10 → S' p = S p) → K (qEnd x N) S') : w_X4_endOf S x K := by
  unfold qEnd recOf at hK
  have hc := w_sc hW
  refine p_isShow4 hM hW (fun q => (z11.mpr ?_).symm) (fun q => (z01.mpr ?_).symm)
  · rw [if_pos q] at hK
    obtain ⟨j, hj, rfl⟩ := inR_lt (by omega) q
    rw [n_clamp (by omega)] at hK
    refine p_plans hM hW (fun S1 q1 r1 k1 f1 => ?_)
    have rs := r1 j hj
    have go := hK S1 (hM.at (k1 0 (by omega))) (k1 1 (by omega)) (k1 2 (by omega)) f1
    rw [n_clamp (by omega), show S1 10 11 j = _ from rs.1]
    refine ⟨n_in (by omega) (by omega), fun z => ?_, fun z => ⟨n_in (by omega) (by omega), ?_⟩⟩
    · rw [if_pos z] at go; exact go
    · rw [if_neg z] at go
      rw [show S1 10 12 j = _ from (rs.2.2.2 z).1]
      exact go
  · rw [if_neg q] at hK; exact hK S hM rfl rfl (fun _ _ => rfl)
theorem x4_delayOf {x : Int32} (hM : MR S N) (hW : WF N) (hK : ∀ S', MR S' N → S' 10 1 = S 10 1 → S' 10 2 = S 10 2 → (∀ p, p ≠ 10 → S' p = S p) → K (qDelay x N) S') : w_X4_delayOf S x K := by
  unfold qDelay recOf at hK
  have hc := w_sc hW
  refine p_isShow4 hM hW (fun q => (z11.mpr ?_).symm) (fun q => (z01.mpr ?_).symm)
  · rw [if_pos q] at hK
    obtain ⟨j, hj, rfl⟩ := inR_lt (by omega) q
    rw [n_clamp (by omega)] at hK
    refine p_plans hM hW (fun S1 q1 r1 k1 f1 => ?_)
    have rs := r1 j hj
    rw [n_clamp (by omega), show S1 10 13 j = _ from rs.2.1]
    exact ⟨n_in (by omega) (by omega), hK S1 (hM.at (k1 0 (by omega))) (k1 1 (by omega)) (k1 2 (by omega)) f1⟩
  · rw [if_neg q] at hK; exact hK S hM rfl rfl (fun _ _ => rfl)
theorem x4_gapOf {x : Int32} (hM : MR S N) (hW : WF N) (hK : ∀ S', MR S' N → S' 10 1 = S 10 1 → S' 10 2 = S 10 2 → (∀ p, p ≠ 10 → S' p = S p) → K (qGap x N) S') : w_X4_gapOf S x K := by
  unfold qGap recOf at hK
  have hc := w_sc hW
  refine p_isShow4 hM hW (fun q => (z11.mpr ?_).symm) (fun q => (z01.mpr ?_).symm)
  · rw [if_pos q] at hK
    obtain ⟨j, hj, rfl⟩ := inR_lt (by omega) q
    rw [n_clamp (by omega)] at hK
    refine p_plans hM hW (fun S1 q1 r1 k1 f1 => ?_)
    have rs := r1 j hj
    rw [n_clamp (by omega), show S1 10 14 j = _ from rs.2.2.1]
    exact ⟨n_in (by omega) (by omega), hK S1 (hM.at (k1 0 (by omega))) (k1 1 (by omega)) (k1 2 (by omega)) f1⟩
  · rw [if_neg q] at hK; exact hK S hM rfl rfl (fun _ _ => rfl)
theorem x4_machineTime {x : Int32} (hM : MR S N) (hW : WF N) (hK : ∀ S', MR S' N → S' 10 1 = S 10 1 → S' 10 2 = S 10 2 → (∀ p, p ≠ 10 → S' p = S p) → K (qTime x N) S') : w_X4_machineTime S x K := by
  unfold qTime at hK
  have hc := w_mc hW
  refine p_isMachine4 hM hW (fun q => (z11.mpr ?_).symm) (fun q => (z01.mpr ?_).symm)
  · rw [if_pos q] at hK
    obtain ⟨j, hj, rfl⟩ := inR_lt (by omega) q
    rw [n_clamp (by omega)] at hK
    refine p_plans hM hW (fun S1 q1 r1 k1 f1 => ?_)
    rw [n_clamp (by omega), show S1 10 8 j = _ from q1 6 j (show j < 5 by omega)]
    exact ⟨n_in (by omega) (by omega), hK S1 (hM.at (k1 0 (by omega))) (k1 1 (by omega)) (k1 2 (by omega)) f1⟩
  · rw [if_neg q] at hK; exact hK S hM rfl rfl (fun _ _ => rfl)
theorem x4_loss (hM : MR S N) (hW : WF N) (hK : ∀ S', MR S' N → S' 10 1 = S 10 1 → S' 10 2 = S 10 2 → (∀ p, p ≠ 10 → S' p = S p) → K (planF N).2.1 S') : w_X4_loss S K := p_plans hM hW (fun S1 q1 r1 k1 f1 => hK S1 (hM.at (k1 0 (by omega))) (k1 1 (by omega)) (k1 2 (by omega)) f1)
theorem x4_carriedReels (hM : MR S N) (hW : WF N) (hK : ∀ S', MR S' N → S' 10 1 = S 10 1 → S' 10 2 = S 10 2 → (∀ p, p ≠ 10 → S' p = S p) → K ((planF N).1 7 0) S') : w_X4_carriedReels S K := by
  refine p_plans hM hW (fun S1 q1 r1 k1 f1 => ?_)
  rw [show S1 10 15 0 = _ from q1 7 0 (by decide)]
  exact hK S1 (hM.at (k1 0 (by omega))) (k1 1 (by omega)) (k1 2 (by omega)) f1
theorem x4_plateChanges (hM : MR S N) (hW : WF N) (hK : ∀ S', MR S' N → S' 10 1 = S 10 1 → S' 10 2 = S 10 2 → (∀ p, p ≠ 10 → S' p = S p) → K ((planF N).1 8 0) S') : w_X4_plateChanges S K := by
  refine p_plans hM hW (fun S1 q1 r1 k1 f1 => ?_)
  rw [show S1 10 16 0 = _ from q1 8 0 (by decide)]
  exact hK S1 (hM.at (k1 0 (by omega))) (k1 1 (by omega)) (k1 2 (by omega)) f1
/- set aside, taken back -/
def AR (S : St) (N : Row) : Prop := ∀ i, i < 111 → S 10 17 i = nI (N i)
theorem p_setsAside {K : St → Prop} (hM : MR S N) (hK : ∀ S', AR S' N → (∀ k, k ≠ 17 → S' 10 k = S 10 k) → (∀ p, p ≠ 10 → S' p = S p) → K S') : w_X4_setsAside S K := by
  refine ⟨fun n S' x => ∃ i, x = nI i ∧ i + n = 111 ∧ (∀ j, j < i → S' 10 17 j = nI (N j)) ∧ (∀ k, k ≠ 17 → S' 10 k = S 10 k) ∧ ∀ p, p ≠ 10 → S' p = S p, ⟨111, 0, nI_0.symm, rfl, fun j h => absurd h (Nat.not_lt_zero j), fun _ _ => rfl, fun _ _ => rfl⟩, ?_⟩
  rintro n S1 x ⟨i, rfl, hi, g, gk, gf⟩
  have m1 : MR S1 N := hM.at (gk 0 (by decide))
  rw [show (111 : Int32) = nI 111 from rfl, n_le (by omega) (by omega), n_clamp (by omega)]
  refine ⟨fun q => ?_, fun q => ⟨n_in (by omega) (by omega), n_in (by omega) (by omega), ?_⟩⟩
  · exact hK S1 (fun j hj => g j (by omega)) gk gf
  · rw [m1 i (by omega)]
    intro S2 e2 y ey
    refine ⟨n - 1, by omega, i + 1, by rw [ey, nI_1], by omega, fun j hj => ?_, fun k hk => by rw [e2, up3_fld (by omega)]; exact gk k hk, fun p hp => by rw [e2, up3_obj hp]; exact gf p hp⟩
    rw [e2, up3_at]
    by_cases z : j = i
    · rw [if_pos ⟨rfl, rfl, z⟩, z]
    · rw [if_neg (by omega)]; exact g j (by omega)
theorem p_takesBack {K : St → Prop} (hA : AR S N) (hK : ∀ S', MR S' N → (∀ k, k ≠ 0 → S' 10 k = S 10 k) → (∀ p, p ≠ 10 → S' p = S p) → K S') : w_X4_takesBack S K := by
  refine ⟨fun n S' x => ∃ i, x = nI i ∧ i + n = 111 ∧ (∀ j, j < i → S' 10 0 j = nI (N j)) ∧ (∀ k, k ≠ 0 → S' 10 k = S 10 k) ∧ ∀ p, p ≠ 10 → S' p = S p, ⟨111, 0, nI_0.symm, rfl, fun j h => absurd h (Nat.not_lt_zero j), fun _ _ => rfl, fun _ _ => rfl⟩, ?_⟩
  rintro n S1 x ⟨i, rfl, hi, g, gk, gf⟩
  rw [show (111 : Int32) = nI 111 from rfl, n_le (by omega) (by omega), n_clamp (by omega)]
  refine ⟨fun q => ?_, fun q => ⟨n_in (by omega) (by omega), n_in (by omega) (by omega), ?_⟩⟩
  · exact hK S1 (fun j hj => g j (by omega)) gk gf
  · rw [gk 17 (by decide), hA i (by omega)]
    intro S2 e2 y ey
    refine ⟨n - 1, by omega, i + 1, by rw [ey, nI_1], by omega, fun j hj => ?_, fun k hk => by rw [e2, up3_fld (by omega)]; exact gk k hk, fun p hp => by rw [e2, up3_obj hp]; exact gf p hp⟩
    rw [e2, up3_at]
    by_cases z : j = i
    · rw [if_pos ⟨rfl, rfl, z⟩, z]
    · rw [if_neg (by omega)]; exact g j (by omega)
end Q4
/- removalGain -/
def qGain (x : Int32) (N : Row) : Int32 := if inR x 0 ((N 67 : Int) - 1) then (planF N).2.1 - (planF (dropB x.toNatClampNeg (dropS x.toNatClampNeg N))).2.1 else -1000000
section G
variable {S : St} {N : Row} {K : Int32 → St → Prop}
theorem x3_removalGain {x : Int32} (hD : DR S 0 N) (hW : WF N) (hK : ∀ S', (∀ p, p ≠ 1 → p ≠ 8 → S' p = S p) → K (qGain x N) S') : w_X3_removalGain S x K := by
  unfold qGain at hK
  have hc := w_sc hW
  refine p_isShow3 hD hW (fun q => (z11.mpr ?_).symm) (fun q => (z01.mpr ?_).symm)
  · rw [if_pos q] at hK
    obtain ⟨j, hj, rfl⟩ := inR_lt (by omega) q
    rw [n_clamp (by omega)] at hK
    refine p_copyFrom (by decide) hD (fun S1 d1 f1 => p_dropShow d1 hW hj (dropB_low (by omega)) (fun S2 d2 f2 => ?_))
    have d02 : DR S2 0 N := (hD.at (f1 0 (by decide))).at (f2 0 (by decide))
    refine p_lossWith d02 (by decide) hW (fun S3 f3 => ?_)
    rw [drop_comm hW hj] at d2
    refine p_lossWith (d2.at (f3 1 (by decide))) (by decide) (dropB_wf (dropS_wf hW hj)) (fun S4 f4 => hK S4 (fun p h1 h8 => by rw [f4 p h8, f3 p h8, f2 p h1, f1 p h1]))
  · rw [if_neg q] at hK; exact hK S (fun _ _ _ => rfl)
theorem x4_removalGain {x : Int32} (hM : MR S N) (hW : WF N) (hK : ∀ S', MR S' N → S' 10 1 = S 10 1 → S' 10 2 = S 10 2 → (∀ p, p ≠ 10 → S' p = S p) → K (qGain x N) S') : w_X4_removalGain S x K := by
  unfold qGain at hK
  have hc := w_sc hW
  refine p_isShow4 hM hW (fun q => (z11.mpr ?_).symm) (fun q => (z01.mpr ?_).symm)
  · rw [if_pos q] at hK
    obtain ⟨j, hj, rfl⟩ := inR_lt (by omega) q
    rw [n_clamp (by omega)] at hK
    refine p_plans hM hW (fun S1 q1 r1 k1 f1 => p_setsAside (hM.at (k1 0 (by omega))) (fun S2 a2 k2 f2 => ?_))
    have m2 : MR S2 N := (hM.at (k1 0 (by omega))).at (k2 0 (by decide))
    refine p_goes m2 hW hj (fun S3 m3 k3 f3 => p_plans m3 (dropB_wf (dropS_wf hW hj)) (fun S4 q4 r4 k4 f4 => ?_))
    have a4 : AR S4 N := fun i hi => by rw [k4 17 (by omega), k3 17 (by decide)]; exact a2 i hi
    refine p_takesBack a4 (fun S5 m5 k5 f5 => hK S5 m5 ?_ ?_ (fun p hp => by rw [f5 p hp, f4 p hp, f3 p hp, f2 p hp, f1 p hp]))
    · rw [k5 1 (by decide), k4 1 (by omega), k3 1 (by decide), k2 1 (by decide), k1 1 (by omega)]
    · rw [k5 2 (by decide), k4 2 (by omega), k3 2 (by decide), k2 2 (by decide), k1 2 (by omega)]
  · rw [if_neg q] at hK; exact hK S hM rfl rfl (fun _ _ => rfl)
end G
