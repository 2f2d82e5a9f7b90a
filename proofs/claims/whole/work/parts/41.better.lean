/-! BETTER PLANS -/
theorem upN_upN {N : Row} {j v w : Nat} : upN (upN N j v) j w = upN N j w := by
  funext i
  unfold upN
  split <;> rfl
theorem upN_self {N : Row} {j : Nat} : upN N j (N j) = N := by
  funext i
  unfold upN
  split
  · rename_i h; rw [h]
  · rfl
def lsF (N : Row) (x : Nat) : Nat → Nat → Int32
  | 0, _ => -4
  | f + 1, k => if (planF (upN N (80 + x) (N (80 + x) + k))).2.1 = 0 then nI k else lsF N x f (k + 1)
def mostF (N : Row) (x : Nat) : Nat := if 1439 - N (80 + x) < 180 then 1439 - N (80 + x) else 180
def qShift (x : Int32) (N : Row) : Int32 := if inR x 0 ((N 67 : Int) - 1) then lsF N x.toNatClampNeg (mostF N x.toNatClampNeg + 1) 0 else -1
section L
variable {S : St} {N : Row} {K : Int32 → St → Prop}
theorem x3_leastShift {x : Int32} (hD : DR S 0 N) (hW : WF N) (hK : ∀ S', (∀ p, p ≠ 1 → p ≠ 8 → S' p = S p) → K (qShift x N) S') : w_X3_leastShift S x K := by
  unfold qShift at hK
  have hc := w_sc hW
  refine p_isShow3 hD hW (fun q => (z11.mpr ?_).symm) (fun q => (z01.mpr ?_).symm)
  · rw [if_pos q] at hK
    obtain ⟨j, hj, rfl⟩ := inR_lt (by omega) q
    rw [n_clamp (by omega)] at hK
    have hss := w_ss hW (i := j) (by omega)
    refine p_copyFrom (by decide) hD (fun S1 d1 f1 => ?_)
    have d01 : DR S1 0 N := hD.at (f1 0 (by decide))
    rw [n_clamp (by omega), d_ss d01 (by omega), show (1439 : Int32) = nI 1439 from rfl, n_sub (by omega), show (180 : Int32) = nI 180 from rfl]
    have hmost : (if nI (1439 - N (80 + j)) < nI 180 then nI (1439 - N (80 + j)) else nI 180) = nI (mostF N j) := by
      unfold mostF
      by_cases z : 1439 - N (80 + j) < 180
      · rw [if_pos ((n_lt (by omega) (by omega)).mpr z), if_pos z]
      · rw [if_neg (fun w => z ((n_lt (by omega) (by omega)).mp w)), if_neg z]
    rw [hmost]
    have hm : mostF N j ≤ 180 ∧ N (80 + j) + mostF N j ≤ 1439 := by unfold mostF; split <;> omega
    refine ⟨n_in (by omega) (by omega), ?_⟩
    rintro y40 rfl
    refine ⟨fun n S' x => ∃ k v, x = nI k ∧ k + n = mostF N j + 1 ∧ DR S' 1 (upN N (80 + j) v) ∧ lsF N j n k = lsF N j (mostF N j + 1) 0 ∧ ∀ p, p ≠ 1 → p ≠ 8 → S' p = S p, ⟨mostF N j + 1, 0, N (80 + j), nI_0.symm, by omega, by rw [upN_self]; exact d1, rfl, fun p h1 _ => f1 p h1⟩, ?_⟩
    rintro n S2 x ⟨k, v, rfl, hk, d2, hF, f2⟩
    have d02 : DR S2 0 N := hD.at (f2 0 (by decide) (by decide))
    rw [n_lt (by omega) (by omega), n_clamp (by omega), d_ss d02 (by omega), nI_add]
    refine ⟨fun z => ?_, fun z => ⟨n_in (by omega) (by omega), n_in (by omega) (by omega), ?_⟩⟩
    · have : n = 0 := by omega
      subst this
      have q := hK S2 f2
      rw [← hF] at q
      exact q
    · obtain ⟨c, rfl⟩ : ∃ c, n = c + 1 := ⟨n - 1, by omega⟩
      intro S3 e3
      have d3 : DR S3 1 (upN N (80 + j) (N (80 + j) + k)) := by
        have q := d2.put (k := 11) (i := j) (v := N (80 + j) + k) (by decide) (show j < 6 by omega)
        rw [show of 11 + j = 80 + j from rfl, upN_upN, ← e3] at q
        exact q
      have f3 : ∀ p, p ≠ 1 → p ≠ 8 → S3 p = S p := fun p h1 h8 => by rw [e3, up3_obj h1]; exact f2 p h1 h8
      have w3 : WF (upN N (80 + j) (N (80 + j) + k)) := hW.put (by rw [ub_ss j (by omega)]; omega)
      change (if (planF (upN N (80 + j) (N (80 + j) + k))).2.1 = 0 then nI k else lsF N j c (k + 1)) = _ at hF
      refine p_isSmooth d3 (by decide) w3 (fun S4 f4 => ?_)
      have f4' : ∀ p, p ≠ 1 → p ≠ 8 → S4 p = S p := fun p h1 h8 => by rw [f4 p h8]; exact f3 p h1 h8
      by_cases w : (planF (upN N (80 + j) (N (80 + j) + k))).2.1 = 0
      · rw [if_pos w] at hF ⊢
        refine z11.mpr ?_
        rw [hF]
        exact hK S4 f4'
      · rw [if_neg w] at hF ⊢
        refine z01.mpr ?_
        intro y ey
        exact ⟨c, by omega, k + 1, _, by rw [ey, nI_1], by omega, d3.at (f4 1 (by decide)), hF, f4'⟩
  · rw [if_neg q] at hK; exact hK S (fun _ _ _ => rfl)
theorem x4_leastShift {x : Int32} (hM : MR S N) (hW : WF N) (hK : ∀ S', MR S' N → S' 10 1 = S 10 1 → S' 10 2 = S 10 2 → (∀ p, p ≠ 10 → S' p = S p) → K (qShift x N) S') : w_X4_leastShift S x K := by
  unfold qShift at hK
  have hc := w_sc hW
  refine p_isShow4 hM hW (fun q => (z11.mpr ?_).symm) (fun q => (z01.mpr ?_).symm)
  · rw [if_pos q] at hK
    obtain ⟨j, hj, rfl⟩ := inR_lt (by omega) q
    rw [n_clamp (by omega)] at hK
    have hss := w_ss hW (i := j) (by omega)
    have hm : mostF N j ≤ 180 ∧ N (80 + j) + mostF N j ≤ 1439 ∧ (mostF N j = 180 ∨ N (80 + j) + mostF N j = 1439) := by unfold mostF; split <;> omega
    refine p_setsAside hM (fun S1 a1 k1 f1 => ?_)
    have m1 : MR S1 N := hM.at (k1 0 (by decide))
    have fin : ∀ S' : St, AR S' N → S' 10 1 = S 10 1 → S' 10 2 = S 10 2 → (∀ p, p ≠ 10 → S' p = S p) → w_X4_leastShift_87 K S' (lsF N j (mostF N j + 1) 0) := fun S' a e1 e2 f => p_takesBack a (fun S5 m5 k5 f5 => hK S5 m5 (by rw [k5 1 (by decide)]; exact e1) (by rw [k5 2 (by decide)]; exact e2) (fun p hp => by rw [f5 p hp]; exact f p hp))
    refine ⟨fun n S' x y => AR S' N ∧ S' 10 1 = S 10 1 ∧ S' 10 2 = S 10 2 ∧ (∀ p, p ≠ 10 → S' p = S p) ∧ ∃ k, y = nI k ∧ k ≤ 181 ∧ ((∃ f v, n = f + 1 ∧ x = -4 ∧ k + f = mostF N j + 1 ∧ MR S' (upN N (80 + j) v) ∧ lsF N j f k = lsF N j (mostF N j + 1) 0) ∨ (x = lsF N j (mostF N j + 1) 0 ∧ 0 ≤ x)), ⟨mostF N j + 2, a1, k1 1 (by decide), k1 2 (by decide), f1, 0, nI_0.symm, by omega, Or.inl ⟨mostF N j + 1, N (80 + j), rfl, rfl, by omega, by rw [upN_self]; exact m1, rfl⟩⟩, ?_⟩
    rintro n S2 x y ⟨a2, e1, e2, f2, k, rfl, hk181, hx⟩
    rw [show (180 : Int32) = nI 180 from rfl, n_lt (by omega) (by omega)]
    rcases hx with ⟨f, v, rfl, rfl, hkf, m2, hF⟩ | ⟨hx, hx0⟩
    · rw [show (80 : Int32) = nI 80 from rfl, nI_add, n_clamp (by omega), a2 _ (by omega), nI_add, show (1439 : Int32) = nI 1439 from rfl, n_lt (by omega) (by omega)]
      have ex : f = 0 → w_X4_leastShift_87 K S2 (-4) := fun z => by
        subst z
        have q := fin S2 a2 e1 e2 f2
        rw [← hF] at q
        exact q
      refine ⟨fun z => ex (by omega), fun z => ⟨fun z2 => absurd z2 (by decide), fun _ => ⟨n_in (by omega) (by omega), fun z3 => ex (by omega), fun z3 => ⟨n_in (by omega) (by omega), n_in (by omega) (by omega), ?_⟩⟩⟩⟩
      obtain ⟨c, rfl⟩ : ∃ c, f = c + 1 := ⟨f - 1, by omega⟩
      intro S3 e3
      have m3 : MR S3 (upN N (80 + j) (N (80 + j) + k)) := by
        have q := m2.put (80 + j) (N (80 + j) + k)
        rw [upN_upN, ← e3] at q
        exact q
      have w3 : WF (upN N (80 + j) (N (80 + j) + k)) := hW.put (by rw [ub_ss j (by omega)]; omega)
      change (if (planF (upN N (80 + j) (N (80 + j) + k))).2.1 = 0 then nI k else lsF N j c (k + 1)) = _ at hF
      refine p_plans m3 w3 (fun S4 q4 r4 k4 f4 => ?_)
      have a4 : AR S4 N := fun i hi => by rw [k4 17 (by omega), e3, up3_fld (by omega)]; exact a2 i hi
      have g1 : S4 10 1 = S 10 1 := by rw [k4 1 (by omega), e3, up3_fld (by omega)]; exact e1
      have g2 : S4 10 2 = S 10 2 := by rw [k4 2 (by omega), e3, up3_fld (by omega)]; exact e2
      have g3 : ∀ p, p ≠ 10 → S4 p = S p := fun p hp => by rw [f4 p hp, e3, up3_obj hp]; exact f2 p hp
      refine ⟨fun w => ?_, fun w => ?_⟩
      · rw [if_neg w] at hF
        intro y ey
        exact ⟨c + 1, by omega, a4, g1, g2, g3, k + 1, by rw [ey, nI_1], by omega, Or.inl ⟨c, _, rfl, rfl, by omega, m3.at (k4 0 (by omega)), hF⟩⟩
      · rw [if_pos w] at hF
        intro y ey
        exact ⟨0, by omega, a4, g1, g2, g3, k + 1, by rw [ey, nI_1], by omega, Or.inr ⟨hF, nI_pos' (by omega)⟩⟩
    · have q := fin S2 a2 e1 e2 f2
      rw [← hx] at q
      exact ⟨fun _ => q, fun _ => ⟨fun _ => q, fun z => absurd hx0 z⟩⟩
  · rw [if_neg q] at hK; exact hK S hM rfl rfl (fun _ _ => rfl)
end L
/- bestHomes -/
def HM (m : Nat) (N : Row) : Row := fun i => if 52 ≤ i ∧ i < 56 then m / 2 ^ (i - 52) % 2 else N i
theorem home_eq {m : Nat} {N M : Row} (h : ∀ i, ¬ (52 ≤ i ∧ i < 56) → M i = N i) : homeF m 4 0 M = HM m N := by
  funext i
  show upN (upN (upN (upN M (52 + 0) (m / 2 ^ 0 % 2)) (52 + (0 + 1)) (m / 2 ^ (0 + 1) % 2)) (52 + (0 + 1 + 1)) (m / 2 ^ (0 + 1 + 1) % 2)) (52 + (0 + 1 + 1 + 1)) (m / 2 ^ (0 + 1 + 1 + 1) % 2) i = _
  unfold HM upN
  by_cases z0 : i = 52
  · subst z0; rfl
  · by_cases z1 : i = 53
    · subst z1; rfl
    · by_cases z2 : i = 54
      · subst z2; rfl
      · by_cases z3 : i = 55
        · subst z3; rfl
        · rw [if_neg (by omega), if_neg (by omega), if_neg (by omega), if_neg (by omega), if_neg (by omega)]
          exact h i (by omega)
theorem HM_out {m : Nat} {N : Row} : ∀ i, ¬ (52 ≤ i ∧ i < 56) → HM m N i = N i := fun i h => if_neg h
theorem HM_wf {m : Nat} {N : Row} (hW : WF N) : WF (HM m N) := by
  intro i hi
  unfold HM
  split
  · rename_i h
    have e : ub i = 1 := by
      have := ub_home (i - 52) (by omega)
      rw [show 52 + (i - 52) = i by omega] at this
      exact this
    rw [e]
    have := Nat.mod_lt (m / 2 ^ (i - 52)) (show 2 > 0 by omega)
    omega
  · exact hW i hi
def bhF (N : Row) : Nat → Nat → Nat → Int32 → Nat
  | 0, _, b, _ => b
  | f + 1, m, b, l => if l ≤ (planF (HM m N)).2.1 then bhF N f (m + 1) b l else bhF N f (m + 1) m (planF (HM m N)).2.1
def qBest (N : Row) : Int32 := nI (bhF N 15 1 0 (planF (HM 0 N)).2.1)
section H
variable {S : St} {N : Row} {K : Int32 → St → Prop}
theorem x3_bestHomes (hD : DR S 0 N) (hW : WF N) (hK : ∀ S', (∀ p, p ≠ 1 → p ≠ 8 → S' p = S p) → K (qBest N) S') : w_X3_bestHomes S K := by
  refine p_copyFrom (by decide) hD (fun S1 d1 f1 => ?_)
  refine p_setHomes (m := 0) d1 (by decide) (fun S2 d2 f2 => ?_)
  rw [home_eq (fun _ _ => rfl)] at d2
  refine p_lossWith d2 (by decide) (HM_wf hW) (fun S3 f3 => ?_)
  refine ⟨fun n S' x y z => ∃ m b, z = nI m ∧ x = nI b ∧ m + n = 16 ∧ b < 16 ∧ (∃ m', DR S' 1 (HM m' N)) ∧ bhF N n m b y = bhF N 15 1 0 (planF (HM 0 N)).2.1 ∧ ∀ p, p ≠ 1 → p ≠ 8 → S' p = S p, ⟨15, 1, 0, rfl, nI_0.symm, rfl, by omega, ⟨0, d2.at (f3 1 (by decide))⟩, rfl, fun p h1 h8 => by rw [f3 p h8, f2 p h1, f1 p h1]⟩, ?_⟩
  rintro n S4 x l z ⟨m, b, rfl, rfl, hm, hb, ⟨m', d4⟩, hF, f4⟩
  rw [show (16 : Int32) = nI 16 from rfl, n_le (by omega) (by omega)]
  refine ⟨fun w => ?_, fun w => ?_⟩
  · have : n = 0 := by omega
    subst this
    have q := hK S4 f4
    unfold qBest at q
    rw [← hF] at q
    exact q
  · obtain ⟨c, rfl⟩ : ∃ c, n = c + 1 := ⟨n - 1, by omega⟩
    refine p_setHomes d4 (by omega) (fun S5 d5 f5 => ?_)
    rw [home_eq (N := N) HM_out] at d5
    refine p_lossWith d5 (by decide) (HM_wf hW) (fun S6 f6 => ?_)
    change (if l ≤ (planF (HM m N)).2.1 then bhF N c (m + 1) b l else bhF N c (m + 1) m (planF (HM m N)).2.1) = _ at hF
    have f6' : ∀ p, p ≠ 1 → p ≠ 8 → S6 p = S p := fun p h1 h8 => by rw [f6 p h8, f5 p h1]; exact f4 p h1 h8
    refine ⟨fun v => ?_, fun v => ?_⟩
    · rw [if_pos v] at hF
      intro y ey
      exact ⟨c, by omega, m + 1, b, by rw [ey, nI_1], rfl, by omega, hb, ⟨m, d5.at (f6 1 (by decide))⟩, hF, f6'⟩
    · rw [if_neg v] at hF
      intro y ey
      exact ⟨c, by omega, m + 1, m, by rw [ey, nI_1], rfl, by omega, by omega, ⟨m, d5.at (f6 1 (by decide))⟩, hF, f6'⟩
theorem x4_bestHomes (hM : MR S N) (hW : WF N) (hK : ∀ S', MR S' N → S' 10 1 = S 10 1 → S' 10 2 = S 10 2 → (∀ p, p ≠ 10 → S' p = S p) → K (qBest N) S') : w_X4_bestHomes S K := by
  refine p_setsAside hM (fun S1 a1 k1 f1 => ?_)
  have m1 : MR S1 N := hM.at (k1 0 (by decide))
  refine ⟨fun n S' x y z => AR S' N ∧ S' 10 1 = S 10 1 ∧ S' 10 2 = S 10 2 ∧ (∀ p, p ≠ 10 → S' p = S p) ∧ ∃ m b M, z = nI m ∧ x = nI b ∧ m + n = 16 ∧ b < 16 ∧ MR S' M ∧ (∀ i, ¬ (52 ≤ i ∧ i < 56) → M i = N i) ∧ (m = 0 ∨ bhF N n m b y = bhF N 15 1 0 (planF (HM 0 N)).2.1), ⟨16, a1, k1 1 (by decide), k1 2 (by decide), f1, 0, 0, N, nI_0.symm, nI_0.symm, rfl, by omega, m1, fun _ _ => rfl, Or.inl rfl⟩, ?_⟩
  rintro n S2 x l z ⟨a2, e1, e2, f2, m, b, M, rfl, rfl, hm, hb, m2, hout, hF⟩
  rw [show (16 : Int32) = nI 16 from rfl, n_le (by omega) (by omega)]
  refine ⟨fun w => ?_, fun w => ?_⟩
  · have : n = 0 := by omega
    subst this
    rcases hF with hF | hF
    · omega
    · refine p_takesBack a2 (fun S5 m5 k5 f5 => ?_)
      have q := hK S5 m5 (by rw [k5 1 (by decide)]; exact e1) (by rw [k5 2 (by decide)]; exact e2) (fun p hp => by rw [f5 p hp]; exact f2 p hp)
      unfold qBest at q
      rw [← hF] at q
      exact q
  · obtain ⟨c, rfl⟩ : ∃ c, n = c + 1 := ⟨n - 1, by omega⟩
    -- the homes of the mask m
    refine ⟨fun t S' y => ∃ f P, y = nI f ∧ f + t = 4 ∧ MR S' P ∧ homeF m t f P = HM m N ∧ (∀ k, k ≠ 0 → S' 10 k = S2 10 k) ∧ ∀ p, p ≠ 10 → S' p = S p, ⟨4, 0, M, nI_0.symm, rfl, m2, home_eq hout, fun _ _ => rfl, f2⟩, ?_⟩
    rintro t S3 y ⟨f, P, rfl, hft, m3, hP, k3, f3⟩
    rw [show (4 : Int32) = nI 4 from rfl, n_le (by omega) (by omega)]
    refine ⟨fun v => ?_, fun v => ?_⟩
    · have : t = 0 := by omega
      subst this
      have hP : P = HM m N := hP
      subst hP
      refine p_plans m3 (HM_wf hW) (fun S4 q4 r4 k4 f4 => ?_)
      have a4 : AR S4 N := fun i hi => by rw [k4 17 (by omega), k3 17 (by decide)]; exact a2 i hi
      have g1 : S4 10 1 = S 10 1 := by rw [k4 1 (by omega), k3 1 (by decide)]; exact e1
      have g2 : S4 10 2 = S 10 2 := by rw [k4 2 (by omega), k3 2 (by decide)]; exact e2
      have g3 : ∀ p, p ≠ 10 → S4 p = S p := fun p hp => by rw [f4 p hp]; exact f3 p hp
      have m4 : MR S4 (HM m N) := m3.at (k4 0 (by omega))
      rw [show (0 : Int32) = nI 0 from rfl, n_eq (by omega) (by omega)]
      refine ⟨fun u => ?_, fun u => ?_⟩
      · subst u
        intro y ey
        exact ⟨c, by omega, a4, g1, g2, g3, 1, 0, _, by rw [ey, nI_1], rfl, by omega, by omega, m4, HM_out, Or.inr (by rw [show c = 15 by omega])⟩
      · rcases hF with hF | hF
        · exact absurd hF u
        · change (if l ≤ (planF (HM m N)).2.1 then bhF N c (m + 1) b l else bhF N c (m + 1) m (planF (HM m N)).2.1) = _ at hF
          refine ⟨fun w2 => ?_, fun w2 => ?_⟩
          · rw [if_pos w2] at hF
            intro y ey
            exact ⟨c, by omega, a4, g1, g2, g3, m + 1, b, _, by rw [ey, nI_1], rfl, by omega, hb, m4, HM_out, Or.inr hF⟩
          · rw [if_neg w2] at hF
            intro y ey
            exact ⟨c, by omega, a4, g1, g2, g3, m + 1, m, _, by rw [ey, nI_1], rfl, by omega, by omega, m4, HM_out, Or.inr hF⟩
    · obtain ⟨d, rfl⟩ : ∃ d, t = d + 1 := ⟨t - 1, by omega⟩
      rw [show (52 : Int32) = nI 52 from rfl, nI_add, n_clamp (by omega), bit_of m (List.mem_range.mpr (by omega)) f (List.mem_range.mpr (by omega))]
      refine ⟨n_in (by omega) (by omega), ?_⟩
      intro S4 e4 y ey
      have m4 := m3.put (52 + f) (m / 2 ^ f % 2)
      rw [← e4] at m4
      exact ⟨d, by omega, f + 1, _, by rw [ey, nI_1], by omega, m4, hP, fun k hk => by rw [e4, up3_fld (by omega)]; exact k3 k hk, fun p hp => by rw [e4, up3_obj hp]; exact f3 p hp⟩
end H
/- missingMachines -/
def addM (h : Nat) (N : Row) : Row := upN (upN N (57 + N 56) h) 56 (N 56 + 1)
def mmF (h : Nat) : Nat → Nat → Row → Int32
  | 0, _, _ => -4
  | f + 1, n, M => if (planF M).2.1 = 0 then nI n else mmF h f (n + 1) (addM h M)
def qMiss (x : Int32) (N : Row) : Int32 := if inR x 0 1 then mmF x.toNatClampNeg (6 - N 56) 0 N else -1
theorem addM_wf {h : Nat} {N : Row} (hW : WF N) (hh : h < 2) (hc : N 56 < 5) : WF (addM h N) := (hW.put (by rw [ub_mh _ (by omega)]; omega)).put (show _ ≤ 5 by omega)
theorem addM_56 {h : Nat} {N : Row} : addM h N 56 = N 56 + 1 := upN_eq
section X
variable {S : St} {N : Row} {K : Int32 → St → Prop}
theorem x3_missingMachines {x : Int32} (hD : DR S 0 N) (hW : WF N) (hK : ∀ S', (∀ p, p ≠ 1 → p ≠ 8 → S' p = S p) → K (qMiss x N) S') : w_X3_missingMachines S x K := by
  unfold qMiss at hK
  have hc := w_mc hW
  refine g3b (a := 0) (b := 1) rfl rfl (fun q => ?_) (fun q => ?_)
  · rw [if_pos q] at hK
    obtain ⟨h, hh, rfl⟩ := i_house q
    rw [n_clamp (by omega)] at hK
    generalize hFin : mmF h (6 - N 56) 0 N = F at hK
    obtain ⟨c0, hc0⟩ : ∃ c, 6 - N 56 = c + 1 := ⟨6 - N 56 - 1, by omega⟩
    rw [hc0] at hFin
    change (if (planF N).2.1 = 0 then nI 0 else mmF h c0 (0 + 1) (addM h N)) = _ at hFin
    refine p_copyFrom (by decide) hD (fun S1 d1 f1 => p_isSmooth d1 (by decide) hW (fun S2 f2 => ?_))
    have f2' : ∀ p, p ≠ 1 → p ≠ 8 → S2 p = S p := fun p h1 h8 => by rw [f2 p h8, f1 p h1]
    by_cases w : (planF N).2.1 = 0
    · rw [if_pos w] at hFin ⊢
      refine z11.mpr ?_
      rw [← hFin] at hK
      exact hK S2 f2'
    · rw [if_neg w] at hFin ⊢
      refine z01.mpr ?_
      have d02 : DR S2 0 N := hD.at (f2' 0 (by decide) (by decide))
      rw [d_mc d02, show (5 : Int32) = nI 5 from rfl, n_sub (by omega)]
      rintro y47 rfl
      refine ⟨fun n S' x => ∃ k M, x = nI k ∧ 1 ≤ k ∧ k + n = 5 - N 56 + 1 ∧ DR S' 1 M ∧ WF M ∧ M 56 + 1 = N 56 + k ∧ mmF h n k (addM h M) = F ∧ ∀ p, p ≠ 1 → p ≠ 8 → S' p = S p, ⟨5 - N 56, 1, N, rfl, Nat.le_refl _, by omega, d1.at (f2 1 (by decide)), hW, rfl, by rw [show 5 - N 56 = c0 by omega]; exact hFin, f2'⟩, ?_⟩
      rintro n S3 x ⟨k, M, rfl, hk1, hkn, d3, w3, h56, hF, f3⟩
      rw [n_lt (by omega) (by omega)]
      refine ⟨fun z => ?_, fun z => ?_⟩
      · have : n = 0 := by omega
        subst this
        have hF : -4 = F := hF
        rw [← hF] at hK
        exact hK S3 f3
      · obtain ⟨c, rfl⟩ : ∃ c, n = c + 1 := ⟨n - 1, by omega⟩
        refine p_appendMachine d3 (by omega) (fun S4 d4 f4 => ?_)
        have d4 : DR S4 1 (addM h M) := d4
        have w4 : WF (addM h M) := addM_wf w3 hh (by omega)
        change (if (planF (addM h M)).2.1 = 0 then nI k else mmF h c (k + 1) (addM h (addM h M))) = _ at hF
        refine p_isSmooth d4 (by decide) w4 (fun S5 f5 => ?_)
        have f5' : ∀ p, p ≠ 1 → p ≠ 8 → S5 p = S p := fun p h1 h8 => by rw [f5 p h8, f4 p h1]; exact f3 p h1 h8
        by_cases v : (planF (addM h M)).2.1 = 0
        · rw [if_pos v] at hF ⊢
          refine z11.mpr ?_
          rw [hF]
          exact hK S5 f5'
        · rw [if_neg v] at hF ⊢
          refine z01.mpr ?_
          intro y ey
          exact ⟨c, by omega, k + 1, addM h M, by rw [ey, nI_1], by omega, by omega, d4.at (f5 1 (by decide)), w4, by rw [addM_56]; omega, hF, f5'⟩
  · rw [if_neg q] at hK; exact hK S (fun _ _ _ => rfl)
theorem x4_missingMachines {x : Int32} (hM : MR S N) (hW : WF N) (hK : ∀ S', MR S' N → S' 10 1 = S 10 1 → S' 10 2 = S 10 2 → (∀ p, p ≠ 10 → S' p = S p) → K (qMiss x N) S') : w_X4_missingMachines S x K := by
  unfold qMiss at hK
  have hc := w_mc hW
  refine g4b (a := 0) (b := 1) (S := S) rfl rfl (fun q => ?_) (fun q => ?_)
  · rw [if_pos q] at hK
    obtain ⟨h, hh, rfl⟩ := i_house q
    rw [n_clamp (by omega)] at hK
    generalize hFin : mmF h (6 - N 56) 0 N = F at hK
    refine p_setsAside hM (fun S1 a1 k1 f1 => ?_)
    have m1 : MR S1 N := hM.at (k1 0 (by decide))
    have fin : ∀ S' : St, AR S' N → S' 10 1 = S 10 1 → S' 10 2 = S 10 2 → (∀ p, p ≠ 10 → S' p = S p) → w_X4_missingMachines_91 K S' F := fun S' a e1 e2 f => p_takesBack a (fun S5 m5 k5 f5 => hK S5 m5 (by rw [k5 1 (by decide)]; exact e1) (by rw [k5 2 (by decide)]; exact e2) (fun p hp => by rw [f5 p hp]; exact f p hp))
    refine ⟨fun n S' x y => AR S' N ∧ S' 10 1 = S 10 1 ∧ S' 10 2 = S 10 2 ∧ (∀ p, p ≠ 10 → S' p = S p) ∧ ∃ k, y = nI k ∧ ((∃ f M, n = f + 2 ∧ x = -4 ∧ k + f ≤ 5 ∧ M 56 + f = 5 ∧ MR S' M ∧ WF M ∧ mmF h (f + 1) k M = F) ∨ (x = -4 ∧ F = -4 ∧ S' 10 0 56 = nI 6) ∨ (x = F ∧ 0 ≤ x)), ⟨5 - N 56 + 2, a1, k1 1 (by decide), k1 2 (by decide), f1, 0, nI_0.symm, Or.inl ⟨5 - N 56, N, rfl, rfl, by omega, by omega, m1, hW, by rw [show 5 - N 56 + 1 = 6 - N 56 by omega]; exact hFin⟩⟩, ?_⟩
    rintro n S2 x y ⟨a2, e1, e2, f2, k, rfl, hx⟩
    rcases hx with ⟨f, M, rfl, rfl, hk6, h56, m2, w2, hF⟩ | ⟨rfl, hF, h56⟩ | ⟨hx, hx0⟩
    · have hM5 := w_mc w2
      rw [m2 56 (by omega), show (5 : Int32) = nI 5 from rfl, n_lt (by omega) (by omega)]
      refine ⟨fun z => absurd z (by decide), fun _ => ⟨fun z => by omega, fun _ => ?_⟩⟩
      change (if (planF M).2.1 = 0 then nI k else mmF h f (k + 1) (addM h M)) = _ at hF
      refine p_plans m2 w2 (fun S3 q3 r3 k3 f3 => ?_)
      have m3 : MR S3 M := m2.at (k3 0 (by omega))
      have go : ∀ t : Int32, ((t = -4 ∧ mmF h f (k + 1) (addM h M) = F) ∨ (t = F ∧ 0 ≤ t)) → w_X4_missingMachines_46 K (fun (S' : St) (x y : Int32) => ∃ n' : Nat, n' < f + 2 ∧ AR S' N ∧ S' 10 1 = S 10 1 ∧ S' 10 2 = S 10 2 ∧ (∀ p, p ≠ 10 → S' p = S p) ∧ ∃ k, y = nI k ∧ ((∃ f M, n' = f + 2 ∧ x = -4 ∧ k + f ≤ 5 ∧ M 56 + f = 5 ∧ MR S' M ∧ WF M ∧ mmF h (f + 1) k M = F) ∨ (x = -4 ∧ F = -4 ∧ S' 10 0 56 = nI 6) ∨ (x = F ∧ 0 ≤ x))) S3 (nI h) (nI k) t := by
        intro t ht
        unfold w_X4_missingMachines_46 w_X4_missingMachines_74
        rw [m3 56 (by omega), show (5 : Int32) = nI 5 from rfl, n_le (by omega) (by omega), show (57 : Int32) = nI 57 from rfl, nI_add, n_clamp (by omega)]
        have base : ∀ S4 : St, (∀ k, k ≠ 0 → S4 10 k = S3 10 k) → (∀ p, p ≠ 10 → S4 p = S3 p) → AR S4 N ∧ S4 10 1 = S 10 1 ∧ S4 10 2 = S 10 2 ∧ ∀ p, p ≠ 10 → S4 p = S p := fun S4 g4 h4 => ⟨fun i hi => by rw [g4 17 (by decide), k3 17 (by omega)]; exact a2 i hi, by rw [g4 1 (by decide), k3 1 (by omega)]; exact e1, by rw [g4 2 (by decide), k3 2 (by omega)]; exact e2, fun p hp => by rw [h4 p hp, f3 p hp]; exact f2 p hp⟩
        refine ⟨fun z => ?_, fun z => ⟨n_in (by omega) (by omega), ?_⟩⟩
        · have : f = 0 := by omega
          subst this
          have e5 : M 56 = 5 := by omega
          rw [e5, nI_1]
          intro S4 e4 y ey
          obtain ⟨b1, b2, b3, b4⟩ := base S4 (fun k hk => by rw [e4, up3_fld (by omega)]) (fun p hp => by rw [e4, up3_obj hp])
          refine ⟨0, by omega, b1, b2, b3, b4, k + 1, by rw [ey, nI_1], ?_⟩
          rcases ht with ⟨t1, t2⟩ | t1
          · exact Or.inr (Or.inl ⟨t1, t2.symm, by rw [e4, up3_at, if_pos ⟨rfl, rfl, rfl⟩]⟩)
          · exact Or.inr (Or.inr t1)
        · intro S4 e4
          have m4 := m3.put (57 + M 56) h
          rw [← e4] at m4
          rw [m4 56 (by omega), upN_ne (by omega), nI_1]
          intro S5 e5 y ey
          have m5 := m4.put 56 (M 56 + 1)
          rw [← e5] at m5
          have m5 : MR S5 (addM h M) := m5
          obtain ⟨b1, b2, b3, b4⟩ := base S5 (fun k hk => by rw [e5, up3_fld (by omega), e4, up3_fld (by omega)]) (fun p hp => by rw [e5, up3_obj hp, e4, up3_obj hp])
          obtain ⟨c, rfl⟩ : ∃ c, f = c + 1 := ⟨f - 1, by omega⟩
          refine ⟨c + 2, by omega, b1, b2, b3, b4, k + 1, by rw [ey, nI_1], ?_⟩
          rcases ht with ⟨t1, t2⟩ | t1
          · exact Or.inl ⟨c, addM h M, rfl, t1, by omega, by rw [addM_56]; omega, m5, addM_wf w2 hh (by omega), t2⟩
          · exact Or.inr (Or.inr t1)
      refine ⟨fun v => ?_, fun v => ?_⟩
      · rw [if_neg v] at hF
        exact go _ (Or.inl ⟨rfl, hF⟩)
      · rw [if_pos v] at hF
        exact go _ (Or.inr ⟨hF, nI_pos' (by omega)⟩)
    · have q := fin S2 a2 e1 e2 f2
      rw [hF] at q
      refine ⟨fun _ => q, fun _ => ⟨fun _ => q, fun z => absurd ?_ z⟩⟩
      rw [h56]
      decide
    · have q := fin S2 a2 e1 e2 f2
      rw [← hx] at q
      exact ⟨fun _ => q, fun z => absurd hx0 z⟩
  · rw [if_neg q] at hK; exact hK S hM rfl rfl (fun _ _ => rfl)
end X
