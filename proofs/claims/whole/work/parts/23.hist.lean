/-! THE HISTORY: h j the row of the j-th day that is remembered, n how many -/
def HR (S : St) (h : Nat → Row) (n : Nat) : Prop := S 7 1 0 = nI n ∧ n ≤ 5 ∧ ∃ id : Nat → Nat, (∀ j, j < 5 → S 7 0 j = nI (id j) ∧ 2 ≤ id j ∧ id j ≤ 6) ∧ (∀ i j, i < 5 → j < 5 → id i = id j → i = j) ∧ ∀ j, j < n → DR S (id j) (h j)
def pushH (h : Nat → Row) (n : Nat) (N : Row) : Nat → Row := if n = 5 then fun j => if j = 4 then N else h (j + 1) else fun j => if j = n then N else h j
def pushn (n : Nat) : Nat := if n = 5 then 5 else n + 1
theorem HR.at {S S' : St} {h : Nat → Row} {n : Nat} (hH : HR S h n) (e : ∀ p, 2 ≤ p → p ≤ 7 → S' p = S p) : HR S' h n := by
  obtain ⟨h1, h2, id, h3, h4, h5⟩ := hH
  refine ⟨by rw [e 7 (by omega) (by omega)]; exact h1, h2, id, fun j hj => by rw [e 7 (by omega) (by omega)]; exact h3 j hj, h4, fun j hj => (h5 j hj).at (e _ (h3 j (by omega)).2.1 (by have := (h3 j (by omega)).2.2; omega))⟩
theorem p_forgetOldest {S : St} {h : Nat → Row} {K : St → Prop} (hH : HR S h 5) (hK : ∀ S', HR S' (fun j => h (j + 1)) 4 → (∀ p, p ≠ 7 → S' p = S p) → K S') : w_X1_forgetOldest S K := by
  obtain ⟨h1, -, id, h3, h4, h5⟩ := hH
  have b0 := h3 0 (by decide)
  unfold w_X1_forgetOldest
  rw [b0.1, n_clamp (by omega)]
  rintro d5 rfl
  refine ⟨by omega, ?_⟩
  refine ⟨fun n S' x => ∃ i, x = nI i ∧ 1 ≤ i ∧ i + n = 5 ∧ S' 7 1 0 = nI 5 ∧ (∀ j, j < 5 → S' 7 0 j = nI (if j + 1 < i then id (j + 1) else id j)) ∧ ∀ p, p ≠ 7 → S' p = S p, ⟨4, 1, rfl, Nat.le_refl _, rfl, h1, fun j hj => by rw [if_neg (by omega)]; exact (h3 j hj).1, fun _ _ => rfl⟩, ?_⟩
  rintro n S' x ⟨i, rfl, hi1, hin, g1, g2, hfr⟩
  rw [show (5 : Int32) = nI 5 from rfl, n_le (by omega) (by omega)]
  refine ⟨fun q => ?_, fun q => ?_⟩
  · have : i = 5 := by omega
    subst this
    intro S2 e2 S3 e3
    have r1 : S2 7 1 0 = nI 5 := by rw [e2, up3_at, if_neg (by omega)]; exact g1
    rw [r1, show (1 : Int32) = nI 1 from rfl, n_sub (by omega)] at e3
    have fr : ∀ p, p ≠ 7 → S3 p = S p := fun p hp => by rw [e3, up3_obj hp, e2, up3_obj hp]; exact hfr p hp
    refine hK S3 ⟨by rw [e3, up3_at, if_pos ⟨rfl, rfl, rfl⟩], by omega, fun j => if j = 4 then id 0 else id (j + 1), fun j hj => ?_, fun a b ha hb hab => ?_, fun j hj => ?_⟩ fr
    · have e : S3 7 0 j = S2 7 0 j := by rw [e3, up3_at, if_neg (by omega)]
      rw [e, e2, up3_at]
      by_cases z : j = 4
      · rw [if_pos ⟨rfl, rfl, z⟩]
        simp only [if_pos z]
        exact ⟨trivial, b0.2⟩
      · rw [if_neg (fun w => z w.2.2)]
        simp only [if_neg z]
        rw [g2 j hj, if_pos (by omega)]
        exact ⟨rfl, (h3 (j + 1) (by omega)).2⟩
    · simp only at hab
      by_cases za : a = 4 <;> by_cases zb : b = 4
      · omega
      · rw [if_pos za, if_neg zb] at hab
        have := h4 0 (b + 1) (by omega) (by omega) hab
        omega
      · rw [if_neg za, if_pos zb] at hab
        have := h4 (a + 1) 0 (by omega) (by omega) hab
        omega
      · rw [if_neg za, if_neg zb] at hab
        have := h4 (a + 1) (b + 1) (by omega) (by omega) hab
        omega
    · simp only [if_neg (show ¬ j = 4 by omega)]
      have b := h3 (j + 1) (by omega)
      exact (h5 (j + 1) (by omega)).at (fr _ (by omega))
  · obtain ⟨c, rfl⟩ : ∃ c, n = c + 1 := ⟨n - 1, by omega⟩
    have b := h3 i (by omega)
    refine ⟨n_in (by omega) (by omega), ?_⟩
    rw [n_clamp (by omega), g2 i (by omega), if_neg (by omega), n_clamp (by omega)]
    rintro d rfl
    rw [show (1 : Int32) = nI 1 from rfl, n_sub (by omega), n_clamp (by omega)]
    refine ⟨by omega, n_in (by omega) (by omega), ?_⟩
    intro S2 e2 y ey
    refine ⟨c, by omega, i + 1, by rw [ey, nI_add], by omega, by omega, by rw [e2, up3_at, if_neg (by omega)]; exact g1, fun j hj => ?_, fun p hp => by rw [e2, up3_obj hp]; exact hfr p hp⟩
    rw [e2, up3_at]
    by_cases z : j = i - 1
    · rw [if_pos ⟨rfl, rfl, z⟩, if_pos (by omega), show j + 1 = i by omega]
    · rw [if_neg (fun w => z w.2.2), g2 j hj]
      by_cases w : j + 1 < i
      · rw [if_pos w, if_pos (by omega)]
      · rw [if_neg w, if_neg (by omega)]
theorem p_remember12 {S : St} {h : Nat → Row} {n : Nat} {N : Row} {K : St → Prop} (hH : HR S h n) (hn : n < 5) (hD : DR S 0 N) (hK : ∀ S', DR S' 0 N → HR S' (fun j => if j = n then N else h j) (n + 1) → (∀ p, p < 2 ∨ 7 < p → S' p = S p) → K S') : w_X1_remember_12 0 K S := by
  obtain ⟨h1, -, id, h3, h4, h5⟩ := hH
  have b := h3 n hn
  unfold w_X1_remember_12
  rw [h1, n_clamp (by omega), b.1, n_clamp (by omega)]
  refine ⟨n_in hn (by omega), ?_⟩
  rintro d rfl
  refine ⟨by omega, p_copyFrom (by omega) hD (fun S1 d1 f1 => ?_)⟩
  rw [f1 7 (by omega), h1, nI_1]
  intro S2 e2
  have fr : ∀ p, p ≠ id n → p ≠ 7 → S2 p = S p := fun p hp h7 => by rw [e2, up3_obj h7]; exact f1 p hp
  refine hK S2 (hD.at (fr 0 (by omega) (by omega))) ⟨by rw [e2, up3_at, if_pos ⟨rfl, rfl, rfl⟩], by omega, id, fun j hj => ?_, h4, fun j hj => ?_⟩ (fun p hp => fr p (by omega) (by omega))
  · rw [e2, up3_at, if_neg (by omega), f1 7 (by omega)]
    exact h3 j hj
  · have bj := h3 j (by omega)
    by_cases z : j = n
    · subst z
      simp only [if_true]
      exact d1.at (by rw [e2, up3_obj (by omega)])
    · simp only [if_neg z]
      exact (h5 j (by omega)).at (fr _ (fun w => z (h4 j n (by omega) hn w)) (by omega))
theorem p_remember {S : St} {h : Nat → Row} {n : Nat} {N : Row} {K : St → Prop} (hH : HR S h n) (hD : DR S 0 N) (hK : ∀ S', DR S' 0 N → HR S' (pushH h n N) (pushn n) → (∀ p, p < 2 ∨ 7 < p → S' p = S p) → K S') : w_X1_remember 0 S K := by
  have hn := hH.2.1
  unfold w_X1_remember
  rw [hH.1, show (5 : Int32) = nI 5 from rfl, n_eq (by omega) (by omega)]
  unfold pushH pushn at hK
  refine ⟨fun q => ?_, fun q => ?_⟩
  · rw [if_neg q, if_neg q] at hK
    exact p_remember12 hH (by omega) hD hK
  · rw [if_pos q, if_pos q] at hK
    subst q
    refine p_forgetOldest hH (fun S1 g1 f1 => p_remember12 g1 (by omega) (hD.at (f1 0 (by omega))) (fun S2 d2 g2 f2 => hK S2 d2 ?_ (fun p hp => by rw [f2 p hp]; exact f1 p (by omega))))
    exact g2
theorem p_restore {S : St} {h : Nat → Row} {n : Nat} {K : St → Prop} (hH : HR S h (n + 1)) (hK : ∀ S', DR S' 0 (h n) → HR S' h n → (∀ p, p ≠ 0 → p ≠ 7 → S' p = S p) → K S') : w_X1_restore 0 S K := by
  obtain ⟨h1, hn, id, h3, h4, h5⟩ := hH
  have b := h3 n (by omega)
  unfold w_X1_restore
  rw [h1, nI_pred]
  intro S1 e1
  have fr : ∀ p, p ≠ 7 → S1 p = S p := fun p hp => by rw [e1, up3_obj hp]
  have r1 : S1 7 1 0 = nI n := by rw [e1, up3_at, if_pos ⟨rfl, rfl, rfl⟩]
  have r0 : ∀ j, S1 7 0 j = S 7 0 j := fun j => by rw [e1, up3_at, if_neg (by omega)]
  rw [r1, n_clamp (by omega), r0, b.1, n_clamp (by omega)]
  refine ⟨n_in (by omega) (by omega), ?_⟩
  rintro d rfl
  refine ⟨by omega, p_copyFrom (by omega) ((h5 n (by omega)).at (fr _ (by omega))) (fun S2 d2 f2 => ?_)⟩
  refine hK S2 d2 ⟨by rw [f2 7 (by omega)]; exact r1, by omega, id, fun j hj => by rw [f2 7 (by omega), r0]; exact h3 j hj, h4, fun j hj => ?_⟩ (fun p hp h7 => by rw [f2 p hp]; exact fr p h7)
  have bj := h3 j (by omega)
  exact ((h5 j (by omega)).at (fr _ (by omega))).at (f2 _ (by omega))
