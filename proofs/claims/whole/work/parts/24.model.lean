/-! THE MODEL'S ROW AND ITS ROWS OF BEFORE -/
def BR (S : St) (h : Nat → Row) (n : Nat) : Prop := S 10 2 0 = nI n ∧ n ≤ 5 ∧ ∀ j, j < n → ∀ i, i < 111 → S 10 1 (111 * j + i) = nI (h j i)
theorem MR.at {S S' : St} {N : Row} (h : MR S N) (e : S' 10 0 = S 10 0) : MR S' N := fun i hi => by rw [e]; exact h i hi
theorem BR.at {S S' : St} {h : Nat → Row} {n : Nat} (hB : BR S h n) (e1 : S' 10 1 = S 10 1) (e2 : S' 10 2 = S 10 2) : BR S' h n := ⟨by rw [e2]; exact hB.1, hB.2.1, fun j hj i hi => by rw [e1]; exact hB.2.2 j hj i hi⟩
theorem up3_fld {S : St} {o k i : Nat} {v : Int32} {a b : Nat} (h : ¬ (a = o ∧ b = k)) : up3 S o k i v a b = S a b := up3_ne h
theorem p_keeps50 {S : St} {h : Nat → Row} {n : Nat} {N : Row} {K : St → Prop} (hB : BR S h n) (hn : n < 5) (hM : MR S N) (hK : ∀ S', MR S' N → BR S' (fun j => if j = n then N else h j) (n + 1) → (∀ p, p ≠ 10 → S' p = S p) → K S') : w_X4_keeps_50 K S 0 := by
  refine ⟨fun c S' x => ∃ i, x = nI i ∧ i + c = 111 ∧ MR S' N ∧ S' 10 2 0 = nI n ∧ (∀ j, j < n → ∀ i, i < 111 → S' 10 1 (111 * j + i) = nI (h j i)) ∧ (∀ i', i' < i → S' 10 1 (111 * n + i') = nI (N i')) ∧ ∀ p, p ≠ 10 → S' p = S p, ⟨111, 0, nI_0.symm, rfl, hM, hB.1, hB.2.2, fun _ q => absurd q (Nat.not_lt_zero _), fun _ _ => rfl⟩, ?_⟩
  rintro c S' x ⟨i, rfl, hic, m1, g2, g1, g0, hfr⟩
  rw [show (111 : Int32) = nI 111 from rfl, n_le (by omega) (by omega), g2, n_mul, nI_add, n_clamp (by omega), n_clamp (by omega)]
  refine ⟨fun q => ?_, fun q => ⟨n_in (by omega) (by omega), n_in (by omega) (by omega), ?_⟩⟩
  · have : i = 111 := by omega
    subst this
    rw [nI_1]
    intro S2 e2
    refine hK S2 (m1.at (by rw [e2, up3_fld (by omega)])) ⟨by rw [e2, up3_at, if_pos ⟨rfl, rfl, rfl⟩], by omega, fun j hj i hi => ?_⟩ (fun p hp => by rw [e2, up3_obj hp]; exact hfr p hp)
    rw [e2, up3_fld (by omega)]
    by_cases z : j = n
    · subst z
      simp only [if_true]
      exact g0 i hi
    · simp only [if_neg z]
      exact g1 j (by omega) i hi
  · rw [m1 i (by omega)]
    intro S2 e2 y ey
    refine ⟨c - 1, by omega, i + 1, by rw [ey, nI_1], by omega, m1.at (by rw [e2, up3_fld (by omega)]), by rw [e2, up3_fld (by omega)]; exact g2, fun j hj i' hi' => ?_, fun i' hi' => ?_, fun p hp => by rw [e2, up3_obj hp]; exact hfr p hp⟩
    · rw [e2, up3_at, if_neg (by omega)]
      exact g1 j hj i' hi'
    · rw [e2, up3_at]
      by_cases z : i' = i
      · rw [if_pos ⟨rfl, rfl, by rw [z]⟩, z]
      · rw [if_neg (by omega)]
        exact g0 i' (by omega)
theorem p_keeps {S : St} {h : Nat → Row} {n : Nat} {N : Row} {K : St → Prop} (hB : BR S h n) (hM : MR S N) (hK : ∀ S', MR S' N → BR S' (pushH h n N) (pushn n) → (∀ p, p ≠ 10 → S' p = S p) → K S') : w_X4_keeps S K := by
  have hn := hB.2.1
  unfold w_X4_keeps
  rw [hB.1, show (5 : Int32) = nI 5 from rfl, n_eq (by omega) (by omega)]
  unfold pushH pushn at hK
  refine ⟨fun q => ?_, fun q => ?_⟩
  · rw [if_neg q, if_neg q] at hK
    exact p_keeps50 hB (by omega) hM hK
  · rw [if_pos q, if_pos q] at hK
    subst q
    refine ⟨fun c S' x => ∃ i, x = nI i ∧ i + c = 444 ∧ MR S' N ∧ S' 10 2 0 = nI 5 ∧ (∀ k, k < 555 → S' 10 1 k = if k < i then S 10 1 (111 + k) else S 10 1 k) ∧ ∀ p, p ≠ 10 → S' p = S p, ⟨444, 0, nI_0.symm, rfl, hM, hB.1, fun k _ => by rw [if_neg (by omega)], fun _ _ => rfl⟩, ?_⟩
    rintro c S' x ⟨i, rfl, hic, m1, g2, g1, hfr⟩
    rw [show (444 : Int32) = nI 444 from rfl, n_le (by omega) (by omega), g2, show (111 : Int32) = nI 111 from rfl, nI_add, n_clamp (by omega), n_clamp (by omega), show (1 : Int32) = nI 1 from rfl, n_sub (by omega)]
    refine ⟨fun q => ?_, fun q => ⟨n_in (by omega) (by omega), n_in (by omega) (by omega), ?_⟩⟩
    · have : i = 444 := by omega
      subst this
      intro S2 e2
      have b2 : BR S2 (fun j => h (j + 1)) 4 := by
        refine ⟨by rw [e2, up3_at, if_pos ⟨rfl, rfl, rfl⟩], by omega, fun j hj i hi => ?_⟩
        rw [e2, up3_fld (by omega), g1 _ (by omega), if_pos (by omega), show 111 + (111 * j + i) = 111 * (j + 1) + i by omega]
        exact hB.2.2 (j + 1) (by omega) i hi
      refine p_keeps50 b2 (by omega) (m1.at (by rw [e2, up3_fld (by omega)])) (fun S3 m3 b3 f3 => hK S3 m3 b3 (fun p hp => by rw [f3 p hp, e2, up3_obj hp]; exact hfr p hp))
    · intro S2 e2 y ey
      refine ⟨c - 1, by omega, i + 1, by rw [ey, nI_add], by omega, m1.at (by rw [e2, up3_fld (by omega)]), by rw [e2, up3_fld (by omega)]; exact g2, fun k hk => ?_, fun p hp => by rw [e2, up3_obj hp]; exact hfr p hp⟩
      rw [e2, up3_at]
      by_cases z : k = i
      · rw [if_pos ⟨rfl, rfl, z⟩, if_pos (by omega), z, g1 _ (by omega), if_neg (by omega)]
      · rw [if_neg (by omega), g1 k hk]
        by_cases w : k < i
        · rw [if_pos w, if_pos (by omega)]
        · rw [if_neg w, if_neg (by omega)]
theorem p_undoM {S : St} {h : Nat → Row} {n : Nat} {N : Row} {K : Int32 → St → Prop} (hB : BR S h n) (hM : MR S N) (h0 : n = 0 → K (-2) S) (hK : ∀ c, n = c + 1 → ∀ S', MR S' (h c) → BR S' h c → (∀ p, p ≠ 10 → S' p = S p) → K (nI c) S') : w_X4_undo S K := by
  have hn := hB.2.1
  unfold w_X4_undo
  rw [hB.1, show (0 : Int32) = nI 0 from rfl, n_eq (by omega) (by omega)]
  refine ⟨fun q => ?_, h0⟩
  obtain ⟨m, rfl⟩ : ∃ m, n = m + 1 := ⟨n - 1, by omega⟩
  rw [nI_pred]
  intro S1 e1
  have b1 : S1 10 2 0 = nI m := by rw [e1, up3_at, if_pos ⟨rfl, rfl, rfl⟩]
  have hb : ∀ k, S1 10 1 k = S 10 1 k := fun k => by rw [e1, up3_at, if_neg (by omega)]
  have f1 : ∀ p, p ≠ 10 → S1 p = S p := fun p hp => by rw [e1, up3_obj hp]
  refine ⟨fun c S' x => ∃ i, x = nI i ∧ i + c = 111 ∧ S' 10 2 0 = nI m ∧ (∀ k, S' 10 1 k = S 10 1 k) ∧ (∀ i', i' < i → S' 10 0 i' = nI (h m i')) ∧ ∀ p, p ≠ 10 → S' p = S p, ⟨111, 0, nI_0.symm, rfl, b1, hb, fun _ q => absurd q (Nat.not_lt_zero _), f1⟩, ?_⟩
  rintro c S' x ⟨i, rfl, hic, g2, g1, g0, hfr⟩
  rw [show (111 : Int32) = nI 111 from rfl, n_le (by omega) (by omega), g2, n_mul, nI_add, n_clamp (by omega), n_clamp (by omega), g1]
  refine ⟨fun q => ?_, fun q => ⟨n_in (by omega) (by omega), n_in (by omega) (by omega), ?_⟩⟩
  · have : i = 111 := by omega
    subst this
    exact hK m rfl S' g0 ⟨g2, by omega, fun j hj i hi => by rw [g1]; exact hB.2.2 j (by omega) i hi⟩ hfr
  · rw [hB.2.2 m (by omega) i (by omega)]
    intro S2 e2 y ey
    refine ⟨c - 1, by omega, i + 1, by rw [ey, nI_1], by omega, by rw [e2, up3_fld (by omega)]; exact g2, fun k => by rw [e2, up3_fld (by omega)]; exact g1 k, fun i' hi' => ?_, fun p hp => by rw [e2, up3_obj hp]; exact hfr p hp⟩
    rw [e2, up3_at]
    by_cases z : i' = i
    · rw [if_pos ⟨rfl, rfl, z⟩, z]
    · rw [if_neg (fun w => z w.2.2)]
      exact g0 i' (by omega)
