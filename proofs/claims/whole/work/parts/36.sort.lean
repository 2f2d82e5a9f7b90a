/-! THE ORDER OF THE SHOWS -/
def insF (N : Row) (x : Nat) : Nat → Row → Row
  | 0, A => upN A 0 x
  | t + 1, A => if N (80 + A t) ≤ N (80 + x) then upN A (t + 1) x else insF N x t (upN A (t + 1) (A t))
def srtF (N : Row) : Nat → Row
  | 0 => fun _ => 0
  | c + 1 => insF N c c (srtF N c)
theorem ins_spec {N : Row} {x : Nat} : ∀ (t : Nat) (A : Row), ∃ k, k ≤ t ∧ (∀ i, insF N x t A i = if i = k then x else if k < i ∧ i ≤ t then A (i - 1) else A i) ∧ (∀ i, k ≤ i → i < t → N (80 + x) < N (80 + A i)) ∧ (k = 0 ∨ N (80 + A (k - 1)) ≤ N (80 + x))
  | 0, A => ⟨0, Nat.le_refl _, fun i => by
      show upN A 0 x i = _
      unfold upN
      by_cases z : i = 0
      · rw [if_pos z, if_pos z]
      · rw [if_neg z, if_neg z, if_neg (by omega)], fun i h1 h2 => by omega, Or.inl rfl⟩
  | t + 1, A => by
    unfold insF
    by_cases q : N (80 + A t) ≤ N (80 + x)
    · rw [if_pos q]
      refine ⟨t + 1, Nat.le_refl _, fun i => ?_, fun i h1 h2 => by omega, Or.inr q⟩
      unfold upN
      by_cases z : i = t + 1
      · rw [if_pos z, if_pos z]
      · rw [if_neg z, if_neg z, if_neg (by omega)]
    · rw [if_neg q]
      obtain ⟨k, hk, h1, h2, h3⟩ := ins_spec t (upN A (t + 1) (A t))
      refine ⟨k, by omega, fun i => ?_, fun i a1 a2 => ?_, ?_⟩
      · rw [h1 i]
        by_cases z : i = k
        · rw [if_pos z, if_pos z]
        · rw [if_neg z, if_neg z]
          by_cases w : k < i ∧ i ≤ t
          · rw [if_pos w, if_pos (by omega), upN_ne (by omega)]
          · rw [if_neg w]
            by_cases v : i = t + 1
            · rw [if_pos (by omega), v, upN_eq]
              rfl
            · rw [if_neg (by omega), upN_ne v]
      · by_cases z : i = t
        · rw [z]; omega
        · have := h2 i a1 (by omega)
          rw [upN_ne (by omega)] at this
          exact this
      · rcases h3 with h3 | h3
        · exact Or.inl h3
        · by_cases z : k = 0
          · exact Or.inl z
          · rw [upN_ne (by omega)] at h3
            exact Or.inr h3
def lexlt (N : Row) (a b : Nat) : Prop := N (80 + a) < N (80 + b) ∨ N (80 + a) = N (80 + b) ∧ a < b
def IsOrd (N : Row) (c : Nat) (A : Row) : Prop := (∀ i, i < c → A i < c) ∧ (∀ s, s < c → ∃ j, j < c ∧ A j = s) ∧ ∀ i j, i < j → j < c → lexlt N (A i) (A j)
theorem IsOrd.inj {N : Row} {c : Nat} {A : Row} (h : IsOrd N c A) {i j : Nat} (hi : i < c) (hj : j < c) (e : A i = A j) : i = j := by
  rcases Nat.lt_trichotomy i j with q | q | q
  · have := h.2.2 i j q hj
    rw [e] at this
    rcases this with z | z <;> omega
  · exact q
  · have := h.2.2 j i q hi
    rw [e] at this
    rcases this with z | z <;> omega
theorem srt_ord {N : Row} : ∀ c, IsOrd N c (srtF N c)
  | 0 => ⟨fun i h => absurd h (Nat.not_lt_zero i), fun s h => absurd h (Nat.not_lt_zero s), fun i j _ h => absurd h (Nat.not_lt_zero j)⟩
  | c + 1 => by
    obtain ⟨a1, a2, a3⟩ := srt_ord (N := N) c
    obtain ⟨k, hk, h1, h2, h3⟩ := ins_spec (N := N) (x := c) c (srtF N c)
    have low : ∀ i, i < k → N (80 + srtF N c i) ≤ N (80 + c) := by
      intro i hi
      rcases h3 with z | z
      · omega
      · by_cases w : i = k - 1
        · rw [w]; exact z
        · rcases a3 i (k - 1) (by omega) (by omega) with v | v <;> omega
    show IsOrd N (c + 1) (insF N c c (srtF N c))
    refine ⟨fun i hi => ?_, fun s hs => ?_, fun i j hij hj => ?_⟩
    · rw [h1 i]
      split
      · omega
      · split
        · have := a1 (i - 1) (by omega); omega
        · have := a1 i (by omega); omega
    · by_cases z : s = c
      · exact ⟨k, by omega, by rw [h1 k, if_pos rfl, z]⟩
      · obtain ⟨j, hj, e⟩ := a2 s (by omega)
        by_cases w : j < k
        · exact ⟨j, by omega, by rw [h1 j, if_neg (by omega), if_neg (by omega)]; exact e⟩
        · exact ⟨j + 1, by omega, by rw [h1 (j + 1), if_neg (by omega), if_pos (by omega)]; exact e⟩
    · rw [h1 i, h1 j]
      by_cases zi : i = k
      · rw [if_pos zi, if_neg (by omega), if_pos (by omega)]
        exact Or.inl (h2 (j - 1) (by omega) (by omega))
      · rw [if_neg zi]
        by_cases zj : j = k
        · rw [if_pos zj, if_neg (by omega)]
          have b := low i (by omega)
          have b2 := a1 i (by omega)
          unfold lexlt
          omega
        · rw [if_neg zj]
          by_cases wi : k < i ∧ i ≤ c
          · rw [if_pos wi, if_pos (by omega)]
            exact a3 (i - 1) (j - 1) (by omega) (by omega)
          · rw [if_neg wi]
            by_cases wj : k < j ∧ j ≤ c
            · rw [if_pos wj]
              by_cases v : i = j - 1
              · omega
              · exact a3 i (j - 1) (by omega) (by omega)
            · rw [if_neg wj]
              exact a3 i j hij (by omega)
theorem p_sortShows {S : St} {o : Nat} {N : Row} {K : St → Prop} (hD : DR S o N) (ho : o ≠ 8) (hW : WF N) (hK : ∀ S', (∀ i, i < N 67 → S' 8 10 i = nI (srtF N (N 67) i)) → (∀ c, c ≠ 10 → S' 8 c = S 8 c) → (∀ p, p ≠ 8 → S' p = S p) → K S') : w_X2_sortShows o S K := by
  have hc := w_sc hW
  refine ⟨fun n S' x => ∃ c, x = nI c ∧ c + n = N 67 ∧ (∀ i, i < c → S' 8 10 i = nI (srtF N c i)) ∧ (∀ c, c ≠ 10 → S' 8 c = S 8 c) ∧ ∀ p, p ≠ 8 → S' p = S p, ⟨N 67, 0, nI_0.symm, Nat.zero_add _, fun i h => absurd h (Nat.not_lt_zero i), fun _ _ => rfl, fun _ _ => rfl⟩, ?_⟩
  rintro n S1 x ⟨c, rfl, hcn, g1, k1, f1⟩
  have d1 : DR S1 o N := hD.at (f1 o ho)
  rw [d_sc d1, n_le (by omega) (by omega)]
  refine ⟨fun q => ?_, fun q => ?_⟩
  · have : c = N 67 := by omega
    subst this
    exact hK S1 g1 k1 f1
  · have ord := srt_ord (N := N) c
    have hsc := w_ss hW (i := c) (by omega)
    -- the inner loop
    refine ⟨fun m S' y => ∃ t B, y = nI t ∧ m = t ∧ t ≤ c ∧ (∀ i, i ≤ c → i ≠ t → S' 8 10 i = nI (B i) ∧ B i < c) ∧ insF N c t B = srtF N (c + 1) ∧ (∀ c, c ≠ 10 → S' 8 c = S 8 c) ∧ ∀ p, p ≠ 8 → S' p = S p, ⟨c, c, srtF N c, rfl, rfl, Nat.le_refl _, fun i h1 h2 => ⟨g1 i (by omega), ord.1 i (by omega)⟩, rfl, k1, f1⟩, ?_⟩
    rintro m S2 y ⟨t, B, rfl, rfl, htc, g2, hF, k2, f2⟩
    have d2 : DR S2 o N := hD.at (f2 o ho)
    rw [show (0 : Int32) = nI 0 from rfl, n_le (by omega) (by omega), n_clamp (by omega), n_clamp (by omega)]
    have place : upN B m c = srtF N (c + 1) → ∀ S3 : St, S3 = up3 S2 8 10 m (nI c) → ∀ y : Int32, y = nI c + 1 → ∃ n' : Nat, n' < n ∧ ∃ c, y = nI c ∧ c + n' = N 67 ∧ (∀ i, i < c → S3 8 10 i = nI (srtF N c i)) ∧ (∀ c, c ≠ 10 → S3 8 c = S 8 c) ∧ ∀ p, p ≠ 8 → S3 p = S p := by
      intro hp S3 e3 y ey
      refine ⟨n - 1, by omega, c + 1, by rw [ey, nI_1], by omega, fun i hi => ?_, fun c hc => by rw [e3, up3_fld (by omega)]; exact k2 c hc, fun p hp => by rw [e3, up3_obj hp]; exact f2 p hp⟩
      rw [e3, up3_at, ← hp]
      by_cases z : i = m
      · rw [if_pos ⟨rfl, rfl, z⟩, z, upN_eq]
      · rw [if_neg (by omega), upN_ne z]
        exact (g2 i (by omega) z).1
    refine ⟨fun z => ⟨n_in (by omega) (by omega), ?_⟩, fun z => ?_⟩
    · have : m = 0 := by omega
      subst this
      exact place hF
    · obtain ⟨u, rfl⟩ : ∃ u, m = u + 1 := ⟨m - 1, by omega⟩
      have b := g2 u (by omega) (by omega)
      have hsu := w_ss hW (i := B u) (by omega)
      rw [nI_pred, n_clamp (by omega), b.1, n_clamp (by omega), d_ss d2 (by omega), d_ss d2 (by omega), n_le (by omega) (by omega)]
      change (if N (80 + B u) ≤ N (80 + c) then upN B (u + 1) c else insF N c u (upN B (u + 1) (B u))) = _ at hF
      refine ⟨n_in (by omega) (by omega), n_in (by omega) (by omega), n_in (by omega) (by omega), fun w => ⟨n_in (by omega) (by omega), ?_⟩, fun w => ⟨n_in (by omega) (by omega), n_in (by omega) (by omega), ?_⟩⟩
      · rw [if_pos w] at hF
        exact place hF
      · rw [if_neg w] at hF
        intro S3 e3 y ey
        refine ⟨u, by omega, u, upN B (u + 1) (B u), ?_, rfl, by omega, fun i h1 h2 => ?_, hF, fun c hc => by rw [e3, up3_fld (by omega)]; exact k2 c hc, fun p hp => by rw [e3, up3_obj hp]; exact f2 p hp⟩
        · rw [ey, ← nI_pred u, Int32.sub_eq_add_neg]
        · rw [e3, up3_at]
          by_cases v : i = u + 1
          · rw [if_pos ⟨rfl, rfl, v⟩, v, upN_eq]
            exact ⟨rfl, b.2⟩
          · rw [if_neg (by omega), upN_ne v]
            exact g2 i h1 v
