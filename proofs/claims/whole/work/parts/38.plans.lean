/-! THE WHOLE DAY, in the model -/
theorem div6 : ∀ j ∈ List.range 24, nI j / 6 = nI (j / 6) := by decide +kernel
def bz (x : Int32) (s : Nat) : Bool := ((x >>> (nI s &&& 31)) &&& 1) == 0
theorem bits_or : ∀ d ∈ List.range 64, ∀ b ∈ List.range 6, ((nI d ||| (1 <<< (nI b &&& 31))) == nI (d ||| 2 ^ b) && decide (d ||| 2 ^ b < 64) && (List.range 6).all (fun s => bz (nI (d ||| 2 ^ b)) s == (bz (nI d) s && !(s == b)))) = true := by decide +kernel
theorem bits_0 : ∀ s, s < 6 → bz 0 s = true := by decide
theorem bz_or {d b : Nat} (hd : d < 64) (hb : b < 6) : (nI d ||| (1 <<< (nI b &&& 31))) = nI (d ||| 2 ^ b) ∧ (d ||| 2 ^ b) < 64 ∧ ∀ s, s < 6 → bz (nI (d ||| 2 ^ b)) s = (bz (nI d) s && !(s == b)) := by
  have q := bits_or d (List.mem_range.mpr hd) b (List.mem_range.mpr hb)
  simp only [Bool.and_eq_true, beq_iff_eq, decide_eq_true_eq, List.all_eq_true] at q
  exact ⟨q.1.1, q.1.2, fun s hs => q.2 s (List.mem_range.mpr hs)⟩
section M
variable {S : St} {N : Row}
theorem p_plans_init {K : Int32 → St → Prop} (hM : MR S N) (hW : WF N) (hK : ∀ S', RQ (mf S') (Q0 N) → (∀ k, k = 0 ∨ k = 1 ∨ k = 2 ∨ k = 17 → S' 10 k = S 10 k) → (∀ p, p ≠ 10 → S' p = S p) → w_X4_plans_109 K S' 0 0 0) : w_X4_plans S K := by
  refine ⟨fun n S' x => ∃ i, x = nI i ∧ i + n = 24 ∧ (∀ j, j < i → S' 10 3 j = nI (N (52 + j / 6)) ∧ S' 10 4 j = 0) ∧ (∀ k, k ≠ 3 → k ≠ 4 → S' 10 k = S 10 k) ∧ ∀ p, p ≠ 10 → S' p = S p, ⟨24, 0, nI_0.symm, rfl, fun j h => absurd h (Nat.not_lt_zero j), fun _ _ _ => rfl, fun _ _ => rfl⟩, ?_⟩
  rintro n S1 x ⟨i, rfl, hi, g3, gk, gf⟩
  have m1 : MR S1 N := hM.at (gk 0 (by decide) (by decide))
  rw [show (24 : Int32) = nI 24 from rfl, n_le (by omega) (by omega), n_clamp (by omega)]
  refine ⟨fun q => ?_, fun q => ?_⟩
  · have : i = 24 := by omega
    subst this
    clear hi
    refine ⟨fun n S' x => ∃ i, x = nI i ∧ i + n = 3 ∧ (∀ j, j < i → S' 10 5 j = 0) ∧ (∀ k, k ≠ 5 → S' 10 k = S1 10 k) ∧ ∀ p, p ≠ 10 → S' p = S p, ⟨3, 0, nI_0.symm, rfl, fun j h => absurd h (Nat.not_lt_zero j), fun _ _ => rfl, gf⟩, ?_⟩
    rintro n S2 x ⟨i, rfl, hi, g5, gk2, gf2⟩
    rw [show (3 : Int32) = nI 3 from rfl, n_le (by omega) (by omega), n_clamp (by omega)]
    refine ⟨fun q => ?_, fun q => ⟨n_in (by omega) (by omega), ?_⟩⟩
    · have : i = 3 := by omega
      subst this
      clear hi
      refine ⟨fun n S' x => ∃ i, x = nI i ∧ i + n = 5 ∧ (∀ j, j < i → S' 10 6 j = 0 ∧ S' 10 7 j = -1 ∧ S' 10 8 j = 0) ∧ (∀ k, k ≠ 6 → k ≠ 7 → k ≠ 8 → S' 10 k = S2 10 k) ∧ ∀ p, p ≠ 10 → S' p = S p, ⟨5, 0, nI_0.symm, rfl, fun j h => absurd h (Nat.not_lt_zero j), fun _ _ _ _ => rfl, gf2⟩, ?_⟩
      rintro n S5 x ⟨i, rfl, hi, g6, gk5, gf5⟩
      rw [show (5 : Int32) = nI 5 from rfl, n_le (by omega) (by omega), n_clamp (by omega)]
      refine ⟨fun q => ?_, fun q => ⟨n_in (by omega) (by omega), ?_⟩⟩
      · have : i = 5 := by omega
        subst this
        intro S6 e6 S7 e7
        have back : ∀ k, k ≠ 15 → k ≠ 16 → S7 10 k = S5 10 k := fun k h1 h2 => by rw [e7, up3_fld (by omega), e6, up3_fld (by omega)]
        refine hK S7 ?_ (fun k hk => ?_) (fun p hp => by rw [e7, up3_obj hp, e6, up3_obj hp]; exact gf5 p hp)
        · refine rq_of (fun i hi => ?_) ?_ ?_ (fun i hi => ?_) (fun i hi => ?_) (fun i hi => ?_) (fun i hi => ?_) (fun i hi => ?_)
          · show S7 10 8 i = 0
            rw [back 8 (by decide) (by decide)]; exact (g6 i hi).2.2
          · show S7 10 15 0 = 0
            rw [e7, up3_fld (by omega), e6, up3_at, if_pos ⟨rfl, rfl, rfl⟩]
          · show S7 10 16 0 = 0
            rw [e7, up3_at, if_pos ⟨rfl, rfl, rfl⟩]
          · show S7 10 3 i = nI (N (52 + i / 6))
            rw [back 3 (by decide) (by decide), gk5 3 (by decide) (by decide) (by decide), gk2 3 (by decide)]; exact (g3 i hi).1
          · show S7 10 4 i = 0
            rw [back 4 (by decide) (by decide), gk5 4 (by decide) (by decide) (by decide), gk2 4 (by decide)]; exact (g3 i hi).2
          · show S7 10 5 i = 0
            rw [back 5 (by decide) (by decide), gk5 5 (by decide) (by decide) (by decide)]; exact g5 i hi
          · show S7 10 6 i = 0
            rw [back 6 (by decide) (by decide)]; exact (g6 i hi).1
          · show S7 10 7 i = -1
            rw [back 7 (by decide) (by decide)]; exact (g6 i hi).2.1
        · rw [back k (by omega) (by omega), gk5 k (by omega) (by omega) (by omega), gk2 k (by omega)]
          exact gk k (by omega) (by omega)
      · intro S6 e6
        refine ⟨n_in (by omega) (by omega), ?_⟩
        intro S7 e7
        refine ⟨n_in (by omega) (by omega), ?_⟩
        intro S8 e8 y ey
        refine ⟨n - 1, by omega, i + 1, by rw [ey, nI_1], by omega, fun j hj => ?_, fun c h1 h2 h3 => by rw [e8, up3_fld (by omega), e7, up3_fld (by omega), e6, up3_fld (by omega)]; exact gk5 c h1 h2 h3, fun p hp => by rw [e8, up3_obj hp, e7, up3_obj hp, e6, up3_obj hp]; exact gf5 p hp⟩
        have r6 : S8 10 6 j = if j = i then 0 else S5 10 6 j := by
          rw [e8, up3_fld (by omega), e7, up3_fld (by omega), e6, up3_at]
          by_cases z : j = i
          · rw [if_pos ⟨rfl, rfl, z⟩, if_pos z]
          · rw [if_neg (by omega), if_neg z]
        have r7 : S8 10 7 j = if j = i then -1 else S5 10 7 j := by
          rw [e8, up3_fld (by omega), e7, up3_at]
          by_cases z : j = i
          · rw [if_pos ⟨rfl, rfl, z⟩, if_pos z]
          · rw [if_neg (by omega), if_neg z, e6, up3_fld (by omega)]
        have r8 : S8 10 8 j = if j = i then 0 else S5 10 8 j := by
          rw [e8, up3_at]
          by_cases z : j = i
          · rw [if_pos ⟨rfl, rfl, z⟩, if_pos z]
          · rw [if_neg (by omega), if_neg z, e7, up3_fld (by omega), e6, up3_fld (by omega)]
        rw [r6, r7, r8]
        by_cases z : j = i
        · rw [if_pos z, if_pos z, if_pos z]; exact ⟨rfl, rfl, rfl⟩
        · rw [if_neg z, if_neg z, if_neg z]; exact g6 j (by omega)
    · intro S5 e5 y ey
      refine ⟨n - 1, by omega, i + 1, by rw [ey, nI_1], by omega, fun j hj => ?_, fun c h1 => by rw [e5, up3_fld (by omega)]; exact gk2 c h1, fun p hp => by rw [e5, up3_obj hp]; exact gf2 p hp⟩
      rw [e5, up3_at]
      by_cases z : j = i
      · rw [if_pos ⟨rfl, rfl, z⟩]
      · rw [if_neg (by omega)]; exact g5 j (by omega)
  · rw [div6 i (List.mem_range.mpr (by omega)), show (52 : Int32) = nI 52 from rfl, nI_add, n_clamp (by omega), m1 _ (by omega)]
    refine ⟨n_in (by omega) (by omega), n_in (by omega) (by omega), ?_⟩
    intro S2 e2
    refine ⟨n_in (by omega) (by omega), ?_⟩
    intro S3 e3 y ey
    refine ⟨n - 1, by omega, i + 1, by rw [ey, nI_1], by omega, fun j hj => ?_, fun c h1 h2 => by rw [e3, up3_fld (by omega), e2, up3_fld (by omega)]; exact gk c h1 h2, fun p hp => by rw [e3, up3_obj hp, e2, up3_obj hp]; exact gf p hp⟩
    have r3 : S3 10 3 j = if j = i then nI (N (52 + i / 6)) else S1 10 3 j := by
      rw [e3, up3_fld (by omega), e2, up3_at]
      by_cases z : j = i
      · rw [if_pos ⟨rfl, rfl, z⟩, if_pos z]
      · rw [if_neg (by omega), if_neg z]
    have r4 : S3 10 4 j = if j = i then 0 else S1 10 4 j := by
      rw [e3, up3_at]
      by_cases z : j = i
      · rw [if_pos ⟨rfl, rfl, z⟩, if_pos z]
      · rw [if_neg (by omega), if_neg z, e2, up3_fld (by omega)]
    rw [r3, r4]
    by_cases z : j = i
    · rw [if_pos z, if_pos z, z]; exact ⟨rfl, rfl⟩
    · rw [if_neg z, if_neg z]; exact g3 j (by omega)
theorem p_plans {K : Int32 → St → Prop} (hM : MR S N) (hW : WF N) (hK : ∀ S', RQ (mf S') (planF N).1 → (∀ s, s < N 67 → RS (mf S') N s ((planF N).2.2 s)) → (∀ k, k = 0 ∨ k = 1 ∨ k = 2 ∨ k = 17 → S' 10 k = S 10 k) → (∀ p, p ≠ 10 → S' p = S p) → K (planF N).2.1 S') : w_X4_plans S K := by
  have hc := w_sc hW
  have ord := srt_ord (N := N) (N 67)
  have hLA : LA (Q0 N) := fun m hm => Or.inl rfl
  generalize hA : srtF N (N 67) = A at ord
  refine p_plans_init hM hW (fun S1 q1 k1 f1 => ?_)
  refine ⟨fun n S' x y z => ∃ i d Q R, z = nI i ∧ i + n = N 67 ∧ x = nI d ∧ d < 64 ∧ (∀ s, s < 6 → (bz (nI d) s = true ↔ ∀ j, j < i → A j ≠ s)) ∧ RQ (mf S') Q ∧ LA Q ∧ (∀ j, j < i → RS (mf S') N (A j) (R (A j))) ∧ plF N A n i Q y R = planF N ∧ (∀ k, k = 0 ∨ k = 1 ∨ k = 2 ∨ k = 17 → S' 10 k = S 10 k) ∧ ∀ p, p ≠ 10 → S' p = S p, ⟨N 67, 0, 0, Q0 N, fun _ => rec0, nI_0.symm, Nat.zero_add _, nI_0.symm, by omega, fun s hs => ⟨fun _ j h => absurd h (Nat.not_lt_zero j), fun _ => bits_0 s hs⟩, q1, hLA, fun j h => absurd h (Nat.not_lt_zero j), by unfold planF; rw [hA], k1, f1⟩, ?_⟩
  rintro n S2 x L z ⟨i, d, Q, R, rfl, hi, rfl, hd, hbit, q2, hL2, r2, hF, k2, f2⟩
  have m2 : MR S2 N := hM.at (k2 0 (by omega))
  rw [m2 67 (by omega), n_le (by omega) (by omega)]
  refine ⟨fun z => ?_, fun z => ?_⟩
  · have : n = 0 := by omega
    subst this
    have hF : (Q, L, R) = planF N := hF
    rw [← hF] at hK
    refine hK S2 q2 (fun s hs => ?_) k2 f2
    obtain ⟨j, hj, e⟩ := ord.2.1 s hs
    rw [← e]
    exact r2 j (by omega)
  · obtain ⟨k, rfl⟩ : ∃ k, n = k + 1 := ⟨n - 1, by omega⟩
    have bA := ord.1 i (by omega)
    -- which is next
    refine ⟨fun m u v => ∃ s, v = nI s ∧ s + m = N 67 ∧ ((u = -4 ∧ ∀ t, t < s → bz (nI d) t = false) ∨ ∃ b, u = nI b ∧ b < s ∧ bz (nI d) b = true ∧ ∀ t, t < s → bz (nI d) t = true → t = b ∨ lexlt N b t), ⟨N 67, 0, nI_0.symm, Nat.zero_add _, Or.inl ⟨rfl, fun t h => absurd h (Nat.not_lt_zero t)⟩⟩, ?_⟩
    rintro m u v ⟨s, rfl, hs, hx⟩
    rw [m2 67 (by omega), n_le (by omega) (by omega)]
    refine ⟨fun w => ?_, fun w => ?_⟩
    · have : s = N 67 := by omega
      subst this
      have uA : bz (nI d) (A i) = true := (hbit (A i) (by omega)).mpr (fun j hj e => by have := ord.inj (by omega) (by omega) e; omega)
      rcases hx with ⟨-, hx⟩ | ⟨b, rfl, hb, ub, hmin⟩
      · rw [hx (A i) bA] at uA; cases uA
      · have hbA : b = A i := by
          obtain ⟨j, hj, e⟩ := ord.2.1 b hb
          have hji : i ≤ j := by
            rcases Nat.lt_or_ge j i with v | v
            · exact absurd e ((hbit b (by omega)).mp ub j v)
            · exact v
          rcases hmin (A i) bA uA with v | v
          · exact v.symm
          · by_cases t : j = i
            · rw [← e, t]
            · have v2 := ord.2.2 i j (by omega) hj
              rw [e] at v2
              unfold lexlt at v v2
              omega
        subst hbA
        obtain ⟨o1, o2, o3⟩ := bz_or hd (show A i < 6 by omega)
        rw [o1]
        rintro y209 rfl
        change plF N A k (i + 1) (shF N Q (A i)).1 (L + incF (shF N Q (A i)).2) (fun s => if s = A i then (shF N Q (A i)).2 else R s) = _ at hF
        refine p_plansShow m2 hW q2 hL2 (by omega) (fun S3 q3 r3 k3 kk3 f3 => ?_)
        rw [n_clamp (by omega), show S3 10 11 (A i) = (shF N Q (A i)).2.1 from r3.1, show S3 10 13 (A i) = (shF N Q (A i)).2.2.1 from r3.2.1, show S3 10 14 (A i) = (shF N Q (A i)).2.2.2.1 from r3.2.2.1]
        have go : ∀ v : Int32, v = L + incF (shF N Q (A i)).2 → ∀ y : Int32, y = nI i + 1 → ∃ n' : Nat, n' < k + 1 ∧ ∃ i' d' Q' R', y = nI i' ∧ i' + n' = N 67 ∧ nI (d ||| 2 ^ A i) = nI d' ∧ d' < 64 ∧ (∀ s, s < 6 → (bz (nI d') s = true ↔ ∀ j, j < i' → A j ≠ s)) ∧ RQ (mf S3) Q' ∧ LA Q' ∧ (∀ j, j < i' → RS (mf S3) N (A j) (R' (A j))) ∧ plF N A n' i' Q' v R' = planF N ∧ (∀ k, k = 0 ∨ k = 1 ∨ k = 2 ∨ k = 17 → S3 10 k = S 10 k) ∧ ∀ p, p ≠ 10 → S3 p = S p := by
          intro v hv y ey
          refine ⟨k, by omega, i + 1, d ||| 2 ^ A i, _, _, by rw [ey, nI_1], by omega, rfl, o2, fun s hs => ?_, q3, LA.show hW (by omega) hL2, fun j hj => ?_, by rw [hv]; exact hF, fun k hk => by rw [kk3 k hk]; exact k2 k hk, fun p hp => by rw [f3 p hp]; exact f2 p hp⟩
          · rw [o3 s hs]
            simp only [Bool.and_eq_true, hbit s hs, Bool.not_eq_true', beq_eq_false_iff_ne]
            constructor
            · rintro ⟨a1, a2⟩ j hj
              by_cases t : j = i
              · rw [t]; exact fun e => a2 e.symm
              · exact a1 j (by omega)
            · exact fun a => ⟨fun j hj => a j (by omega), fun e => a i (by omega) e.symm⟩
          · by_cases t : j = i
            · rw [t, if_pos rfl]
              exact r3
            · have bj := ord.1 j (by omega)
              have hne : A j ≠ A i := fun e => t (ord.inj (by omega) (by omega) e)
              rw [if_neg hne]
              exact (r2 j (by omega)).kept hW (by omega) k3 hne
        refine ⟨n_in (by omega) (by omega), fun q => ?_, fun q => ⟨n_in (by omega) (by omega), n_in (by omega) (by omega), ?_⟩⟩
        · exact fun v hv => go v (by rw [hv]; unfold incF; rw [if_pos q])
        · exact fun v hv => go v (by rw [hv]; unfold incF; rw [if_neg q])
    · obtain ⟨c, rfl⟩ : ∃ c, m = c + 1 := ⟨m - 1, by omega⟩
      have hss := w_ss hW (i := s) (by omega)
      have hbz : ((nI d >>> (nI s &&& 31)) &&& 1) = 0 ↔ bz (nI d) s = true := by unfold bz; exact beq_iff_eq.symm
      rw [hbz]
      refine ⟨fun q => ?_, fun q => ?_⟩
      · refine ⟨fun _ => ?_, fun t => absurd rfl t⟩
        have q : bz (nI d) s = false := by cases hh : bz (nI d) s with | true => exact absurd hh q | false => rfl
        intro y ey
        refine ⟨c, by omega, s + 1, by rw [ey, nI_1], by omega, ?_⟩
        rcases hx with ⟨hx, h1⟩ | ⟨b, hx, h1, h2, h3⟩
        · refine Or.inl ⟨hx, fun t ht => ?_⟩
          by_cases e : t = s
          · rw [e]; exact q
          · exact h1 t (by omega)
        · refine Or.inr ⟨b, hx, by omega, h2, fun t ht ut => ?_⟩
          by_cases e : t = s
          · rw [e, q] at ut; cases ut
          · exact h3 t (by omega) ut
      · refine ⟨fun t => absurd t (by decide), fun _ => ?_⟩
        rcases hx with ⟨rfl, h1⟩ | ⟨b, rfl, h1, h2, h3⟩
        · refine ⟨fun _ => ?_, fun t => absurd (by decide) t⟩
          intro y ey
          refine ⟨c, by omega, s + 1, by rw [ey, nI_1], by omega, Or.inr ⟨s, rfl, by omega, q, fun t ht ut => ?_⟩⟩
          by_cases e : t = s
          · exact Or.inl e
          · rw [h1 t (by omega)] at ut; cases ut
        · have hsb := w_ss hW (i := b) (by omega)
          refine ⟨fun t => absurd t (m4_eq b (by omega)), fun _ => ?_⟩
          rw [show (80 : Int32) = nI 80 from rfl, nI_add, nI_add, n_clamp (by omega), n_clamp (by omega), m2 _ (by omega), m2 _ (by omega), n_le (by omega) (by omega)]
          refine ⟨n_in (by omega) (by omega), n_in (by omega) (by omega), fun t => ?_, fun t => ?_⟩
          · intro y ey
            refine ⟨c, by omega, s + 1, by rw [ey, nI_1], by omega, Or.inr ⟨b, rfl, by omega, h2, fun v hv uv => ?_⟩⟩
            by_cases e : v = s
            · rw [e]
              refine Or.inr ?_
              unfold lexlt
              omega
            · exact h3 v (by omega) uv
          · intro y ey
            refine ⟨c, by omega, s + 1, by rw [ey, nI_1], by omega, Or.inr ⟨s, rfl, by omega, q, fun v hv uv => ?_⟩⟩
            by_cases e : v = s
            · exact Or.inl e
            · refine Or.inr ?_
              rcases h3 v (by omega) uv with e2 | e2
              · rw [e2]; unfold lexlt; omega
              · unfold lexlt at e2 ⊢; omega
end M
