/-! THE WHOLE DAY, in the class -/
def Q0 (N : Row) : Qs := fun c i => if c = 11 then nI (N (52 + i / 6)) else if c = 15 then -1 else 0
def rec0 : Rec := (0, 0, 0, 0, fun _ => 0, fun _ => 0)
def plF (N : Row) (A : Row) : Nat → Nat → Qs → Int32 → (Nat → Rec) → Qs × Int32 × (Nat → Rec)
  | 0, _, Q, L, R => (Q, L, R)
  | k + 1, i, Q, L, R => plF N A k (i + 1) (shF N Q (A i)).1 (L + incF (shF N Q (A i)).2) (fun s => if s = A i then (shF N Q (A i)).2 else R s)
def planF (N : Row) : Qs × Int32 × (Nat → Rec) := plF N (srtF N (N 67)) (N 67) 0 (Q0 N) 0 (fun _ => rec0)
theorem rq_of {f : Nat → Nat → Int32} {Q : Qs} (h6 : ∀ i, i < 5 → f 6 i = Q 6 i) (h7 : f 7 0 = Q 7 0) (h8 : f 8 0 = Q 8 0) (h11 : ∀ i, i < 24 → f 11 i = Q 11 i) (h12 : ∀ i, i < 24 → f 12 i = Q 12 i) (h13 : ∀ i, i < 3 → f 13 i = Q 13 i) (h14 : ∀ i, i < 5 → f 14 i = Q 14 i) (h15 : ∀ i, i < 5 → f 15 i = Q 15 i) : RQ f Q := by
  intro c i hi
  have hc : c < 16 := lq_lt (by omega)
  rcases (show c = 0 ∨ c = 1 ∨ c = 2 ∨ c = 3 ∨ c = 4 ∨ c = 5 ∨ c = 6 ∨ c = 7 ∨ c = 8 ∨ c = 9 ∨ c = 10 ∨ c = 11 ∨ c = 12 ∨ c = 13 ∨ c = 14 ∨ c = 15 by omega) with rfl | rfl | rfl | rfl | rfl | rfl | rfl | rfl | rfl | rfl | rfl | rfl | rfl | rfl | rfl | rfl
  all_goals first
    | exact absurd hi (Nat.not_lt_zero i)
    | exact h6 i hi
    | exact h11 i hi
    | exact h12 i hi
    | exact h13 i hi
    | exact h14 i hi
    | exact h15 i hi
    | (have : i = 0 := Nat.lt_one_iff.mp hi; subst this; first | exact h7 | exact h8)
section C
variable {S : St} {o : Nat} {N : Row}
theorem p_bringHome {f h : Nat} {K : St → Prop} (hf : f < 4) (hK : ∀ S', (∀ j, j < 24 → S' 8 11 j = if 6 * f ≤ j ∧ j < 6 * f + 6 then nI h else S 8 11 j) → (∀ j, j < 24 → S' 8 12 j = if 6 * f ≤ j ∧ j < 6 * f + 6 then 0 else S 8 12 j) → (∀ c, c ≠ 11 → c ≠ 12 → S' 8 c = S 8 c) → (∀ p, p ≠ 8 → S' p = S p) → K S') : w_X2_bringHome S (nI f) (nI h) K := by
  refine ⟨fun n S' x => ∃ r, x = nI r ∧ r + n = 6 ∧ (∀ j, j < 24 → S' 8 11 j = if 6 * f ≤ j ∧ j < 6 * f + r then nI h else S 8 11 j) ∧ (∀ j, j < 24 → S' 8 12 j = if 6 * f ≤ j ∧ j < 6 * f + r then 0 else S 8 12 j) ∧ (∀ c, c ≠ 11 → c ≠ 12 → S' 8 c = S 8 c) ∧ ∀ p, p ≠ 8 → S' p = S p, ⟨6, 0, nI_0.symm, rfl, fun j _ => by rw [if_neg (by omega)], fun j _ => by rw [if_neg (by omega)], fun _ _ _ => rfl, fun _ _ => rfl⟩, ?_⟩
  rintro n S1 x ⟨r, rfl, hr, g11, g12, gk, gf⟩
  rw [show (6 : Int32) = nI 6 from rfl, n_le (by omega) (by omega)]
  refine ⟨fun q => ?_, fun q => p_reelPlace ?_⟩
  · have : r = 6 := by omega
    subst this
    exact hK S1 g11 g12 gk gf
  · rw [n_clamp (by omega)]
    refine ⟨n_in (by omega) (by omega), ?_⟩
    intro S2 e2
    refine ⟨n_in (by omega) (by omega), ?_⟩
    intro S3 e3 y ey
    refine ⟨n - 1, by omega, r + 1, by rw [ey, nI_1], by omega, fun j hj => ?_, fun j hj => ?_, fun c h1 h2 => by rw [e3, up3_fld (by omega), e2, up3_fld (by omega)]; exact gk c h1 h2, fun p hp => by rw [e3, up3_obj hp, e2, up3_obj hp]; exact gf p hp⟩
    · rw [e3, up3_fld (by omega), e2, up3_at]
      by_cases z : j = 6 * f + r
      · rw [if_pos ⟨rfl, rfl, z⟩, if_pos (by omega)]
      · rw [if_neg (by omega), g11 j hj]
        by_cases w : 6 * f ≤ j ∧ j < 6 * f + r
        · rw [if_pos w, if_pos (by omega)]
        · rw [if_neg w, if_neg (by omega)]
    · rw [e3, up3_at]
      by_cases z : j = 6 * f + r
      · rw [if_pos ⟨rfl, rfl, z⟩, if_pos (by omega)]
      · rw [if_neg (by omega), e2, up3_fld (by omega), g12 j hj]
        by_cases w : 6 * f ≤ j ∧ j < 6 * f + r
        · rw [if_pos w, if_pos (by omega)]
        · rw [if_neg w, if_neg (by omega)]
theorem p_open {K : St → Prop} (hD : DR S o N) (ho : o ≠ 8) (hW : WF N) (hK : ∀ S', RQ (S' 8) (Q0 N) → S' 8 9 0 = 0 → (∀ i, i < N 67 → S' 8 10 i = nI (srtF N (N 67) i)) → (∀ p, p ≠ 8 → S' p = S p) → K S') : w_X2_open o S K := by
  unfold w_X2_open
  intro S1 e1 S2 e2 S3 e3
  have a7 : S3 8 7 0 = 0 := by rw [e3, up3_fld (by omega), e2, up3_fld (by omega), e1, up3_at, if_pos ⟨rfl, rfl, rfl⟩]
  have a8 : S3 8 8 0 = 0 := by rw [e3, up3_fld (by omega), e2, up3_at, if_pos ⟨rfl, rfl, rfl⟩]
  have a9 : S3 8 9 0 = 0 := by rw [e3, up3_at, if_pos ⟨rfl, rfl, rfl⟩]
  have af : ∀ p, p ≠ 8 → S3 p = S p := fun p hp => by rw [e3, up3_obj hp, e2, up3_obj hp, e1, up3_obj hp]
  refine ⟨fun n S' x => ∃ i, x = nI i ∧ i + n = 3 ∧ (∀ j, j < i → S' 8 13 j = 0) ∧ (∀ c, c ≠ 13 → S' 8 c = S3 8 c) ∧ ∀ p, p ≠ 8 → S' p = S p, ⟨3, 0, nI_0.symm, rfl, fun j h => absurd h (Nat.not_lt_zero j), fun _ _ => rfl, af⟩, ?_⟩
  rintro n S4 x ⟨i, rfl, hi, g13, gk, gf⟩
  rw [show (3 : Int32) = nI 3 from rfl, n_le (by omega) (by omega), n_clamp (by omega)]
  refine ⟨fun q => ?_, fun q => ⟨n_in (by omega) (by omega), ?_⟩⟩
  · have : i = 3 := by omega
    subst this
    clear hi
    refine ⟨fun n S' x => ∃ i, x = nI i ∧ i + n = 5 ∧ (∀ j, j < i → S' 8 14 j = 0 ∧ S' 8 15 j = -1 ∧ S' 8 6 j = 0) ∧ (∀ c, c ≠ 14 → c ≠ 15 → c ≠ 6 → S' 8 c = S4 8 c) ∧ ∀ p, p ≠ 8 → S' p = S p, ⟨5, 0, nI_0.symm, rfl, fun j h => absurd h (Nat.not_lt_zero j), fun _ _ _ _ => rfl, gf⟩, ?_⟩
    rintro n S5 x ⟨i, rfl, hi, g14, gk5, gf5⟩
    rw [show (5 : Int32) = nI 5 from rfl, n_le (by omega) (by omega), n_clamp (by omega)]
    refine ⟨fun q => ?_, fun q => ⟨n_in (by omega) (by omega), ?_⟩⟩
    · have : i = 5 := by omega
      subst this
      clear hi
      refine ⟨fun n S' x => ∃ f, x = nI f ∧ f + n = 4 ∧ (∀ j, j < 6 * f → S' 8 11 j = nI (N (52 + j / 6)) ∧ S' 8 12 j = 0) ∧ (∀ c, c ≠ 11 → c ≠ 12 → S' 8 c = S5 8 c) ∧ ∀ p, p ≠ 8 → S' p = S p, ⟨4, 0, nI_0.symm, rfl, fun j h => by omega, fun _ _ _ => rfl, gf5⟩, ?_⟩
      rintro n S6 x ⟨f, rfl, hf, g11, gk6, gf6⟩
      have d6 : DR S6 o N := hD.at (gf6 o ho)
      rw [show (4 : Int32) = nI 4 from rfl, n_le (by omega) (by omega), n_clamp (by omega)]
      refine ⟨fun q => ?_, fun q => ⟨n_in (by omega) (by omega), ?_⟩⟩
      · have : f = 4 := by omega
        subst this
        refine p_sortShows d6 ho hW (fun S7 o7 k7 f7 => hK S7 ?_ ?_ o7 (fun p hp => by rw [f7 p hp]; exact gf6 p hp))
        · refine rq_of (fun i hi => ?_) ?_ ?_ (fun i hi => ?_) (fun i hi => ?_) (fun i hi => ?_) (fun i hi => ?_) (fun i hi => ?_)
          · rw [k7 6 (by decide), gk6 6 (by decide) (by decide)]; exact (g14 i hi).2.2
          · rw [k7 7 (by decide), gk6 7 (by decide) (by decide), gk5 7 (by decide) (by decide) (by decide), gk 7 (by decide)]; exact a7
          · rw [k7 8 (by decide), gk6 8 (by decide) (by decide), gk5 8 (by decide) (by decide) (by decide), gk 8 (by decide)]; exact a8
          · rw [k7 11 (by decide)]; exact (g11 i (by omega)).1
          · rw [k7 12 (by decide)]; exact (g11 i (by omega)).2
          · rw [k7 13 (by decide), gk6 13 (by decide) (by decide), gk5 13 (by decide) (by decide) (by decide)]; exact g13 i hi
          · rw [k7 14 (by decide), gk6 14 (by decide) (by decide)]; exact (g14 i hi).1
          · rw [k7 15 (by decide), gk6 15 (by decide) (by decide)]; exact (g14 i hi).2.1
        · rw [k7 9 (by decide), gk6 9 (by decide) (by decide), gk5 9 (by decide) (by decide) (by decide), gk 9 (by decide)]; exact a9
      · rw [d_home d6 (by omega)]
        refine p_bringHome (by omega) (fun S7 h11 h12 k7 f7 => ?_)
        intro y ey
        refine ⟨n - 1, by omega, f + 1, by rw [ey, nI_1], by omega, fun j hj => ?_, fun c h1 h2 => by rw [k7 c h1 h2]; exact gk6 c h1 h2, fun p hp => by rw [f7 p hp]; exact gf6 p hp⟩
        rw [h11 j (by omega), h12 j (by omega)]
        by_cases w : 6 * f ≤ j ∧ j < 6 * f + 6
        · rw [if_pos w, if_pos w, show j / 6 = f by omega]
          exact ⟨rfl, rfl⟩
        · rw [if_neg w, if_neg w]
          exact g11 j (by omega)
    · intro S6 e6
      refine ⟨n_in (by omega) (by omega), ?_⟩
      intro S7 e7
      refine ⟨n_in (by omega) (by omega), ?_⟩
      intro S8 e8 y ey
      refine ⟨n - 1, by omega, i + 1, by rw [ey, nI_1], by omega, fun j hj => ?_, fun c h1 h2 h3 => by rw [e8, up3_fld (by omega), e7, up3_fld (by omega), e6, up3_fld (by omega)]; exact gk5 c h1 h2 h3, fun p hp => by rw [e8, up3_obj hp, e7, up3_obj hp, e6, up3_obj hp]; exact gf5 p hp⟩
      have r14 : S8 8 14 j = if j = i then 0 else S5 8 14 j := by
        rw [e8, up3_fld (by omega), e7, up3_fld (by omega), e6, up3_at]
        by_cases z : j = i
        · rw [if_pos ⟨rfl, rfl, z⟩, if_pos z]
        · rw [if_neg (by omega), if_neg z]
      have r15 : S8 8 15 j = if j = i then -1 else S5 8 15 j := by
        rw [e8, up3_fld (by omega), e7, up3_at]
        by_cases z : j = i
        · rw [if_pos ⟨rfl, rfl, z⟩, if_pos z]
        · rw [if_neg (by omega), if_neg z, e6, up3_fld (by omega)]
      have r6 : S8 8 6 j = if j = i then 0 else S5 8 6 j := by
        rw [e8, up3_at]
        by_cases z : j = i
        · rw [if_pos ⟨rfl, rfl, z⟩, if_pos z]
        · rw [if_neg (by omega), if_neg z, e7, up3_fld (by omega), e6, up3_fld (by omega)]
      rw [r14, r15, r6]
      by_cases z : j = i
      · rw [if_pos z, if_pos z, if_pos z]; exact ⟨rfl, rfl, rfl⟩
      · rw [if_neg z, if_neg z, if_neg z]; exact g14 j (by omega)
  · intro S5 e5 y ey
    refine ⟨n - 1, by omega, i + 1, by rw [ey, nI_1], by omega, fun j hj => ?_, fun c h1 => by rw [e5, up3_fld (by omega)]; exact gk c h1, fun p hp => by rw [e5, up3_obj hp]; exact gf p hp⟩
    rw [e5, up3_at]
    by_cases z : j = i
    · rw [if_pos ⟨rfl, rfl, z⟩]
    · rw [if_neg (by omega)]; exact g13 j (by omega)
theorem p_make {K : St → Prop} (hD : DR S o N) (ho : o ≠ 8) (hW : WF N) (hK : ∀ S', RQ (S' 8) (planF N).1 → S' 8 9 0 = (planF N).2.1 → (∀ s, s < N 67 → RS (S' 8) N s ((planF N).2.2 s)) → (∀ p, p ≠ 8 → S' p = S p) → K S') : w_X2_make o S K := by
  have hc := w_sc hW
  have ord := srt_ord (N := N) (N 67)
  refine p_open hD ho hW (fun S1 q1 l1 o1 f1 => ?_)
  refine ⟨fun n S' x => ∃ i Q L R, x = nI i ∧ i + n = N 67 ∧ RQ (S' 8) Q ∧ S' 8 9 0 = L ∧ (∀ j, j < N 67 → S' 8 10 j = nI (srtF N (N 67) j)) ∧ (∀ j, j < i → RS (S' 8) N (srtF N (N 67) j) (R (srtF N (N 67) j))) ∧ plF N (srtF N (N 67)) n i Q L R = planF N ∧ ∀ p, p ≠ 8 → S' p = S p, ⟨N 67, 0, Q0 N, 0, fun _ => rec0, nI_0.symm, Nat.zero_add _, q1, l1, o1, fun j h => absurd h (Nat.not_lt_zero j), rfl, f1⟩, ?_⟩
  rintro n S2 x ⟨i, Q, L, R, rfl, hi, q2, l2, o2, r2, hF, f2⟩
  have d2 : DR S2 o N := hD.at (f2 o ho)
  rw [d_sc d2, n_le (by omega) (by omega)]
  refine ⟨fun z => ?_, fun z => ⟨n_in (by omega) (by omega), ?_⟩⟩
  · have : n = 0 := by omega
    subst this
    have hF : (Q, L, R) = planF N := hF
    rw [← hF] at hK
    refine hK S2 q2 l2 (fun s hs => ?_) f2
    obtain ⟨j, hj, e⟩ := ord.2.1 s hs
    rw [← e]
    exact r2 j (by omega)
  · obtain ⟨k, rfl⟩ : ∃ k, n = k + 1 := ⟨n - 1, by omega⟩
    have b := ord.1 i (by omega)
    rw [n_clamp (by omega), o2 i (by omega)]
    change plF N (srtF N (N 67)) k (i + 1) (shF N Q (srtF N (N 67) i)).1 (L + incF (shF N Q (srtF N (N 67) i)).2) (fun s => if s = srtF N (N 67) i then (shF N Q (srtF N (N 67) i)).2 else R s) = _ at hF
    refine p_planShow d2 ho hW q2 (by omega) (fun S3 q3 r3 k3 l3 e3 f3 => ?_)
    intro y ey
    refine ⟨k, by omega, i + 1, _, _, _, by rw [ey, nI_1], by omega, q3, l3.trans (by rw [l2]), fun j hj => by rw [e3]; exact o2 j hj, fun j hj => ?_, hF, fun p hp => by rw [f3 p hp]; exact f2 p hp⟩
    by_cases w : j = i
    · subst w
      rw [if_pos rfl]
      exact r3
    · have bj := ord.1 j (by omega)
      have hne : srtF N (N 67) j ≠ srtF N (N 67) i := fun v => w (ord.inj (by omega) (by omega) v)
      rw [if_neg hne]
      exact (r2 j (by omega)).kept hW (by omega) k3 hne
end C
