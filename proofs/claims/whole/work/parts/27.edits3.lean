/- shows -/
theorem p_isShow3 {S : St} {x : Int32} {N : Row} {K : Int32 → Prop} (hD : DR S 0 N) (hW : WF N) (h1 : inR x 0 ((N 67 : Int) - 1) → K 1) (h0 : ¬ inR x 0 ((N 67 : Int) - 1) → K 0) : w_X3_isShow S x K := by
  have hc := w_sc hW
  unfold w_X3_isShow
  rw [d_sc hD]
  exact p_isIn rfl (n_pred (by omega)) h1 h0
theorem p_isShow4 {S : St} {x : Int32} {N : Row} {K : Int32 → Prop} (hM : MR S N) (hW : WF N) (h1 : inR x 0 ((N 67 : Int) - 1) → K 1) (h0 : ¬ inR x 0 ((N 67 : Int) - 1) → K 0) : w_X4_isShow S x K := by
  have hc := w_sc hW
  unfold w_X4_isShow
  rw [hM 67 (by omega)]
  exact p_in rfl (n_predL (by omega)) h1 h0
/-- a show, and a reel of its film -/
abbrev isRl (x r : Int32) (N : Row) : Prop := inR x 0 ((N 67 : Int) - 1) ∧ inR r 0 ((N (N (74 + x.toNatClampNeg)) : Int) - 1)
theorem p_isReel3 {S : St} {x r : Int32} {N : Row} {K : Int32 → Prop} (hD : DR S 0 N) (hW : WF N) (h1 : isRl x r N → K 1) (h0 : ¬ isRl x r N → K 0) : w_X3_isReelOfShow S x r K := by
  have hc := w_sc hW
  refine p_isShow3 hD hW (fun q => z11.mpr ?_) (fun q => z01.mpr (h0 (fun z => q z.1)))
  obtain ⟨j, hj, rfl⟩ := inR_lt (by omega) q
  have hf := w_sf hW (i := j) (by omega)
  have hr := w_rc hW (i := N (74 + j)) (by omega)
  rw [n_clamp (by omega), d_sf hD (by omega), n_clamp (by omega), d_rc hD (by omega)]
  have e : isRl (nI j) r N ↔ inR r 0 ((N (N (74 + j)) : Int) - 1) := by
    unfold isRl
    rw [n_clamp (by omega)]
    exact ⟨fun z => z.2, fun z => ⟨q, z⟩⟩
  rw [e] at h1 h0
  exact ⟨n_in (by omega) (by omega), n_in (by omega) (by omega), p_isIn rfl (n_pred (by omega)) (fun q => z11.mpr (h1 q)) (fun q => z01.mpr (h0 q))⟩
theorem p_isReel4 {S : St} {x r : Int32} {N : Row} {K : Int32 → Prop} (hM : MR S N) (hW : WF N) (h1 : isRl x r N → K 1) (h0 : ¬ isRl x r N → K 0) : w_X4_isReel S x r K := by
  have hc := w_sc hW
  refine p_isShow4 hM hW (fun q => z11.mpr ?_) (fun q => z01.mpr (h0 (fun z => q z.1)))
  obtain ⟨j, hj, rfl⟩ := inR_lt (by omega) q
  have hf := w_sf hW (i := j) (by omega)
  have hr := w_rc hW (i := N (74 + j)) (by omega)
  rw [show (74 : Int32) = nI 74 from rfl, nI_add, n_clamp (by omega), hM _ (by omega), up_self0, n_clamp (by omega), hM _ (by omega)]
  have e : isRl (nI j) r N ↔ inR r 0 ((N (N (74 + j)) : Int) - 1) := by
    unfold isRl
    rw [n_clamp (by omega)]
    exact ⟨fun z => z.2, fun z => ⟨q, z⟩⟩
  rw [e] at h1 h0
  exact ⟨n_in (by omega) (by omega), n_in (by omega) (by omega), p_in rfl (n_predL (by omega)) (fun q => z11.mpr (h1 q)) (fun q => z01.mpr (h0 q))⟩
theorem isRl_nat {x r : Int32} {N : Row} (hW : WF N) (h : isRl x r N) : ∃ j i : Nat, x = nI j ∧ r = nI i ∧ j < N 67 ∧ i < N (N (74 + j)) ∧ j < 6 ∧ i < 6 ∧ N (74 + j) < 4 := by
  have hc := w_sc hW
  obtain ⟨j, hj, rfl⟩ := inR_lt (by omega) h.1
  have hf := w_sf hW (i := j) (by omega)
  have hr := w_rc hW (i := N (74 + j)) (by omega)
  have h2 := h.2
  rw [n_clamp (by omega)] at h2
  obtain ⟨i, hi, rfl⟩ := inR_lt (by omega) h2
  exact ⟨j, i, rfl, rfl, hj, hi, by omega, by omega, by omega⟩
/- addShow -/
def opAddShow (x f s : Int32) (N : Row) : Int32 × Option Row := if inR x 0 1 ∧ inR f 0 3 ∧ inR s 0 1439 then (if N f.toNatClampNeg = 0 then (-2, none) else if N 67 = 6 then (-3, none) else (nI (N 67), some (upN (upN (upN (upN N (68 + N 67) x.toNatClampNeg) (74 + N 67) f.toNatClampNeg) (80 + N 67) s.toNatClampNeg) 67 (N 67 + 1)))) else (-1, none)
theorem x3_addShow {x f s : Int32} {S : St} {N : Row} {h : Nat → Row} {n : Nat} {K : Int32 → St → Prop} (hD : DR S 0 N) (hH : HR S h n) (hW : WF N) (hK : Fin3 S N h n K (opAddShow x f s N)) : w_X3_addShow S x f s K := by
  unfold opAddShow at hK
  have hc := w_sc hW
  refine g3a rfl rfl (fun hx => g3a rfl rfl (fun hf => g3b rfl rfl (fun hs => ?_) (fun hs => ?_)) (fun hf => ?_)) (fun hx => ?_)
  · rw [if_pos ⟨hx, hf, hs⟩] at hK
    obtain ⟨x, hx', rfl⟩ := i_house hx
    obtain ⟨f, hf', rfl⟩ := i_film hf
    obtain ⟨s, hs', rfl⟩ := inR_nat (hi := 1439) hs (by omega)
    rw [n_clamp (by omega), n_clamp (by omega), n_clamp (by omega)] at hK
    have hr := w_rc hW hf'
    refine ⟨n_in hf' (by omega), ?_⟩
    rw [n_clamp (by omega), d_rc hD hf', d_sc hD, show (0 : Int32) = nI 0 from rfl, show (6 : Int32) = nI 6 from rfl, n_eq (by omega) (by omega), n_lt (by omega) (by omega)]
    refine ⟨fun q => ⟨fun q2 => ?_, fun q2 => ?_⟩, fun q => ?_⟩
    · rw [if_neg q, if_neg (by omega)] at hK
      refine p_remember hH hD (fun S1 d1 g1 f1 => p_appendShow d1 q2 (fun S2 d2 f2 => ?_))
      rw [d_sc d2, upN_eq, nI_pred]
      exact hK S2 d2 (g1.at (fun p h1 h2 => f2 p (by omega))) (fun p hp => by rw [f2 p (by omega)]; exact f1 p (by omega))
    · rw [if_neg q, if_pos (by omega)] at hK; exact hK
    · rw [if_pos q] at hK; exact hK
  · rw [if_neg (fun z => hs z.2.2)] at hK; exact hK
  · rw [if_neg (fun z => hf z.2.1)] at hK; exact hK
  · rw [if_neg (fun z => hx z.1)] at hK; exact hK
theorem x4_addShow {x f s : Int32} {S : St} {N : Row} {h : Nat → Row} {n : Nat} {K : Int32 → St → Prop} (hM : MR S N) (hB : BR S h n) (hW : WF N) (hK : Fin4 S N h n K (opAddShow x f s N)) : w_X4_addShow S x f s K := by
  unfold opAddShow at hK
  have hc := w_sc hW
  refine g4a (S := S) rfl rfl (fun hx => g4a (S := S) rfl rfl (fun hf => g4b (S := S) rfl rfl (fun hs => ?_) (fun hs => ?_)) (fun hf => ?_)) (fun hx => ?_)
  · rw [if_pos ⟨hx, hf, hs⟩] at hK
    obtain ⟨x, hx', rfl⟩ := i_house hx
    obtain ⟨f, hf', rfl⟩ := i_film hf
    obtain ⟨s, hs', rfl⟩ := inR_nat (hi := 1439) hs (by omega)
    rw [n_clamp (by omega), n_clamp (by omega), n_clamp (by omega)] at hK
    have hr := w_rc hW hf'
    rw [up_self0]
    refine ⟨n_in (by omega) (by omega), ?_⟩
    rw [n_clamp (by omega), hM f (by omega), hM 67 (by omega), show (0 : Int32) = nI 0 from rfl, show (6 : Int32) = nI 6 from rfl, n_eq (by omega) (by omega), n_eq (by omega) (by omega)]
    refine ⟨fun q => ⟨fun q2 => ?_, fun q2 => ?_⟩, fun q => ?_⟩
    · rw [if_neg q, if_neg q2] at hK
      refine p_keeps hB hM (fun S1 m1 b1 f1 => ?_)
      rw [m1 67 (by omega)]
      rintro y rfl
      rw [show (68 : Int32) = nI 68 from rfl, show (74 : Int32) = nI 74 from rfl, show (80 : Int32) = nI 80 from rfl, nI_add, nI_add, nI_add, n_clamp (by omega), n_clamp (by omega), n_clamp (by omega)]
      refine ⟨n_in (by omega) (by omega), ?_⟩
      intro S2 e2
      have m2 := m1.put (68 + N 67) x
      rw [← e2] at m2
      refine ⟨n_in (by omega) (by omega), ?_⟩
      intro S3 e3
      have m3 := m2.put (74 + N 67) f
      rw [← e3] at m3
      refine ⟨n_in (by omega) (by omega), ?_⟩
      intro S4 e4
      have m4 := m3.put (80 + N 67) s
      rw [← e4] at m4
      rw [m4 67 (by omega), upN_ne (by omega), upN_ne (by omega), upN_ne (by omega), nI_1]
      intro S5 e5
      have m5 := m4.put 67 (N 67 + 1)
      rw [← e5] at m5
      exact hK S5 m5 (b1.at (by rw [e5, up3_fld (by omega), e4, up3_fld (by omega), e3, up3_fld (by omega), e2, up3_fld (by omega)]) (by rw [e5, up3_fld (by omega), e4, up3_fld (by omega), e3, up3_fld (by omega), e2, up3_fld (by omega)])) (fun p hp => by rw [e5, up3_obj hp, e4, up3_obj hp, e3, up3_obj hp, e2, up3_obj hp]; exact f1 p hp)
    · rw [if_neg q, if_pos q2] at hK; exact hK
    · rw [if_pos q] at hK; exact hK
  · rw [if_neg (fun z => hs z.2.2)] at hK; exact hK
  · rw [if_neg (fun z => hf z.2.1)] at hK; exact hK
  · rw [if_neg (fun z => hx z.1)] at hK; exact hK
theorem wf_addShow {x f s : Int32} {N : Row} {r : Int32} {N' : Row} (hW : WF N) (h : opAddShow x f s N = (r, some N')) : WF N' := by
  unfold opAddShow at h
  have hc := w_sc hW
  split at h
  · rename_i q
    obtain ⟨x, hx', rfl⟩ := i_house q.1
    obtain ⟨f, hf', rfl⟩ := i_film q.2.1
    obtain ⟨s, hs', rfl⟩ := inR_nat (hi := 1439) q.2.2 (by omega)
    rw [n_clamp (by omega), n_clamp (by omega), n_clamp (by omega)] at h
    split at h
    · cases h
    · split at h
      · cases h
      · cases h
        exact (((hW.put (by rw [ub_sh _ (by omega)]; omega)).put (by rw [ub_sf _ (by omega)]; omega)).put (by rw [ub_ss _ (by omega)]; omega)).put (show _ ≤ 6 by omega)
  · cases h
/- removeShow -/
def opRemoveShow (x : Int32) (N : Row) : Int32 × Option Row := if inR x 0 ((N 67 : Int) - 1) then (nI (N 67 - 1), some (dropB x.toNatClampNeg (dropS x.toNatClampNeg N))) else (-1, none)
theorem x3_removeShow {x : Int32} {S : St} {N : Row} {h : Nat → Row} {n : Nat} {K : Int32 → St → Prop} (hD : DR S 0 N) (hH : HR S h n) (hW : WF N) (hK : Fin3 S N h n K (opRemoveShow x N)) : w_X3_removeShow S x K := by
  unfold opRemoveShow at hK
  have hc := w_sc hW
  refine p_isShow3 hD hW (fun q => (z11.mpr ?_).symm) (fun q => (z01.mpr ?_).symm)
  · rw [if_pos q] at hK
    obtain ⟨j, hj, rfl⟩ := inR_lt (by omega) q
    rw [n_clamp (by omega), ← drop_comm hW hj] at hK
    refine p_remember hH hD (fun S1 d1 g1 f1 => p_dropShow d1 hW hj (dropB_low (by omega)) (fun S2 d2 f2 => ?_))
    rw [d_sc d2, dropS_67, dropB_low (by omega)]
    exact hK S2 d2 (g1.at (fun p h1 h2 => f2 p (by omega))) (fun p hp => by rw [f2 p (by omega)]; exact f1 p (by omega))
  · rw [if_neg q] at hK; exact hK
/-- a show goes, in the model -/
theorem p_goes {S : St} {x : Nat} {N : Row} {K : St → Prop} (hM : MR S N) (hW : WF N) (hx : x < N 67) (hK : ∀ S', MR S' (dropB x (dropS x N)) → (∀ k, k ≠ 0 → S' 10 k = S 10 k) → (∀ p, p ≠ 10 → S' p = S p) → K S') : w_X4_goes S (nI x) K := by
  have hc := w_sc hW
  have hbc := w_bc hW
  unfold w_X4_goes
  rw [hM 67 (by omega), show (1 : Int32) = nI 1 from rfl, n_sub (by omega)]
  intro S1 e1
  have m1 := hM.put 67 (N 67 - 1)
  rw [← e1] at m1
  have g1 : ∀ k, k ≠ 0 → S1 10 k = S 10 k := fun k hk => by rw [e1, up3_fld (by omega)]
  have f1 : ∀ p, p ≠ 10 → S1 p = S p := fun p hp => by rw [e1, up3_obj hp]
  have hWS : WF (dropS x N) := dropS_wf hW hx
  have e86 : dropS x N 86 = N 86 := by unfold dropS; rw [shS_high (by omega) _ _ _ (by omega), upN_ne (by omega)]
  have hfin : shS (N 67 - 1 - x) x (upN N 67 (N 67 - 1)) = dropS x N := rfl
  refine ⟨fun c S' y => ∃ j M, y = nI j ∧ MR S' M ∧ M 67 = N 67 - 1 ∧ j + c = N 67 - 1 ∧ shS c j M = dropS x N ∧ (∀ k, k ≠ 0 → S' 10 k = S 10 k) ∧ ∀ p, p ≠ 10 → S' p = S p, ⟨N 67 - 1 - x, x, _, rfl, m1, upN_eq, by omega, hfin, g1, f1⟩, ?_⟩
  rintro c S' y ⟨j, M, rfl, mM, hM5, hj, hF, gM, hfr⟩
  rw [mM 67 (by omega), n_le (by omega) (by omega), hM5]
  refine ⟨fun z => ?_, fun z => ?_⟩
  · have : c = 0 := by omega
    subst this
    have hF : M = dropS x N := hF
    subst hF
    generalize dropS x N = P at *
    refine ⟨fun c S' u v => ∃ k b M, u = nI k ∧ v = nI b ∧ k ≤ b ∧ b + c = P 86 ∧ MR S' M ∧ WF M ∧ M 86 = P 86 ∧ dbk x c k b M = dbk x (P 86) 0 0 P ∧ (∀ k, k ≠ 0 → S' 10 k = S 10 k) ∧ ∀ p, p ≠ 10 → S' p = S p, ⟨P 86, 0, 0, P, nI_0.symm, nI_0.symm, Nat.le_refl _, Nat.zero_add _, mM, hWS, rfl, rfl, gM, hfr⟩, ?_⟩
    rintro c S2 u v ⟨k, b, M, rfl, rfl, hkb, hb, m2, wM, hM, hF, g2, f2⟩
    rw [m2 86 (by omega), n_le (by omega) (by omega), hM]
    refine ⟨fun h => ?_, fun h => ?_⟩
    · have : c = 0 := by omega
      subst this
      intro S3 e3
      have hF : (M, k) = dbk x (P 86) 0 0 P := hF
      have m3 := m2.put 86 k
      rw [← e3] at m3
      refine hK S3 ?_ (fun k hk => by rw [e3, up3_fld (by omega)]; exact g2 k hk) (fun p hp => by rw [e3, up3_obj hp]; exact f2 p hp)
      unfold dropB
      rw [← hF]
      exact m3
    · obtain ⟨c, rfl⟩ : ∃ d, c = d + 1 := ⟨c - 1, by omega⟩
      have hv := w_bs wM (i := b) (by omega)
      rw [show (87 : Int32) = nI 87 from rfl, nI_add, nI_add, n_clamp (by omega), m2 _ (by omega)]
      refine ⟨n_in (by omega) (by omega), ?_⟩
      rintro y18 rfl
      rw [n_eq (by omega) (by omega), n_le (by omega) (by omega)]
      change (if M (87 + b) = x then dbk x c k (b + 1) M else dbk x c (k + 1) (b + 1) (bkN M x k b)) = _ at hF
      refine ⟨fun q => ?_, fun q => ?_⟩
      · rw [if_pos q] at hF
        intro y ey
        exact ⟨c, by omega, k, b + 1, M, rfl, by rw [ey, nI_1], by omega, by omega, m2, wM, hM, hF, g2, f2⟩
      · rw [if_neg q] at hF
        have key : ∀ t : Nat, t = bkv M x b → w_X4_goes_145 K (fun (S' : St) (u v : Int32) => ∃ n' : Nat, n' < c + 1 ∧ ∃ k b M, u = nI k ∧ v = nI b ∧ k ≤ b ∧ b + n' = P 86 ∧ MR S' M ∧ WF M ∧ M 86 = P 86 ∧ dbk x n' k b M = dbk x (P 86) 0 0 P ∧ (∀ k, k ≠ 0 → S' 10 k = S 10 k) ∧ ∀ p, p ≠ 10 → S' p = S p) S2 (nI x) (nI k) (nI b) (nI t) (nI (87 + k)) := by
          intro t ht
          unfold w_X4_goes_145
          rw [show (95 : Int32) = nI 95 from rfl, show (103 : Int32) = nI 103 from rfl, nI_add, nI_add, nI_add, nI_add, n_clamp (by omega), n_clamp (by omega), n_clamp (by omega), n_clamp (by omega), n_clamp (by omega)]
          refine ⟨n_in (by omega) (by omega), ?_⟩
          intro S3 e3
          have m3 : MR S3 (bk1 M x k b) := by rw [e3, ht]; exact m2.put _ _
          rw [m3 (95 + b) (by omega)]
          refine ⟨n_in (by omega) (by omega), n_in (by omega) (by omega), ?_⟩
          intro S4 e4
          have m4 : MR S4 (bk2 M x k b) := by rw [e4]; exact m3.put _ _
          rw [m4 (103 + b) (by omega)]
          refine ⟨n_in (by omega) (by omega), n_in (by omega) (by omega), ?_⟩
          intro S5 e5
          have m5 : MR S5 (bkN M x k b) := by rw [e5]; exact m4.put _ _
          intro y71 e71 y74 e74
          exact ⟨c, by omega, k + 1, b + 1, bkN M x k b, by rw [e71, nI_1], by rw [e74, nI_1], by omega, by omega, m5, bkN_wf wM (by omega) (by omega), by rw [bkN_low (by omega)]; exact hM, hF, fun k hk => by rw [e5, up3_fld (by omega), e4, up3_fld (by omega), e3, up3_fld (by omega)]; exact g2 k hk, fun p hp => by rw [e5, up3_obj hp, e4, up3_obj hp, e3, up3_obj hp]; exact f2 p hp⟩
        refine ⟨fun q2 => key _ (by unfold bkv; rw [if_pos q2]), fun q2 => ?_⟩
        rw [show (1 : Int32) = nI 1 from rfl, n_sub (by omega)]
        exact key _ (by unfold bkv; rw [if_neg q2])
  · obtain ⟨c, rfl⟩ : ∃ d, c = d + 1 := ⟨c - 1, by omega⟩
    rw [show (68 : Int32) = nI 68 from rfl, show (74 : Int32) = nI 74 from rfl, show (80 : Int32) = nI 80 from rfl, nI_add, nI_add, nI_add, nI_1, nI_1, nI_1, nI_1, n_clamp (by omega), n_clamp (by omega), n_clamp (by omega), n_clamp (by omega), n_clamp (by omega), n_clamp (by omega), mM _ (by omega)]
    refine ⟨n_in (by omega) (by omega), n_in (by omega) (by omega), ?_⟩
    intro S2 e2
    have m2 : MR S2 (sh1 M j) := by rw [e2]; exact mM.put _ _
    rw [m2 _ (by omega)]
    refine ⟨n_in (by omega) (by omega), n_in (by omega) (by omega), ?_⟩
    intro S3 e3
    have m3 : MR S3 (sh2 M j) := by rw [e3]; exact m2.put _ _
    rw [m3 _ (by omega)]
    refine ⟨n_in (by omega) (by omega), n_in (by omega) (by omega), ?_⟩
    intro S4 e4
    have m4 : MR S4 (sh3 M j) := by rw [e4]; exact m3.put _ _
    intro y2 ey2
    exact ⟨c, by omega, j + 1, sh3 M j, ey2, m4, by rw [sh3_67]; exact hM5, by omega, hF, fun k hk => by rw [e4, up3_fld (by omega), e3, up3_fld (by omega), e2, up3_fld (by omega)]; exact gM k hk, fun p hp => by rw [e4, up3_obj hp, e3, up3_obj hp, e2, up3_obj hp]; exact hfr p hp⟩
