section M
variable {S : St} {N : Row} {Q : Qs}
theorem p_plansShow {s : Nat} {K : St → Prop} (hM : MR S N) (hW : WF N) (hQ : RQ (mf S) Q) (hL : LA Q) (hs : s < 6) (hK : ∀ S', RQ (mf S') (shF N Q s).1 → RS (mf S') N s (shF N Q s).2 → KP (mf S) (mf S') s → (∀ k, k = 0 ∨ k = 1 ∨ k = 2 ∨ k = 17 → S' 10 k = S 10 k) → (∀ p, p ≠ 10 → S' p = S p) → K S') : w_X4_plansShow S (nI s) K := by
  have hc := w_mc hW
  have hsf := w_sf hW hs
  have hrc := w_rc hW (i := N (74 + s)) (by omega)
  have hsh := w_sh hW hs
  unfold w_X4_plansShow
  rw [n_clamp (by omega)]
  refine ⟨n_in hs (by omega), ?_⟩
  intro S1 e1
  have q1 : RQ (mf S1) Q := by rw [e1]; exact hQ.skip4 (by decide)
  have k1 : KP (mf S) (mf S1) s := by rw [e1]; exact KP.put4 (by omega)
  have g1 : ∀ k, k ≠ 11 → S1 10 k = S 10 k := fun k hk => by rw [e1, up3_fld (by omega)]
  have f1 : ∀ p, p ≠ 10 → S1 p = S p := fun p hp => by rw [e1, up3_obj hp]
  refine ⟨fun n S' x => ∃ m, x = nI m ∧ m + n = N 56 ∧ RQ (mf S') Q ∧ KP (mf S) (mf S') s ∧ (∀ k, k ≠ 11 → S' 10 k = S 10 k) ∧ (∀ p, p ≠ 10 → S' p = S p) ∧ ((S' 10 11 s = 0 ∧ fmF N (N (68 + s)) n m = fmF N (N (68 + s)) (N 56) 0) ∨ (S' 10 11 s = 1 ∧ ∃ fm, fmF N (N (68 + s)) (N 56) 0 = some fm)), ⟨N 56, 0, nI_0.symm, Nat.zero_add _, q1, k1, g1, f1, Or.inl ⟨by rw [e1, up3_at, if_pos ⟨rfl, rfl, rfl⟩], rfl⟩⟩, ?_⟩
  rintro n S' x ⟨m, rfl, hmn, q2, k2, g2, f2, hx⟩
  have m2 : MR S' N := hM.at (g2 0 (by decide))
  rw [m2 56 (by omega), n_le (by omega) (by omega), n_clamp (by omega)]
  refine ⟨fun q => ?_, fun q => ?_⟩
  · have : n = 0 := by omega
    subst this
    refine ⟨n_in hs (by omega), ?_⟩
    intro S3 e3
    refine ⟨n_in hs (by omega), ?_⟩
    intro S4 e4
    have q3 : RQ (mf S3) Q := by rw [e3]; exact q2.skip4 (by decide)
    have q4 : RQ (mf S4) Q := by rw [e4]; exact q3.skip4 (by decide)
    have k4 : KP (mf S) (mf S4) s := by
      refine (k2.tr ?_).tr (g := mf S3) ?_
      · rw [e3]; exact KP.put4 (by omega)
      · rw [e4]; exact KP.put4 (by omega)
    have g4 : ∀ k, k ≠ 11 → k ≠ 13 → k ≠ 14 → S4 10 k = S 10 k := fun k h1 h2 h3 => by rw [e4, up3_fld (by omega), e3, up3_fld (by omega)]; exact g2 k h1
    have f4 : ∀ p, p ≠ 10 → S4 p = S p := fun p hp => by rw [e4, up3_obj hp, e3, up3_obj hp]; exact f2 p hp
    have h11 : S4 10 11 s = S' 10 11 s := by rw [e4, up3_fld (by omega), e3, up3_fld (by omega)]
    have h13 : S4 10 13 s = 0 := by rw [e4, up3_fld (by omega), e3, up3_at, if_pos ⟨rfl, rfl, rfl⟩]
    have h14 : S4 10 14 s = 0 := by rw [e4, up3_at, if_pos ⟨rfl, rfl, rfl⟩]
    have m4 : MR S4 N := hM.at (g4 0 (by decide) (by decide) (by decide))
    refine ⟨n_in hs (by omega), ?_⟩
    rw [h11]
    rcases hx with ⟨hx, hF⟩ | ⟨hx, fm, hfm⟩
    · have hF : fmF N (N (68 + s)) (N 56) 0 = none := hF.symm
      unfold shF at hK
      rw [hF] at hK
      dsimp only at hK
      refine ⟨fun z => absurd hx z, fun _ => hK S4 q4 ⟨h11.trans hx, h13, h14, fun z => absurd rfl z⟩ k4 (fun k hk => g4 k (by omega) (by omega) (by omega)) f4⟩
    · unfold shF at hK
      rw [hfm] at hK
      dsimp only at hK
      refine ⟨fun _ => ?_, fun z => absurd (hx.symm.trans z) (by decide)⟩
      rw [show (80 : Int32) = nI 80 from rfl, nI_add, n_clamp (by omega), m4 _ (by omega)]
      refine ⟨n_in (by omega) (by omega), ?_⟩
      rintro y100 rfl
      refine ⟨fun n S' x y => ∃ r Q' dl gp st mc, y = nI r ∧ r + n = N (N (74 + s)) ∧ RQ (mf S') Q' ∧ LA Q' ∧ S' 10 13 s = dl ∧ (r = 0 → dl = 0) ∧ S' 10 14 s = gp ∧ (∀ i, i < r → S' 10 9 (6 * s + i) = st i ∧ S' 10 10 (6 * s + i) = mc i) ∧ slF N s fm n r Q' x dl gp st mc = shT N Q s fm ∧ S' 10 11 s = 1 ∧ (∀ k, k = 0 ∨ k = 1 ∨ k = 2 ∨ k = 17 → S' 10 k = S 10 k) ∧ KP (mf S) (mf S') s ∧ ∀ p, p ≠ 10 → S' p = S p, ⟨N (N (74 + s)), 0, Q, 0, 0, fun _ => 0, fun _ => 0, nI_0.symm, Nat.zero_add _, q4, hL, h13, fun _ => rfl, h14, fun i hi => absurd hi (Nat.not_lt_zero i), rfl, h11.trans hx, fun k hk => g4 k (by omega) (by omega) (by omega), k4, f4⟩, ?_⟩
      rintro n S5 due y ⟨r, Q', dl, gp, st, mc, rfl, hr, q5, hL5, g13, gz, g14, gr, hF, g11, gk, kS, fS⟩
      have m5 : MR S5 N := hM.at (gk 0 (by omega))
      rw [show (74 : Int32) = nI 74 from rfl, nI_add, n_clamp (by omega), m5 (74 + s) (by omega), up_self0, n_clamp (by omega), m5 _ (by omega), n_le (by omega) (by omega), n_clamp (by omega)]
      refine ⟨n_in (by omega) (by omega), n_in (by omega) (by omega), fun z => ?_, fun z => ?_⟩
      · have : n = 0 := by omega
        subst this
        have hF : (Q', due, dl, gp, st, mc) = shT N Q s fm := hF
        rw [← hF] at hK
        refine ⟨n_in hs (by omega), ?_⟩
        intro S6 e6
        have keep : ∀ k, k ≠ 12 → S6 10 k = S5 10 k := fun k hk => by rw [e6, up3_fld (by omega)]
        refine hK S6 (by rw [e6]; exact q5.skip4 (by decide)) ⟨?_, ?_, ?_, fun _ => ⟨?_, fun i hi => ?_⟩⟩ (kS.tr (by rw [e6]; exact KP.put4 (by omega))) (fun k hk => by rw [keep k (by omega)]; exact gk k hk) (fun p hp => by rw [e6, up3_obj hp]; exact fS p hp)
        · exact (congrFun (keep 11 (by decide)) s).trans g11
        · exact (congrFun (keep 13 (by decide)) s).trans g13
        · exact (congrFun (keep 14 (by decide)) s).trans g14
        · show S6 10 12 s = due
          rw [e6, up3_at, if_pos ⟨rfl, rfl, rfl⟩]
        · have w := gr i (by omega)
          exact ⟨(congrFun (keep 9 (by decide)) _).trans w.1, (congrFun (keep 10 (by decide)) _).trans w.2⟩
      · obtain ⟨k, rfl⟩ : ∃ k, n = k + 1 := ⟨n - 1, by omega⟩
        refine p_runs m5 hW q5 hL5 hs (by omega) hfm (fun S6 q6 e9 e10 ek f6 => ?_)
        change slF N s fm k (r + 1) (rQ6 N Q' s r due fm) (rE N Q' s r due fm) (if r = 0 then rS N Q' s r due fm - due else dl) (if r = 0 then gp else gp + (rS N Q' s r due fm - due)) (upd st r (rS N Q' s r due fm)) (upd mc r (nI (rM N Q' s r due fm))) = _ at hF
        have hL6 : LA (rQ6 N Q' s r due fm) := LA.reel hW (by unfold plc; omega) hL5
        have res : ∀ i, i < r + 1 → S6 10 9 (6 * s + i) = upd st r (rS N Q' s r due fm) i ∧ S6 10 10 (6 * s + i) = upd mc r (nI (rM N Q' s r due fm)) i := by
          intro i hi
          rw [e9, e10]
          unfold upd
          by_cases z : i = r
          · rw [if_pos (by omega), if_pos z, if_pos (by omega), if_pos z]; exact ⟨rfl, rfl⟩
          · rw [if_neg (by omega), if_neg z, if_neg (by omega), if_neg z]; exact gr i (by omega)
        have k6 : KP (mf S5) (mf S6) s := by
          intro t ht
          refine ⟨fun c hc => ?_, fun i hi => ⟨?_, ?_⟩⟩
          · rcases hc with rfl | rfl | rfl | rfl
            · exact congrFun (ek 11 (by omega)) t
            · exact congrFun (ek 12 (by omega)) t
            · exact congrFun (ek 13 (by omega)) t
            · exact congrFun (ek 14 (by omega)) t
          · show S6 10 9 (6 * t + i) = _
            rw [e9]; exact if_neg (by omega)
          · show S6 10 10 (6 * t + i) = _
            rw [e10]; exact if_neg (by omega)
        have h13' : S6 10 13 s = dl := by rw [ek 13 (by omega)]; exact g13
        have h14' : S6 10 14 s = gp := by rw [ek 14 (by omega)]; exact g14
        have h9 : S6 10 9 (6 * s + r) = rS N Q' s r due fm := by rw [e9]; exact if_pos rfl
        rw [show (0 : Int32) = nI 0 from rfl, n_eq (by omega) (by omega), h13', mul6, n_clamp (by omega)]
        -- the two sums, then on
        have key : ∀ t : Int32, (dl + t = if r = 0 then rS N Q' s r due fm - due else dl) → w_X4_plansShow_162 K (fun (S' : St) (x y : Int32) => ∃ n' : Nat, n' < k + 1 ∧ ∃ r Q' dl gp st mc, y = nI r ∧ r + n' = N (N (74 + s)) ∧ RQ (mf S') Q' ∧ LA Q' ∧ S' 10 13 s = dl ∧ (r = 0 → dl = 0) ∧ S' 10 14 s = gp ∧ (∀ i, i < r → S' 10 9 (6 * s + i) = st i ∧ S' 10 10 (6 * s + i) = mc i) ∧ slF N s fm n' r Q' x dl gp st mc = shT N Q s fm ∧ S' 10 11 s = 1 ∧ (∀ k, k = 0 ∨ k = 1 ∨ k = 2 ∨ k = 17 → S' 10 k = S 10 k) ∧ KP (mf S) (mf S') s ∧ ∀ p, p ≠ 10 → S' p = S p) S6 (nI s) (rE N Q' s r due fm) (nI r) due t dl (nI s) := by
          intro t ht
          unfold w_X4_plansShow_162
          rw [n_clamp (by omega)]
          refine ⟨n_in hs (by omega), ?_⟩
          intro S7 e7
          have q7 : RQ (mf S7) (rQ6 N Q' s r due fm) := by rw [e7]; exact q6.skip4 (by decide)
          have keep7 : ∀ k, k ≠ 13 → S7 10 k = S6 10 k := fun k hk => by rw [e7, up3_fld (by omega)]
          have k7 : KP (mf S6) (mf S7) s := by rw [e7]; exact KP.put4 (by omega)
          have fin : ∀ v : Int32, (v = if r = 0 then gp else gp + (rS N Q' s r due fm - due)) → ∀ S8 : St, S8 = up3 S7 10 14 s v → ∀ y : Int32, y = nI r + 1 → ∃ n' : Nat, n' < k + 1 ∧ ∃ r' Q'' dl' gp' st' mc', y = nI r' ∧ r' + n' = N (N (74 + s)) ∧ RQ (mf S8) Q'' ∧ LA Q'' ∧ S8 10 13 s = dl' ∧ (r' = 0 → dl' = 0) ∧ S8 10 14 s = gp' ∧ (∀ i, i < r' → S8 10 9 (6 * s + i) = st' i ∧ S8 10 10 (6 * s + i) = mc' i) ∧ slF N s fm n' r' Q'' (rE N Q' s r due fm) dl' gp' st' mc' = shT N Q s fm ∧ S8 10 11 s = 1 ∧ (∀ k, k = 0 ∨ k = 1 ∨ k = 2 ∨ k = 17 → S8 10 k = S 10 k) ∧ KP (mf S) (mf S8) s ∧ ∀ p, p ≠ 10 → S8 p = S p := by
            intro v hv S8 e8 y ey
            have keep8 : ∀ k, k ≠ 14 → S8 10 k = S7 10 k := fun k hk => by rw [e8, up3_fld (by omega)]
            refine ⟨k, by omega, r + 1, _, _, _, _, _, by rw [ey, nI_1], by omega, by rw [e8]; exact q7.skip4 (by decide), hL6, ?_, fun z => by omega, ?_, fun i hi => by rw [keep8 9 (by decide), keep7 9 (by decide), keep8 10 (by decide), keep7 10 (by decide)]; exact res i hi, hF, by rw [keep8 11 (by decide), keep7 11 (by decide), ek 11 (by omega)]; exact g11, fun k hk => by rw [keep8 k (by omega), keep7 k (by omega), ek k (by omega)]; exact gk k hk, ((kS.tr k6).tr k7).tr (by rw [e8]; exact KP.put4 (by omega)), fun p hp => by rw [e8, up3_obj hp, e7, up3_obj hp, f6 p hp]; exact fS p hp⟩
            · rw [keep8 13 (by decide), e7, up3_at, if_pos ⟨rfl, rfl, rfl⟩, ht]
            · rw [e8, up3_at, if_pos ⟨rfl, rfl, rfl⟩, hv]
          rw [keep7 14 (by decide), h14', show (0 : Int32) = nI 0 from rfl, n_eq (by omega) (by omega), mul6, nI_add, n_clamp (by omega), keep7 9 (by decide), h9]
          refine ⟨n_in hs (by omega), fun w => ⟨n_in (by omega) (by omega), n_in hs (by omega), ?_⟩, fun w => ⟨n_in hs (by omega), ?_⟩⟩
          · exact fin _ (by rw [if_neg w])
          · exact fin _ (by rw [if_pos w]; exact Int32.add_zero gp)
        refine ⟨n_in hs (by omega), fun w => ?_, fun w => ⟨n_in (by omega) (by omega), ?_⟩⟩
        · exact key _ (by rw [if_neg w]; exact Int32.add_zero dl)
        · have h9' : S6 10 9 (6 * s) = rS N Q' s r due fm := by
            have := h9
            rw [w] at this
            rw [w]
            exact this
          rw [h9']
          exact key _ (by rw [if_pos w, gz w, Int32.zero_add])
  · obtain ⟨k, rfl⟩ : ∃ k, n = k + 1 := ⟨n - 1, by omega⟩
    have hm1 := w_mh hW (i := m) (by omega)
    have go : ∀ v : Int32, ((v = 0 ∧ fmF N (N (68 + s)) k (m + 1) = fmF N (N (68 + s)) (N 56) 0) ∨ (v = 1 ∧ ∃ fm, fmF N (N (68 + s)) (N 56) 0 = some fm)) → ∀ S3 : St, S3 = up3 S' 10 11 s v → ∀ y : Int32, y = nI m + 1 → ∃ n' : Nat, n' < k + 1 ∧ ∃ m, y = nI m ∧ m + n' = N 56 ∧ RQ (mf S3) Q ∧ KP (mf S) (mf S3) s ∧ (∀ k, k ≠ 11 → S3 10 k = S 10 k) ∧ (∀ p, p ≠ 10 → S3 p = S p) ∧ ((S3 10 11 s = 0 ∧ fmF N (N (68 + s)) n' m = fmF N (N (68 + s)) (N 56) 0) ∨ (S3 10 11 s = 1 ∧ ∃ fm, fmF N (N (68 + s)) (N 56) 0 = some fm)) := by
      intro v hv S3 e3 y ey
      have h3 : S3 10 11 s = v := by rw [e3, up3_at, if_pos ⟨rfl, rfl, rfl⟩]
      refine ⟨k, by omega, m + 1, by rw [ey, nI_1], by omega, by rw [e3]; exact q2.skip4 (by decide), k2.tr (by rw [e3]; exact KP.put4 (by omega)), fun k hk => by rw [e3, up3_fld (by omega)]; exact g2 k hk, fun p hp => by rw [e3, up3_obj hp]; exact f2 p hp, ?_⟩
      rw [h3]
      exact hv
    refine ⟨n_in hs (by omega), ?_⟩
    rcases hx with ⟨hx, hF⟩ | ⟨hx, fm, hfm⟩
    · rw [hx]
      refine ⟨fun z => absurd rfl z, fun _ => ?_⟩
      rw [show (57 : Int32) = nI 57 from rfl, show (68 : Int32) = nI 68 from rfl, nI_add, nI_add, n_clamp (by omega), n_clamp (by omega), m2 _ (by omega), m2 _ (by omega), n_eq (by omega) (by omega)]
      change (if N (57 + m) = N (68 + s) then some m else fmF N (N (68 + s)) k (m + 1)) = _ at hF
      refine ⟨n_in (by omega) (by omega), n_in (by omega) (by omega), fun z => ⟨n_in hs (by omega), ?_⟩, fun z => ⟨n_in hs (by omega), ?_⟩⟩
      · rw [if_neg z] at hF
        exact go 0 (Or.inl ⟨rfl, hF⟩)
      · rw [if_pos z] at hF
        exact go 1 (Or.inr ⟨rfl, m, hF.symm⟩)
    · rw [hx]
      exact ⟨fun _ => ⟨n_in hs (by omega), go 1 (Or.inr ⟨rfl, fm, hfm⟩)⟩, fun z => absurd z (by decide)⟩
end M
