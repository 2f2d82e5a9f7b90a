/-! THE MODEL RUNS A REEL, PLANS A SHOW -/
theorem KP.put4 {S : St} {s k i : Nat} {v : Int32} (h : (k = 11 ∨ k = 12 ∨ k = 13 ∨ k = 14) ∧ i = s ∨ (k = 9 ∨ k = 10) ∧ 6 * s ≤ i ∧ i < 6 * s + 6 ∨ k < 9 ∨ 14 < k) : KP (mf S) (mf (up3 S 10 k i v)) s := by
  intro t ht
  refine ⟨fun d hd => ?_, fun r hr => ⟨?_, ?_⟩⟩
  · rcases hd with rfl | rfl | rfl | rfl
    · show up3 S 10 k i v 10 11 t = S 10 11 t
      rw [up3_at, if_neg (by omega)]
    · show up3 S 10 k i v 10 12 t = S 10 12 t
      rw [up3_at, if_neg (by omega)]
    · show up3 S 10 k i v 10 13 t = S 10 13 t
      rw [up3_at, if_neg (by omega)]
    · show up3 S 10 k i v 10 14 t = S 10 14 t
      rw [up3_at, if_neg (by omega)]
  · show up3 S 10 k i v 10 9 (6 * t + r) = S 10 9 (6 * t + r)
    rw [up3_at, if_neg (by omega)]
  · show up3 S 10 k i v 10 10 (6 * t + r) = S 10 10 (6 * t + r)
    rw [up3_at, if_neg (by omega)]
section M
variable {S : St} {N : Row} {Q : Qs}
theorem m4_eq (x : Nat) (hx : x < 2000000) : ¬ nI x < 0 := nI_pos (by omega)
theorem p_runs {s r fm : Nat} {due : Int32} {K : Int32 → St → Prop} (hM : MR S N) (hW : WF N) (hQ : RQ (mf S) Q) (hL : LA Q) (hs : s < 6) (hr : r < N (N (74 + s))) (hfm : fmF N (N (68 + s)) (N 56) 0 = some fm) (hK : ∀ S', RQ (mf S') (rQ6 N Q s r due fm) → S' 10 9 = upd (S 10 9) (6 * s + r) (rS N Q s r due fm) → S' 10 10 = upd (S 10 10) (6 * s + r) (nI (rM N Q s r due fm)) → (∀ k, k = 0 ∨ k = 1 ∨ k = 2 ∨ k = 11 ∨ k = 12 ∨ k = 13 ∨ k = 14 ∨ k = 17 → S' 10 k = S 10 k) → (∀ p, p ≠ 10 → S' p = S p) → K (rE N Q s r due fm) S') : w_X4_runs S (nI s) (nI r) due K := by
  have hc := w_mc hW
  have hsf := w_sf hW hs
  have hsh := w_sh hW hs
  have hrc := w_rc hW (i := N (74 + s)) (by omega)
  have hpl : plc N s r < 24 := by unfold plc; omega
  have hpl' : 6 * N (74 + s) + r = plc N s r := rfl
  obtain ⟨-, hf2, hf3, hf4⟩ := fmF_lt _ _ _ hfm
  have hm : rM N Q s r due fm < 5 := mlF_lt _ _ _ (by omega) (by omega)
  unfold w_X4_runs
  rw [show (68 : Int32) = nI 68 from rfl, show (74 : Int32) = nI 74 from rfl, show (28 : Int32) = nI 28 from rfl, nI_add, nI_add, n_clamp (by omega), n_clamp (by omega), hM _ (by omega), hM _ (by omega)]
  refine ⟨n_in (by omega) (by omega), ?_⟩
  rintro y9 rfl
  refine ⟨n_in (by omega) (by omega), ?_⟩
  rw [mul6, nI_add, hpl']
  rintro y25 rfl
  rw [nI_add, n_clamp (by omega), hM _ (by omega)]
  refine ⟨n_in (by omega) (by omega), ?_⟩
  rintro y37 rfl
  refine p_arrives hM hW hQ hpl (fun S1 q1 g1 f1 => ?_)
  have q1 : RQ (mf S1) (rQ1 N Q s r) := q1
  have m1 : MR S1 N := hM.at (g1 0 (by decide) (by decide) (by decide))
  have hL1 : LA (rQ1 N Q s r) := LA.br hL
  have hG : rM N Q s r due fm = mlF N (rQ1 N Q s r) (N (68 + s)) (rA N s r) (rArr N Q s r) due (N 56 - fm - 1) fm (fm + 1) := rfl
  refine ⟨fun n x y => ∃ m, y = nI m ∧ m + n = N 56 ∧ ((x = -4 ∧ m ≤ fm) ∨ (∃ b, x = nI b ∧ b < 5 ∧ fm < m ∧ mlF N (rQ1 N Q s r) (N (68 + s)) (rA N s r) (rArr N Q s r) due n b m = rM N Q s r due fm)), ⟨N 56, 0, nI_0.symm, Nat.zero_add _, Or.inl ⟨rfl, Nat.zero_le _⟩⟩, ?_⟩
  rintro n x y ⟨m, rfl, hmn, hx⟩
  rw [m1 56 (by omega), n_le (by omega) (by omega)]
  refine ⟨fun q => ?_, fun q => ?_⟩
  · have : n = 0 := by omega
    subst this
    rcases hx with ⟨-, z⟩ | ⟨b, rfl, hb5, -, hF⟩
    · omega
    · have hF : b = rM N Q s r due fm := hF
      subst hF
      refine p_startBy m1 q1 hL1 hm ?_
      rw [show (4 : Int32) = nI 4 from rfl, nI_add, n_clamp (by omega), m1 _ (by omega)]
      refine ⟨n_in (by omega) (by omega), p_repairs m1 hW (by omega) (by omega) ?_⟩
      rintro y172 e172
      have e172 : y172 = rE N Q s r due fm := e172
      subst e172
      rw [show S1 10 16 0 = rQ1 N Q s r 8 0 from q1 8 0 (by decide)]
      have key : ∀ t : Int32, (∀ c i, up2 (rQ1 N Q s r) 8 0 (rQ1 N Q s r 8 0 + t) c i = rQ2 N Q s r due fm c i) → w_X4_runs_195 K S1 (nI s) (nI r) (nI (plc N s r)) (rA N s r) (nI (rM N Q s r due fm)) (rS N Q s r due fm) (rE N Q s r due fm) t (rQ1 N Q s r 8 0) := by
        intro t ht
        unfold w_X4_runs_195
        rw [n_clamp (by omega), n_clamp (by omega), mul6, nI_add, n_clamp (by omega)]
        intro S2 e2
        have q2 := q1.put4 (c := 8) (by decide) 0 (rQ1 N Q s r 8 0 + t)
        rw [show up3 S1 10 (mu 8) 0 (rQ1 N Q s r 8 0 + t) = S2 from e2.symm] at q2
        have q2 := q2.cong ht
        refine ⟨n_in hm (by omega), ?_⟩
        intro S3 e3
        have q3 := q2.put4 (c := 15) (by decide) (rM N Q s r due fm) (rA N s r)
        rw [show up3 S2 10 (mu 15) (rM N Q s r due fm) (rA N s r) = S3 from e3.symm] at q3
        refine ⟨n_in hm (by omega), ?_⟩
        intro S4 e4
        have q4 := q3.put4 (c := 14) (by decide) (rM N Q s r due fm) (rE N Q s r due fm)
        rw [show up3 S3 10 (mu 14) (rM N Q s r due fm) (rE N Q s r due fm) = S4 from e4.symm] at q4
        have h8 : S4 10 8 (rM N Q s r due fm) = rQ2 N Q s r due fm 6 (rM N Q s r due fm) := by
          have z := q4 6 (rM N Q s r due fm) hm
          unfold up2 at z
          rw [if_neg (by omega), if_neg (by omega)] at z
          exact z
        rw [h8]
        refine ⟨n_in hm (by omega), n_in hm (by omega), ?_⟩
        intro S5 e5
        have q5 := q4.put4 (c := 6) (by decide) (rM N Q s r due fm) (rQ2 N Q s r due fm 6 (rM N Q s r due fm) + (rE N Q s r due fm - rS N Q s r due fm))
        rw [show up3 S4 10 (mu 6) (rM N Q s r due fm) (rQ2 N Q s r due fm 6 (rM N Q s r due fm) + (rE N Q s r due fm - rS N Q s r due fm)) = S5 from e5.symm] at q5
        have h65 : S5 10 0 65 = nI (N 65) := by
          rw [e5, up3_fld (by omega), e4, up3_fld (by omega), e3, up3_fld (by omega), e2, up3_fld (by omega)]
          exact m1 65 (by omega)
        rw [h65]
        refine ⟨n_in hpl (by omega), ?_⟩
        intro S6 e6
        have q6 := q5.put4 (c := 12) (by decide) (plc N s r) (rE N Q s r due fm + nI (N 65))
        rw [show up3 S5 10 (mu 12) (plc N s r) (rE N Q s r due fm + nI (N 65)) = S6 from e6.symm] at q6
        refine ⟨n_in (by omega) (by omega), ?_⟩
        intro S7 e7
        refine ⟨n_in (by omega) (by omega), ?_⟩
        intro S8 e8
        have q7 := q6.skip4 (k := 9) (i := 6 * s + r) (v := rS N Q s r due fm) (by decide)
        rw [← e7] at q7
        have q8 := q7.skip4 (k := 10) (i := 6 * s + r) (v := nI (rM N Q s r due fm)) (by decide)
        rw [← e8] at q8
        have back : ∀ k, k ≠ 16 → k ≠ 7 → k ≠ 6 → k ≠ 8 → k ≠ 4 → S6 10 k = S1 10 k := fun k a1 a2 a3 a4 a5 => by rw [e6, up3_fld (by omega), e5, up3_fld (by omega), e4, up3_fld (by omega), e3, up3_fld (by omega), e2, up3_fld (by omega)]
        refine hK S8 (q8.cong ?_) ?_ ?_ (fun k hk => ?_) (fun p hp => ?_)
        · intro c i
          unfold rQ6 up2
          by_cases z12 : c = 12 ∧ i = plc N s r
          · rw [if_pos z12, if_pos z12]
          · rw [if_neg z12, if_neg z12]
            by_cases z6 : c = 6 ∧ i = rM N Q s r due fm
            · rw [if_pos z6, if_neg (by omega), if_neg (by omega), if_pos z6]
            · rw [if_neg z6]
              by_cases z14 : c = 14 ∧ i = rM N Q s r due fm
              · rw [if_pos z14, if_neg (by omega), if_pos z14]
              · rw [if_neg z14]
                by_cases z15 : c = 15 ∧ i = rM N Q s r due fm
                · rw [if_pos z15, if_pos z15]
                · rw [if_neg z15, if_neg z15, if_neg z14, if_neg z6]
        · rw [e8, up3_fld (by omega), e7, up3_row, back 9 (by decide) (by decide) (by decide) (by decide) (by decide), g1 9 (by decide) (by decide) (by decide)]
        · rw [e8, up3_row, e7, up3_fld (by omega), back 10 (by decide) (by decide) (by decide) (by decide) (by decide), g1 10 (by decide) (by decide) (by decide)]
        · rw [e8, up3_fld (by omega), e7, up3_fld (by omega), back k (by omega) (by omega) (by omega) (by omega) (by omega), g1 k (by omega) (by omega) (by omega)]
        · rw [e8, up3_obj hp, e7, up3_obj hp, e6, up3_obj hp, e5, up3_obj hp, e4, up3_obj hp, e3, up3_obj hp, e2, up3_obj hp, f1 p hp]
      refine p_hasPlate q1 hL1 hm ⟨fun w => key 0 ?_, fun w => key 1 ?_⟩
      · intro c i
        unfold rQ2 up2
        rw [if_pos (show npF (rQ1 N Q s r) (rM N Q s r due fm) (rA N s r) = 0 from w), Int32.add_zero]
        by_cases z : c = 8 ∧ i = 0
        · rw [if_pos z, z.1, z.2]
        · rw [if_neg z]
      · intro c i
        unfold rQ2
        rw [if_neg (show ¬ npF (rQ1 N Q s r) (rM N Q s r due fm) (rA N s r) = 0 from w)]
  · obtain ⟨k, rfl⟩ : ∃ k, n = k + 1 := ⟨n - 1, by omega⟩
    have hm1 := w_mh hW (i := m) (by omega)
    rw [show (57 : Int32) = nI 57 from rfl, nI_add, n_clamp (by omega), m1 _ (by omega), n_eq (by omega) (by omega)]
    refine ⟨n_in (by omega) (by omega), fun z => ?_, fun z => ?_⟩
    · refine ⟨fun _ => ?_, fun w => absurd rfl w⟩
      intro y ey
      refine ⟨k, by omega, m + 1, by rw [ey, nI_1], by omega, ?_⟩
      rcases hx with ⟨hx, hmf⟩ | ⟨b, hx, hb5, hfm', hF⟩
      · refine Or.inl ⟨hx, ?_⟩
        rcases Nat.lt_or_ge m fm with w | w
        · omega
        · have : m = fm := by omega
          rw [this] at z
          exact absurd hf3 z
      · refine Or.inr ⟨b, hx, hb5, by omega, ?_⟩
        change mlF N (rQ1 N Q s r) (N (68 + s)) (rA N s r) (rArr N Q s r) due k (if N (57 + m) = N (68 + s) then _ else b) (m + 1) = _ at hF
        rw [if_neg z] at hF
        exact hF
    · refine ⟨fun w => absurd w (by decide), fun _ => ?_⟩
      rcases hx with ⟨rfl, hmf⟩ | ⟨b, rfl, hb5, hfm', hF⟩
      · have : m = fm := by
          rcases Nat.lt_or_ge m fm with w | w
          · exact absurd z (hf4 m (by omega) w)
          · omega
        subst this
        refine ⟨fun _ => ?_, fun w => absurd (by decide) w⟩
        intro y ey
        exact ⟨k, by omega, m + 1, by rw [ey, nI_1], by omega, Or.inr ⟨m, rfl, by omega, by omega, by rw [hG, show N 56 - m - 1 = k by omega]⟩⟩
      · refine ⟨fun w => absurd w (m4_eq b (by omega)), fun _ => ?_⟩
        change mlF N (rQ1 N Q s r) (N (68 + s)) (rA N s r) (rArr N Q s r) due k (if N (57 + m) = N (68 + s) then (if stF N (rQ1 N Q s r) b (rA N s r) (rArr N Q s r) due ≤ stF N (rQ1 N Q s r) m (rA N s r) (rArr N Q s r) due then b else m) else b) (m + 1) = _ at hF
        rw [if_pos z] at hF
        refine p_startBy m1 q1 hL1 (by omega) (p_startBy m1 q1 hL1 hb5 ⟨fun w => ?_, fun w => ?_⟩)
        · rw [if_pos (show stF N (rQ1 N Q s r) b (rA N s r) (rArr N Q s r) due ≤ stF N (rQ1 N Q s r) m (rA N s r) (rArr N Q s r) due from w)] at hF
          intro y ey
          exact ⟨k, by omega, m + 1, by rw [ey, nI_1], by omega, Or.inr ⟨b, rfl, hb5, by omega, hF⟩⟩
        · rw [if_neg (show ¬ stF N (rQ1 N Q s r) b (rA N s r) (rArr N Q s r) due ≤ stF N (rQ1 N Q s r) m (rA N s r) (rArr N Q s r) due from w)] at hF
          intro y ey
          exact ⟨k, by omega, m + 1, by rw [ey, nI_1], by omega, Or.inr ⟨m, rfl, by omega, by omega, hF⟩⟩
end M
