/-! THE CLASS PLANS A REEL -/
section C
variable {S : St} {o : Nat} {N : Row} {Q : Qs}
theorem p_bring {pl h : Nat} {K : Int32 → St → Prop} (hD : DR S o N) (ho : o ≠ 8) (hW : WF N) (hQ : RQ (S 8) Q) (hp : pl < 24) (hK : ∀ S', RQ (S' 8) (brQ N Q pl (nI h)) → (∀ c, c ≠ 7 → c ≠ 11 → c ≠ 13 → S' 8 c = S 8 c) → (∀ p, p ≠ 8 → S' p = S p) → K (brA N Q pl (nI h)) S') : w_X2_bring o S (nI pl) (nI h) K := by
  have hc := w_cc hW
  unfold w_X2_bring
  rw [n_clamp (by omega), hQ 11 pl hp, hQ 12 pl hp, d_min hD (i := 3) (by decide)]
  unfold brQ brA at hK
  refine ⟨n_in hp (by omega), fun q => ⟨n_in hp (by omega), ?_⟩, fun q => ⟨n_in hp (by omega), ?_⟩⟩
  · rw [if_neg q, if_neg q] at hK
    refine p_soonestCarrier hD hW hQ ?_
    have hb : brC N Q pl < 3 := caF_lt _ _ _ (by omega) (by omega)
    rw [show caF Q (Q 12 pl) (N 62 - 1) 0 1 = brC N Q pl from rfl, n_clamp (by omega), hQ 13 _ hb]
    refine ⟨n_in hb (by omega), n_in hp (by omega), ?_⟩
    rintro y rfl
    refine ⟨n_in hb (by omega), ?_⟩
    intro S1 e1
    have q1 := hQ.put3 13 (brC N Q pl) (mx (Q 13 (brC N Q pl)) (Q 12 pl) + nI (N 66) + nI (N 66))
    refine ⟨n_in hp (by omega), ?_⟩
    intro S2 e2 S3 e3
    have e1 : S1 = up3 S 8 13 (brC N Q pl) (mx (Q 13 (brC N Q pl)) (Q 12 pl) + nI (N 66) + nI (N 66)) := e1
    rw [← e1] at q1
    have q2 := q1.put3 11 pl (nI h)
    rw [← e2] at q2
    have g2 : S2 8 7 0 = Q 7 0 := by rw [e2, up3_fld (by omega), e1, up3_fld (by omega)]; exact hQ 7 0 (by decide)
    rw [g2] at e3
    have q3 := q2.put3 7 0 (Q 7 0 + 1)
    rw [← e3] at q3
    exact hK S3 q3 (fun c h7 h11 h13 => by rw [e3, up3_fld (by omega), e2, up3_fld (by omega), e1, up3_fld (by omega)]) (fun p hp => by rw [e3, up3_obj hp, e2, up3_obj hp, e1, up3_obj hp])
  · rw [if_pos q, if_pos q] at hK
    exact hK S hQ (fun _ _ _ _ => rfl) (fun _ _ => rfl)
theorem p_soonestMachine {h fm : Nat} {a arr due : Int32} {K : Int32 → Prop} (hD : DR S o N) (hW : WF N) (hQ : RQ (S 8) Q) (hf : fm < N 56) (hh : N (57 + fm) = h) (hK : K (nI (mlF N Q h a arr due (N 56 - fm - 1) fm (fm + 1)))) : w_X2_soonestMachine o S a arr due (nI fm) K := by
  have hc := w_mc hW
  have hh1 := w_mh hW (i := fm) (by omega)
  unfold w_X2_soonestMachine
  rw [n_clamp (by omega), d_mh hD (by omega), nI_1]
  refine ⟨n_in (by omega) (by omega), ?_⟩
  rintro y7 rfl
  refine p_startOn hD hQ (by omega) ?_
  rintro y30 rfl
  refine ⟨fun n x y z => ∃ b m, x = nI b ∧ y = stF N Q b a arr due ∧ z = nI m ∧ b < 5 ∧ m + n = N 56 ∧ mlF N Q h a arr due n b m = mlF N Q h a arr due (N 56 - fm - 1) fm (fm + 1), ⟨N 56 - fm - 1, fm, fm + 1, rfl, rfl, rfl, by omega, by omega, rfl⟩, ?_⟩
  rintro n x y z ⟨b, m, rfl, rfl, rfl, hb, hm, hF⟩
  rw [d_mc hD, n_le (by omega) (by omega)]
  refine ⟨fun q => ?_, fun q => ?_⟩
  · have : n = 0 := by omega
    subst this
    rw [show b = _ from hF]
    exact hK
  · obtain ⟨k, rfl⟩ : ∃ k, n = k + 1 := ⟨n - 1, by omega⟩
    have hm1 := w_mh hW (i := m) (by omega)
    rw [n_clamp (by omega), d_mh hD (by omega), n_eq (by omega) (by omega), hh]
    change mlF N Q h a arr due k (if N (57 + m) = h then (if stF N Q b a arr due ≤ stF N Q m a arr due then b else m) else b) (m + 1) = _ at hF
    refine ⟨n_in (by omega) (by omega), fun q2 => ?_, fun q2 => p_startOn hD hQ (by omega) ⟨fun q3 => ?_, fun q3 => ?_⟩⟩
    · rw [if_neg q2] at hF
      intro y ey
      exact ⟨k, by omega, b, m + 1, rfl, rfl, by rw [ey, nI_1], hb, by omega, hF⟩
    · rw [if_pos q2, if_pos q3] at hF
      intro y ey
      exact ⟨k, by omega, b, m + 1, rfl, rfl, by rw [ey, nI_1], hb, by omega, hF⟩
    · rw [if_pos q2, if_neg q3] at hF
      intro y ey
      exact ⟨k, by omega, m, m + 1, rfl, rfl, by rw [ey, nI_1], by omega, by omega, hF⟩
theorem p_planReel {s r fm : Nat} {due : Int32} {K : Int32 → St → Prop} (hD : DR S o N) (ho : o ≠ 8) (hW : WF N) (hQ : RQ (S 8) Q) (hs : s < 6) (hr : r < N (N (74 + s))) (hf : fm < N 56) (hh : N (57 + fm) = N (68 + s)) (hK : ∀ S', RQ (S' 8) (rQ6 N Q s r due fm) → S' 8 1 = upd (S 8 1) (6 * s + r) (rS N Q s r due fm) → S' 8 2 = upd (S 8 2) (6 * s + r) (nI (rM N Q s r due fm)) → (∀ c, c = 0 ∨ c = 3 ∨ c = 4 ∨ c = 5 ∨ c = 9 ∨ c = 10 → S' 8 c = S 8 c) → (∀ p, p ≠ 8 → S' p = S p) → K (rE N Q s r due fm) S') : w_X2_planReel o S (nI s) (nI r) due (nI fm) K := by
  have hc := w_mc hW
  have hsf := w_sf hW hs
  have hrc := w_rc hW (i := N (74 + s)) (by omega)
  have hpl : plc N s r < 24 := by unfold plc; omega
  have hpl' : 6 * N (74 + s) + r = plc N s r := rfl
  unfold w_X2_planReel
  rw [n_clamp (by omega), d_sf hD hs, d_sh hD hs]
  refine ⟨n_in (by omega) (by omega), p_reelPlace ?_⟩
  rw [hpl', n_clamp (by omega), d_asp hD hpl]
  refine ⟨n_in (by omega) (by omega), ?_⟩
  rintro y19 rfl
  refine ⟨n_in (by omega) (by omega), p_bring hD ho hW hQ hpl (fun S1 q1 g1 f1 => ?_)⟩
  have d1 : DR S1 o N := hD.at (f1 o ho)
  have q1 : RQ (S1 8) (rQ1 N Q s r) := q1
  refine p_soonestMachine d1 hW q1 hf hh ?_
  have hm : rM N Q s r due fm < 5 := mlF_lt _ _ _ (by omega) (by omega)
  refine p_startOn d1 q1 hm ?_
  rw [d_len d1 hpl]
  refine ⟨n_in (by omega) (by omega), p_repairTime d1 hW (by omega) (by omega) ?_⟩
  rintro y83 e83
  have e83 : y83 = rE N Q s r due fm := e83
  subst e83
  refine p_reelPlace ?_
  rw [n_clamp (by omega)]
  refine ⟨n_in (by omega) (by omega), ?_⟩
  intro S2 e2
  refine p_reelPlace ?_
  rw [n_clamp (by omega)]
  refine ⟨n_in (by omega) (by omega), ?_⟩
  intro S3 e3
  have e2 : S2 = up3 S1 8 1 (6 * s + r) (rS N Q s r due fm) := e2
  have e3 : S3 = up3 S2 8 2 (6 * s + r) (nI (rM N Q s r due fm)) := e3
  have q2 : RQ (S2 8) (rQ1 N Q s r) := by rw [e2]; exact q1.skip3 (by decide)
  have q3 : RQ (S3 8) (rQ1 N Q s r) := by rw [e3]; exact q2.skip3 (by decide)
  have key : ∀ S4 : St, RQ (S4 8) (rQ2 N Q s r due fm) → (∀ c, c ≠ 8 → S4 8 c = S3 8 c) → (∀ p, p ≠ 8 → S4 p = S3 p) → w_X2_planReel_130 o K S4 (nI (plc N s r)) (rA N s r) (nI (rM N Q s r due fm)) (rS N Q s r due fm) (rE N Q s r due fm) := by
    intro S4 q4 g4 f4
    have d4 : DR S4 o N := by
      refine d1.at ?_
      rw [f4 o ho, e3, up3_obj ho, e2, up3_obj ho]
    unfold w_X2_planReel_130
    rw [n_clamp (by omega), n_clamp (by omega), q4 6 _ hm]
    refine ⟨n_in hm (by omega), n_in hm (by omega), ?_⟩
    intro S5 e5
    have q5 := q4.put3 6 (rM N Q s r due fm) (rQ2 N Q s r due fm 6 (rM N Q s r due fm) + (rE N Q s r due fm - rS N Q s r due fm))
    rw [← e5] at q5
    refine ⟨n_in hm (by omega), ?_⟩
    intro S6 e6
    have q6 := q5.put3 14 (rM N Q s r due fm) (rE N Q s r due fm)
    rw [← e6] at q6
    refine ⟨n_in hm (by omega), ?_⟩
    intro S7 e7
    have q7 := q6.put3 15 (rM N Q s r due fm) (rA N s r)
    rw [← e7] at q7
    have d7 : DR S7 o N := d4.at (by rw [e7, up3_obj ho, e6, up3_obj ho, e5, up3_obj ho])
    rw [d_min d7 (i := 2) (by decide)]
    refine ⟨n_in hpl (by omega), ?_⟩
    intro S8 e8
    have q8 := q7.put3 12 (plc N s r) (rE N Q s r due fm + nI (N 65))
    have e8 : S8 = up3 S7 8 12 (plc N s r) (rE N Q s r due fm + nI (N 65)) := e8
    rw [← e8] at q8
    have back : ∀ c, c ≠ 6 → c ≠ 14 → c ≠ 15 → c ≠ 12 → S8 8 c = S4 8 c := fun c h1 h2 h3 h4 => by rw [e8, up3_fld (by omega), e7, up3_fld (by omega), e6, up3_fld (by omega), e5, up3_fld (by omega)]
    refine hK S8 q8 ?_ ?_ (fun c hc => ?_) (fun p hp => ?_)
    · rw [back 1 (by decide) (by decide) (by decide) (by decide), g4 1 (by decide), e3, up3_fld (by omega), e2, up3_row, g1 1 (by decide) (by decide) (by decide)]
    · rw [back 2 (by decide) (by decide) (by decide) (by decide), g4 2 (by decide), e3, up3_row, e2, up3_fld (by omega), g1 2 (by decide) (by decide) (by decide)]
    · rw [back c (by omega) (by omega) (by omega) (by omega), g4 c (by omega), e3, up3_fld (by omega), e2, up3_fld (by omega), g1 c (by omega) (by omega) (by omega)]
    · rw [e8, up3_obj hp, e7, up3_obj hp, e6, up3_obj hp, e5, up3_obj hp, f4 p hp, e3, up3_obj hp, e2, up3_obj hp, f1 p hp]
  refine p_needsPlate q3 hm ⟨fun q => ?_, fun q => ?_⟩
  · exact key S3 (by unfold rQ2; rw [if_pos (show npF (rQ1 N Q s r) (rM N Q s r due fm) (rA N s r) = 0 from q)]; exact q3) (fun _ _ => rfl) (fun _ _ => rfl)
  · rw [q3 8 0 (by decide)]
    intro S4 e4
    refine key S4 ?_ (fun c hc => by rw [e4, up3_fld (by omega)]) (fun p hp => by rw [e4, up3_obj hp])
    unfold rQ2
    rw [if_neg (show ¬ npF (rQ1 N Q s r) (rM N Q s r due fm) (rA N s r) = 0 from q), e4]
    exact q3.put3 8 0 _
end C
