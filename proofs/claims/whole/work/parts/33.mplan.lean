/-! THE MODEL PLANS A REEL AND A SHOW -/
def LA (Q : Qs) : Prop := ∀ m, m < 5 → Q 15 m = -1 ∨ ¬ Q 15 m < 0
theorem mul6 (a : Nat) : (6 : Int32) * nI a = nI (6 * a) := by rw [show (6 : Int32) = nI 6 from rfl, n_mul]
section M
variable {S : St} {N : Row} {Q : Qs}
theorem p_hasPlate {m : Nat} {a : Int32} {K : Int32 → Prop} (hQ : RQ (mf S) Q) (hL : LA Q) (hm : m < 5) (hK : K (npF Q m a)) : w_X4_hasPlate S (nI m) a K := by
  unfold w_X4_hasPlate
  rw [n_clamp (by omega), show S 10 7 m = Q 15 m from hQ 15 m hm]
  unfold npF at hK
  refine ⟨n_in hm (by omega), fun q => ?_, fun q => ⟨n_in hm (by omega), fun q2 => ?_, fun q2 => ?_⟩⟩
  · rcases hL m hm with z | z
    · rw [if_pos z] at hK; exact hK
    · exact absurd q z
  · have z : ¬ Q 15 m = -1 := fun z => q (by rw [z]; decide)
    rw [if_neg z, if_pos q2] at hK; exact hK
  · have z : ¬ Q 15 m = -1 := fun z => q (by rw [z]; decide)
    rw [if_neg z, if_neg q2] at hK; exact hK
theorem p_startBy {m : Nat} {a arr due : Int32} {K : Int32 → Prop} (hM : MR S N) (hQ : RQ (mf S) Q) (hL : LA Q) (hm : m < 5) (hK : K (stF N Q m a arr due)) : w_X4_startBy S (nI m) due arr a K := by
  unfold stF at hK
  unfold w_X4_startBy
  rw [n_clamp (by omega), show S 10 6 m = Q 14 m from hQ 14 m hm]
  refine ⟨n_in hm (by omega), ?_⟩
  have key : ∀ z t : Int32, K (mx due (mx arr (z + t) + nI (N 63))) → w_X4_startBy_27 K S due arr t z := by
    intro z t hz
    unfold w_X4_startBy_27 w_X4_startBy_42
    rw [hM 63 (by omega)]
    rw [← mx_le due, ← mx_le arr] at hz
    rintro y rfl
    refine ⟨fun q => ?_, fun q => ?_⟩
    · rw [if_pos q] at hz
      rintro y rfl
      refine ⟨fun q2 => ?_, fun q2 => ?_⟩
      · rw [if_pos q2] at hz; exact hz
      · rw [if_neg q2] at hz; exact hz
    · rw [if_neg q] at hz
      rintro y rfl
      refine ⟨fun q2 => ?_, fun q2 => ?_⟩
      · rw [if_pos q2] at hz; exact hz
      · rw [if_neg q2] at hz; exact hz
  refine p_hasPlate hQ hL hm ⟨fun q => ?_, fun q => ?_⟩
  · rw [if_pos q] at hK
    exact key _ _ (by rw [Int32.add_zero]; exact hK)
  · rw [if_neg q] at hK
    rw [hM 64 (by omega)]
    exact key _ _ hK
theorem p_arrives {pl h : Nat} {K : Int32 → St → Prop} (hM : MR S N) (hW : WF N) (hQ : RQ (mf S) Q) (hp : pl < 24) (hK : ∀ S', RQ (mf S') (brQ N Q pl (nI h)) → (∀ k, k ≠ 15 → k ≠ 3 → k ≠ 5 → S' 10 k = S 10 k) → (∀ p, p ≠ 10 → S' p = S p) → K (brA N Q pl (nI h)) S') : w_X4_arrives S (nI pl) (nI h) K := by
  have hc := w_cc hW
  unfold w_X4_arrives
  rw [n_clamp (by omega), show S 10 3 pl = Q 11 pl from hQ 11 pl hp, show S 10 4 pl = Q 12 pl from hQ 12 pl hp]
  unfold brQ brA at hK
  refine ⟨n_in hp (by omega), fun q => ?_, fun q => ⟨n_in hp (by omega), ?_⟩⟩
  · rw [if_neg q, if_neg q] at hK
    have hb : brC N Q pl < 3 := caF_lt _ _ _ (by omega) (by omega)
    have fin : w_X4_arrives_150 K S (nI pl) (nI h) (nI (brC N Q pl)) (mx (Q 13 (brC N Q pl)) (Q 12 pl)) := by
      unfold w_X4_arrives_150
      rw [hM 66 (by omega), n_clamp (by omega), n_clamp (by omega)]
      rintro y rfl
      refine ⟨n_in hb (by omega), ?_⟩
      intro S1 e1
      have q1 : RQ (mf S1) (up2 Q 13 (brC N Q pl) (mx (Q 13 (brC N Q pl)) (Q 12 pl) + nI (N 66) + nI (N 66))) := by rw [e1]; exact hQ.put4 (c := 13) (by decide) _ _
      refine ⟨n_in hp (by omega), ?_⟩
      intro S2 e2 S3 e3
      have q2 := q1.put4 (c := 11) (by decide) pl (nI h)
      rw [show up3 S1 10 (mu 11) pl (nI h) = S2 from e2.symm] at q2
      have g2 : S2 10 15 0 = Q 7 0 := by
        rw [e2, up3_fld (by decide), e1, up3_fld (by decide)]
        exact hQ 7 0 (by decide)
      rw [g2] at e3
      have q3 := q2.put4 (c := 7) (by decide) 0 (Q 7 0 + 1)
      rw [show up3 S2 10 (mu 7) 0 (Q 7 0 + 1) = S3 from e3.symm] at q3
      exact hK S3 q3 (fun k h7 h11 h13 => by rw [e3, up3_fld (by omega), e2, up3_fld (by omega), e1, up3_fld (by omega)]) (fun p hp => by rw [e3, up3_obj hp, e2, up3_obj hp, e1, up3_obj hp])
    refine ⟨fun n x y => ∃ b c, x = nI b ∧ y = nI c ∧ b < 3 ∧ 1 ≤ c ∧ c ≤ 3 ∧ n = N 62 - c ∧ caF Q (Q 12 pl) n b c = brC N Q pl, ⟨N 62 - 1, 0, 1, nI_0.symm, rfl, by omega, by omega, by omega, rfl, rfl⟩, ?_⟩
    rintro n x y ⟨b, c, rfl, rfl, hb3, hc1, hc3, hn, hF⟩
    rw [hM 62 (by omega), n_le (by omega) (by omega), n_clamp (by omega), n_clamp (by omega), n_clamp (by omega), show S 10 4 pl = Q 12 pl from hQ 12 pl hp, show S 10 5 b = Q 13 b from hQ 13 b hb3]
    refine ⟨fun z => ?_, fun z => ?_⟩
    · have : n = 0 := by omega
      subst this
      have hF : b = brC N Q pl := hF
      subst hF
      rw [← mx_le] at fin
      refine ⟨n_in hb (by omega), n_in hp (by omega), fun w => ⟨n_in hp (by omega), ?_⟩, fun w => ⟨n_in hb (by omega), ?_⟩⟩
      · rw [if_pos w] at fin; exact fin
      · rw [if_neg w] at fin; exact fin
    · obtain ⟨k, rfl⟩ : ∃ k, n = k + 1 := ⟨n - 1, by omega⟩
      rw [show S 10 5 c = Q 13 c from hQ 13 c (show c < 3 by omega)]
      change caF Q (Q 12 pl) k (if mx (Q 13 b) (Q 12 pl) ≤ mx (Q 13 c) (Q 12 pl) then b else c) (c + 1) = _ at hF
      have last : ∀ t : Int32, t = mx (Q 13 c) (Q 12 pl) → w_X4_arrives_66 K (fun (x y : Int32) => ∃ n' : Nat, n' < k + 1 ∧ ∃ b c, x = nI b ∧ y = nI c ∧ b < 3 ∧ 1 ≤ c ∧ c ≤ 3 ∧ n' = N 62 - c ∧ caF Q (Q 12 pl) n' b c = brC N Q pl) S (nI pl) (nI h) (nI b) (nI c) t := by
        intro t ht
        subst ht
        have l2 : ∀ u : Int32, u = mx (Q 13 b) (Q 12 pl) → w_X4_arrives_98 K (fun (x y : Int32) => ∃ n' : Nat, n' < k + 1 ∧ ∃ b c, x = nI b ∧ y = nI c ∧ b < 3 ∧ 1 ≤ c ∧ c ≤ 3 ∧ n' = N 62 - c ∧ caF Q (Q 12 pl) n' b c = brC N Q pl) S (nI pl) (nI h) (nI b) (nI c) (mx (Q 13 c) (Q 12 pl)) u := by
          intro u hu
          subst hu
          refine ⟨fun w => ?_, fun w => ?_⟩
          · rw [if_pos w] at hF
            intro y ey
            exact ⟨k, by omega, b, c + 1, rfl, by rw [ey, nI_1], hb3, by omega, by omega, by omega, hF⟩
          · rw [if_neg w] at hF
            intro y ey
            exact ⟨k, by omega, c, c + 1, rfl, by rw [ey, nI_1], by omega, by omega, by omega, by omega, hF⟩
        unfold w_X4_arrives_66
        rw [n_clamp (by omega), n_clamp (by omega), show S 10 4 pl = Q 12 pl from hQ 12 pl hp, show S 10 5 b = Q 13 b from hQ 13 b hb3]
        refine ⟨n_in hb3 (by omega), n_in hp (by omega), fun w => ⟨n_in hp (by omega), l2 _ ?_⟩, fun w => ⟨n_in hb3 (by omega), l2 _ ?_⟩⟩
        · rw [← mx_le, if_pos w]
        · rw [← mx_le, if_neg w]
      refine ⟨n_in (by omega) (by omega), n_in hp (by omega), fun w => ⟨n_in hp (by omega), last _ ?_⟩, fun w => ⟨n_in (by omega) (by omega), last _ ?_⟩⟩
      · rw [← mx_le, if_pos w]
      · rw [← mx_le, if_neg w]
  · rw [if_pos q, if_pos q] at hK
    exact hK S hQ (fun _ _ _ _ => rfl) (fun _ _ => rfl)
theorem p_repairs {s r : Nat} {K : Int32 → Prop} (hM : MR S N) (hW : WF N) (hs : s < 1000) (hr : r < 1000) (hK : K (nI (rpF N s r (N 86) 0 0))) : w_X4_repairs S (nI s) (nI r) K := by
  have hc := w_bc hW
  refine ⟨fun n x y => ∃ j a, y = nI j ∧ x = nI a ∧ j + n = N 86 ∧ rpF N s r n j a = rpF N s r (N 86) 0 0, ⟨N 86, 0, 0, nI_0.symm, nI_0.symm, Nat.zero_add _, rfl⟩, ?_⟩
  rintro n x y ⟨j, a, rfl, rfl, hj, ha⟩
  rw [hM 86 (by omega), n_le (by omega) (by omega)]
  refine ⟨fun h => ?_, fun h => ?_⟩
  · have : n = 0 := by omega
    subst this
    rw [show a = rpF N s r (N 86) 0 0 from ha]
    exact hK
  · obtain ⟨c, rfl⟩ : ∃ c, n = c + 1 := ⟨n - 1, by omega⟩
    have h1 := w_bs hW (i := j) (by omega)
    have h2 := w_br hW (i := j) (by omega)
    rw [show (87 : Int32) = nI 87 from rfl, show (95 : Int32) = nI 95 from rfl, show (103 : Int32) = nI 103 from rfl, nI_add, nI_add, nI_add, n_clamp (by omega), n_clamp (by omega), n_clamp (by omega), hM (87 + j) (by omega), hM (95 + j) (by omega), hM (103 + j) (by omega), n_eq (by omega) (by omega), n_eq (by omega) (by omega), Int32.add_zero]
    change rpF N s r c (j + 1) (if N (87 + j) = s then (if N (95 + j) = r then a + N (103 + j) else a) else a) = _ at ha
    refine ⟨n_in (by omega) (by omega), fun q => ?_, fun q => ⟨n_in (by omega) (by omega), fun q2 => ?_, fun q2 => ⟨n_in (by omega) (by omega), fun y45 e45 => ?_⟩⟩⟩
    · rw [if_neg q] at ha
      intro z ez y ey
      exact ⟨c, by omega, j + 1, a, by rw [ey, nI_1], ez, by omega, ha⟩
    · rw [if_pos q, if_neg q2] at ha
      intro z ez y ey
      exact ⟨c, by omega, j + 1, a, by rw [ey, nI_1], ez, by omega, ha⟩
    · rw [if_pos q, if_pos q2] at ha
      intro y ey
      exact ⟨c, by omega, j + 1, a + N (103 + j), by rw [ey, nI_1], by rw [e45, nI_add], by omega, ha⟩
theorem LA.br {pl : Nat} {h : Int32} (hL : LA Q) : LA (brQ N Q pl h) := by
  intro m hm
  unfold brQ
  split
  · exact hL m hm
  · unfold up2
    rw [if_neg (by omega), if_neg (by omega), if_neg (by omega)]
    exact hL m hm
theorem LA.reel {s r fm : Nat} {due : Int32} (hW : WF N) (hp : plc N s r < 24) (hL : LA Q) : LA (rQ6 N Q s r due fm) := by
  intro m hm
  have ha := w_asp hW hp
  unfold rQ6 up2
  rw [if_neg (by omega)]
  by_cases z : m = rM N Q s r due fm
  · rw [if_pos ⟨rfl, z⟩]
    exact Or.inr (nI_pos (by omega))
  · rw [if_neg (fun w => z w.2), if_neg (by omega), if_neg (by omega)]
    unfold rQ2
    split
    · exact LA.br hL m hm
    · unfold up2
      rw [if_neg (by omega)]
      exact LA.br hL m hm
theorem LA.loop {s fm : Nat} (hW : WF N) (hs : s < 6) : ∀ (k r : Nat) (Q : Qs) (due dl gp : Int32) (st mc : Nat → Int32), r + k ≤ N (N (74 + s)) → LA Q → LA (slF N s fm k r Q due dl gp st mc).1
  | 0, _, _, _, _, _, _, _, _, h => h
  | k + 1, r, Q, due, dl, gp, st, mc, hr, h => by
    have hsf := w_sf hW hs
    have hrc := w_rc hW (i := N (74 + s)) (by omega)
    unfold slF
    exact LA.loop hW hs k (r + 1) _ _ _ _ _ _ (by omega) (LA.reel hW (by unfold plc; omega) h)
theorem LA.show {s : Nat} (hW : WF N) (hs : s < 6) (hL : LA Q) : LA (shF N Q s).1 := by
  unfold shF
  split
  · exact hL
  · exact LA.loop hW hs _ _ _ _ _ _ _ _ (by omega) hL
end M
