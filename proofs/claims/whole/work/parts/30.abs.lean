/-! THE PLAN, abstractly. Q c i: what the plan holds while it is made, by the numbers of the Plan's fields: 6 run times, 7 carried, 8 plates, 11 where reels are, 12 when they are ready, 13 carriers, 14 machines, 15 last aspects; 0 to 5 are results -/
abbrev Qs : Type := Nat → Nat → Int32
def up2 (Q : Qs) (c i : Nat) (v : Int32) : Qs := fun a j => if a = c ∧ j = i then v else Q a j
def lqL : List Nat := [0, 0, 0, 0, 0, 0, 5, 1, 1, 0, 0, 24, 24, 3, 5, 5]
def lq (c : Nat) : Nat := lqL.getD c 0
def RQ (f : Nat → Nat → Int32) (Q : Qs) : Prop := ∀ c i, i < lq c → f c i = Q c i
def muL : List Nat := [11, 9, 10, 12, 13, 14, 8, 15, 16, 18, 18, 3, 4, 5, 6, 7]
def mu (c : Nat) : Nat := muL.getD c 18
def mf (S : St) : Nat → Nat → Int32 := fun c => S 10 (mu c)
theorem RQ.put3 {S : St} {Q : Qs} (h : RQ (S 8) Q) (c i : Nat) (v : Int32) : RQ (up3 S 8 c i v 8) (up2 Q c i v) := by
  intro a j hj
  unfold up3 up2
  by_cases q : a = c ∧ j = i
  · rw [if_pos ⟨rfl, q⟩, if_pos q]
  · rw [if_neg (fun z => q z.2), if_neg q]
    exact h a j hj
theorem RQ.skip3 {S : St} {Q : Qs} (h : RQ (S 8) Q) {c i : Nat} {v : Int32} (hc : lq c = 0) : RQ (up3 S 8 c i v 8) Q := by
  intro a j hj
  unfold up3
  rw [if_neg (fun z => by rw [z.2.1, hc] at hj; omega)]
  exact h a j hj
theorem RQ.at3 {S S' : St} {Q : Qs} (h : RQ (S 8) Q) (e : S' 8 = S 8) : RQ (S' 8) Q := by rw [e]; exact h
theorem mu_inj : ∀ a ∈ List.range 16, ∀ c ∈ List.range 16, (lq a == 0 || lq c == 0 || !(mu a == mu c) || a == c) = true := by decide +kernel
theorem lq_lt {a : Nat} (h : 0 < lq a) : a < 16 := by
  rcases Nat.lt_or_ge a 16 with q | q
  · exact q
  · unfold lq at h
    rw [List.getD_eq_getElem?_getD, List.getElem?_eq_none (by exact q)] at h
    exact absurd h (by decide)
theorem mu_eq {a c : Nat} (ha : 0 < lq a) (hc : 0 < lq c) (h : mu a = mu c) : a = c := by
  have q := mu_inj a (List.mem_range.mpr (lq_lt ha)) c (List.mem_range.mpr (lq_lt hc))
  simp only [Bool.or_eq_true, beq_iff_eq, Bool.not_eq_true', beq_eq_false_iff_ne] at q
  rcases q with ((q | q) | q) | q
  · omega
  · omega
  · exact absurd h q
  · exact q
theorem RQ.put4 {S : St} {Q : Qs} (h : RQ (mf S) Q) {c : Nat} (hc : 0 < lq c) (i : Nat) (v : Int32) : RQ (mf (up3 S 10 (mu c) i v)) (up2 Q c i v) := by
  intro a j hj
  unfold mf up3 up2
  by_cases q : a = c ∧ j = i
  · rw [if_pos ⟨rfl, by rw [q.1], q.2⟩, if_pos q]
  · rw [if_neg (fun z => q ⟨mu_eq (by omega) hc z.2.1, z.2.2⟩), if_neg q]
    exact h a j hj
def isMu (k : Nat) : Bool := (List.range 16).any (fun c => decide (0 < lq c) && mu c == k)
theorem RQ.skip4 {S : St} {Q : Qs} (h : RQ (mf S) Q) {k i : Nat} {v : Int32} (hk : isMu k = false) : RQ (mf (up3 S 10 k i v)) Q := by
  intro a j hj
  unfold mf up3
  rw [if_neg (fun z => ?_)]
  · exact h a j hj
  · have ha : 0 < lq a := by omega
    have : isMu k = true := by
      unfold isMu
      rw [List.any_eq_true]
      exact ⟨a, List.mem_range.mpr (lq_lt ha), by simp [ha, z.2.1]⟩
    rw [hk] at this
    cases this
theorem RQ.cong {f : Nat → Nat → Int32} {Q Q' : Qs} (h : RQ f Q) (e : ∀ c i, Q c i = Q' c i) : RQ f Q' := fun c i hi => (h c i hi).trans (e c i)
/- the plan's questions -/
def npF (Q : Qs) (m : Nat) (a : Int32) : Int32 := if Q 15 m = -1 then 0 else if Q 15 m = a then 0 else 1
def stF (N : Row) (Q : Qs) (m : Nat) (a arr due : Int32) : Int32 := mx due (mx arr (if npF Q m a = 0 then Q 14 m else Q 14 m + nI (N 64)) + nI (N 63))
def caF (Q : Qs) (r : Int32) : Nat → Nat → Nat → Nat
  | 0, b, _ => b
  | k + 1, b, c => caF Q r k (if mx (Q 13 b) r ≤ mx (Q 13 c) r then b else c) (c + 1)
theorem caF_lt {Q : Qs} {r : Int32} : ∀ (k b c : Nat), b < 3 → c + k ≤ 3 → caF Q r k b c < 3
  | 0, _, _, h, _ => h
  | k + 1, b, c, h, hc => by
    unfold caF
    refine caF_lt k _ (c + 1) ?_ (by omega)
    split
    · exact h
    · omega
def brC (N : Row) (Q : Qs) (pl : Nat) : Nat := caF Q (Q 12 pl) (N 62 - 1) 0 1
def brA (N : Row) (Q : Qs) (pl : Nat) (h : Int32) : Int32 := if Q 11 pl = h then Q 12 pl else mx (Q 13 (brC N Q pl)) (Q 12 pl) + nI (N 66)
def brQ (N : Row) (Q : Qs) (pl : Nat) (h : Int32) : Qs := if Q 11 pl = h then Q else up2 (up2 (up2 Q 13 (brC N Q pl) (mx (Q 13 (brC N Q pl)) (Q 12 pl) + nI (N 66) + nI (N 66))) 11 pl h) 7 0 (Q 7 0 + 1)
def mlF (N : Row) (Q : Qs) (h : Nat) (a arr due : Int32) : Nat → Nat → Nat → Nat
  | 0, b, _ => b
  | k + 1, b, m => mlF N Q h a arr due k (if N (57 + m) = h then (if stF N Q b a arr due ≤ stF N Q m a arr due then b else m) else b) (m + 1)
theorem mlF_lt {N : Row} {Q : Qs} {h : Nat} {a arr due : Int32} : ∀ (k b m : Nat), b < 5 → m + k ≤ 5 → mlF N Q h a arr due k b m < 5
  | 0, _, _, h, _ => h
  | k + 1, b, m, hb, hm => by
    unfold mlF
    refine mlF_lt k _ (m + 1) ?_ (by omega)
    split
    · split
      · exact hb
      · omega
    · exact hb
def plc (N : Row) (s r : Nat) : Nat := 6 * N (74 + s) + r
def rA (N : Row) (s r : Nat) : Int32 := nI (N (28 + plc N s r))
def rH (N : Row) (s : Nat) : Int32 := nI (N (68 + s))
def rArr (N : Row) (Q : Qs) (s r : Nat) : Int32 := brA N Q (plc N s r) (rH N s)
def rQ1 (N : Row) (Q : Qs) (s r : Nat) : Qs := brQ N Q (plc N s r) (rH N s)
def rM (N : Row) (Q : Qs) (s r : Nat) (due : Int32) (fm : Nat) : Nat := mlF N (rQ1 N Q s r) (N (68 + s)) (rA N s r) (rArr N Q s r) due (N 56 - fm - 1) fm (fm + 1)
def rS (N : Row) (Q : Qs) (s r : Nat) (due : Int32) (fm : Nat) : Int32 := stF N (rQ1 N Q s r) (rM N Q s r due fm) (rA N s r) (rArr N Q s r) due
def rE (N : Row) (Q : Qs) (s r : Nat) (due : Int32) (fm : Nat) : Int32 := rS N Q s r due fm + nI (N (4 + plc N s r)) + nI (rpF N s r (N 86) 0 0)
def rQ2 (N : Row) (Q : Qs) (s r : Nat) (due : Int32) (fm : Nat) : Qs := if npF (rQ1 N Q s r) (rM N Q s r due fm) (rA N s r) = 0 then rQ1 N Q s r else up2 (rQ1 N Q s r) 8 0 (rQ1 N Q s r 8 0 + 1)
def rQ6 (N : Row) (Q : Qs) (s r : Nat) (due : Int32) (fm : Nat) : Qs := up2 (up2 (up2 (up2 (rQ2 N Q s r due fm) 6 (rM N Q s r due fm) (rQ2 N Q s r due fm 6 (rM N Q s r due fm) + (rE N Q s r due fm - rS N Q s r due fm))) 14 (rM N Q s r due fm) (rE N Q s r due fm)) 15 (rM N Q s r due fm) (rA N s r)) 12 (plc N s r) (rE N Q s r due fm + nI (N 65))
/- the class asks -/
section C
variable {S : St} {o : Nat} {N : Row} {Q : Qs}
theorem p_needsPlate {m : Nat} {a : Int32} {K : Int32 → Prop} (hQ : RQ (S 8) Q) (hm : m < 5) (hK : K (npF Q m a)) : w_X2_needsPlate S (nI m) a K := by
  unfold w_X2_needsPlate
  rw [n_clamp (by omega), hQ 15 m hm]
  unfold npF at hK
  refine ⟨n_in hm (by omega), fun q => ?_, fun q => ⟨n_in hm (by omega), fun q2 => ?_, fun q2 => ?_⟩⟩
  · rw [if_pos q] at hK; exact hK
  · rw [if_neg q, if_pos q2] at hK; exact hK
  · rw [if_neg q, if_neg q2] at hK; exact hK
theorem npF_01 {m : Nat} {a : Int32} : npF Q m a = 0 ∨ npF Q m a = 1 := by
  unfold npF
  split
  · exact Or.inl rfl
  · split
    · exact Or.inl rfl
    · exact Or.inr rfl
theorem p_startOn {m : Nat} {a arr due : Int32} {K : Int32 → Prop} (hD : DR S o N) (hQ : RQ (S 8) Q) (hm : m < 5) (hK : K (stF N Q m a arr due)) : w_X2_startOn o S (nI m) a arr due K := by
  unfold stF at hK
  unfold w_X2_startOn w_X2_startOn_28
  rw [n_clamp (by omega), hQ 14 m hm, d_min hD (i := 0) (by decide), d_min hD (i := 1) (by decide)]
  refine ⟨n_in hm (by omega), ?_⟩
  rintro y rfl
  refine p_needsPlate hQ hm ⟨fun q => ?_, fun q => ?_⟩
  · rw [if_pos q] at hK; exact hK
  · rw [if_neg q] at hK
    rintro y rfl
    exact hK
theorem p_soonestCarrier {r : Int32} {K : Int32 → Prop} (hD : DR S o N) (hW : WF N) (hQ : RQ (S 8) Q) (hK : K (nI (caF Q r (N 62 - 1) 0 1))) : w_X2_soonestCarrier o S r K := by
  have hc := w_cc hW
  refine ⟨fun n x y => ∃ b c, x = nI b ∧ y = nI c ∧ b < 3 ∧ 1 ≤ c ∧ c ≤ 3 ∧ n = N 62 - c ∧ caF Q r n b c = caF Q r (N 62 - 1) 0 1, ⟨N 62 - 1, 0, 1, nI_0.symm, rfl, by omega, by omega, by omega, rfl, rfl⟩, ?_⟩
  rintro n x y ⟨b, c, rfl, rfl, hb, hc1, hc3, hn, hF⟩
  rw [d_cc hD, n_le (by omega) (by omega)]
  refine ⟨fun q => ?_, fun q => ?_⟩
  · have : n = 0 := by omega
    subst this
    rw [show b = caF Q r (N 62 - 1) 0 1 from hF]
    exact hK
  · obtain ⟨k, rfl⟩ : ∃ k, n = k + 1 := ⟨n - 1, by omega⟩
    rw [n_clamp (by omega), n_clamp (by omega), hQ 13 b hb, hQ 13 c (show c < 3 by omega)]
    refine ⟨n_in (by omega) (by omega), n_in (by omega) (by omega), ?_⟩
    change caF Q r k (if mx (Q 13 b) r ≤ mx (Q 13 c) r then b else c) (c + 1) = _ at hF
    refine ⟨fun q2 => ?_, fun q2 => ?_⟩
    · have q2 : mx (Q 13 b) r ≤ mx (Q 13 c) r := q2
      rw [if_pos q2] at hF
      intro y ey
      exact ⟨k, by omega, b, c + 1, rfl, by rw [ey, nI_1], hb, by omega, by omega, by omega, hF⟩
    · have q2 : ¬ mx (Q 13 b) r ≤ mx (Q 13 c) r := q2
      rw [if_neg q2] at hF
      intro y ey
      exact ⟨k, by omega, c, c + 1, rfl, by rw [ey, nI_1], by omega, by omega, by omega, by omega, hF⟩
end C
