theorem e3_put {S S1 : St} {h : Nat → Row} {n : Nat} {N : Row} {k i v : Nat} {P : St → Prop} (d1 : DR S1 0 N) (g1 : HR S1 h n) (f1 : ∀ p, p < 2 ∨ 7 < p → S1 p = S p) (hk : k < 16) (hi : i < sz k) (hP : ∀ S', DR S' 0 (upN N (of k + i) v) → HR S' h n → (∀ p, p = 1 ∨ 7 < p → S' p = S p) → P S') : P (up3 S1 0 k i (nI v)) := hP _ (d1.put hk hi) (g1.at (fun p h1 h2 => up3_obj (by omega))) (fun p hp => by rw [up3_obj (by omega)]; exact f1 p (by omega))
theorem e4_put {S S1 : St} {h : Nat → Row} {n : Nat} {N : Row} {P : St → Prop} (m1 : MR S1 N) (b1 : BR S1 h n) (f1 : ∀ p, p ≠ 10 → S1 p = S p) (j v : Nat) (hP : ∀ S', MR S' (upN N j v) → BR S' h n → (∀ p, p ≠ 10 → S' p = S p) → P S') : P (up3 S1 10 0 j (nI v)) := hP _ (m1.put j v) (b1.at (up3_fld (by omega)) (up3_fld (by omega))) (fun p hp => by rw [up3_obj hp]; exact f1 p hp)
/- removeReels -/
def opRemoveReels (a : Int32) (N : Row) : Int32 × Option Row := if inR a 0 3 then (if anyF N a.toNatClampNeg (N 67) 0 = true then (-2, none) else (nI (N a.toNatClampNeg), some (upN N a.toNatClampNeg 0))) else (-1, none)
theorem x3_removeReels {a : Int32} {S : St} {N : Row} {h : Nat → Row} {n : Nat} {K : Int32 → St → Prop} (hD : DR S 0 N) (hH : HR S h n) (hW : WF N) (hK : Fin3 S N h n K (opRemoveReels a N)) : w_X3_removeReels S a K := by
  unfold opRemoveReels at hK
  refine g3b (a := 0) (b := 3) rfl rfl (fun ha => ?_) (fun ha => ?_)
  · rw [if_pos ha] at hK
    obtain ⟨f, hf, rfl⟩ := i_film ha
    rw [n_clamp (by omega)] at hK
    refine p_isShown hD hW hf (fun q => ⟨fun z => absurd z (by decide), fun _ => ?_⟩) (fun q => ⟨fun _ => ?_, fun z => absurd rfl z⟩)
    · rw [if_pos q] at hK; exact hK
    · rw [if_neg (by rw [q]; decide)] at hK
      refine p_remember hH hD (fun S1 d1 g1 f1 => ⟨n_in hf (by omega), ?_⟩)
      rw [n_clamp (by omega), d_rc d1 hf]
      rintro y rfl
      refine ⟨n_in hf (by omega), ?_⟩
      rintro S2 rfl
      refine e3_put (k := 0) (i := f) (v := 0) (P := fun S' => K (nI (N f)) S') d1 g1 f1 (by decide) hf (fun S' d g f' => ?_)
      rw [show of 0 + f = f from Nat.zero_add f] at d
      exact hK S' d g f'
  · rw [if_neg ha] at hK; exact hK
theorem x4_removeReels {a : Int32} {S : St} {N : Row} {h : Nat → Row} {n : Nat} {K : Int32 → St → Prop} (hM : MR S N) (hB : BR S h n) (hW : WF N) (hK : Fin4 S N h n K (opRemoveReels a N)) : w_X4_removeReels S a K := by
  unfold opRemoveReels at hK
  refine g4b (a := 0) (b := 3) (S := S) rfl rfl (fun ha => ?_) (fun ha => ?_)
  · rw [if_pos ha] at hK
    obtain ⟨f, hf, rfl⟩ := i_film ha
    rw [n_clamp (by omega)] at hK
    have hc := w_sc hW
    refine ⟨fun c x => ∃ j, x = nI j ∧ j + c = N 67 ∧ anyF N f c j = anyF N f (N 67) 0, ⟨N 67, 0, nI_0.symm, Nat.zero_add _, rfl⟩, ?_⟩
    rintro c x ⟨j, rfl, hj, hA⟩
    rw [hM 67 (by omega), n_le (by omega) (by omega), up_self0, show (74 : Int32) = nI 74 from rfl, nI_add, n_clamp (by omega), n_clamp (by omega)]
    refine ⟨fun q => ?_, fun q => ⟨n_in (by omega) (by omega), ?_⟩⟩
    · have : c = 0 := by omega
      subst this
      rw [if_neg (by rw [← hA]; exact Bool.false_ne_true)] at hK
      refine p_keeps hB hM (fun S1 m1 b1 f1 => ⟨n_in (by omega) (by omega), ?_⟩)
      rw [m1 f (by omega)]
      rintro y rfl
      refine ⟨n_in (by omega) (by omega), ?_⟩
      rintro S2 rfl
      exact e4_put (P := fun S' => K (nI (N f)) S') m1 b1 f1 f 0 hK
    · obtain ⟨c, rfl⟩ : ∃ d, c = d + 1 := ⟨c - 1, by omega⟩
      have hsf := w_sf hW (i := j) (by omega)
      rw [hM _ (by omega), n_eq (by omega) (by omega)]
      change (if N (74 + j) = f then true else anyF N f c (j + 1)) = _ at hA
      refine ⟨fun z => ?_, fun z => ?_⟩
      · rw [if_neg z] at hA
        intro y ey
        exact ⟨c, by omega, j + 1, by rw [ey, nI_1], by omega, hA⟩
      · rw [if_pos z] at hA
        rw [if_pos hA.symm] at hK
        exact hK
  · rw [if_neg ha] at hK; exact hK
theorem wf_removeReels {a : Int32} {N : Row} {r : Int32} {N' : Row} (hW : WF N) (h : opRemoveReels a N = (r, some N')) : WF N' := by
  unfold opRemoveReels at h
  split at h
  · split at h
    · cases h
    · cases h; exact hW.put (Nat.zero_le _)
  · cases h
/- setHome -/
def opSetHome (a b : Int32) (N : Row) : Int32 × Option Row := if inR a 0 3 ∧ inR b 0 1 then (nI (N (52 + a.toNatClampNeg)), some (upN N (52 + a.toNatClampNeg) b.toNatClampNeg)) else (-1, none)
theorem x3_setHome {a b : Int32} {S : St} {N : Row} {h : Nat → Row} {n : Nat} {K : Int32 → St → Prop} (hD : DR S 0 N) (hH : HR S h n) (hW : WF N) (hK : Fin3 S N h n K (opSetHome a b N)) : w_X3_setHome S a b K := by
  unfold opSetHome at hK
  refine g3a rfl rfl (fun ha => g3b rfl rfl (fun hb => ?_) (fun hb => ?_)) (fun ha => ?_)
  · rw [if_pos ⟨ha, hb⟩] at hK
    obtain ⟨f, hf, rfl⟩ := i_film ha
    obtain ⟨x, hx, rfl⟩ := i_house hb
    rw [n_clamp (by omega), n_clamp (by omega)] at hK
    refine p_remember hH hD (fun S1 d1 g1 f1 => ⟨n_in hf (by omega), ?_⟩)
    rw [n_clamp (by omega), d_home d1 hf]
    rintro y rfl
    refine ⟨n_in hf (by omega), ?_⟩
    rintro S2 rfl
    exact e3_put (k := 3) (P := fun S' => K (nI (N (52 + f))) S') d1 g1 f1 (by decide) hf hK
  · rw [if_neg (fun z => hb z.2)] at hK; exact hK
  · rw [if_neg (fun z => ha z.1)] at hK; exact hK
theorem x4_setHome {a b : Int32} {S : St} {N : Row} {h : Nat → Row} {n : Nat} {K : Int32 → St → Prop} (hM : MR S N) (hB : BR S h n) (hW : WF N) (hK : Fin4 S N h n K (opSetHome a b N)) : w_X4_setHome S a b K := by
  unfold opSetHome at hK
  refine g4a (S := S) rfl rfl (fun ha => g4b (S := S) rfl rfl (fun hb => ?_) (fun hb => ?_)) (fun ha => ?_)
  · rw [if_pos ⟨ha, hb⟩] at hK
    obtain ⟨f, hf, rfl⟩ := i_film ha
    obtain ⟨x, hx, rfl⟩ := i_house hb
    rw [n_clamp (by omega), n_clamp (by omega)] at hK
    rw [show (52 : Int32) = nI 52 from rfl, nI_add, n_clamp (by omega)]
    refine p_keeps hB hM (fun S1 m1 b1 f1 => ⟨n_in (by omega) (by omega), ?_⟩)
    rw [m1 _ (by omega)]
    rintro y rfl
    refine ⟨n_in (by omega) (by omega), ?_⟩
    rintro S2 rfl
    exact e4_put (P := fun S' => K (nI (N (52 + f))) S') m1 b1 f1 _ _ hK
  · rw [if_neg (fun z => hb z.2)] at hK; exact hK
  · rw [if_neg (fun z => ha z.1)] at hK; exact hK
theorem wf_setHome {a b : Int32} {N : Row} {r : Int32} {N' : Row} (hW : WF N) (h : opSetHome a b N = (r, some N')) : WF N' := by
  unfold opSetHome at h
  split at h
  · rename_i q
    obtain ⟨f, hf, rfl⟩ := i_film q.1
    obtain ⟨x, hx, rfl⟩ := i_house q.2
    rw [n_clamp (by omega), n_clamp (by omega)] at h
    cases h
    exact hW.put (by rw [ub_home f hf]; omega)
  · cases h
/- setCarriers -/
def opSetCarriers (a : Int32) (N : Row) : Int32 × Option Row := if inR a 1 3 then (nI (N 62), some (upN N 62 a.toNatClampNeg)) else (-1, none)
theorem x3_setCarriers {a : Int32} {S : St} {N : Row} {h : Nat → Row} {n : Nat} {K : Int32 → St → Prop} (hD : DR S 0 N) (hH : HR S h n) (hW : WF N) (hK : Fin3 S N h n K (opSetCarriers a N)) : w_X3_setCarriers S a K := by
  unfold opSetCarriers at hK
  refine g3b (a := 1) (b := 3) rfl rfl (fun ha => ?_) (fun ha => ?_)
  · rw [if_pos ha] at hK
    obtain ⟨x, hx1, hx, rfl⟩ := i_pos (k := 3) (by omega) ha
    rw [n_clamp (by omega)] at hK
    refine p_remember hH hD (fun S1 d1 g1 f1 => ?_)
    rw [d_cc d1]
    rintro y rfl
    rintro S2 rfl
    exact e3_put (k := 6) (i := 0) (P := fun S' => K (nI (N 62)) S') d1 g1 f1 (by decide) (by decide) hK
  · rw [if_neg ha] at hK; exact hK
theorem x4_setCarriers {a : Int32} {S : St} {N : Row} {h : Nat → Row} {n : Nat} {K : Int32 → St → Prop} (hM : MR S N) (hB : BR S h n) (hW : WF N) (hK : Fin4 S N h n K (opSetCarriers a N)) : w_X4_setCarriers S a K := by
  unfold opSetCarriers at hK
  refine g4b (a := 1) (b := 3) (S := S) rfl rfl (fun ha => ?_) (fun ha => ?_)
  · rw [if_pos ha] at hK
    obtain ⟨x, hx1, hx, rfl⟩ := i_pos (k := 3) (by omega) ha
    rw [n_clamp (by omega)] at hK
    refine p_keeps hB hM (fun S1 m1 b1 f1 => ?_)
    rw [m1 62 (by omega)]
    rintro y rfl
    rintro S2 rfl
    exact e4_put (P := fun S' => K (nI (N 62)) S') m1 b1 f1 _ _ hK
  · rw [if_neg ha] at hK; exact hK
theorem wf_setCarriers {a : Int32} {N : Row} {r : Int32} {N' : Row} (hW : WF N) (h : opSetCarriers a N = (r, some N')) : WF N' := by
  unfold opSetCarriers at h
  split at h
  · rename_i q
    obtain ⟨x, hx1, hx, rfl⟩ := i_pos (k := 3) (by omega) q
    rw [n_clamp (by omega)] at h
    cases h
    exact hW.put (show _ ≤ 3 by omega)
  · cases h
/- setDuration -/
def loD (d : Nat) : Int := if d = 3 then 1 else 0
def hiD (d : Nat) : Int := if d < 2 then 10 else if d = 2 then 15 else 30
theorem tl_lo : ∀ d, d < 4 → (tLeast d).toInt = loD d := by decide
theorem tm_hi : ∀ d, d < 4 → (tMost d).toInt = hiD d := by decide
theorem i_dur {x : Int32} {d : Nat} (h : inR x (loD d) (hiD d)) : ∃ j : Nat, j ≤ 30 ∧ x = nI j := by
  refine inR_nat (hi := 30) ⟨?_, ?_⟩ (by omega)
  · have := h.1; unfold loD at this; split at this <;> omega
  · have := h.2; unfold hiD at this; (repeat' split at this) <;> omega
def opSetDuration (a b : Int32) (N : Row) : Int32 × Option Row := if inR a 0 3 then (if inR b (loD a.toNatClampNeg) (hiD a.toNatClampNeg) then (nI (N (63 + a.toNatClampNeg)), some (upN N (63 + a.toNatClampNeg) b.toNatClampNeg)) else (-1, none)) else (-1, none)
theorem x3_setDuration {a b : Int32} {S : St} {N : Row} {h : Nat → Row} {n : Nat} {K : Int32 → St → Prop} (hD : DR S 0 N) (hH : HR S h n) (hW : WF N) (hK : Fin3 S N h n K (opSetDuration a b N)) : w_X3_setDuration S a b K := by
  unfold opSetDuration at hK
  refine g3b (a := 0) (b := 3) rfl rfl (fun ha => ?_) (fun ha => ?_)
  · rw [if_pos ha] at hK
    obtain ⟨d, hd, rfl⟩ := i_film ha
    rw [n_clamp (by omega)] at hK ⊢
    refine ⟨n_in hd (by omega), n_in hd (by omega), g3b (tl_lo d hd) (tm_hi d hd) (fun hb => ?_) (fun hb => ?_)⟩
    · rw [if_pos hb] at hK
      obtain ⟨x, hx, rfl⟩ := i_dur hb
      rw [n_clamp (by omega)] at hK
      refine p_remember hH hD (fun S1 d1 g1 f1 => ⟨n_in hd (by omega), ?_⟩)
      rw [d_min d1 hd]
      rintro y rfl
      refine ⟨n_in hd (by omega), ?_⟩
      rintro S2 rfl
      exact e3_put (k := 7) (P := fun S' => K (nI (N (63 + d))) S') d1 g1 f1 (by decide) hd hK
    · rw [if_neg hb] at hK; exact hK
  · rw [if_neg ha] at hK; exact hK
theorem x4_setDuration49 {d : Nat} {b : Int32} {S : St} {N : Row} {h : Nat → Row} {n : Nat} {K : Int32 → St → Prop} (hd : d < 4) (hM : MR S N) (hB : BR S h n) (hK : Fin4 S N h n K (if inR b (loD d) (hiD d) then (nI (N (63 + d)), some (upN N (63 + d) b.toNatClampNeg)) else (-1, none))) {lo hi : Int64} (el : lo.toInt = loD d) (eh : hi.toInt = hiD d) : w_X4_setDuration_49 K S (nI d) b hi lo (Int32.toInt64 b) := by
  refine g4b (S := S) el eh (fun hb => ?_) (fun hb => ?_)
  · rw [if_pos hb] at hK
    obtain ⟨x, hx, rfl⟩ := i_dur hb
    rw [n_clamp (by omega)] at hK
    rw [show (63 : Int32) = nI 63 from rfl, nI_add, n_clamp (by omega)]
    refine p_keeps hB hM (fun S1 m1 b1 f1 => ⟨n_in (by omega) (by omega), ?_⟩)
    rw [m1 _ (by omega)]
    rintro y rfl
    refine ⟨n_in (by omega) (by omega), ?_⟩
    rintro S2 rfl
    exact e4_put (P := fun S' => K (nI (N (63 + d))) S') m1 b1 f1 _ _ hK
  · rw [if_neg hb] at hK; exact hK
theorem x4_setDuration {a b : Int32} {S : St} {N : Row} {h : Nat → Row} {n : Nat} {K : Int32 → St → Prop} (hM : MR S N) (hB : BR S h n) (hW : WF N) (hK : Fin4 S N h n K (opSetDuration a b N)) : w_X4_setDuration S a b K := by
  unfold opSetDuration at hK
  refine g4a (a := 0) (b := 3) (S := S) rfl rfl (fun ha => ?_) (fun ha => ?_)
  · rw [if_pos ha] at hK
    obtain ⟨d, hd, rfl⟩ := i_film ha
    rw [n_clamp (by omega)] at hK
    unfold w_X4_setDuration_24
    rw [show (3 : Int32) = nI 3 from rfl, show (2 : Int32) = nI 2 from rfl, n_eq (by omega) (by omega), n_eq (by omega) (by omega), n_le (by omega) (by omega)]
    have key := fun {lo hi : Int64} => x4_setDuration49 (b := b) (K := K) (lo := lo) (hi := hi) hd hM hB hK
    rcases (show d = 0 ∨ d = 1 ∨ d = 2 ∨ d = 3 by omega) with rfl | rfl | rfl | rfl
    · exact ⟨fun _ => ⟨fun q => absurd q (by decide), fun _ => key rfl rfl⟩, fun q => absurd q (by decide)⟩
    · exact ⟨fun _ => ⟨fun q => absurd q (by decide), fun _ => key rfl rfl⟩, fun q => absurd q (by decide)⟩
    · exact ⟨fun _ => ⟨fun _ => ⟨fun q => absurd rfl q, fun _ => key rfl rfl⟩, fun q => absurd (by decide) q⟩, fun q => absurd q (by decide)⟩
    · exact ⟨fun q => absurd rfl q, fun _ => ⟨fun _ => ⟨fun _ => key rfl rfl, fun q => absurd q (by decide)⟩, fun q => absurd (by decide) q⟩⟩
  · rw [if_neg ha] at hK; exact hK
theorem wf_setDuration {a b : Int32} {N : Row} {r : Int32} {N' : Row} (hW : WF N) (h : opSetDuration a b N = (r, some N')) : WF N' := by
  unfold opSetDuration at h
  split at h
  · rename_i q
    obtain ⟨d, hd, rfl⟩ := i_film q
    rw [n_clamp (by omega)] at h
    split at h
    · rename_i q2
      obtain ⟨x, hx, rfl⟩ := i_dur q2
      rw [n_clamp (by omega)] at h
      cases h
      exact hW.put (by rw [(by decide : ∀ d, d < 4 → ub (63 + d) = 30) d hd]; exact hx)
    · cases h
  · cases h
/- clearBreaks -/
def opClearBreaks (N : Row) : Int32 × Option Row := (nI (N 86), some (upN N 86 0))
theorem x3_clearBreaks {S : St} {N : Row} {h : Nat → Row} {n : Nat} {K : Int32 → St → Prop} (hD : DR S 0 N) (hH : HR S h n) (hW : WF N) (hK : Fin3 S N h n K (opClearBreaks N)) : w_X3_clearBreaks S K := by
  refine p_remember hH hD (fun S1 d1 g1 f1 => ?_)
  rw [d_bc d1]
  rintro y rfl
  rintro S2 rfl
  exact e3_put (k := 12) (i := 0) (v := 0) (P := fun S' => K (nI (N 86)) S') d1 g1 f1 (by decide) (by decide) hK
theorem x4_clearBreaks {S : St} {N : Row} {h : Nat → Row} {n : Nat} {K : Int32 → St → Prop} (hM : MR S N) (hB : BR S h n) (hW : WF N) (hK : Fin4 S N h n K (opClearBreaks N)) : w_X4_clearBreaks S K := by
  refine p_keeps hB hM (fun S1 m1 b1 f1 => ?_)
  rw [m1 86 (by omega)]
  rintro y rfl
  rintro S2 rfl
  exact e4_put (P := fun S' => K (nI (N 86)) S') m1 b1 f1 _ 0 hK
theorem wf_clearBreaks {N : Row} {r : Int32} {N' : Row} (hW : WF N) (h : opClearBreaks N = (r, some N')) : WF N' := by
  cases h
  exact hW.put (Nat.zero_le _)
/- addMachine -/
def opAddMachine (a : Int32) (N : Row) : Int32 × Option Row := if inR a 0 1 then (if N 56 = 5 then (-3, none) else (nI (N 56), some (upN (upN N (57 + N 56) a.toNatClampNeg) 56 (N 56 + 1)))) else (-1, none)
theorem x3_addMachine {a : Int32} {S : St} {N : Row} {h : Nat → Row} {n : Nat} {K : Int32 → St → Prop} (hD : DR S 0 N) (hH : HR S h n) (hW : WF N) (hK : Fin3 S N h n K (opAddMachine a N)) : w_X3_addMachine S a K := by
  unfold opAddMachine at hK
  have hc := w_mc hW
  refine g3b (a := 0) (b := 1) rfl rfl (fun ha => ?_) (fun ha => ?_)
  · rw [if_pos ha] at hK
    obtain ⟨x, hx, rfl⟩ := i_house ha
    rw [n_clamp (by omega)] at hK
    rw [d_mc hD, show (5 : Int32) = nI 5 from rfl, n_lt (by omega) (by omega)]
    refine ⟨fun q => ?_, fun q => ?_⟩
    · rw [if_neg (by omega)] at hK
      refine p_remember hH hD (fun S1 d1 g1 f1 => p_appendMachine d1 q (fun S2 d2 f2 => ?_))
      rw [d_mc d2, upN_eq, nI_pred]
      exact hK S2 d2 (g1.at (fun p h1 h2 => f2 p (by omega))) (fun p hp => by rw [f2 p (by omega)]; exact f1 p (by omega))
    · rw [if_pos (by omega)] at hK; exact hK
  · rw [if_neg ha] at hK; exact hK
theorem x4_addMachine {a : Int32} {S : St} {N : Row} {h : Nat → Row} {n : Nat} {K : Int32 → St → Prop} (hM : MR S N) (hB : BR S h n) (hW : WF N) (hK : Fin4 S N h n K (opAddMachine a N)) : w_X4_addMachine S a K := by
  unfold opAddMachine at hK
  have hc := w_mc hW
  refine g4b (a := 0) (b := 1) (S := S) rfl rfl (fun ha => ?_) (fun ha => ?_)
  · rw [if_pos ha] at hK
    obtain ⟨x, hx, rfl⟩ := i_house ha
    rw [n_clamp (by omega)] at hK
    rw [hM 56 (by omega), show (5 : Int32) = nI 5 from rfl, n_eq (by omega) (by omega)]
    refine ⟨fun q => ?_, fun q => ?_⟩
    · rw [if_neg q] at hK
      refine p_keeps hB hM (fun S1 m1 b1 f1 => ?_)
      rw [m1 56 (by omega), show (57 : Int32) = nI 57 from rfl, nI_add, n_clamp (by omega)]
      refine ⟨n_in (by omega) (by omega), ?_⟩
      intro S2 e2
      have m2 := m1.put (57 + N 56) x
      rw [← e2] at m2
      rw [m2 56 (by omega), upN_ne (by omega), nI_1]
      intro S3 e3
      have m3 := m2.put 56 (N 56 + 1)
      rw [← e3] at m3
      rw [m3 56 (by omega), upN_eq, nI_pred]
      exact hK S3 m3 (b1.at (by rw [e3, up3_fld (by omega), e2, up3_fld (by omega)]) (by rw [e3, up3_fld (by omega), e2, up3_fld (by omega)])) (fun p hp => by rw [e3, up3_obj hp, e2, up3_obj hp]; exact f1 p hp)
    · rw [if_pos q] at hK; exact hK
  · rw [if_neg ha] at hK; exact hK
theorem wf_addMachine {a : Int32} {N : Row} {r : Int32} {N' : Row} (hW : WF N) (h : opAddMachine a N = (r, some N')) : WF N' := by
  unfold opAddMachine at h
  have hc := w_mc hW
  split at h
  · rename_i q
    obtain ⟨x, hx, rfl⟩ := i_house q
    rw [n_clamp (by omega)] at h
    split at h
    · cases h
    · cases h
      exact (hW.put (by rw [ub_mh _ (by omega)]; omega)).put (show _ ≤ 5 by omega)
  · cases h
/- removeMachine -/
theorem shf_wf : ∀ (c x : Nat) (N : Row), x + c ≤ 4 → WF N → WF (shf 57 c x N)
  | 0, _, _, _, h => h
  | c + 1, x, N, hc, h => shf_wf c (x + 1) _ (by omega) (h.put (by rw [ub_mh x (by omega)]; exact w_mh h (by omega)))
theorem p_isMachine3 {S : St} {x : Int32} {N : Row} {A B : Prop} (hD : DR S 0 N) (hW : WF N) (h1 : inR x 0 ((N 56 : Int) - 1) → B) (h0 : ¬ inR x 0 ((N 56 : Int) - 1) → A) : w_X3_isMachine S x (fun r => ((¬ r = 0) → B) ∧ ((r = 0) → A)) := by
  have hc := w_mc hW
  unfold w_X3_isMachine
  rw [d_mc hD]
  exact g3b rfl (n_pred (by omega)) h1 h0
theorem p_isMachine4 {S : St} {x : Int32} {N : Row} {K : Int32 → Prop} (hM : MR S N) (hW : WF N) (h1 : inR x 0 ((N 56 : Int) - 1) → K 1) (h0 : ¬ inR x 0 ((N 56 : Int) - 1) → K 0) : w_X4_isMachine S x K := by
  have hc := w_mc hW
  unfold w_X4_isMachine
  rw [hM 56 (by omega)]
  exact p_in rfl (n_predL (by omega)) h1 h0
def opRemoveMachine (x : Int32) (N : Row) : Int32 × Option Row := if inR x 0 ((N 56 : Int) - 1) then (nI (N 56 - 1), some (shf 57 (N 56 - 1 - x.toNatClampNeg) x.toNatClampNeg (upN N 56 (N 56 - 1)))) else (-1, none)
theorem x3_removeMachine {x : Int32} {S : St} {N : Row} {h : Nat → Row} {n : Nat} {K : Int32 → St → Prop} (hD : DR S 0 N) (hH : HR S h n) (hW : WF N) (hK : Fin3 S N h n K (opRemoveMachine x N)) : w_X3_removeMachine S x K := by
  unfold opRemoveMachine at hK
  have hc := w_mc hW
  refine p_isMachine3 hD hW (fun q => ?_) (fun q => ?_)
  · rw [if_pos q] at hK
    obtain ⟨j, hj, rfl⟩ := inR_lt (by omega) q
    rw [n_clamp (by omega)] at hK
    refine p_remember hH hD (fun S1 d1 g1 f1 => p_dropMachine d1 hW hj (fun S2 d2 f2 => ?_))
    rw [d_mc d2, shf_keep _ _ _ (fun i h1 h2 => by omega), upN_eq]
    exact hK S2 d2 (g1.at (fun p h1 h2 => f2 p (by omega))) (fun p hp => by rw [f2 p (by omega)]; exact f1 p (by omega))
  · rw [if_neg q] at hK; exact hK
theorem x4_removeMachine {x : Int32} {S : St} {N : Row} {h : Nat → Row} {n : Nat} {K : Int32 → St → Prop} (hM : MR S N) (hB : BR S h n) (hW : WF N) (hK : Fin4 S N h n K (opRemoveMachine x N)) : w_X4_removeMachine S x K := by
  unfold opRemoveMachine at hK
  have hc := w_mc hW
  refine p_isMachine4 hM hW (fun q => (z11.mpr ?_).symm) (fun q => (z01.mpr ?_).symm)
  · rw [if_pos q] at hK
    obtain ⟨j0, hj0, rfl⟩ := inR_lt (by omega) q
    rw [n_clamp (by omega)] at hK
    refine p_keeps hB hM (fun S1 m1 b1 f1 => ?_)
    rw [m1 56 (by omega), show (1 : Int32) = nI 1 from rfl, n_sub (by omega)]
    intro S2 e2
    have m2 := m1.put 56 (N 56 - 1)
    rw [← e2] at m2
    have b2 : BR S2 (pushH h n N) (pushn n) := b1.at (by rw [e2, up3_fld (by omega)]) (by rw [e2, up3_fld (by omega)])
    have f2 : ∀ p, p ≠ 10 → S2 p = S p := fun p hp => by rw [e2, up3_obj hp]; exact f1 p hp
    have hK : ∀ S', MR S' (shf 57 (N 56 - 1 - j0) j0 (upN N 56 (N 56 - 1))) → BR S' (pushH h n N) (pushn n) → (∀ p, p ≠ 10 → S' p = S p) → K (nI (N 56 - 1)) S' := hK
    generalize hfin : shf 57 (N 56 - 1 - j0) j0 (upN N 56 (N 56 - 1)) = F at hK
    refine ⟨fun c S' y => ∃ j M, y = nI j ∧ MR S' M ∧ M 56 = N 56 - 1 ∧ j + c = N 56 - 1 ∧ shf 57 c j M = F ∧ BR S' (pushH h n N) (pushn n) ∧ ∀ p, p ≠ 10 → S' p = S p, ⟨N 56 - 1 - j0, j0, _, rfl, m2, upN_eq, by omega, hfin, b2, f2⟩, ?_⟩
    rintro c S' y ⟨j, M, rfl, mM, hM5, hj, hF, bM, hfr⟩
    rw [mM 56 (by omega), n_le (by omega) (by omega), hM5]
    refine ⟨fun z => ?_, fun z => ?_⟩
    · have : c = 0 := by omega
      subst this
      rw [show M = F from hF] at mM
      exact hK S' mM bM hfr
    · obtain ⟨c, rfl⟩ : ∃ d, c = d + 1 := ⟨c - 1, by omega⟩
      rw [show (57 : Int32) = nI 57 from rfl, nI_add, nI_1, n_clamp (by omega), n_clamp (by omega), mM _ (by omega)]
      refine ⟨n_in (by omega) (by omega), n_in (by omega) (by omega), ?_⟩
      intro S3 e3 y2 ey2
      have m3 := mM.put (57 + j) (M (57 + j + 1))
      rw [← e3] at m3
      exact ⟨c, by omega, j + 1, _, by rw [ey2, nI_1], m3, by rw [upN_ne (by omega)]; exact hM5, by omega, hF, bM.at (by rw [e3, up3_fld (by omega)]) (by rw [e3, up3_fld (by omega)]), fun p hp => by rw [e3, up3_obj hp]; exact hfr p hp⟩
  · rw [if_neg q] at hK; exact hK
theorem wf_removeMachine {x : Int32} {N : Row} {r : Int32} {N' : Row} (hW : WF N) (h : opRemoveMachine x N = (r, some N')) : WF N' := by
  unfold opRemoveMachine at h
  have hc := w_mc hW
  split at h
  · rename_i q
    obtain ⟨j, hj, rfl⟩ := inR_lt (by omega) q
    rw [n_clamp (by omega)] at h
    cases h
    exact shf_wf _ _ _ (by omega) (hW.put (show _ ≤ 5 by omega))
  · cases h
