theorem x4_removeShow {x : Int32} {S : St} {N : Row} {h : Nat → Row} {n : Nat} {K : Int32 → St → Prop} (hM : MR S N) (hB : BR S h n) (hW : WF N) (hK : Fin4 S N h n K (opRemoveShow x N)) : w_X4_removeShow S x K := by
  unfold opRemoveShow at hK
  have hc := w_sc hW
  refine p_isShow4 hM hW (fun q => (z11.mpr ?_).symm) (fun q => (z01.mpr ?_).symm)
  · rw [if_pos q] at hK
    obtain ⟨j, hj, rfl⟩ := inR_lt (by omega) q
    rw [n_clamp (by omega)] at hK
    refine p_keeps hB hM (fun S1 m1 b1 f1 => p_goes m1 hW hj (fun S2 m2 g2 f2 => ?_))
    rw [m2 67 (by omega), dropB_low (by omega), dropS_67]
    exact hK S2 m2 (b1.at (g2 1 (by decide)) (g2 2 (by decide))) (fun p hp => by rw [f2 p hp]; exact f1 p hp)
  · rw [if_neg q] at hK; exact hK
theorem wf_removeShow {x : Int32} {N : Row} {r : Int32} {N' : Row} (hW : WF N) (h : opRemoveShow x N = (r, some N')) : WF N' := by
  unfold opRemoveShow at h
  have hc := w_sc hW
  split at h
  · rename_i q
    obtain ⟨j, hj, rfl⟩ := inR_lt (by omega) q
    rw [n_clamp (by omega)] at h
    cases h
    exact dropB_wf (dropS_wf hW hj)
  · cases h
/- moveShow -/
def opMoveShow (x s : Int32) (N : Row) : Int32 × Option Row := if inR x 0 ((N 67 : Int) - 1) ∧ inR s 0 1439 then (nI (N (80 + x.toNatClampNeg)), some (upN N (80 + x.toNatClampNeg) s.toNatClampNeg)) else (-1, none)
theorem x3_moveShow {x s : Int32} {S : St} {N : Row} {h : Nat → Row} {n : Nat} {K : Int32 → St → Prop} (hD : DR S 0 N) (hH : HR S h n) (hW : WF N) (hK : Fin3 S N h n K (opMoveShow x s N)) : w_X3_moveShow S x s K := by
  unfold opMoveShow at hK
  have hc := w_sc hW
  refine p_isShow3 hD hW (fun hx => z11.mpr (g3b rfl rfl (fun hs => ?_) (fun hs => ?_))) (fun hx => z01.mpr ?_)
  · rw [if_pos ⟨hx, hs⟩] at hK
    obtain ⟨j, hj, rfl⟩ := inR_lt (by omega) hx
    obtain ⟨s, hs', rfl⟩ := inR_nat (hi := 1439) hs (by omega)
    rw [n_clamp (by omega), n_clamp (by omega)] at hK
    refine p_remember hH hD (fun S1 d1 g1 f1 => ⟨n_in (by omega) (by omega), ?_⟩)
    rw [n_clamp (by omega), d_ss d1 (by omega)]
    rintro y rfl
    refine ⟨n_in (by omega) (by omega), ?_⟩
    rintro S2 rfl
    exact e3_put (k := 11) (P := fun S' => K (nI (N (80 + j))) S') d1 g1 f1 (by decide) (show j < 6 by omega) hK
  · rw [if_neg (fun z => hs z.2)] at hK; exact hK
  · rw [if_neg (fun z => hx z.1)] at hK; exact hK
theorem x4_moveShow {x s : Int32} {S : St} {N : Row} {h : Nat → Row} {n : Nat} {K : Int32 → St → Prop} (hM : MR S N) (hB : BR S h n) (hW : WF N) (hK : Fin4 S N h n K (opMoveShow x s N)) : w_X4_moveShow S x s K := by
  unfold opMoveShow at hK
  have hc := w_sc hW
  refine p_isShow4 hM hW (fun hx => z11.mpr (g4b (S := S) rfl rfl (fun hs => ?_) (fun hs => ?_))) (fun hx => z01.mpr ?_)
  · rw [if_pos ⟨hx, hs⟩] at hK
    obtain ⟨j, hj, rfl⟩ := inR_lt (by omega) hx
    obtain ⟨s, hs', rfl⟩ := inR_nat (hi := 1439) hs (by omega)
    rw [n_clamp (by omega), n_clamp (by omega)] at hK
    rw [show (80 : Int32) = nI 80 from rfl, nI_add, n_clamp (by omega)]
    refine p_keeps hB hM (fun S1 m1 b1 f1 => ⟨n_in (by omega) (by omega), ?_⟩)
    rw [m1 _ (by omega)]
    rintro y rfl
    refine ⟨n_in (by omega) (by omega), ?_⟩
    rintro S2 rfl
    exact e4_put (P := fun S' => K (nI (N (80 + j))) S') m1 b1 f1 _ _ hK
  · rw [if_neg (fun z => hs z.2)] at hK; exact hK
  · rw [if_neg (fun z => hx z.1)] at hK; exact hK
theorem wf_moveShow {x s : Int32} {N : Row} {r : Int32} {N' : Row} (hW : WF N) (h : opMoveShow x s N = (r, some N')) : WF N' := by
  unfold opMoveShow at h
  have hc := w_sc hW
  split at h
  · rename_i q
    obtain ⟨j, hj, rfl⟩ := inR_lt (by omega) q.1
    obtain ⟨s, hs', rfl⟩ := inR_nat (hi := 1439) q.2 (by omega)
    rw [n_clamp (by omega), n_clamp (by omega)] at h
    cases h
    exact hW.put (by rw [ub_ss _ (by omega)]; exact hs')
  · cases h
/- addBreak -/
def opAddBreak (x r p : Int32) (N : Row) : Int32 × Option Row := if inR x 0 ((N 67 : Int) - 1) ∧ inR r 0 ((N (N (74 + x.toNatClampNeg)) : Int) - 1) ∧ inR p 1 60 then (if N 86 = 8 then (-3, none) else (nI (N 86 + 1), some (upN (upN (upN (upN N (87 + N 86) x.toNatClampNeg) (95 + N 86) r.toNatClampNeg) (103 + N 86) p.toNatClampNeg) 86 (N 86 + 1)))) else (-1, none)
theorem x3_addBreak {x r p : Int32} {S : St} {N : Row} {h : Nat → Row} {n : Nat} {K : Int32 → St → Prop} (hD : DR S 0 N) (hH : HR S h n) (hW : WF N) (hK : Fin3 S N h n K (opAddBreak x r p N)) : w_X3_addBreak S x r p K := by
  unfold opAddBreak at hK
  have hc := w_bc hW
  refine p_isReel3 hD hW (fun hx => z11.mpr (g3b rfl rfl (fun hp => ?_) (fun hp => ?_))) (fun hx => z01.mpr ?_)
  · rw [if_pos ⟨hx.1, hx.2, hp⟩] at hK
    obtain ⟨j, i, rfl, rfl, hj, hi, hj6, hi6, hf⟩ := isRl_nat hW hx
    obtain ⟨y, hy1, hy, rfl⟩ := i_pos (k := 60) (by omega) hp
    rw [n_clamp (by omega), n_clamp (by omega), n_clamp (by omega)] at hK
    rw [d_bc hD, show (8 : Int32) = nI 8 from rfl, n_lt (by omega) (by omega)]
    refine ⟨fun q => ?_, fun q => ?_⟩
    · rw [if_neg (by omega)] at hK
      refine p_remember hH hD (fun S1 d1 g1 f1 => p_appendBreak d1 q (fun S2 d2 f2 => ?_))
      rw [d_bc d2, upN_eq]
      exact hK S2 d2 (g1.at (fun p h1 h2 => f2 p (by omega))) (fun p hp => by rw [f2 p (by omega)]; exact f1 p (by omega))
    · rw [if_pos (by omega)] at hK; exact hK
  · rw [if_neg (fun z => hp z.2.2)] at hK; exact hK
  · rw [if_neg (fun z => hx ⟨z.1, z.2.1⟩)] at hK; exact hK
theorem x4_addBreak {x r p : Int32} {S : St} {N : Row} {h : Nat → Row} {n : Nat} {K : Int32 → St → Prop} (hM : MR S N) (hB : BR S h n) (hW : WF N) (hK : Fin4 S N h n K (opAddBreak x r p N)) : w_X4_addBreak S x r p K := by
  unfold opAddBreak at hK
  have hc := w_bc hW
  refine p_isReel4 hM hW (fun hx => z11.mpr (g4b (S := S) rfl rfl (fun hp => ?_) (fun hp => ?_))) (fun hx => z01.mpr ?_)
  · rw [if_pos ⟨hx.1, hx.2, hp⟩] at hK
    obtain ⟨j, i, rfl, rfl, hj, hi, hj6, hi6, hf⟩ := isRl_nat hW hx
    obtain ⟨y, hy1, hy, rfl⟩ := i_pos (k := 60) (by omega) hp
    rw [n_clamp (by omega), n_clamp (by omega), n_clamp (by omega)] at hK
    rw [hM 86 (by omega), show (8 : Int32) = nI 8 from rfl, n_eq (by omega) (by omega)]
    refine ⟨fun q => ?_, fun q => ?_⟩
    · rw [if_neg q] at hK
      refine p_keeps hB hM (fun S1 m1 b1 f1 => ?_)
      rw [show (87 : Int32) = nI 87 from rfl, show (95 : Int32) = nI 95 from rfl, show (103 : Int32) = nI 103 from rfl, m1 86 (by omega), nI_add, n_clamp (by omega)]
      refine ⟨n_in (by omega) (by omega), ?_⟩
      intro S2 e2
      have m2 := m1.put (87 + N 86) j
      rw [← e2] at m2
      rw [m2 86 (by omega), upN_ne (by omega), nI_add, n_clamp (by omega)]
      refine ⟨n_in (by omega) (by omega), ?_⟩
      intro S3 e3
      have m3 := m2.put (95 + N 86) i
      rw [← e3] at m3
      rw [m3 86 (by omega), upN_ne (by omega), upN_ne (by omega), nI_add, n_clamp (by omega)]
      refine ⟨n_in (by omega) (by omega), ?_⟩
      intro S4 e4
      have m4 := m3.put (103 + N 86) y
      rw [← e4] at m4
      rw [m4 86 (by omega), upN_ne (by omega), upN_ne (by omega), upN_ne (by omega), nI_1]
      intro S5 e5
      have m5 := m4.put 86 (N 86 + 1)
      rw [← e5] at m5
      rw [m5 86 (by omega), upN_eq]
      exact hK S5 m5 (b1.at (by rw [e5, up3_fld (by omega), e4, up3_fld (by omega), e3, up3_fld (by omega), e2, up3_fld (by omega)]) (by rw [e5, up3_fld (by omega), e4, up3_fld (by omega), e3, up3_fld (by omega), e2, up3_fld (by omega)])) (fun p hp => by rw [e5, up3_obj hp, e4, up3_obj hp, e3, up3_obj hp, e2, up3_obj hp]; exact f1 p hp)
    · rw [if_pos q] at hK; exact hK
  · rw [if_neg (fun z => hp z.2.2)] at hK; exact hK
  · rw [if_neg (fun z => hx ⟨z.1, z.2.1⟩)] at hK; exact hK
theorem wf_addBreak {x r p : Int32} {N : Row} {q : Int32} {N' : Row} (hW : WF N) (h : opAddBreak x r p N = (q, some N')) : WF N' := by
  unfold opAddBreak at h
  have hc := w_bc hW
  split at h
  · rename_i z
    obtain ⟨j, i, rfl, rfl, hj, hi, hj6, hi6, hf⟩ := isRl_nat hW ⟨z.1, z.2.1⟩
    obtain ⟨y, hy1, hy, rfl⟩ := i_pos (k := 60) (by omega) z.2.2
    rw [n_clamp (by omega), n_clamp (by omega), n_clamp (by omega)] at h
    split at h
    · cases h
    · cases h
      exact (((hW.put (by rw [ub_bs _ (by omega)]; omega)).put (by rw [ub_br _ (by omega)]; omega)).put (by rw [ub_rp _ (by omega)]; omega)).put (show _ ≤ 8 by omega)
  · cases h
/- undo -/
theorem pair_undo {S : St} (hI : INV S) {K3 : Int32 → St → Prop} (hK3 : ∀ r S1, (∀ K4 : Int32 → St → Prop, (∀ S2, INV S2 → K4 r S2) → w_X4_undo S1 K4) → K3 r S1) : w_X3_undo S K3 := by
  obtain ⟨N, h, n, hW, hh, hD, hH, hM, hB⟩ := hI
  have hn := hH.2.1
  unfold w_X3_undo
  rw [hH.1, show (0 : Int32) = nI 0 from rfl, n_eq (by omega) (by omega)]
  refine ⟨fun q => ?_, fun q => ?_⟩
  · obtain ⟨c, rfl⟩ : ∃ c, n = c + 1 := ⟨n - 1, by omega⟩
    refine p_restore hH (fun S1 d1 g1 f1 => ?_)
    rw [g1.1]
    have f10 : S1 10 = S 10 := f1 10 (by omega) (by omega)
    refine hK3 _ S1 (fun K4 hK4 => p_undoM (hB.at (by rw [f10]) (by rw [f10])) (hM.at (by rw [f10])) (fun z => by omega) (fun c' hc' S2 m2 b2 f2 => ?_))
    have : c' = c := by omega
    subst this
    exact hK4 S2 ⟨h c', h, c', hh c' (by omega), fun j hj => hh j (by omega), d1.at (f2 0 (by omega)), g1.at (fun p h1 h2 => f2 p (by omega)), m2, b2⟩
  · subst q
    exact hK3 _ S (fun K4 hK4 => p_undoM hB hM (fun _ => hK4 S ⟨N, h, 0, hW, hh, hD, hH, hM, hB⟩) (fun c hc => by omega))
/- questions that change nothing -/
def qFilm (a : Int32) (N : Row) : Int32 := if inR a 0 3 then nI (sumL N a.toNatClampNeg (N a.toNatClampNeg)) else -1
theorem x3_filmLength {a : Int32} {S : St} {N : Row} {K : Int32 → Prop} (hD : DR S 0 N) (hW : WF N) (hK : K (qFilm a N)) : w_X3_filmLength S a K := by
  unfold qFilm at hK
  refine g3b (a := 0) (b := 3) rfl rfl (fun ha => ?_) (fun ha => ?_)
  · rw [if_pos ha] at hK
    obtain ⟨f, hf, rfl⟩ := i_film ha
    rw [n_clamp (by omega)] at hK
    exact p_sumOfLengths hD hW hf hK
  · rw [if_neg ha] at hK; exact hK
theorem x4_filmLength {a : Int32} {S : St} {N : Row} {K : Int32 → Prop} (hM : MR S N) (hW : WF N) (hK : K (qFilm a N)) : w_X4_filmLength S a K := by
  unfold qFilm at hK
  refine g4b (a := 0) (b := 3) (S := S) rfl rfl (fun ha => ?_) (fun ha => ?_)
  · rw [if_pos ha] at hK
    obtain ⟨f, hf, rfl⟩ := i_film ha
    rw [n_clamp (by omega)] at hK
    have hc := w_rc hW hf
    refine ⟨fun n x y => ∃ j, y = nI j ∧ j + n = N f ∧ x = nI (sumL N f j), ⟨N f, 0, nI_0.symm, Nat.zero_add _, nI_0.symm⟩, ?_⟩
    rintro n x y ⟨j, rfl, hj, rfl⟩
    rw [up_self0]
    refine ⟨n_in (by omega) (by omega), ?_⟩
    rw [n_clamp (by omega), hM f (by omega), n_le (by omega) (by omega)]
    refine ⟨fun h => ?_, fun h => ?_⟩
    · have : j = N f := by omega
      rw [this]
      exact hK
    · rw [show (4 : Int32) = nI 4 from rfl, show (6 : Int32) = nI 6 from rfl, n_mul, nI_add, nI_add, n_clamp (by omega), hM _ (by omega), nI_add]
      refine ⟨n_in (by omega) (by omega), fun y26 e26 y27 e27 => ⟨n - 1, by omega, j + 1, by rw [e27, nI_1], by omega, ?_⟩⟩
      rw [e26]
      show nI _ = nI (sumL N f j + N (4 + (6 * f + j)))
      rw [Nat.add_assoc 4]
  · rw [if_neg ha] at hK; exact hK
def qHouse (x : Int32) (N : Row) : Int32 := if inR x 0 ((N 56 : Int) - 1) then nI (N (57 + x.toNatClampNeg)) else -1
theorem x3_houseOf {x : Int32} {S : St} {N : Row} {K : Int32 → Prop} (hD : DR S 0 N) (hW : WF N) (hK : K (qHouse x N)) : w_X3_houseOf S x K := by
  unfold qHouse at hK
  have hc := w_mc hW
  refine p_isMachine3 hD hW (fun q => ?_) (fun q => ?_)
  · rw [if_pos q] at hK
    obtain ⟨j, hj, rfl⟩ := inR_lt (by omega) q
    rw [n_clamp (by omega)] at hK ⊢
    rw [d_mh hD (by omega)]
    exact ⟨n_in (by omega) (by omega), hK⟩
  · rw [if_neg q] at hK; exact hK
theorem x4_houseOf {x : Int32} {S : St} {N : Row} {K : Int32 → Prop} (hM : MR S N) (hW : WF N) (hK : K (qHouse x N)) : w_X4_houseOf S x K := by
  unfold qHouse at hK
  have hc := w_mc hW
  refine p_isMachine4 hM hW (fun q => z11.mpr ?_) (fun q => z01.mpr ?_)
  · rw [if_pos q] at hK
    obtain ⟨j, hj, rfl⟩ := inR_lt (by omega) q
    rw [n_clamp (by omega)] at hK
    rw [show (57 : Int32) = nI 57 from rfl, nI_add, n_clamp (by omega), hM _ (by omega)]
    exact ⟨n_in (by omega) (by omega), hK⟩
  · rw [if_neg q] at hK; exact hK
