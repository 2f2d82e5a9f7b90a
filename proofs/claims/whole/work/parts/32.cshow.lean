/-! THE CLASS PLANS A SHOW -/
abbrev Rec : Type := Int32 × Int32 × Int32 × Int32 × (Nat → Int32) × (Nat → Int32)
def slF (N : Row) (s fm : Nat) : Nat → Nat → Qs → Int32 → Int32 → Int32 → (Nat → Int32) → (Nat → Int32) → Qs × Int32 × Int32 × Int32 × (Nat → Int32) × (Nat → Int32)
  | 0, _, Q, due, dl, gp, st, mc => (Q, due, dl, gp, st, mc)
  | k + 1, r, Q, due, dl, gp, st, mc => slF N s fm k (r + 1) (rQ6 N Q s r due fm) (rE N Q s r due fm) (if r = 0 then rS N Q s r due fm - due else dl) (if r = 0 then gp else gp + (rS N Q s r due fm - due)) (upd st r (rS N Q s r due fm)) (upd mc r (nI (rM N Q s r due fm)))
def shT (N : Row) (Q : Qs) (s fm : Nat) : Qs × Int32 × Int32 × Int32 × (Nat → Int32) × (Nat → Int32) := slF N s fm (N (N (74 + s))) 0 Q (nI (N (80 + s))) 0 0 (fun _ => 0) (fun _ => 0)
def shF (N : Row) (Q : Qs) (s : Nat) : Qs × Rec := match fmF N (N (68 + s)) (N 56) 0 with
  | none => (Q, (0, 0, 0, 0, fun _ => 0, fun _ => 0))
  | some fm => ((shT N Q s fm).1, (1, (shT N Q s fm).2.2.1, (shT N Q s fm).2.2.2.1, (shT N Q s fm).2.1, (shT N Q s fm).2.2.2.2.1, (shT N Q s fm).2.2.2.2.2))
def incF (x : Rec) : Int32 := if x.1 = 0 then 1000 else x.2.1 + x.2.2.1
def RS (f : Nat → Nat → Int32) (N : Row) (s : Nat) (x : Rec) : Prop := f 0 s = x.1 ∧ f 4 s = x.2.1 ∧ f 5 s = x.2.2.1 ∧ (¬ x.1 = 0 → f 3 s = x.2.2.2.1 ∧ ∀ r, r < N (N (74 + s)) → f 1 (6 * s + r) = x.2.2.2.2.1 r ∧ f 2 (6 * s + r) = x.2.2.2.2.2 r)
def KP (f g : Nat → Nat → Int32) (s : Nat) : Prop := ∀ t, t ≠ s → (∀ c, c = 0 ∨ c = 3 ∨ c = 4 ∨ c = 5 → g c t = f c t) ∧ ∀ r, r < 6 → g 1 (6 * t + r) = f 1 (6 * t + r) ∧ g 2 (6 * t + r) = f 2 (6 * t + r)
theorem KP.rf {f : Nat → Nat → Int32} {s : Nat} : KP f f s := fun _ _ => ⟨fun _ _ => rfl, fun _ _ => ⟨rfl, rfl⟩⟩
theorem KP.tr {f g k : Nat → Nat → Int32} {s : Nat} (h1 : KP f g s) (h2 : KP g k s) : KP f k s := fun t ht => ⟨fun c hc => ((h2 t ht).1 c hc).trans ((h1 t ht).1 c hc), fun r hr => ⟨((h2 t ht).2 r hr).1.trans ((h1 t ht).2 r hr).1, ((h2 t ht).2 r hr).2.trans ((h1 t ht).2 r hr).2⟩⟩
theorem RS.kept {f g : Nat → Nat → Int32} {N : Row} {s t : Nat} {x : Rec} (hW : WF N) (ht6 : t < 6) (h : RS f N t x) (hk : KP f g s) (ht : t ≠ s) : RS g N t x := by
  have k := hk t ht
  have hsf := w_sf hW ht6
  have hrc := w_rc hW (i := N (74 + t)) (by omega)
  refine ⟨(k.1 0 (by omega)).trans h.1, (k.1 4 (by omega)).trans h.2.1, (k.1 5 (by omega)).trans h.2.2.1, fun q => ⟨(k.1 3 (by omega)).trans (h.2.2.2 q).1, fun r hr => ⟨(k.2 r (by omega)).1.trans ((h.2.2.2 q).2 r hr).1, (k.2 r (by omega)).2.trans ((h.2.2.2 q).2 r hr).2⟩⟩⟩
/-- one cell of the results written at show s -/
theorem KP.put3 {S : St} {s c i : Nat} {v : Int32} (h : (c = 0 ∨ c = 3 ∨ c = 4 ∨ c = 5) ∧ i = s ∨ (c = 1 ∨ c = 2) ∧ 6 * s ≤ i ∧ i < 6 * s + 6 ∨ 6 ≤ c) : KP (S 8) (up3 S 8 c i v 8) s := by
  intro t ht
  refine ⟨fun d hd => ?_, fun r hr => ⟨?_, ?_⟩⟩
  · rw [up3_at, if_neg (by omega)]
  · rw [up3_at, if_neg (by omega)]
  · rw [up3_at, if_neg (by omega)]
section C
variable {S : St} {o : Nat} {N : Row} {Q : Qs}
theorem p_planShow {s : Nat} {K : St → Prop} (hD : DR S o N) (ho : o ≠ 8) (hW : WF N) (hQ : RQ (S 8) Q) (hs : s < 6) (hK : ∀ S', RQ (S' 8) (shF N Q s).1 → RS (S' 8) N s (shF N Q s).2 → KP (S 8) (S' 8) s → S' 8 9 0 = S 8 9 0 + incF (shF N Q s).2 → S' 8 10 = S 8 10 → (∀ p, p ≠ 8 → S' p = S p) → K S') : w_X2_planShow o S (nI s) K := by
  have hc := w_mc hW
  have hsf := w_sf hW hs
  have hrc := w_rc hW (i := N (74 + s)) (by omega)
  have hsh := w_sh hW hs
  unfold w_X2_planShow
  rw [n_clamp (by omega), d_sh hD hs]
  refine ⟨n_in hs (by omega), ?_⟩
  have pre : ∀ t : Nat, t < 2 → ∀ S3 : St, S3 = up3 (up3 (up3 S 8 0 s (nI t)) 8 4 s 0) 8 5 s 0 → RQ (S3 8) Q ∧ DR S3 o N ∧ KP (S 8) (S3 8) s ∧ S3 8 0 s = nI t ∧ S3 8 4 s = 0 ∧ S3 8 5 s = 0 ∧ S3 8 9 0 = S 8 9 0 ∧ S3 8 10 = S 8 10 ∧ ∀ p, p ≠ 8 → S3 p = S p := by
    rintro t ht S3 rfl
    have q1 : RQ ((up3 S 8 0 s (nI t)) 8) Q := hQ.skip3 (by decide)
    have q2 : RQ ((up3 (up3 S 8 0 s (nI t)) 8 4 s 0) 8) Q := q1.skip3 (by decide)
    have q3 : RQ ((up3 (up3 (up3 S 8 0 s (nI t)) 8 4 s 0) 8 5 s 0) 8) Q := q2.skip3 (by decide)
    refine ⟨q3, hD.at (by rw [up3_obj ho, up3_obj ho, up3_obj ho]), ((KP.put3 (by omega)).tr (KP.put3 (by omega))).tr (KP.put3 (by omega)), ?_, ?_, ?_, ?_, ?_, fun p hp => by rw [up3_obj hp, up3_obj hp, up3_obj hp]⟩
    · rw [up3_fld (by omega), up3_fld (by omega), up3_at, if_pos ⟨rfl, rfl, rfl⟩]
    · rw [up3_fld (by omega), up3_at, if_pos ⟨rfl, rfl, rfl⟩]
    · rw [up3_at, if_pos ⟨rfl, rfl, rfl⟩]
    · rw [up3_fld (by omega), up3_fld (by omega), up3_fld (by omega)]
    · rw [up3_fld (by omega), up3_fld (by omega), up3_fld (by omega)]
  refine p_firstMachineIn hD hW (by omega) (fun fm hfm => ?_) (fun hfm => ?_)
  · obtain ⟨-, hf2, hf3, -⟩ := fmF_lt _ _ _ hfm
    have hfm5 : fm < 5 := by omega
    have e1 : ¬ nI fm = -1 := by
      intro z
      have q := congrArg Int32.toInt z
      rw [nI_toInt (by omega), show (-1 : Int32).toInt = -1 from rfl] at q
      omega
    unfold shF at hK
    rw [hfm] at hK
    dsimp only at hK
    refine ⟨fun z => absurd z e1, fun _ => ?_⟩
    unfold w_X2_planShow_26
    rw [n_clamp (by omega)]
    refine ⟨Or.inr rfl, n_in hs (by omega), ?_⟩
    intro S1 x1
    refine ⟨n_in hs (by omega), ?_⟩
    intro S2 x2
    refine ⟨n_in hs (by omega), ?_⟩
    intro S3 x3
    obtain ⟨q3, d3, k3, r0, r4, r5, r9, r10, f3⟩ := pre 1 (by omega) S3 (by rw [x3, x2, x1]; rfl)
    rw [d_ss d3 hs, d_sf d3 hs, n_clamp (by omega), d_rc d3 (by omega)]
    refine ⟨fun _ => ?_, fun z => absurd z e1⟩
    refine ⟨n_in hs (by omega), ?_⟩
    rintro y65 rfl
    refine ⟨n_in hs (by omega), n_in (by omega) (by omega), ?_⟩
    rintro y78 rfl
    refine ⟨fun n S' x y => ∃ r Q' dl gp st mc, y = nI r ∧ r + n = N (N (74 + s)) ∧ RQ (S' 8) Q' ∧ S' 8 4 s = dl ∧ S' 8 5 s = gp ∧ (∀ i, i < r → S' 8 1 (6 * s + i) = st i ∧ S' 8 2 (6 * s + i) = mc i) ∧ slF N s fm n r Q' x dl gp st mc = shT N Q s fm ∧ S' 8 0 s = 1 ∧ S' 8 9 0 = S 8 9 0 ∧ S' 8 10 = S 8 10 ∧ KP (S 8) (S' 8) s ∧ ∀ p, p ≠ 8 → S' p = S p, ⟨N (N (74 + s)), 0, Q, 0, 0, fun _ => 0, fun _ => 0, nI_0.symm, Nat.zero_add _, q3, r4, r5, fun i hi => absurd hi (Nat.not_lt_zero i), rfl, r0, r9, r10, k3, f3⟩, ?_⟩
    rintro n S' due y ⟨r, Q', dl, gp, st, mc, rfl, hr, q4, g4, g5, gr, hF, g0, g9, g10, kS, fS⟩
    rw [n_le (by omega) (by omega)]
    refine ⟨fun q => ?_, fun q => ?_⟩
    · have : n = 0 := by omega
      subst this
      have hF : (Q', due, dl, gp, st, mc) = shT N Q s fm := hF
      rw [← hF] at hK
      refine ⟨n_in hs (by omega), ?_⟩
      rw [n_clamp (by omega)]
      intro S4 e4
      refine ⟨n_in hs (by omega), n_in hs (by omega), ?_⟩
      have h9 : S4 8 9 0 = S 8 9 0 := by rw [e4, up3_fld (by omega)]; exact g9
      have h4 : S4 8 4 s = dl := by rw [e4, up3_fld (by omega)]; exact g4
      have h5 : S4 8 5 s = gp := by rw [e4, up3_fld (by omega)]; exact g5
      rw [h9, h4, h5]
      intro S5 e5
      have h3 : S5 8 3 s = due := by rw [e5, up3_fld (by omega), e4, up3_at, if_pos ⟨rfl, rfl, rfl⟩]
      have keep : ∀ c, c ≠ 3 → c ≠ 9 → S5 8 c = S' 8 c := fun c h1 h2 => by rw [e5, up3_fld (by omega), e4, up3_fld (by omega)]
      have q5 : RQ (S5 8) Q' := by
        have q45 : RQ (S4 8) Q' := by rw [e4]; exact q4.skip3 (by decide)
        rw [e5]; exact q45.skip3 (by decide)
      refine hK S5 q5 ⟨?_, ?_, ?_, fun _ => ⟨h3, fun i hi => ?_⟩⟩ (kS.tr ?_) ?_ ?_ (fun p hp => by rw [e5, up3_obj hp, e4, up3_obj hp]; exact fS p hp)
      · rw [keep 0 (by decide) (by decide)]; exact g0
      · rw [keep 4 (by decide) (by decide)]; exact g4
      · rw [keep 5 (by decide) (by decide)]; exact g5
      · rw [keep 1 (by decide) (by decide), keep 2 (by decide) (by decide)]; exact gr i (by omega)
      · rw [e5]
        refine KP.tr (g := S4 8) ?_ (KP.put3 (by omega))
        rw [e4]
        exact KP.put3 (by omega)
      · rw [e5, up3_at, if_pos ⟨rfl, rfl, rfl⟩]
        show _ = _ + (if (1 : Int32) = 0 then 1000 else dl + gp)
        rw [if_neg (by decide)]
      · rw [keep 10 (by decide) (by decide)]; exact g10
    · obtain ⟨k, rfl⟩ : ∃ k, n = k + 1 := ⟨n - 1, by omega⟩
      have d4 : DR S' o N := hD.at (fS o ho)
      refine p_planReel d4 ho hW q4 hs (by omega) (by omega) hf3 (fun S4 q5 e1 e2 ek f4 => p_reelPlace ?_)
      rw [n_clamp (by omega), n_clamp (by omega), e1, show upd (S' 8 1) (6 * s + r) (rS N Q' s r due fm) (6 * s + r) = rS N Q' s r due fm from if_pos rfl]
      refine ⟨n_in (by omega) (by omega), ?_⟩
      rintro y117 rfl
      change slF N s fm k (r + 1) (rQ6 N Q' s r due fm) (rE N Q' s r due fm) (if r = 0 then rS N Q' s r due fm - due else dl) (if r = 0 then gp else gp + (rS N Q' s r due fm - due)) (upd st r (rS N Q' s r due fm)) (upd mc r (nI (rM N Q' s r due fm))) = _ at hF
      have res : ∀ i, i < r + 1 → S4 8 1 (6 * s + i) = upd st r (rS N Q' s r due fm) i ∧ S4 8 2 (6 * s + i) = upd mc r (nI (rM N Q' s r due fm)) i := by
        intro i hi
        rw [e1, e2]
        unfold upd
        by_cases z : i = r
        · rw [if_pos (by omega), if_pos z, if_pos (by omega), if_pos z]; exact ⟨rfl, rfl⟩
        · rw [if_neg (by omega), if_neg z, if_neg (by omega), if_neg z]; exact gr i (by omega)
      have k4 : KP (S' 8) (S4 8) s := by
        intro t ht
        refine ⟨fun c hc => by rw [ek c (by omega)], fun i hi => ⟨?_, ?_⟩⟩
        · rw [e1]; exact if_neg (by omega)
        · rw [e2]; exact if_neg (by omega)
      rw [show (0 : Int32) = nI 0 from rfl, n_eq (by omega) (by omega), ek 5 (by omega), g5]
      refine ⟨fun z => ⟨n_in hs (by omega), n_in hs (by omega), ?_⟩, fun z => ⟨n_in hs (by omega), ?_⟩⟩
      · rw [if_neg z, if_neg z] at hF
        intro S5 e5 y ey
        have keep : ∀ c, c ≠ 5 → S5 8 c = S4 8 c := fun c h1 => by rw [e5, up3_fld (by omega)]
        refine ⟨k, by omega, r + 1, _, _, _, _, _, by rw [ey, nI_1], by omega, by rw [e5]; exact q5.skip3 (by decide), by rw [keep 4 (by decide), ek 4 (by omega)]; exact g4, by rw [e5, up3_at, if_pos ⟨rfl, rfl, rfl⟩], fun i hi => by rw [keep 1 (by decide), keep 2 (by decide)]; exact res i hi, hF, by rw [keep 0 (by decide), ek 0 (by omega)]; exact g0, by rw [keep 9 (by decide), ek 9 (by omega)]; exact g9, by rw [keep 10 (by decide), ek 10 (by omega)]; exact g10, (kS.tr k4).tr ?_, fun p hp => by rw [e5, up3_obj hp, f4 p hp]; exact fS p hp⟩
        rw [e5]
        exact KP.put3 (by omega)
      · rw [if_pos z, if_pos z] at hF
        intro S5 e5 y ey
        have keep : ∀ c, c ≠ 4 → S5 8 c = S4 8 c := fun c h1 => by rw [e5, up3_fld (by omega)]
        refine ⟨k, by omega, r + 1, _, _, _, _, _, by rw [ey, nI_1], by omega, by rw [e5]; exact q5.skip3 (by decide), by rw [e5, up3_at, if_pos ⟨rfl, rfl, rfl⟩], by rw [keep 5 (by decide), ek 5 (by omega)]; exact g5, fun i hi => by rw [keep 1 (by decide), keep 2 (by decide)]; exact res i hi, hF, by rw [keep 0 (by decide), ek 0 (by omega)]; exact g0, by rw [keep 9 (by decide), ek 9 (by omega)]; exact g9, by rw [keep 10 (by decide), ek 10 (by omega)]; exact g10, (kS.tr k4).tr ?_, fun p hp => by rw [e5, up3_obj hp, f4 p hp]; exact fS p hp⟩
        rw [e5]
        exact KP.put3 (by omega)
  · unfold shF at hK
    rw [hfm] at hK
    refine ⟨fun _ => ?_, fun z => absurd rfl z⟩
    unfold w_X2_planShow_26
    rw [n_clamp (by omega)]
    refine ⟨Or.inl rfl, n_in hs (by omega), ?_⟩
    intro S1 x1
    refine ⟨n_in hs (by omega), ?_⟩
    intro S2 x2
    refine ⟨n_in hs (by omega), ?_⟩
    intro S3 x3
    obtain ⟨q3, d3, k3, r0, r4, r5, r9, r10, f3⟩ := pre 0 (by omega) S3 (by rw [x3, x2, x1]; rfl)
    refine ⟨fun z => absurd rfl z, fun _ => ?_⟩
    intro S4 e4
    have keep : ∀ c, c ≠ 9 → S4 8 c = S3 8 c := fun c h1 => by rw [e4, up3_fld (by omega)]
    refine hK S4 (by rw [e4]; exact q3.skip3 (by decide)) ⟨by rw [keep 0 (by decide)]; exact r0, by rw [keep 4 (by decide)]; exact r4, by rw [keep 5 (by decide)]; exact r5, fun z => absurd rfl z⟩ (k3.tr (by rw [e4]; exact KP.put3 (by omega))) ?_ (by rw [keep 10 (by decide)]; exact r10) (fun p hp => by rw [e4, up3_obj hp]; exact f3 p hp)
    rw [e4, up3_at, if_pos ⟨rfl, rfl, rfl⟩, r9]
    rfl
end C
