/-! A SHOW GOES, WITH ITS BREAKS -/
theorem ub_bs : ∀ k, k < 8 → ub (87 + k) = 5 := by decide
theorem ub_br : ∀ k, k < 8 → ub (95 + k) = 5 := by decide
theorem ub_rp : ∀ k, k < 8 → ub (103 + k) = 60 := by decide
theorem ub_sh : ∀ k, k < 6 → ub (68 + k) = 1 := by decide
theorem ub_sf : ∀ k, k < 6 → ub (74 + k) = 3 := by decide
theorem ub_ss : ∀ k, k < 6 → ub (80 + k) = 1439 := by decide
theorem ub_mh : ∀ k, k < 5 → ub (57 + k) = 1 := by decide
theorem ub_len : ∀ k, k < 24 → ub (4 + k) = 30 := by decide
theorem ub_asp : ∀ k, k < 24 → ub (28 + k) = 2 := by decide
theorem ub_home : ∀ k, k < 4 → ub (52 + k) = 1 := by decide
theorem ub_rc : ∀ k, k < 4 → ub k = 6 := by decide
def bkv (N : Row) (s b : Nat) : Nat := if N (87 + b) ≤ s then N (87 + b) else N (87 + b) - 1
def bk1 (N : Row) (s k b : Nat) : Row := upN N (87 + k) (bkv N s b)
def bk2 (N : Row) (s k b : Nat) : Row := upN (bk1 N s k b) (95 + k) (bk1 N s k b (95 + b))
def bkN (N : Row) (s k b : Nat) : Row := upN (bk2 N s k b) (103 + k) (bk2 N s k b (103 + b))
def dbk (s : Nat) : Nat → Nat → Nat → Row → Row × Nat
  | 0, k, _, N => (N, k)
  | c + 1, k, b, N => if N (87 + b) = s then dbk s c k (b + 1) N else dbk s c (k + 1) (b + 1) (bkN N s k b)
def dropB (s : Nat) (N : Row) : Row := upN (dbk s (N 86) 0 0 N).1 86 (dbk s (N 86) 0 0 N).2
theorem bkN_low {N : Row} {s k b i : Nat} (h : i < 87) : bkN N s k b i = N i := by
  unfold bkN bk2 bk1
  rw [upN_ne (by omega), upN_ne (by omega), upN_ne (by omega)]
theorem bk1_wf {N : Row} {s k b : Nat} (hW : WF N) (hk : k < 8) (hb : b < 8) : WF (bk1 N s k b) := by
  have h1 := w_bs hW hb
  refine hW.put ?_
  rw [ub_bs k hk]
  unfold bkv
  split <;> omega
theorem bk2_wf {N : Row} {s k b : Nat} (hW : WF N) (hk : k < 8) (hb : b < 8) : WF (bk2 N s k b) := by
  refine (bk1_wf hW hk hb).put ?_
  rw [ub_br k hk]
  exact w_br (bk1_wf hW hk hb) hb
theorem bkN_wf {N : Row} {s k b : Nat} (hW : WF N) (hk : k < 8) (hb : b < 8) : WF (bkN N s k b) := by
  refine (bk2_wf hW hk hb).put ?_
  rw [ub_rp k hk]
  exact w_rp (bk2_wf hW hk hb) hb
theorem p_dropBreaksOf {S : St} {o s : Nat} {N : Row} {K : St → Prop} (hD : DR S o N) (hW : WF N) (hs : s < 1000) (hK : ∀ S', DR S' o (dropB s N) → (∀ p, p ≠ o → S' p = S p) → K S') : w_X0_dropBreaksOf o S (nI s) K := by
  have hc := w_bc hW
  refine ⟨fun n S' x y => ∃ k b M, x = nI k ∧ y = nI b ∧ k ≤ b ∧ b + n = N 86 ∧ DR S' o M ∧ WF M ∧ M 86 = N 86 ∧ dbk s n k b M = dbk s (N 86) 0 0 N ∧ ∀ p, p ≠ o → S' p = S p, ⟨N 86, 0, 0, N, nI_0.symm, nI_0.symm, Nat.le_refl _, Nat.zero_add _, hD, hW, rfl, rfl, fun _ _ => rfl⟩, ?_⟩
  rintro n S' x y ⟨k, b, M, rfl, rfl, hkb, hb, dM, wM, hM, hF, hfr⟩
  rw [d_bc dM, n_le (by omega) (by omega), hM]
  refine ⟨fun h => ?_, fun h => ⟨n_in (by omega) (by omega), ?_⟩⟩
  · have : n = 0 := by omega
    subst this
    intro S2 e2
    have hF : (M, k) = dbk s (N 86) 0 0 N := hF
    refine hK S2 ?_ (fun p hp => by rw [e2, up3_obj hp]; exact hfr p hp)
    unfold dropB
    rw [← hF, e2]
    exact dM.put (k := 12) (i := 0) (by decide) (by decide)
  · obtain ⟨c, rfl⟩ : ∃ c, n = c + 1 := ⟨n - 1, by omega⟩
    have hv := w_bs wM (i := b) (by omega)
    rw [n_clamp (by omega), d_bs dM (by omega)]
    rintro y18 rfl
    rw [n_eq (by omega) (by omega), n_le (by omega) (by omega)]
    change (if M (87 + b) = s then dbk s c k (b + 1) M else dbk s c (k + 1) (b + 1) (bkN M s k b)) = _ at hF
    refine ⟨fun q => ?_, fun q => ?_⟩
    · rw [if_pos q] at hF
      intro y ey
      exact ⟨c, by omega, k, b + 1, M, rfl, by rw [ey, nI_1], by omega, by omega, dM, wM, hM, hF, hfr⟩
    · rw [if_neg q] at hF
      have key : ∀ t : Nat, t = bkv M s b → w_X0_dropBreaksOf_46 o K (fun (S' : St) (x y : Int32) => ∃ n' : Nat, n' < c + 1 ∧ ∃ k b M, x = nI k ∧ y = nI b ∧ k ≤ b ∧ b + n' = N 86 ∧ DR S' o M ∧ WF M ∧ M 86 = N 86 ∧ dbk s n' k b M = dbk s (N 86) 0 0 N ∧ ∀ p, p ≠ o → S' p = S p) S' (nI s) (nI k) (nI b) (nI t) (nI k) := by
        intro t ht
        unfold w_X0_dropBreaksOf_46
        rw [n_clamp (by omega), n_clamp (by omega)]
        refine ⟨n_in (by omega) (by omega), ?_⟩
        intro S1 e1
        have d1 : DR S1 o (bk1 M s k b) := by rw [e1, ht]; exact dM.put (k := 13) (by decide) (show k < 8 by omega)
        rw [d_br d1 (by omega)]
        refine ⟨n_in (by omega) (by omega), n_in (by omega) (by omega), ?_⟩
        intro S2 e2
        have d2 : DR S2 o (bk2 M s k b) := by rw [e2]; exact d1.put (k := 14) (by decide) (show k < 8 by omega)
        rw [d_rp d2 (by omega)]
        refine ⟨n_in (by omega) (by omega), n_in (by omega) (by omega), ?_⟩
        intro S3 e3
        have d3 : DR S3 o (bkN M s k b) := by rw [e3]; exact d2.put (k := 15) (by decide) (show k < 8 by omega)
        intro y71 e71 y74 e74
        exact ⟨c, by omega, k + 1, b + 1, bkN M s k b, by rw [e71, nI_1], by rw [e74, nI_1], by omega, by omega, d3, bkN_wf wM (by omega) (by omega), by rw [bkN_low (by omega)]; exact hM, hF, fun p hp => by rw [e3, up3_obj hp, e2, up3_obj hp, e1, up3_obj hp]; exact hfr p hp⟩
      refine ⟨fun q2 => key _ (by unfold bkv; rw [if_pos q2]), fun q2 => ?_⟩
      rw [show (1 : Int32) = nI 1 from rfl, n_sub (by omega)]
      exact key _ (by unfold bkv; rw [if_neg q2])
def sh1 (N : Row) (x : Nat) : Row := upN N (68 + x) (N (68 + (x + 1)))
def sh2 (N : Row) (x : Nat) : Row := upN (sh1 N x) (74 + x) (sh1 N x (74 + (x + 1)))
def sh3 (N : Row) (x : Nat) : Row := upN (sh2 N x) (80 + x) (sh2 N x (80 + (x + 1)))
def shS : Nat → Nat → Row → Row
  | 0, _, N => N
  | c + 1, x, N => shS c (x + 1) (sh3 N x)
def dropS (x : Nat) (N : Row) : Row := shS (N 67 - 1 - x) x (upN N 67 (N 67 - 1))
theorem sh3_67 {N : Row} {x : Nat} : sh3 N x 67 = N 67 := by
  unfold sh3 sh2 sh1
  rw [upN_ne (by omega), upN_ne (by omega), upN_ne (by omega)]
theorem p_dropShow {S : St} {o x : Nat} {N : Row} {K : St → Prop} (hD : DR S o N) (hW : WF N) (hx : x < N 67) (h67 : dropB x N 67 = N 67) (hK : ∀ S', DR S' o (dropS x (dropB x N)) → (∀ p, p ≠ o → S' p = S p) → K S') : w_X0_dropShow o S (nI x) K := by
  have hc := w_sc hW
  refine p_dropBreaksOf hD hW (by omega) (fun S0 d0 f0 => ?_)
  rw [d_sc d0, show (1 : Int32) = nI 1 from rfl, h67, n_sub (by omega)]
  intro S1 e1
  have d1 : DR S1 o (upN (dropB x N) 67 (N 67 - 1)) := by rw [e1]; exact d0.put (k := 8) (i := 0) (by decide) (by decide)
  have f1 : ∀ p, p ≠ o → S1 p = S p := fun p hp => by rw [e1, up3_obj hp]; exact f0 p hp
  have hfin : shS (N 67 - 1 - x) x (upN (dropB x N) 67 (N 67 - 1)) = dropS x (dropB x N) := by unfold dropS; rw [h67]
  generalize dropS x (dropB x N) = F at hK hfin
  refine ⟨fun n S' y => ∃ j M, y = nI j ∧ DR S' o M ∧ M 67 = N 67 - 1 ∧ j + n = N 67 - 1 ∧ shS n j M = F ∧ ∀ p, p ≠ o → S' p = S p, ⟨N 67 - 1 - x, x, _, rfl, d1, upN_eq, by omega, hfin, f1⟩, ?_⟩
  rintro n S' y ⟨j, M, rfl, dM, hM, hj, hF, hfr⟩
  rw [d_sc dM, n_le (by omega) (by omega), hM]
  refine ⟨fun h => ?_, fun h => ?_⟩
  · have : n = 0 := by omega
    subst this
    rw [show M = F from hF] at dM
    exact hK S' dM hfr
  · obtain ⟨c, rfl⟩ : ∃ c, n = c + 1 := ⟨n - 1, by omega⟩
    rw [nI_1, n_clamp (by omega), n_clamp (by omega), d_sh dM (by omega)]
    refine ⟨n_in (by omega) (by omega), n_in (by omega) (by omega), ?_⟩
    intro S2 e2
    have d2 : DR S2 o (sh1 M j) := by rw [e2]; exact dM.put (k := 9) (by decide) (show j < 6 by omega)
    rw [d_sf d2 (by omega)]
    refine ⟨n_in (by omega) (by omega), n_in (by omega) (by omega), ?_⟩
    intro S3 e3
    have d3 : DR S3 o (sh2 M j) := by rw [e3]; exact d2.put (k := 10) (by decide) (show j < 6 by omega)
    rw [d_ss d3 (by omega)]
    refine ⟨n_in (by omega) (by omega), n_in (by omega) (by omega), ?_⟩
    intro S4 e4
    have d4 : DR S4 o (sh3 M j) := by rw [e4]; exact d3.put (k := 11) (by decide) (show j < 6 by omega)
    intro y2 ey2
    exact ⟨c, by omega, j + 1, sh3 M j, ey2, d4, by rw [sh3_67]; exact hM, by omega, hF, fun p hp => by rw [e4, up3_obj hp, e3, up3_obj hp, e2, up3_obj hp]; exact hfr p hp⟩
/- what goes where: the two halves don't meet -/
theorem dbk_low {s i : Nat} (h : i < 87) : ∀ (c k b : Nat) (N : Row), (dbk s c k b N).1 i = N i
  | 0, _, _, _ => rfl
  | c + 1, k, b, N => by
    unfold dbk
    split
    · exact dbk_low h c k (b + 1) N
    · rw [dbk_low h c (k + 1) (b + 1) _, bkN_low h]
theorem bkN_congr {N M : Row} {s k b : Nat} (h : ∀ i, 87 ≤ i → N i = M i) : ∀ i, 87 ≤ i → bkN N s k b i = bkN M s k b i := by
  have h1 : ∀ i, 87 ≤ i → bk1 N s k b i = bk1 M s k b i := by
    intro i hi
    unfold bk1 bkv
    rw [h (87 + b) (by omega)]
    unfold upN
    split
    · rfl
    · exact h i hi
  have h2 : ∀ i, 87 ≤ i → bk2 N s k b i = bk2 M s k b i := by
    intro i hi
    unfold bk2
    rw [h1 (95 + b) (by omega)]
    unfold upN
    split
    · rfl
    · exact h1 i hi
  intro i hi
  unfold bkN
  rw [h2 (103 + b) (by omega)]
  unfold upN
  split
  · rfl
  · exact h2 i hi
theorem dbk_congr {s : Nat} : ∀ (c k b : Nat) (N M : Row), (∀ i, 87 ≤ i → N i = M i) → (dbk s c k b N).2 = (dbk s c k b M).2 ∧ ∀ i, 87 ≤ i → (dbk s c k b N).1 i = (dbk s c k b M).1 i
  | 0, _, _, _, _, h => ⟨rfl, h⟩
  | c + 1, k, b, N, M, h => by
    unfold dbk
    rw [h (87 + b) (by omega)]
    split
    · exact dbk_congr c k (b + 1) N M h
    · exact dbk_congr c (k + 1) (b + 1) _ _ (bkN_congr h)
theorem dbk_wf {s : Nat} : ∀ (c k b : Nat) (N : Row), WF N → k ≤ b → b + c ≤ 8 → WF (dbk s c k b N).1 ∧ (dbk s c k b N).2 ≤ k + c
  | 0, _, _, _, h, _, _ => ⟨h, Nat.le_refl _⟩
  | c + 1, k, b, N, h, hk, hb => by
    unfold dbk
    split
    · have q := dbk_wf (s := s) c k (b + 1) N h (by omega) (by omega)
      exact ⟨q.1, by omega⟩
    · have q := dbk_wf (s := s) c (k + 1) (b + 1) (bkN N s k b) (bkN_wf h (by omega) (by omega)) (by omega) (by omega)
      exact ⟨q.1, by omega⟩
theorem sh3_high {N : Row} {x i : Nat} (hx : x < 6) (h : 86 ≤ i) : sh3 N x i = N i := by
  unfold sh3 sh2 sh1
  rw [upN_ne (by omega), upN_ne (by omega), upN_ne (by omega)]
theorem sh3_congr {N M : Row} {x : Nat} (hx : x < 5) (h : ∀ i, i < 86 → N i = M i) : ∀ i, i < 86 → sh3 N x i = sh3 M x i := by
  have h1 : ∀ i, i < 86 → sh1 N x i = sh1 M x i := by
    intro i hi
    unfold sh1
    rw [h _ (by omega)]
    unfold upN
    split
    · rfl
    · exact h i hi
  have h2 : ∀ i, i < 86 → sh2 N x i = sh2 M x i := by
    intro i hi
    unfold sh2
    rw [h1 _ (by omega)]
    unfold upN
    split
    · rfl
    · exact h1 i hi
  intro i hi
  unfold sh3
  rw [h2 _ (by omega)]
  unfold upN
  split
  · rfl
  · exact h2 i hi
theorem shS_high {i : Nat} (h : 86 ≤ i) : ∀ (c x : Nat) (N : Row), x + c ≤ 6 → shS c x N i = N i
  | 0, _, _, _ => rfl
  | c + 1, x, N, hc => by
    unfold shS
    rw [shS_high h c (x + 1) _ (by omega), sh3_high (by omega) h]
theorem shS_congr : ∀ (c x : Nat) (N M : Row), x + c ≤ 5 → (∀ i, i < 86 → N i = M i) → ∀ i, i < 86 → shS c x N i = shS c x M i
  | 0, _, _, _, _, h => h
  | c + 1, x, N, M, hc, h => by
    unfold shS
    exact shS_congr c (x + 1) _ _ (by omega) (sh3_congr (by omega) h)
theorem sh3_wf {N : Row} {x : Nat} (hx : x < 5) (h : WF N) : WF (sh3 N x) := by
  have h1 : WF (sh1 N x) := h.put (by rw [ub_sh x (by omega)]; exact w_sh h (by omega))
  have h2 : WF (sh2 N x) := h1.put (by rw [ub_sf x (by omega)]; exact w_sf h1 (by omega))
  exact h2.put (by rw [ub_ss x (by omega)]; exact w_ss h2 (by omega))
theorem shS_wf : ∀ (c x : Nat) (N : Row), x + c ≤ 5 → WF N → WF (shS c x N)
  | 0, _, _, _, h => h
  | c + 1, x, N, hc, h => shS_wf c (x + 1) _ (by omega) (sh3_wf (by omega) h)
theorem shS_67 : ∀ (c x : Nat) (N : Row), shS c x N 67 = N 67
  | 0, _, _ => rfl
  | c + 1, x, N => by
    unfold shS
    rw [shS_67 c (x + 1) _, sh3_67]
theorem dropB_low {s i : Nat} {N : Row} (h : i < 86) : dropB s N i = N i := by
  unfold dropB
  rw [upN_ne (by omega), dbk_low (by omega)]
theorem dropB_wf {s : Nat} {N : Row} (h : WF N) : WF (dropB s N) := by
  have hc := w_bc h
  have q := dbk_wf (s := s) (N 86) 0 0 N h (Nat.le_refl _) (by omega)
  refine q.1.put ?_
  show _ ≤ 8
  omega
theorem dropS_wf {x : Nat} {N : Row} (h : WF N) (hx : x < N 67) : WF (dropS x N) := by
  have hc := w_sc h
  refine shS_wf _ _ _ (by omega) (h.put ?_)
  show _ ≤ 6
  omega
theorem dropS_67 {x : Nat} {N : Row} : dropS x N 67 = N 67 - 1 := by
  unfold dropS
  rw [shS_67, upN_eq]
theorem drop_comm {x : Nat} {N : Row} (h : WF N) (hx : x < N 67) : dropS x (dropB x N) = dropB x (dropS x N) := by
  have hc := w_sc h
  have e67 : dropB x N 67 = N 67 := dropB_low (by omega)
  have hs : ∀ i, 86 ≤ i → dropS x N i = N i := fun i hi => by
    unfold dropS
    rw [shS_high hi _ _ _ (by omega), upN_ne (by omega)]
  have hk := dbk_congr (s := x) (N 86) 0 0 (dropS x N) N (fun i hi => hs i (by omega))
  funext i
  by_cases q : i < 86
  · rw [dropB_low q]
    unfold dropS
    rw [e67]
    refine shS_congr _ _ _ _ (by omega) (fun j hj => ?_) i q
    unfold upN
    split
    · rfl
    · exact dropB_low hj
  · have e1 : dropS x (dropB x N) i = dropB x N i := by
      unfold dropS
      rw [e67, shS_high (by omega) _ _ _ (by omega), upN_ne (by omega)]
    rw [e1]
    unfold dropB
    rw [hs 86 (Nat.le_refl _)]
    by_cases z : i = 86
    · rw [z, upN_eq, upN_eq, hk.1]
    · rw [upN_ne z, upN_ne z, hk.2 i (by omega)]
