/-! EDITS: an answer, and the new row if the call is an edit -/
def Fin3 (S : St) (N : Row) (h : Nat → Row) (n : Nat) (K : Int32 → St → Prop) (q : Int32 × Option Row) : Prop := match q.2 with
  | none => K q.1 S
  | some N' => ∀ S', DR S' 0 N' → HR S' (pushH h n N) (pushn n) → (∀ p, p = 1 ∨ 7 < p → S' p = S p) → K q.1 S'
def Fin4 (S : St) (N : Row) (h : Nat → Row) (n : Nat) (K : Int32 → St → Prop) (q : Int32 × Option Row) : Prop := match q.2 with
  | none => K q.1 S
  | some N' => ∀ S', MR S' N' → BR S' (pushH h n N) (pushn n) → (∀ p, p ≠ 10 → S' p = S p) → K q.1 S'
/-- what class and model have in common -/
def INV (S : St) : Prop := ∃ (N : Row) (h : Nat → Row) (n : Nat), WF N ∧ (∀ j, j < n → WF (h j)) ∧ DR S 0 N ∧ HR S h n ∧ MR S N ∧ BR S h n
theorem push_wf {h : Nat → Row} {n : Nat} {N : Row} (hn : n ≤ 5) (hW : WF N) (hh : ∀ j, j < n → WF (h j)) : ∀ j, j < pushn n → WF (pushH h n N j) := by
  intro j hj
  unfold pushn at hj
  unfold pushH
  by_cases q : n = 5
  · rw [if_pos q] at hj ⊢
    by_cases z : j = 4
    · simp only [if_pos z]; exact hW
    · simp only [if_neg z]; exact hh (j + 1) (by omega)
  · rw [if_neg q] at hj ⊢
    by_cases z : j = n
    · simp only [if_pos z]; exact hW
    · simp only [if_neg z]; exact hh j (by omega)
theorem pair_edit {w3 w4 : St → (Int32 → St → Prop) → Prop} {op : Row → Int32 × Option Row} (h3 : ∀ S N h n K, DR S 0 N → HR S h n → WF N → Fin3 S N h n K (op N) → w3 S K) (h4 : ∀ S N h n K, MR S N → BR S h n → WF N → Fin4 S N h n K (op N) → w4 S K) (hw : ∀ N r N', WF N → op N = (r, some N') → WF N') {S : St} (hI : INV S) {K3 : Int32 → St → Prop} (hK3 : ∀ r S1, (∀ K4 : Int32 → St → Prop, (∀ S2, INV S2 → K4 r S2) → w4 S1 K4) → K3 r S1) : w3 S K3 := by
  obtain ⟨N, h, n, hW, hh, hD, hH, hM, hB⟩ := hI
  refine h3 S N h n K3 hD hH hW ?_
  rcases hq : op N with ⟨r, o⟩
  cases o with
  | none => exact hK3 r S (fun K4 hK4 => h4 S N h n K4 hM hB hW (by rw [hq]; exact hK4 S ⟨N, h, n, hW, hh, hD, hH, hM, hB⟩))
  | some N' =>
    intro S1 d1 g1 f1
    have f10 : S1 10 = S 10 := f1 10 (by omega)
    refine hK3 r S1 (fun K4 hK4 => h4 S1 N h n K4 (hM.at (by rw [f10])) (hB.at (by rw [f10]) (by rw [f10])) hW ?_)
    rw [hq]
    intro S2 m2 b2 f2
    exact hK4 S2 ⟨N', pushH h n N, pushn n, hw N r N' hW hq, push_wf hH.2.1 hW hh, d1.at (f2 0 (by omega)), g1.at (fun p h1 h2 => f2 p (by omega)), m2, b2⟩
/- ranges by numbers -/
theorem inR_lt {x : Int32} {c : Nat} (hc : c < 2000000) (h : inR x 0 ((c : Int) - 1)) : ∃ j : Nat, j < c ∧ x = nI j := by
  cases c with
  | zero => have := h.1; have := h.2; omega
  | succ c =>
    obtain ⟨j, hj, e⟩ := inR_nat (hi := c) ⟨h.1, by have := h.2; omega⟩ (by omega)
    exact ⟨j, by omega, e⟩

theorem i_film {x : Int32} (h : inR x 0 3) : ∃ j : Nat, j < 4 ∧ x = nI j := by
  obtain ⟨j, hj, e⟩ := inR_nat (hi := 3) h (by omega)
  exact ⟨j, by omega, e⟩
theorem i_house {x : Int32} (h : inR x 0 1) : ∃ j : Nat, j < 2 ∧ x = nI j := by
  obtain ⟨j, hj, e⟩ := inR_nat (hi := 1) h (by omega)
  exact ⟨j, by omega, e⟩
theorem i_pos {x : Int32} {k : Nat} (hk : k < 2000000) (h : inR x 1 k) : ∃ j : Nat, 1 ≤ j ∧ j ≤ k ∧ x = nI j := by
  obtain ⟨j, hj, e⟩ := inR_nat (hi := k) ⟨by have := h.1; omega, h.2⟩ hk
  refine ⟨j, ?_, hj, e⟩
  have h1 := h.1
  rw [e, nI_toInt (by omega)] at h1
  omega
theorem up_self0 {x : Int32} : 0 + x = x := Int32.zero_add x
/- addReel -/
def opAddReel (a l p : Int32) (N : Row) : Int32 × Option Row := if inR a 0 3 ∧ inR l 1 30 ∧ inR p 0 2 then (if N a.toNatClampNeg = 6 then (-3, none) else (nI (N a.toNatClampNeg + 1), some (upN (upN (upN N (4 + (6 * a.toNatClampNeg + N a.toNatClampNeg)) l.toNatClampNeg) (28 + (6 * a.toNatClampNeg + N a.toNatClampNeg)) p.toNatClampNeg) a.toNatClampNeg (N a.toNatClampNeg + 1)))) else (-1, none)
theorem x3_addReel {a l p : Int32} {S : St} {N : Row} {h : Nat → Row} {n : Nat} {K : Int32 → St → Prop} (hD : DR S 0 N) (hH : HR S h n) (hW : WF N) (hK : Fin3 S N h n K (opAddReel a l p N)) : w_X3_addReel S a l p K := by
  unfold opAddReel at hK
  refine g3a rfl rfl (fun ha => g3a rfl rfl (fun hl => g3b rfl rfl (fun hp => ?_) (fun hp => ?_)) (fun hl => ?_)) (fun ha => ?_)
  · rw [if_pos ⟨ha, hl, hp⟩] at hK
    obtain ⟨f, hf, rfl⟩ := i_film ha
    obtain ⟨x, hx1, hx, rfl⟩ := i_pos (k := 30) (by omega) hl
    obtain ⟨y, hy, rfl⟩ := inR_nat (hi := 2) hp (by omega)
    rw [n_clamp (by omega), n_clamp (by omega), n_clamp (by omega)] at hK
    have hc := w_rc hW hf
    refine ⟨n_in hf (by omega), ?_⟩
    rw [n_clamp (by omega), d_rc hD hf, show (6 : Int32) = nI 6 from rfl, n_lt (by omega) (by omega)]
    refine ⟨fun q => ?_, fun q => ?_⟩
    · rw [if_neg (by omega)] at hK
      refine p_remember hH hD (fun S1 d1 g1 f1 => p_appendReel d1 hf q (fun S2 d2 f2 => ⟨n_in hf (by omega), ?_⟩))
      rw [d_rc d2 hf, upN_eq]
      exact hK S2 d2 (g1.at (fun p h1 h2 => f2 p (by omega))) (fun p hp => by rw [f2 p (by omega)]; exact f1 p (by omega))
    · rw [if_pos (by omega)] at hK
      exact hK
  · rw [if_neg (fun z => hp z.2.2)] at hK; exact hK
  · rw [if_neg (fun z => hl z.2.1)] at hK; exact hK
  · rw [if_neg (fun z => ha z.1)] at hK; exact hK
theorem x4_addReel {a l p : Int32} {S : St} {N : Row} {h : Nat → Row} {n : Nat} {K : Int32 → St → Prop} (hM : MR S N) (hB : BR S h n) (hW : WF N) (hK : Fin4 S N h n K (opAddReel a l p N)) : w_X4_addReel S a l p K := by
  unfold opAddReel at hK
  refine g4a (S := S) rfl rfl (fun ha => g4a (S := S) rfl rfl (fun hl => g4b (S := S) rfl rfl (fun hp => ?_) (fun hp => ?_)) (fun hl => ?_)) (fun ha => ?_)
  · rw [if_pos ⟨ha, hl, hp⟩] at hK
    obtain ⟨f, hf, rfl⟩ := i_film ha
    obtain ⟨x, hx1, hx, rfl⟩ := i_pos (k := 30) (by omega) hl
    obtain ⟨y, hy, rfl⟩ := inR_nat (hi := 2) hp (by omega)
    rw [n_clamp (by omega), n_clamp (by omega), n_clamp (by omega)] at hK
    have hc := w_rc hW hf
    rw [up_self0]
    refine ⟨n_in (by omega) (by omega), ?_⟩
    rw [n_clamp (by omega), hM f (by omega), show (6 : Int32) = nI 6 from rfl, n_eq (by omega) (by omega)]
    refine ⟨fun q => ?_, fun q => ?_⟩
    · rw [if_neg q] at hK
      refine p_keeps hB hM (fun S1 m1 b1 f1 => ⟨n_in (by omega) (by omega), ?_⟩)
      rw [m1 f (by omega), n_mul, nI_add]
      rintro y66 rfl
      rw [show (4 : Int32) = nI 4 from rfl, show (28 : Int32) = nI 28 from rfl, nI_add, nI_add, n_clamp (by omega), n_clamp (by omega)]
      refine ⟨n_in (by omega) (by omega), ?_⟩
      intro S2 e2
      have m2 := m1.put (4 + (6 * f + N f)) x
      rw [← e2] at m2
      refine ⟨n_in (by omega) (by omega), ?_⟩
      intro S3 e3
      have m3 := m2.put (28 + (6 * f + N f)) y
      rw [← e3] at m3
      have gv : upN (upN N (4 + (6 * f + N f)) x) (28 + (6 * f + N f)) y f = N f := by rw [upN_ne (by omega), upN_ne (by omega)]
      rw [m3 f (by omega), gv, nI_1]
      refine ⟨n_in (by omega) (by omega), n_in (by omega) (by omega), ?_⟩
      intro S4 e4
      have m4 := m3.put f (N f + 1)
      rw [← e4] at m4
      rw [m4 f (by omega), upN_eq]
      refine ⟨n_in (by omega) (by omega), hK S4 m4 (b1.at ?_ ?_) (fun p hp => by rw [e4, up3_obj hp, e3, up3_obj hp, e2, up3_obj hp]; exact f1 p hp)⟩
      · rw [e4, up3_fld (by omega), e3, up3_fld (by omega), e2, up3_fld (by omega)]
      · rw [e4, up3_fld (by omega), e3, up3_fld (by omega), e2, up3_fld (by omega)]
    · rw [if_pos q] at hK
      exact hK
  · rw [if_neg (fun z => hp z.2.2)] at hK; exact hK
  · rw [if_neg (fun z => hl z.2.1)] at hK; exact hK
  · rw [if_neg (fun z => ha z.1)] at hK; exact hK
theorem wf_addReel {a l p : Int32} {N : Row} {r : Int32} {N' : Row} (hW : WF N) (h : opAddReel a l p N = (r, some N')) : WF N' := by
  unfold opAddReel at h
  by_cases q : inR a 0 3 ∧ inR l 1 30 ∧ inR p 0 2
  · rw [if_pos q] at h
    obtain ⟨f, hf, rfl⟩ := i_film q.1
    obtain ⟨x, hx1, hx, rfl⟩ := i_pos (k := 30) (by omega) q.2.1
    obtain ⟨y, hy, rfl⟩ := inR_nat (hi := 2) q.2.2 (by omega)
    rw [n_clamp (by omega), n_clamp (by omega), n_clamp (by omega)] at h
    have hc := w_rc hW hf
    by_cases z : N f = 6
    · rw [if_pos z] at h; cases h
    · rw [if_neg z] at h
      cases h
      exact ((hW.put (by rw [ub_len _ (by omega)]; exact hx)).put (by rw [ub_asp _ (by omega)]; exact hy)).put (by rw [ub_rc f hf]; omega)
  · rw [if_neg q] at h; cases h
