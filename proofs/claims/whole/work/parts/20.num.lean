/-! THE PURE PART: rows of 111 numbers. N: a row (the model's layout); DR: a Day holds it; MR: the model's 'now' holds it -/
abbrev Row : Type := Nat → Nat
def upN (N : Row) (j v : Nat) : Row := fun i => if i = j then v else N i
theorem upN_ne {N : Row} {j v i : Nat} (h : i ≠ j) : upN N j v i = N i := if_neg h
theorem upN_eq {N : Row} {j v : Nat} : upN N j v j = v := if_pos rfl
def offL : List Nat := [0, 4, 28, 52, 56, 57, 62, 63, 67, 68, 74, 80, 86, 87, 95, 103]
def szL : List Nat := [4, 24, 24, 4, 1, 5, 1, 4, 1, 6, 6, 6, 1, 8, 8, 8]
def of (k : Nat) : Nat := offL.getD k 0
def sz (k : Nat) : Nat := szL.getD k 0
def DR (S : St) (o : Nat) (N : Row) : Prop := ∀ k, k < 16 → ∀ i, i < sz k → S o k i = nI (N (of k + i))
def MR (S : St) (N : Row) : Prop := ∀ i, i < 111 → S 10 0 i = nI (N i)
def ub (i : Nat) : Nat := if i < 4 then 6 else if i < 28 then 30 else if i < 52 then 2 else if i < 56 then 1 else if i < 57 then 5 else if i < 62 then 1 else if i < 63 then 3 else if i < 67 then 30 else if i < 68 then 6 else if i < 74 then 1 else if i < 80 then 3 else if i < 86 then 1439 else if i < 87 then 8 else if i < 103 then 5 else 60
def WF (N : Row) : Prop := ∀ i, i < 111 → N i ≤ ub i
theorem of_apart : ∀ k, k < 16 → ∀ k', k' < 16 → k < k' → of k + sz k ≤ of k' := by
  have h : ∀ k ∈ List.range 16, ∀ k' ∈ List.range 16, (!(decide (k < k')) || decide (of k + sz k ≤ of k')) = true := by decide +kernel
  intro k hk k' hk' hlt
  have q := h k (List.mem_range.mpr hk) k' (List.mem_range.mpr hk')
  simpa [hlt] using q
theorem of_end : ∀ k, k < 16 → of k + sz k ≤ 111 := by decide
theorem of_inj {k i k' i' : Nat} (hk : k < 16) (hi : i < sz k) (hk' : k' < 16) (hi' : i' < sz k') (h : of k + i = of k' + i') : k = k' ∧ i = i' := by
  rcases Nat.lt_trichotomy k k' with q | q | q
  · have := of_apart k hk k' hk' q; omega
  · subst q; exact ⟨rfl, by omega⟩
  · have := of_apart k' hk' k hk q; omega
theorem DR.put {S : St} {o : Nat} {N : Row} (h : DR S o N) {k i v : Nat} (hk : k < 16) (hi : i < sz k) : DR (up3 S o k i (nI v)) o (upN N (of k + i) v) := by
  intro k' hk' i' hi'
  unfold up3 upN
  by_cases q : k' = k ∧ i' = i
  · rw [if_pos ⟨rfl, q⟩, if_pos (by rw [q.1, q.2])]
  · rw [if_neg (fun z => q z.2), if_neg (fun z => q ((of_inj hk' hi' hk hi z)))]
    exact h k' hk' i' hi'
theorem DR.at {S S' : St} {o : Nat} {N : Row} (h : DR S o N) (e : S' o = S o) : DR S' o N := by
  intro k hk i hi
  rw [e]
  exact h k hk i hi
theorem MR.put {S : St} {N : Row} (h : MR S N) (j v : Nat) : MR (up3 S 10 0 j (nI v)) (upN N j v) := by
  intro i hi
  unfold up3 upN
  by_cases q : i = j
  · rw [if_pos ⟨rfl, rfl, q⟩, if_pos q]
  · rw [if_neg (fun z => q z.2.2), if_neg q]
    exact h i hi
theorem WF.put {N : Row} (h : WF N) {j v : Nat} (hv : v ≤ ub j) : WF (upN N j v) := by
  intro i hi
  unfold upN
  by_cases q : i = j
  · rw [if_pos q, q]; exact hv
  · rw [if_neg q]; exact h i hi
theorem up3_at (S : St) (o k i : Nat) (v : Int32) (a b j : Nat) : up3 S o k i v a b j = if a = o ∧ b = k ∧ j = i then v else S a b j := rfl
theorem up3_obj {S : St} {o k i : Nat} {v : Int32} {p : Nat} (h : p ≠ o) : up3 S o k i v p = S p := by
  funext b j
  unfold up3
  rw [if_neg (fun z => h z.1)]
theorem upA_obj {S : St} {o k : Nat} {g : Nat → Int32} {p : Nat} (h : p ≠ o) : upA S o k g p = S p := by
  funext b j
  unfold upA
  rw [if_neg (fun z => h z.1)]
/- fields by their names -/
section Fields
variable {S : St} {o : Nat} {N : Row}
theorem d_rc (h : DR S o N) {i : Nat} (hi : i < 4) : S o 0 i = nI (N i) := by have q := h 0 (by decide) i hi; rw [show of 0 + i = i from Nat.zero_add i] at q; exact q
theorem d_len (h : DR S o N) {i : Nat} (hi : i < 24) : S o 1 i = nI (N (4 + i)) := h 1 (by decide) i hi
theorem d_asp (h : DR S o N) {i : Nat} (hi : i < 24) : S o 2 i = nI (N (28 + i)) := h 2 (by decide) i hi
theorem d_home (h : DR S o N) {i : Nat} (hi : i < 4) : S o 3 i = nI (N (52 + i)) := h 3 (by decide) i hi
theorem d_mc (h : DR S o N) : S o 4 0 = nI (N 56) := h 4 (by decide) 0 (by decide)
theorem d_mh (h : DR S o N) {i : Nat} (hi : i < 5) : S o 5 i = nI (N (57 + i)) := h 5 (by decide) i hi
theorem d_cc (h : DR S o N) : S o 6 0 = nI (N 62) := h 6 (by decide) 0 (by decide)
theorem d_min (h : DR S o N) {i : Nat} (hi : i < 4) : S o 7 i = nI (N (63 + i)) := h 7 (by decide) i hi
theorem d_sc (h : DR S o N) : S o 8 0 = nI (N 67) := h 8 (by decide) 0 (by decide)
theorem d_sh (h : DR S o N) {i : Nat} (hi : i < 6) : S o 9 i = nI (N (68 + i)) := h 9 (by decide) i hi
theorem d_sf (h : DR S o N) {i : Nat} (hi : i < 6) : S o 10 i = nI (N (74 + i)) := h 10 (by decide) i hi
theorem d_ss (h : DR S o N) {i : Nat} (hi : i < 6) : S o 11 i = nI (N (80 + i)) := h 11 (by decide) i hi
theorem d_bc (h : DR S o N) : S o 12 0 = nI (N 86) := h 12 (by decide) 0 (by decide)
theorem d_bs (h : DR S o N) {i : Nat} (hi : i < 8) : S o 13 i = nI (N (87 + i)) := h 13 (by decide) i hi
theorem d_br (h : DR S o N) {i : Nat} (hi : i < 8) : S o 14 i = nI (N (95 + i)) := h 14 (by decide) i hi
theorem d_rp (h : DR S o N) {i : Nat} (hi : i < 8) : S o 15 i = nI (N (103 + i)) := h 15 (by decide) i hi
theorem w_rc (h : WF N) {i : Nat} (hi : i < 4) : N i ≤ 6 := by have q := h i (by omega); rwa [(by decide : ∀ i, i < 4 → ub i = 6) i hi] at q
theorem w_len (h : WF N) {i : Nat} (hi : i < 24) : N (4 + i) ≤ 30 := by have q := h (4 + i) (by omega); rwa [(by decide : ∀ i, i < 24 → ub (4 + i) = 30) i hi] at q
theorem w_asp (h : WF N) {i : Nat} (hi : i < 24) : N (28 + i) ≤ 2 := by have q := h (28 + i) (by omega); rwa [(by decide : ∀ i, i < 24 → ub (28 + i) = 2) i hi] at q
theorem w_home (h : WF N) {i : Nat} (hi : i < 4) : N (52 + i) ≤ 1 := by have q := h (52 + i) (by omega); rwa [(by decide : ∀ i, i < 4 → ub (52 + i) = 1) i hi] at q
theorem w_mc (h : WF N) : N 56 ≤ 5 := h 56 (by decide)
theorem w_mh (h : WF N) {i : Nat} (hi : i < 5) : N (57 + i) ≤ 1 := by have q := h (57 + i) (by omega); rwa [(by decide : ∀ i, i < 5 → ub (57 + i) = 1) i hi] at q
theorem w_cc (h : WF N) : N 62 ≤ 3 := h 62 (by decide)
theorem w_min (h : WF N) {i : Nat} (hi : i < 4) : N (63 + i) ≤ 30 := by have q := h (63 + i) (by omega); rwa [(by decide : ∀ i, i < 4 → ub (63 + i) = 30) i hi] at q
theorem w_sc (h : WF N) : N 67 ≤ 6 := h 67 (by decide)
theorem w_sh (h : WF N) {i : Nat} (hi : i < 6) : N (68 + i) ≤ 1 := by have q := h (68 + i) (by omega); rwa [(by decide : ∀ i, i < 6 → ub (68 + i) = 1) i hi] at q
theorem w_sf (h : WF N) {i : Nat} (hi : i < 6) : N (74 + i) ≤ 3 := by have q := h (74 + i) (by omega); rwa [(by decide : ∀ i, i < 6 → ub (74 + i) = 3) i hi] at q
theorem w_ss (h : WF N) {i : Nat} (hi : i < 6) : N (80 + i) ≤ 1439 := by have q := h (80 + i) (by omega); rwa [(by decide : ∀ i, i < 6 → ub (80 + i) = 1439) i hi] at q
theorem w_bc (h : WF N) : N 86 ≤ 8 := h 86 (by decide)
theorem w_bs (h : WF N) {i : Nat} (hi : i < 8) : N (87 + i) ≤ 5 := by have q := h (87 + i) (by omega); rwa [(by decide : ∀ i, i < 8 → ub (87 + i) = 5) i hi] at q
theorem w_br (h : WF N) {i : Nat} (hi : i < 8) : N (95 + i) ≤ 5 := by have q := h (95 + i) (by omega); rwa [(by decide : ∀ i, i < 8 → ub (95 + i) = 5) i hi] at q
theorem w_rp (h : WF N) {i : Nat} (hi : i < 8) : N (103 + i) ≤ 60 := by have q := h (103 + i) (by omega); rwa [(by decide : ∀ i, i < 8 → ub (103 + i) = 60) i hi] at q
end Fields
/- numbers -/
theorem n_clamp {n : Nat} (h : n < 2000000) : (nI n).toNatClampNeg = n := nI_clamp (by omega)
theorem n_le {a b : Nat} (ha : a < 2000000) (hb : b < 2000000) : nI a ≤ nI b ↔ a ≤ b := nI_leI (by omega) (by omega)
theorem n_lt {a b : Nat} (ha : a < 2000000) (hb : b < 2000000) : nI a < nI b ↔ a < b := nI_ltI (by omega) (by omega)
theorem n_eq {a b : Nat} (ha : a < 2000000) (hb : b < 2000000) : nI a = nI b ↔ a = b := nI_eq (by omega) (by omega)
theorem n_in {n k : Nat} (h : n < k) (hk : k < 2000000) : vp_in (nI n) k := vp_in_nI h (by omega)
theorem n_mul (a b : Nat) : nI a * nI b = nI (a * b) := by
  unfold nI
  exact (Int32.ofNat_mul a b).symm
theorem n_sub {a b : Nat} (h : b ≤ a) : nI a - nI b = nI (a - b) := by
  obtain ⟨c, rfl⟩ := Nat.exists_eq_add_of_le h
  rw [Nat.add_sub_cancel_left, ← nI_add, Int32.add_comm, Int32.add_sub_cancel]
/-- the greater one, as both sides reckon it -/
def mx (a b : Int32) : Int32 := if a < b then b else a
theorem mx_le (a b : Int32) : (if a ≤ b then b else a) = mx a b := by
  unfold mx
  by_cases h : a < b
  · rw [if_pos h, if_pos (Int32.le_of_lt h)]
  · rw [if_neg h]
    by_cases h2 : a ≤ b
    · rw [if_pos h2]
      exact Int32.le_antisymm (Int32.not_lt.mp h) h2
    · rw [if_neg h2]
/-- in a range -/
abbrev inR (v : Int32) (lo hi : Int) : Prop := lo ≤ v.toInt ∧ v.toInt ≤ hi
theorem inR_nat {v : Int32} {hi : Nat} (h : inR v 0 hi) (hh : hi < 2000000) : ∃ j : Nat, j ≤ hi ∧ v = nI j := by
  have h0 : ¬ v < 0 := by
    rw [Int32.lt_iff_toInt_lt]
    have := h.1
    simp
    omega
  obtain ⟨j, hj, e⟩ := nI_of h0
  refine ⟨j, ?_, e⟩
  have h2 := h.2
  rw [e, nI_toInt (by omega)] at h2
  omega
theorem inR_nI {j : Nat} {hi : Int} (hj : j < 2000000) : inR (nI j) 0 hi ↔ (j : Int) ≤ hi := by
  unfold inR
  rw [nI_toInt (by omega)]
  constructor
  · exact fun h => h.2
  · exact fun h => ⟨by omega, h⟩
theorem p_isIn {S : St} {v lo hi : Int32} {a b : Int} (ea : lo.toInt = a) (eb : hi.toInt = b) {K : Int32 → Prop} (h1 : inR v a b → K 1) (h0 : ¬ inR v a b → K 0) : w_X3_isIn S v lo hi K := by
  unfold w_X3_isIn
  simp only [Int32.lt_iff_toInt_lt]
  subst ea
  subst eb
  refine ⟨fun q => h0 (fun z => ?_), fun q => ⟨fun q2 => h0 (fun z => ?_), fun q2 => h1 ⟨?_, ?_⟩⟩⟩
  · have := z.1; omega
  · have := z.2; omega
  · omega
  · omega
theorem p_in {S : St} {v : Int32} {lo hi : Int64} {a b : Int} (ea : lo.toInt = a) (eb : hi.toInt = b) {K : Int32 → Prop} (h1 : inR v a b → K 1) (h0 : ¬ inR v a b → K 0) : w_X4_in S (Int32.toInt64 v) lo hi K := by
  unfold w_X4_in
  have a1 : ∀ x y : Int64, lg_cmp x y < 0 ↔ ¬ y.toInt ≤ x.toInt := fun x y => by
    rw [← Int64.le_iff_toInt_le, ← lg_cmp_ge, Int32.not_le]
  have a2 : ∀ x y : Int64, 0 < lg_cmp x y ↔ ¬ x.toInt ≤ y.toInt := fun x y => by
    rw [← Int64.le_iff_toInt_le, ← lg_cmp_le, Int32.not_le]
  simp only [a1, a2, Classical.not_not, Int32.toInt_toInt64]
  subst ea
  subst eb
  exact ⟨fun q => h0 (fun z => q z.1), fun q => ⟨fun q2 => h0 (fun z => q2 z.2), fun q2 => h1 ⟨q, q2⟩⟩⟩
theorem z01 {A B : Prop} : ((((0 : Int32) = 0) → A) ∧ ((¬ (0 : Int32) = 0) → B)) ↔ A := ⟨fun h => h.1 rfl, fun h => ⟨fun _ => h, fun q => absurd rfl q⟩⟩
theorem z11 {A B : Prop} : ((((1 : Int32) = 0) → A) ∧ ((¬ (1 : Int32) = 0) → B)) ↔ B := ⟨fun h => h.2 (by decide), fun h => ⟨fun q => absurd q (by decide), fun _ => h⟩⟩
/-- the answer asked for 0, then for not 0 -/
theorem g3a {S : St} {v lo hi : Int32} {a b : Int} {A B : Prop} (ea : lo.toInt = a) (eb : hi.toInt = b) (h1 : inR v a b → B) (h0 : ¬ inR v a b → A) : w_X3_isIn S v lo hi (fun r => ((r = 0) → A) ∧ ((¬ r = 0) → B)) := p_isIn ea eb (fun q => z11.mpr (h1 q)) (fun q => z01.mpr (h0 q))
theorem g3b {S : St} {v lo hi : Int32} {a b : Int} {A B : Prop} (ea : lo.toInt = a) (eb : hi.toInt = b) (h1 : inR v a b → B) (h0 : ¬ inR v a b → A) : w_X3_isIn S v lo hi (fun r => ((¬ r = 0) → B) ∧ ((r = 0) → A)) := p_isIn ea eb (fun q => (z11.mpr (h1 q)).symm) (fun q => (z01.mpr (h0 q)).symm)
theorem g4a {S : St} {v : Int32} {lo hi : Int64} {a b : Int} {A B : Prop} (ea : lo.toInt = a) (eb : hi.toInt = b) (h1 : inR v a b → B) (h0 : ¬ inR v a b → A) : w_X4_in S (Int32.toInt64 v) lo hi (fun r => ((r = 0) → A) ∧ ((¬ r = 0) → B)) := p_in ea eb (fun q => z11.mpr (h1 q)) (fun q => z01.mpr (h0 q))
theorem g4b {S : St} {v : Int32} {lo hi : Int64} {a b : Int} {A B : Prop} (ea : lo.toInt = a) (eb : hi.toInt = b) (h1 : inR v a b → B) (h0 : ¬ inR v a b → A) : w_X4_in S (Int32.toInt64 v) lo hi (fun r => ((¬ r = 0) → B) ∧ ((r = 0) → A)) := p_in ea eb (fun q => (z11.mpr (h1 q)).symm) (fun q => (z01.mpr (h0 q)).symm)
theorem n_pred {a : Nat} (h : a < 2000000) : (nI a - 1).toInt = (a : Int) - 1 := by
  cases a with
  | zero => decide
  | succ a =>
    rw [nI_pred, nI_toInt (by omega)]
    omega
theorem n_predL {a : Nat} (h : a < 2000000) : (Int32.toInt64 (nI a - 1)).toInt = (a : Int) - 1 := by rw [Int32.toInt_toInt64, n_pred h]
