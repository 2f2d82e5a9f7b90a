/-! EVERY CONTRACT'S WORDS: all words of the tables that last -/
def wA : List Cond := lw_tbl.filter goodWord
theorem wa_in {w : Cond} (h : w ∈ wA) : w ∈ lw_tbl := (List.mem_filter.mp h).1
theorem wa0 {w : Cond} (h : w ∈ k2_sels lw_privs) (g : goodWord w = true) : w ∈ wA := List.mem_filter.mpr ⟨List.mem_append_left _ h, g⟩
theorem wa1 {w : Cond} (h : w ∈ tables_1_1) (g : goodWord w = true) : w ∈ wA := List.mem_filter.mpr ⟨List.mem_append_right _ (List.mem_append_left _ h), g⟩
theorem wa2 {w : Cond} (h : w ∈ tables_1_2) (g : goodWord w = true) : w ∈ wA := List.mem_filter.mpr ⟨List.mem_append_right _ (List.mem_append_right _ (List.mem_append_left _ h)), g⟩
theorem wa3 {w : Cond} (h : w ∈ tables_1_3) (g : goodWord w = true) : w ∈ wA := List.mem_filter.mpr ⟨List.mem_append_right _ (List.mem_append_right _ (List.mem_append_right _ h)), g⟩
theorem goodAll : wA.all goodWord = true := List.all_eq_true.mpr fun _ h => (List.mem_filter.mp h).2
theorem inlX0 : ∀ w ∈ wsX00, w ∈ wA := fun w h => List.mem_filter.mpr ⟨(by decide +kernel : ∀ w ∈ wsX00, w ∈ lw_tbl) w h, (by decide +kernel : ∀ w ∈ wsX00, goodWord w = true) w h⟩
theorem inlX1 : ∀ w ∈ wsX10, w ∈ wA := fun w h => List.mem_filter.mpr ⟨(by decide +kernel : ∀ w ∈ wsX10, w ∈ lw_tbl) w h, (by decide +kernel : ∀ w ∈ wsX10, goodWord w = true) w h⟩
theorem inlX2 : ∀ w ∈ wsX20, w ∈ wA := fun w h => List.mem_filter.mpr ⟨(by decide +kernel : ∀ w ∈ wsX20, w ∈ lw_tbl) w h, (by decide +kernel : ∀ w ∈ wsX20, goodWord w = true) w h⟩
theorem inlX3 : ∀ w ∈ wsX30, w ∈ wA := fun w h => List.mem_filter.mpr ⟨(by decide +kernel : ∀ w ∈ wsX30, w ∈ lw_tbl) w h, (by decide +kernel : ∀ w ∈ wsX30, goodWord w = true) w h⟩
theorem inlX4 : ∀ w ∈ wsX40, w ∈ wA := fun w h => List.mem_filter.mpr ⟨(by decide +kernel : ∀ w ∈ wsX40, w ∈ lw_tbl) w h, (by decide +kernel : ∀ w ∈ wsX40, goodWord w = true) w h⟩
/-! THE WORLD: eleven objects behind the constructors: 0 the day, 1 the trial, 2 to 6 the history's days, 7 the history, 8 the plan, 9 the room, 10 the model. S o k i: what cell i of field k of object o holds (a number: cell 0). -/
abbrev St : Type := Nat → Nat → Nat → Int32
def kd (o : Nat) : Nat := if o < 7 then 0 else o - 6
/-- a field's kind: 0 a number, 1 ints, 2 booleans, 3 Days, t + 4: the object t -/
def ftL : List (List Nat) := [[1, 1, 1, 1, 0, 1, 0, 1, 0, 1, 1, 1, 0, 1, 1, 1], [3, 0], [2, 1, 1, 1, 1, 1, 1, 0, 0, 0, 1, 1, 1, 1, 1, 1], [4, 5, 11, 12], [1, 1, 0, 1, 1, 1, 1, 1, 1, 1, 1, 2, 1, 1, 1, 0, 0, 1]]
def flL : List (List Nat) := [[4, 24, 24, 4, 0, 5, 0, 4, 0, 6, 6, 6, 0, 8, 8, 8], [5, 0], [6, 36, 36, 6, 6, 6, 5, 0, 0, 0, 6, 24, 24, 3, 5, 5], [0, 0, 0, 0], [111, 555, 0, 24, 24, 3, 5, 5, 5, 36, 36, 6, 6, 6, 6, 0, 0, 111]]
def nF (ci : Nat) : Nat := (ftL.getD ci []).length
def ft (ci k : Nat) : Nat := (ftL.getD ci []).getD k 0
def fl (ci k : Nat) : Nat := (flL.getD ci []).getD k 0
def fv (ad : Nat → Nat → Nat) (S : St) (ci o k : Nat) : Value := match ft ci k with
  | 0 => .int (S o k 0)
  | 1 => .ref (ad o (k + 1))
  | 2 => .ref (ad o (k + 1))
  | 3 => .ref (ad o (k + 1))
  | t + 4 => .ref (ad t 0)
def cel (cA : Nat → ClassId) (ad : Nat → Nat → Nat) (S : St) (o j : Nat) : va_E := match j with
  | 0 => .inr (kd o, (List.range (nF (kd o))).map (fv ad S (kd o) o))
  | k + 1 => if ft (kd o) k = 3 then .inl (cA 2, fl (kd o) k, .inr (.inr (.inr (.inr (fun i => some (ad (S o k i).toNatClampNeg 0)))))) else .inl (cA (ft (kd o) k - 1), fl (kd o) k, .inl (S o k))
def isA (t : Nat) : Bool := t == 1 || t == 2 || t == 3
def celL : List (Nat × Nat) := (List.range 11).flatMap fun o => (o, 0) :: ((List.range (nF (kd o))).filter fun k => isA (ft (kd o) k)).map fun k => (o, k + 1)
theorem celL_nodup : celL.Nodup := by decide +kernel
theorem celL_obj : ∀ o, o < 11 → (o, 0) ∈ celL := by decide +kernel
theorem celL_arr1 : ∀ o ∈ List.range 11, ∀ k ∈ List.range 18, (!isA (ft (kd o) k) || decide ((o, k + 1) ∈ celL)) = true := by decide +kernel
theorem celL_arr0 (o : Nat) (ho : o < 11) (k : Nat) (hk : k < 18) (h : isA (ft (kd o) k) = true) : (o, k + 1) ∈ celL := by
  have q := celL_arr1 o (List.mem_range.mpr ho) k (List.mem_range.mpr hk)
  rw [h] at q
  simpa using q
theorem ft_out : ∀ ci, ci < 5 → ∀ k, 18 ≤ k → ft ci k = 0 := by
  intro ci hc k hk
  unfold ft
  have h : ∀ c, c < 5 → (ftL.getD c []).length ≤ 18 := by decide
  rw [List.getD_eq_getElem?_getD, List.getElem?_eq_none (Nat.le_trans (h ci hc) hk)]
  rfl
theorem kd_lt {o : Nat} (ho : o < 11) : kd o < 5 := by unfold kd; split <;> omega
theorem celL_arr {o k : Nat} (ho : o < 11) (h : isA (ft (kd o) k) = true) : (o, k + 1) ∈ celL := by
  by_cases hk : k < 18
  · exact celL_arr0 o ho k hk h
  · rw [ft_out _ (kd_lt ho) k (by omega)] at h
    exact absurd h (by decide)
theorem kd_day {o : Nat} (h : o < 7) : kd o = 0 := by unfold kd; rw [if_pos h]
def wl (cA : Nat → ClassId) (ad : Nat → Nat → Nat) (S : St) : va_W := celL.map fun q => (ad q.1 q.2, cel cA ad S q.1 q.2)
abbrev kcl : List vw_C := [(RX0, TX0, 16), (RX1, TX1, 2), (RX2, TX2, 16), (RX3, TX3, 4), (RX4, TX4, 18)]
abbrev ktys (cA : Nat → ClassId) : List (ClassId × FieldType) := [(cA 0, .int), (cA 1, .boolean), (cA 2, .object RX0)]
def Rep (D : va_G) (cA : Nat → ClassId) (ad : Nat → Nat → Nat) (A : Nat → Prop) (S : St) (H : Heap) : Prop := va_P D kcl (wl cA ad S) H ∧ va_D A (wl cA ad S)
theorem wl_get {cA : Nat → ClassId} {ad : Nat → Nat → Nat} {S : St} {o j : Nat} (h : (o, j) ∈ celL) : ∃ i : Nat, celL[i]? = some (o, j) ∧ (wl cA ad S)[i]? = some (ad o j, cel cA ad S o j) := by
  obtain ⟨i, hi⟩ := List.getElem?_of_mem h
  exact ⟨i, hi, by unfold wl; rw [List.getElem?_map, hi]; rfl⟩
theorem wl_set {cA : Nat → ClassId} {ad : Nat → Nat → Nat} {S S' : St} {o j i : Nat} {v : va_E} (hi : celL[i]? = some (o, j)) (hv : cel cA ad S' o j = v) (hr : ∀ a b, (a, b) ≠ (o, j) → cel cA ad S' a b = cel cA ad S a b) : (wl cA ad S).set i (ad o j, v) = wl cA ad S' := by
  apply List.ext_getElem?
  intro n
  unfold wl
  rw [List.getElem?_set]
  by_cases hn : i = n
  · subst hn
    have hlt : i < (celL.map fun q => (ad q.1 q.2, cel cA ad S q.1 q.2)).length := by rw [List.length_map]; exact (List.getElem?_eq_some_iff.mp hi).1
    rw [if_pos rfl, if_pos hlt, List.getElem?_map, hi, ← hv]
    rfl
  · rw [if_neg hn, List.getElem?_map, List.getElem?_map]
    cases hq : celL[n]? with
    | none => rfl
    | some q =>
      obtain ⟨a, b⟩ := q
      have hne : (a, b) ≠ (o, j) := by
        intro e
        rw [e] at hq
        have h1 := (List.getElem?_eq_some_iff.mp hi).1
        have h2 := (List.getElem?_eq_some_iff.mp hq).1
        exact hn ((List.getElem?_inj h1 celL_nodup).mp (hi.trans hq.symm))
      show some (ad a b, cel cA ad S a b) = some (ad a b, cel cA ad S' a b)
      rw [hr a b hne]
/-- one cell of a field written -/
def up3 (S : St) (o k i : Nat) (v : Int32) : St := fun a b j => if a = o ∧ b = k ∧ j = i then v else S a b j
/-- a whole row written -/
def upA (S : St) (o k : Nat) (g : Nat → Int32) : St := fun a b j => if a = o ∧ b = k then g j else S a b j
theorem up3_row (S : St) (o k i : Nat) (v : Int32) : up3 S o k i v o k = upd (S o k) i v := by
  funext j
  by_cases h : j = i
  · simp [up3, upd, h]
  · simp [up3, upd, h]
theorem up3_ne {S : St} {o k i : Nat} {v : Int32} {a b : Nat} (h : ¬ (a = o ∧ b = k)) : up3 S o k i v a b = S a b := by
  funext j
  unfold up3
  rw [if_neg (fun q => h ⟨q.1, q.2.1⟩)]
theorem upA_row (S : St) (o k : Nat) (g : Nat → Int32) : upA S o k g o k = g := by funext j; simp [upA]
theorem upA_ne {S : St} {o k : Nat} {g : Nat → Int32} {a b : Nat} (h : ¬ (a = o ∧ b = k)) : upA S o k g a b = S a b := by
  funext j
  unfold upA
  rw [if_neg h]
theorem cel_obj {cA : Nat → ClassId} {ad : Nat → Nat → Nat} {S : St} {a : Nat} : cel cA ad S a 0 = .inr (kd a, (List.range (nF (kd a))).map (fv ad S (kd a) a)) := rfl
theorem cel_row {cA : Nat → ClassId} {ad : Nat → Nat → Nat} {S S' : St} {o k : Nat} (hf : ft (kd o) k ≠ 0) (h : ∀ a b, ¬ (a = o ∧ b = k) → S' a b = S a b) : ∀ a b, (a, b) ≠ (o, k + 1) → cel cA ad S' a b = cel cA ad S a b := by
  intro a b hne
  cases b with
  | zero =>
    rw [cel_obj, cel_obj]
    congr 2
    apply List.map_congr_left
    intro k' _
    unfold fv
    split
    · rename_i h0
      rw [h a k' (fun q => by rw [q.1, q.2] at h0; exact hf h0)]
    all_goals rfl
  | succ b =>
    have e : S' a b = S a b := h a b (fun q => hne (by rw [q.1, q.2]))
    unfold cel
    simp only [e]
theorem cel_num {cA : Nat → ClassId} {ad : Nat → Nat → Nat} {S S' : St} {o k : Nat} (h : ∀ a b, ¬ (a = o ∧ b = k) → S' a b = S a b) (hc : (o, k + 1) ∉ celL) : ∀ a b, (a, b) ≠ (o, 0) → (a, b) ∈ celL → cel cA ad S' a b = cel cA ad S a b := by
  intro a b hne hm
  cases b with
  | zero =>
    rw [cel_obj, cel_obj]
    congr 2
    apply List.map_congr_left
    intro k' _
    unfold fv
    split
    · rw [h a k' (fun q => hne (by rw [q.1]))]
    all_goals rfl
  | succ b =>
    have e : S' a b = S a b := h a b (fun q => hc (by rw [← q.1, ← q.2]; exact hm))
    unfold cel
    simp only [e]
theorem wl_set' {cA : Nat → ClassId} {ad : Nat → Nat → Nat} {S S' : St} {o j i : Nat} {v : va_E} (hi : celL[i]? = some (o, j)) (hv : cel cA ad S' o j = v) (hr : ∀ a b, (a, b) ≠ (o, j) → (a, b) ∈ celL → cel cA ad S' a b = cel cA ad S a b) : (wl cA ad S).set i (ad o j, v) = wl cA ad S' := by
  apply List.ext_getElem?
  intro n
  unfold wl
  rw [List.getElem?_set]
  by_cases hn : i = n
  · subst hn
    have hlt : i < (celL.map fun q => (ad q.1 q.2, cel cA ad S q.1 q.2)).length := by rw [List.length_map]; exact (List.getElem?_eq_some_iff.mp hi).1
    rw [if_pos rfl, if_pos hlt, List.getElem?_map, hi, ← hv]
    rfl
  · rw [if_neg hn, List.getElem?_map, List.getElem?_map]
    cases hq : celL[n]? with
    | none => rfl
    | some q =>
      obtain ⟨a, b⟩ := q
      have hne : (a, b) ≠ (o, j) := by
        intro e
        rw [e] at hq
        have h1 := (List.getElem?_eq_some_iff.mp hi).1
        exact hn ((List.getElem?_inj h1 celL_nodup).mp (hi.trans hq.symm))
      show some (ad a b, cel cA ad S a b) = some (ad a b, cel cA ad S' a b)
      rw [hr a b hne (List.mem_of_getElem? hq)]
theorem num_out1 : ∀ o ∈ List.range 11, ∀ k ∈ List.range 18, (!(ft (kd o) k == 0) || !decide ((o, k + 1) ∈ celL)) = true := by decide +kernel
theorem num_out (o : Nat) (ho : o < 11) (k : Nat) (hk : k < 18) (h : ft (kd o) k = 0) : (o, k + 1) ∉ celL := by
  have q := num_out1 o (List.mem_range.mpr ho) k (List.mem_range.mpr hk)
  rw [h] at q
  simpa using q
/-- the static rows of the class -/
def tLeast (j : Nat) : Int32 := ([0, 0, 0, 1] : List Int32).getD j 0
def tMost (j : Nat) : Int32 := ([10, 10, 15, 30] : List Int32).getD j 0
/-- what holds of the machine's tables, and of the statics, all along -/
def Wd (D : va_G) (cA : Nat → ClassId) (ad : Nat → Nat → Nat) (A : Nat → Prop) (U : State) : Prop := va_K D kcl (ktys cA) U ∧ va_Nw (.methodLinkNest RX0 70 yX3_reelPlace RX3) U ∧ va_Nw (.methodLinkNest RX2 88 yX3_reelPlace RX3) U ∧ va_Z RX3 "LEAST_MINUTES" "[I" (.ref (ad 11 0)) A U U.heap ∧ va_T .int (ad 11 0) 4 (fun j => .int (tLeast j)) A U U.heap ∧ va_Z RX3 "MOST_MINUTES" "[I" (.ref (ad 12 0)) A U U.heap ∧ va_T .int (ad 12 0) 4 (fun j => .int (tMost j)) A U U.heap
theorem Wd.move {D : va_G} {cA : Nat → ClassId} {ad : Nat → Nat → Nat} {A : Nat → Prop} {s U : State} {H : Heap} {locs : List Loc} (h : Wd D cA ad A s) (hS : va_S A s.heap H locs) (hU : U.heap = H) (hW : s.WarmedH U.vm) : Wd D cA ad A U := by
  obtain ⟨h1, h2, h3, h4, h5, h6, h7⟩ := h
  exact ⟨va_K.moved hW.alike h1, va_Nw.warmM hW h2, va_Nw.warmM hW h3, by rw [hU]; exact va_Z.moved hW.alike (h4.kept hS.2.1), by rw [hU]; exact va_T.moved hW.alike (h5.kept hS.2.1), by rw [hU]; exact va_Z.moved hW.alike (h6.kept hS.2.1), by rw [hU]; exact va_T.moved hW.alike (h7.kept hS.2.1)⟩
theorem Wd.blind {D : va_G} {cA : Nat → ClassId} {ad : Nat → Nat → Nat} {A : Nat → Prop} {U : State} {g : JFrame} {mk : MethodId} {a : Array Value} (h : Wd D cA ad A U) : Wd D cA ad A (U.calling g mk a) := by
  obtain ⟨h1, h2, h3, h4, h5, h6, h7⟩ := h
  exact ⟨va_K.moved (u := U) (U := U.calling g mk a) (Vm.Alike.refl U.vm) h1, va_Nw.same rfl (u := U) (U := U.calling g mk a) rfl h2, va_Nw.same rfl (u := U) (U := U.calling g mk a) rfl h3, va_Z.moved (u := U) (U := U.calling g mk a) (Vm.Alike.refl U.vm) h4, va_T.moved (u := U) (U := U.calling g mk a) (Vm.Alike.refl U.vm) h5, va_Z.moved (u := U) (U := U.calling g mk a) (Vm.Alike.refl U.vm) h6, va_T.moved (u := U) (U := U.calling g mk a) (Vm.Alike.refl U.vm) h7⟩
def RepB (D : va_G) (cA : Nat → ClassId) (ad : Nat → Nat → Nat) (A : Nat → Prop) (S : St) (U : State) : Prop := Rep D cA ad A S U.heap ∧ Wd D cA ad A U
theorem repB_blind {D : va_G} {cA : Nat → ClassId} {ad : Nat → Nat → Nat} {A : Nat → Prop} {S : St} {av : List Value} : FrameBlind (va_Pc av (RepB D cA ad A S)) := fun a U g mk q => ⟨q.1, q.2.1, q.2.2.blind⟩
/-- what a walk stands on -/
def Cx (p : Program) (R : Room) (m : MethodId) (c : Code) (cc : ByteArray) (nL : Nat) (s : State) (args : Array Value) (own : String) (cells slots : Nat) (D : va_G) (cA : Nat → ClassId) (ad : Nat → Nat → Nat) (A : Nat → Prop) : Prop := (p.tables.exec = Jvm.exec ∧ c.code = cc ∧ c.maxLocals = nL ∧ s.vm.findClass own = some m.cls ∧ ∀ w ∈ wA, w.before args s = true) ∧ Wd D cA ad A s ∧ cells ≤ R.cells ∧ slots ≤ R.slots
/-- the machine at pc, in the world S -/
def VV (p : Program) (l : Launch) (e : Env) (R : Room) (s : State) (m : MethodId) (args : Array Value) (below : List Frame) (meth : Method) (c : Code) (cells slots : Nat) (Q : State → Prop) (D : va_G) (cA : Nat → ClassId) (ad : Nat → Nat → Nat) (A : Nat → Prop) (nL : Nat) (S : St) (pc : Nat) (lv : List (Nat × Value)) (st : List Value) : Prop := ∀ (H : Heap) (locs : List Loc) (ls : Array Slot), Rep D cA ad A S H → va_S A s.heap H locs → lv_has ls nL lv → W p l e R s m args below meth c H locs cells slots Q (F0 m pc ls st)
