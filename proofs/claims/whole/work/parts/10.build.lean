/-! THE CONSTRUCTORS' ROWS: the world is a list that grows -/
section BRows
variable {p : Program} {l : Launch} {e : Env} {R : Room} {s : State} {m : MethodId} {args : Array Value} {below : List Frame} {meth : Method} {c : Code} {cells slots : Nat} {Q : State → Prop} {D : va_G} {cA : Nat → ClassId} {A : Nat → Prop} {nL : Nat} {cc : ByteArray} {own : String} {ws : va_W} {pc : Nat} {lv : List (Nat × Value)} {st : List Value}
/-- the first minutes -/
def tFirst (j : Nat) : Int32 := ([3, 2, 4, 10] : List Int32).getD j 0
/-- what holds of the tables and of the first minutes while things are made; base: where new cells begin -/
def KB (D : va_G) (cA : Nat → ClassId) (base t0 : Nat) (U : State) : Prop := va_K D kcl (ktys cA) U ∧ va_Nw (.fieldLinkNest RX0 61 RX3 "FIRST_MINUTES" "[I" RX3) U ∧ va_Z RX3 "FIRST_MINUTES" "[I" (.ref t0) (fun q => base ≤ q) U U.heap ∧ va_T .int t0 4 (fun j => .int (tFirst j)) (fun q => base ≤ q) U U.heap ∧ va_AO RX0 U
theorem KB.move {base t0 : Nat} {U : State} {H : Heap} {locs : List Loc} (h : KB D cA base t0 s) (hA : ∀ q, A q → base ≤ q) (hS : va_S A s.heap H locs) (hU : U.heap = H) (hW : s.WarmedH U.vm) : KB D cA base t0 U := by
  obtain ⟨h1, h2, h3, h4, h5⟩ := h
  have hq : ∀ a : Nat, a < s.heap.size → ¬ (fun q => base ≤ q) a → H[a]? = s.heap[a]? := fun a g1 g2 => hS.2.1 a g1 (fun z => g2 (hA a z))
  exact ⟨va_K.moved hW.alike h1, va_Nw.warmF hW h2, by rw [hU]; exact va_Z.moved hW.alike (h3.kept hq), by rw [hU]; exact va_T.moved hW.alike (h4.kept hq), va_AO.moved hW.alike h5⟩
theorem KB.blind {base t0 : Nat} {U : State} {g : JFrame} {mk : MethodId} {a : Array Value} (h : KB D cA base t0 U) : KB D cA base t0 (U.calling g mk a) := by
  obtain ⟨h1, h2, h3, h4, h5⟩ := h
  exact ⟨va_K.moved (u := U) (U := U.calling g mk a) (Vm.Alike.refl U.vm) h1, va_Nw.same rfl (u := U) (U := U.calling g mk a) rfl h2, va_Z.moved (u := U) (U := U.calling g mk a) (Vm.Alike.refl U.vm) h3, va_T.moved (u := U) (U := U.calling g mk a) (Vm.Alike.refl U.vm) h4, va_AO.moved (u := U) (U := U.calling g mk a) (Vm.Alike.refl U.vm) h5⟩
def CB (p : Program) (R : Room) (m : MethodId) (c : Code) (meth : Method) (cc : ByteArray) (nL : Nat) (s : State) (args : Array Value) (own : String) (D : va_G) (cA : Nat → ClassId) (base t0 : Nat) (A : Nat → Prop) : Prop := (p.tables.exec = Jvm.exec ∧ c.code = cc ∧ c.maxLocals = nL ∧ s.vm.findClass own = some m.cls ∧ ∀ w ∈ wA, w.before args s = true) ∧ KB D cA base t0 s ∧ (∀ q, s.heap.size ≤ q → A q) ∧ (∀ q, A q → base ≤ q) ∧ base ≤ s.heap.size
def VB (p : Program) (l : Launch) (e : Env) (R : Room) (s : State) (m : MethodId) (args : Array Value) (below : List Frame) (meth : Method) (c : Code) (cells slots : Nat) (Q : State → Prop) (D : va_G) (A : Nat → Prop) (nL : Nat) (ws : va_W) (pc : Nat) (lv : List (Nat × Value)) (st : List Value) : Prop := ∀ (H : Heap) (locs : List Loc) (ls : Array Slot), va_P D kcl ws H → va_D A ws → va_S A s.heap H locs → lv_has ls nL lv → W p l e R s m args below meth c H locs cells slots Q (F0 m pc ls st)
variable {base t0 : Nat}
theorem b_iconst (X : CB p R m c meth cc nL s args own D cA base t0 A) {n : Int} {v : Int32} (hd : decode cc pc = .ok (.iconst n, 1)) (hv : Int32.ofInt n = v) (k : VB p l e R s m args below meth c cells slots Q D A nL ws (pc + 1) lv (.int v :: st)) : VB p l e R s m args below meth c cells slots Q D A nL ws pc lv st := fun H locs ls hP hD hS hl => lv_iconst X.1.1 X.1.2.1 hd hv (k H locs ls hP hD hS hl)
theorem b_bipush (X : CB p R m c meth cc nL s args own D cA base t0 A) {n : Int} {v : Int32} (hd : decode cc pc = .ok (.bipush n, 2)) (hv : (Int8.ofInt n).toInt32 = v) (k : VB p l e R s m args below meth c cells slots Q D A nL ws (pc + 2) lv (.int v :: st)) : VB p l e R s m args below meth c cells slots Q D A nL ws pc lv st := fun H locs ls hP hD hS hl => lv_bipush X.1.1 X.1.2.1 hd hv (k H locs ls hP hD hS hl)
theorem b_sipush (X : CB p R m c meth cc nL s args own D cA base t0 A) {n : Int} {v : Int32} (hd : decode cc pc = .ok (.sipush n, 3)) (hv : (Int16.ofInt n).toInt32 = v) (k : VB p l e R s m args below meth c cells slots Q D A nL ws (pc + 3) lv (.int v :: st)) : VB p l e R s m args below meth c cells slots Q D A nL ws pc lv st := fun H locs ls hP hD hS hl => lv_sipush X.1.1 X.1.2.1 hd hv (k H locs ls hP hD hS hl)
theorem b_aload_n (X : CB p R m c meth cc nL s args own D cA base t0 A) {k9 : Fin 4} {i x : Nat} (hd : decode cc pc = .ok (.aload_n k9, 1)) (hi : (k9 : Nat) = i) (q : Nat) (hq : lv[q]? = some (i, .ref x)) (k : VB p l e R s m args below meth c cells slots Q D A nL ws (pc + 1) lv (.ref x :: st)) : VB p l e R s m args below meth c cells slots Q D A nL ws pc lv st := fun H locs ls hP hD hS hl => lv_aload_n X.1.1 X.1.2.1 hd hi (lv_at hl q hq) (k H locs ls hP hD hS hl)
theorem b_iload_n (X : CB p R m c meth cc nL s args own D cA base t0 A) {k9 : Fin 4} {i : Nat} {x : Int32} (hd : decode cc pc = .ok (.iload_n k9, 1)) (hi : (k9 : Nat) = i) (q : Nat) (hq : lv[q]? = some (i, .int x)) (k : VB p l e R s m args below meth c cells slots Q D A nL ws (pc + 1) lv (.int x :: st)) : VB p l e R s m args below meth c cells slots Q D A nL ws pc lv st := fun H locs ls hP hD hS hl => lv_iload_n X.1.1 X.1.2.1 hd hi (lv_at hl q hq) (k H locs ls hP hD hS hl)
theorem b_istore_n (X : CB p R m c meth cc nL s args own D cA base t0 A) {k9 : Fin 4} {i : Nat} {x : Int32} (lv' : List (Nat × Value)) (hd : decode cc pc = .ok (.istore_n k9, 1)) (hi : (k9 : Nat) = i) (hn : i < nL) (hl0 : (i, Value.int x) :: lv.filter (fun q => !(q.1 == i) && !(q.1 + 1 == i && q.2.category == 2)) = lv') (k : VB p l e R s m args below meth c cells slots Q D A nL ws (pc + 1) lv' st) : VB p l e R s m args below meth c cells slots Q D A nL ws pc lv (.int x :: st) := fun H locs ls hP hD hS hl => lv_istore_n X.1.1 X.1.2.1 hd hi hl hn hl0 (fun ls hl => k H locs ls hP hD hS hl)
theorem b_astore_n (X : CB p R m c meth cc nL s args own D cA base t0 A) {k9 : Fin 4} {i x : Nat} (lv' : List (Nat × Value)) (hd : decode cc pc = .ok (.astore_n k9, 1)) (hi : (k9 : Nat) = i) (hn : i < nL) (hl0 : (i, Value.ref x) :: lv.filter (fun q => !(q.1 == i) && !(q.1 + 1 == i && q.2.category == 2)) = lv') (k : VB p l e R s m args below meth c cells slots Q D A nL ws (pc + 1) lv' st) : VB p l e R s m args below meth c cells slots Q D A nL ws pc lv (.ref x :: st) := fun H locs ls hP hD hS hl => lv_astore_n X.1.1 X.1.2.1 hd hi hl hn hl0 (fun ls hl => k H locs ls hP hD hS hl)
theorem b_iinc (X : CB p R m c meth cc nL s args own D cA base t0 A) {i : Nat} {n : Int} {x v : Int32} (lv' : List (Nat × Value)) (hd : decode cc pc = .ok (.iinc i n, 3)) (q : Nat) (hq : lv[q]? = some (i, .int x)) (hv : x + Int32.ofInt n = v) (hn : i < nL) (hl0 : (i, Value.int v) :: lv.filter (fun q => !(q.1 == i) && !(q.1 + 1 == i && q.2.category == 2)) = lv') (k : VB p l e R s m args below meth c cells slots Q D A nL ws (pc + 3) lv' st) : VB p l e R s m args below meth c cells slots Q D A nL ws pc lv st := fun H locs ls hP hD hS hl => lv_iinc X.1.1 X.1.2.1 hd hl hq hv hn hl0 (fun ls hl => k H locs ls hP hD hS hl)
theorem b_dup (X : CB p R m c meth cc nL s args own D cA base t0 A) {va : Value} (hd : decode cc pc = .ok (.dup, 1)) (hc : va.category = 1) (k : VB p l e R s m args below meth c cells slots Q D A nL ws (pc + 1) lv (va :: va :: st)) : VB p l e R s m args below meth c cells slots Q D A nL ws pc lv (va :: st) := fun H locs ls hP hD hS hl => lv_dup X.1.1 X.1.2.1 hd hc (k H locs ls hP hD hS hl)
theorem b_goto (X : CB p R m c meth cc nL s args own D cA base t0 A) {off : Int} (tgt : Nat) (hd : decode cc pc = .ok (.goto off, 3)) (ht : (pc : Int) + off = (tgt : Int)) (k : VB p l e R s m args below meth c cells slots Q D A nL ws tgt lv st) : VB p l e R s m args below meth c cells slots Q D A nL ws pc lv st := fun H locs ls hP hD hS hl => lv_goto X.1.1 X.1.2.1 hd ht (k H locs ls hP hD hS hl)
theorem b_icmp_ge (X : CB p R m c meth cc nL s args own D cA base t0 A) {x y : Int32} {off : Int} (tgt : Nat) (hd : decode cc pc = .ok (.if_icmp .ge off, 3)) (ht : (pc : Int) + off = (tgt : Int)) (kt : y ≤ x → VB p l e R s m args below meth c cells slots Q D A nL ws tgt lv st) (kf : ¬ y ≤ x → VB p l e R s m args below meth c cells slots Q D A nL ws (pc + 3) lv st) : VB p l e R s m args below meth c cells slots Q D A nL ws pc lv (.int y :: .int x :: st) := fun H locs ls hP hD hS hl => lv_icmp_ge X.1.1 X.1.2.1 hd ht (fun h => kt h H locs ls hP hD hS hl) (fun h => kf h H locs ls hP hD hS hl)
theorem b_objInit (X : CB p R m c meth cc nL s args own D cA base t0 A) {idx a : Nat} (hw : Cond.methodLink own idx Lib.objectInit ∈ wA) (hw1 : Cond.instanceMethod Lib.objectInit ∈ wA) (hw2 : Cond.code Lib.objectInit ⟨#[0xb1]⟩ 1 none ∈ wA) (hd : decode cc pc = .ok (.invokespecial idx, 3)) (hfr : 1 ≤ R.frames) (hlo : 2 * 0 + (st.map fun v => v.category).sum + 12 ≤ R.locals) (k : VB p l e R s m args below meth c cells slots Q D A nL ws (pc + 3) lv st) : VB p l e R s m args below meth c cells slots Q D A nL ws pc lv (.ref a :: st) := fun H locs ls hP hD hS hl => W.objInit X.1.1 X.1.2.1 X.1.2.2.2.1 (X.1.2.2.2.2 _ hw) (X.1.2.2.2.2 _ hw1) (X.1.2.2.2.2 _ hw2) rfl (by rw [X.1.2.2.1]; exact hl.1) rfl hd hfr hlo (k H locs ls hP hD hS hl)
theorem b_newa (X : CB p R m c meth cc nL s args own D cA base t0 A) {atype : ArrayType} {ty : FieldType} (t1 : Nat) (hw : Cond.arrayClass (newarray.typeOf atype) ∈ wA) (hty : newarray.typeOf atype = ty) (htt : (ktys cA)[t1]? = some (cA t1, ty)) (hra : ∀ (U : State) (a b : ClassId), va_RA U a ty → va_RA U b ty → a = b) {n : Int32} {N : Nat} (ha : ∀ c : ClassId, vp_cell c (N, .inl fun _ => 0) = arrV c N (fun _ => defaultValue ty)) (hn : ¬ n < 0) (hN : n.toNatClampNeg = N) (hbytes : N * componentBytes ty ≤ 536870912) (hcells : cells + 1 ≤ R.cells) (hslots : slots + N ≤ R.slots) (hd : decode cc pc = .ok (.newarray atype, 2)) (ws' : Nat → va_W) (hws : ∀ q, ws ++ [(q, .inl (cA t1, N, .inl fun _ => 0))] = ws' q) (kk : ∀ q : Nat, VB p l e R s m args below meth c (cells + 1) (slots + N) Q D A nL (ws' q) (pc + 2) lv (.ref q :: st)) : VB p l e R s m args below meth c cells slots Q D A nL ws pc lv (.int n :: st) := by
  intro H locs ls hP hD hS hl
  refine va_newa (atype := atype) (ty := ty) (a0 := (N, .inl fun _ => 0)) X.1.1 X.1.2.1 (X.1.2.2.2.2 _ hw) hty X.2.1.1 hP hD hS X.2.2.1 ha hn hN hbytes hcells hslots hd (fun q c1 H1 hK1 hP1 hD1 hS1 => ?_)
  have e1 : c1 = cA t1 := hra s c1 (cA t1) (hK1.2 3 _ rfl).2 (X.2.1.1.2 t1 _ htt).2
  subst e1
  rw [hws q] at hP1 hD1
  exact kk q H1 locs ls hP1 hD1 hS1 hl
theorem b_newq (X : CB p R m c meth cc nL s args own D cA base t0 A) {idx : Nat} (hw : Cond.classLink own idx RX0 ∈ wA) {n : Int32} {N : Nat} (hn : ¬ n < 0) (hN : n.toNatClampNeg = N) (hbytes : N * 4 ≤ 536870912) (hcells : cells + 1 ≤ R.cells) (hslots : slots + N ≤ R.slots) (hd : decode cc pc = .ok (.anewarray idx, 3)) (ws' : Nat → va_W) (hws : ∀ q, ws ++ [(q, .inl (cA 2, N, .inr (.inr (.inr (.inr fun _ => none)))))] = ws' q) (kk : ∀ q : Nat, VB p l e R s m args below meth c (cells + 1) (slots + N) Q D A nL (ws' q) (pc + 3) lv (.ref q :: st)) : VB p l e R s m args below meth c cells slots Q D A nL ws pc lv (.int n :: st) := by
  intro H locs ls hP hD hS hl
  refine va_newq X.1.1 X.1.2.1 X.1.2.2.2.1 (X.1.2.2.2.2 _ hw) X.2.1.2.2.2.2 X.2.1.1 hP hD hS X.2.2.1 hn hN hbytes hcells hslots hd (fun q c1 H1 hK1 hP1 hD1 hS1 => ?_)
  have e1 : c1 = cA 2 := by
    obtain ⟨k1, c2, -, -, -, h4⟩ := (hK1.2 3 _ rfl).2
    obtain ⟨k1', c2', -, -, -, h4'⟩ := (X.2.1.1.2 2 _ rfl).2
    exact Option.some.inj (h4.symm.trans h4')
  subst e1
  rw [hws q] at hP1 hD1
  exact kk q H1 locs ls hP1 hD1 hS1 hl
theorem b_new (X : CB p R m c meth cc nL s args own D cA base t0 A) {C : String} {T : u_T} {N ci idx : Nat} (ty : Nat → FieldType) (hty : ∀ k, k < N → parseFieldDescriptor (T k).2.2.1 = some (ty k)) (hin : ∀ w ∈ u_ws C T N, w ∈ wA) (hc : kcl[ci]? = some (C, T, N)) (hw : Cond.classLink own idx C ∈ wA) (hw1 : Cond.instantiable C N ∈ wA) (hw2 : Cond.initialized C ∈ wA) {fs : List Value} (hfs : ∀ j, j < N → defaultValue (ty j) = vp_V fs j) (hcells : cells + 1 ≤ R.cells) (hslots : slots + N ≤ R.slots) (hd : decode cc pc = .ok (.new idx, 3)) (ws' : Nat → va_W) (hws : ∀ q, ws ++ [(q, .inr (ci, fs))] = ws' q) (kk : ∀ q : Nat, base ≤ q → VB p l e R s m args below meth c (cells + 1) (slots + N) Q D A nL (ws' q) (pc + 3) lv (.ref q :: st)) : VB p l e R s m args below meth c cells slots Q D A nL ws pc lv st := by
  intro H locs ls hP hD hS hl
  refine va_new (C := C) (T := T) (N := N) (ci := ci) X.1.1 X.1.2.1 X.1.2.2.2.2 hin ty hty X.1.2.2.2.1 (X.1.2.2.2.2 _ hw) (X.1.2.2.2.2 _ hw1) (X.1.2.2.2.2 _ hw2) X.2.1.1 hP hD hS X.2.2.1 hc hfs hcells hslots hd (fun q H1 hP1 hD1 hS1 => ?_)
  have hq : A q := hD1.2 ws.length (q, .inr (ci, fs)) (by rw [List.getElem?_append_right (Nat.le_refl _)]; simp)
  rw [hws q] at hP1 hD1
  exact kk q (X.2.2.2.1 q hq) H1 locs ls hP1 hD1 hS1 hl
theorem b_putF (X : CB p R m c meth cc nL s args own D cA base t0 A) (hin2 : meth.name = "<init>") {C : String} {T : u_T} {N ci idx a : Nat} (ty0 : Nat → FieldType) (hty : ∀ k, k < N → parseFieldDescriptor (T k).2.2.1 = some (ty0 k)) (hnm : ∀ a, a < N → ∀ b, b < N → a ≠ b → (T a).2.1 ≠ (T b).2.1) (hin : ∀ w ∈ u_ws C T N, w ∈ wA) (hc : kcl[ci]? = some (C, T, N)) (k : Nat) (hk : k < N) (hw : Cond.fieldLink own idx (T k).1 (T k).2.1 (T k).2.2.1 ∈ wA) (hfin : (T k).2.2.2 = true) (hdecl : (T k).1 = own) {ty : FieldType} {v : Value} (hdt : parseFieldDescriptor (T k).2.2.1 = some ty) (hn : narrow ty v = v) (hfit : fits ty v = true) (q0 : Nat) {fs : List Value} (he : ws[q0]? = some (a, .inr (ci, fs))) (hl0 : k < fs.length) (hd : decode cc pc = .ok (.putfield idx, 3)) (ws' : va_W) (hws : ws.set q0 (a, .inr (ci, fs.set k v)) = ws') (kk : VB p l e R s m args below meth c cells slots Q D A nL ws' (pc + 3) lv st) : VB p l e R s m args below meth c cells slots Q D A nL ws pc lv (v :: .ref a :: st) := by
  intro H locs ls hP hD hS hl
  refine va_putF (D := D) (ci := ci) (v := v) (ty := ty) (C := C) (T := T) (N := N) X.1.1 X.1.2.1 X.1.2.2.2.2 hin ty0 hty hnm X.1.2.2.2.1 X.2.1.1 hP hD hS q0 he hc k hk (X.1.2.2.2.2 _ hw) (fun _ h9 => h9) hfin hin2 hdecl hdt hn hfit hl0 hd (fun H1 locs1 hP1 hD1 hS1 => ?_)
  rw [hws] at hP1 hD1
  exact kk H1 locs1 ls hP1 hD1 hS1 hl
theorem b_put (X : CB p R m c meth cc nL s args own D cA base t0 A) {C : String} {T : u_T} {N ci idx a : Nat} (ty0 : Nat → FieldType) (hty : ∀ k, k < N → parseFieldDescriptor (T k).2.2.1 = some (ty0 k)) (hnm : ∀ a, a < N → ∀ b, b < N → a ≠ b → (T a).2.1 ≠ (T b).2.1) (hin : ∀ w ∈ u_ws C T N, w ∈ wA) (hc : kcl[ci]? = some (C, T, N)) (k : Nat) (hk : k < N) (hw : Cond.fieldLink own idx (T k).1 (T k).2.1 (T k).2.2.1 ∈ wA) (hfin : (T k).2.2.2 = false) {ty : FieldType} {v : Value} (hdt : parseFieldDescriptor (T k).2.2.1 = some ty) (hn : narrow ty v = v) (hfit : fits ty v = true) (q0 : Nat) {fs : List Value} (he : ws[q0]? = some (a, .inr (ci, fs))) (hl0 : k < fs.length) (hd : decode cc pc = .ok (.putfield idx, 3)) (ws' : va_W) (hws : ws.set q0 (a, .inr (ci, fs.set k v)) = ws') (kk : VB p l e R s m args below meth c cells slots Q D A nL ws' (pc + 3) lv st) : VB p l e R s m args below meth c cells slots Q D A nL ws pc lv (v :: .ref a :: st) := by
  intro H locs ls hP hD hS hl
  refine va_put (D := D) (ci := ci) (v := v) (ty := ty) (C := C) (T := T) (N := N) X.1.1 X.1.2.1 X.1.2.2.2.2 hin ty0 hty hnm X.1.2.2.2.1 X.2.1.1 hP hD hS q0 he hc k hk (X.1.2.2.2.2 _ hw) (fun _ h9 => h9) hfin hdt hn hfit hl0 hd (fun H1 locs1 hP1 hD1 hS1 => ?_)
  rw [hws] at hP1 hD1
  exact kk H1 locs1 ls hP1 hD1 hS1 hl
theorem b_get (X : CB p R m c meth cc nL s args own D cA base t0 A) {C : String} {T : u_T} {N ci idx a : Nat} (hin : ∀ w ∈ u_ws C T N, w ∈ wA) (hc : kcl[ci]? = some (C, T, N)) (k : Nat) (hk : k < N) (hw : Cond.fieldLink own idx (T k).1 (T k).2.1 (T k).2.2.1 ∈ wA) {v : Value} (q0 : Nat) {fs : List Value} (he : ws[q0]? = some (a, .inr (ci, fs))) (hv : fs[k]? = some v) (hd : decode cc pc = .ok (.getfield idx, 3)) (kk : VB p l e R s m args below meth c cells slots Q D A nL ws (pc + 3) lv (v :: st)) : VB p l e R s m args below meth c cells slots Q D A nL ws pc lv (.ref a :: st) := by
  intro H locs ls hP hD hS hl
  exact va_get (D := D) (ci := ci) (v := v) (C := C) (T := T) (N := N) X.1.1 X.1.2.1 X.1.2.2.2.2 hin X.1.2.2.2.1 X.2.1.1 hP q0 he hc k hk (X.1.2.2.2.2 _ hw) (fun _ h9 => h9) hv hd (kk H locs ls hP hD hS hl)
theorem b_iast (X : CB p R m c meth cc nL s args own D cA base t0 A) {a n : Nat} {f : Nat → Int32} {i x : Int32} (q0 : Nat) (he : ws[q0]? = some (a, .inl (cA 0, n, .inl f))) (hin : vp_in i n) {j : Nat} (hj : i.toNatClampNeg = j) (hd : decode cc pc = .ok (.iastore, 1)) (ws' : va_W) (hws : ws.set q0 (a, .inl (cA 0, n, .inl (upd f j x))) = ws') (kk : VB p l e R s m args below meth c cells slots Q D A nL ws' (pc + 1) lv st) : VB p l e R s m args below meth c cells slots Q D A nL ws pc lv (.int x :: .int i :: .ref a :: st) := by
  intro H locs ls hP hD hS hl
  subst hj
  refine va_iast X.1.1 X.1.2.1 X.2.1.1 hP hD hS q0 0 he rfl hin hd (fun H1 locs1 hP1 hD1 hS1 => ?_)
  rw [hws] at hP1 hD1
  exact kk H1 locs1 ls hP1 hD1 hS1 hl
theorem b_aast (X : CB p R m c meth cc nL s args own D cA base t0 A) {a n v : Nat} {f : Nat → Option Nat} {i : Int32} {vs : List Value} (q0 qk : Nat) (he : ws[q0]? = some (a, .inl (cA 2, n, .inr (.inr (.inr (.inr f)))))) (hv : ws[qk]? = some (v, .inr (0, vs))) (hin : vp_in i n) {j : Nat} (hj : i.toNatClampNeg = j) (hd : decode cc pc = .ok (.aastore, 1)) (ws' : va_W) (hws : ws.set q0 (a, .inl (cA 2, n, .inr (.inr (.inr (.inr (va_up f j (some v))))))) = ws') (kk : VB p l e R s m args below meth c cells slots Q D A nL ws' (pc + 1) lv st) : VB p l e R s m args below meth c cells slots Q D A nL ws pc lv (.ref v :: .int i :: .ref a :: st) := by
  intro H locs ls hP hD hS hl
  subst hj
  refine va_astq X.1.1 X.1.2.1 X.2.1.1 hP hD hS q0 2 qk 0 (r := (RX0, TX0, 16)) he rfl hv rfl hin hd (fun H1 locs1 hP1 hD1 hS1 => ?_)
  rw [hws] at hP1 hD1
  exact kk H1 locs1 ls hP1 hD1 hS1 hl
theorem b_getsF (X : CB p R m c meth cc nL s args own D cA base t0 A) (hown : own = RX0) (hd : decode cc pc = .ok (.getstatic 61, 3)) (kk : VB p l e R s m args below meth c cells slots Q D A nL ws (pc + 3) lv (.ref t0 :: st)) : VB p l e R s m args below meth c cells slots Q D A nL ws pc lv st := by
  intro H locs ls hP hD hS hl
  subst hown
  exact va_getsN (X.1.1) X.1.2.1 (X.2.1.2.2.1.narrow X.2.2.2.1) hS X.1.2.2.2.1 (va_Nw.use rfl X.2.1.2.1) (fun _ h => h) hd (kk H locs ls hP hD hS hl)
/-- the first minutes are copied into an own row -/
theorem b_copyT (X : CB p R m c meth cc nL s args own D cA base t0 A) {idx a n1 : Nat} {g : Nat → Int32} {n : Int32} (hw : Cond.methodLink own idx arraycopyName ∈ wA) (q1 : Nat) (ha1 : ws[q1]? = some (a, .inl (cA 0, n1, .inl g))) (h3 : ¬ n < 0) (h4 : 0 + n.toNatClampNeg ≤ 4) (h5 : 0 + n.toNatClampNeg ≤ n1) (hfr : 1 ≤ R.frames) (hlo : (st.map fun v => v.category).sum + (nativeFrameWords "java/lang/System" "arraycopy" 5 + 11) ≤ R.locals) (hd : decode cc pc = .ok (.invokestatic idx, 3)) (ws' : va_W) (hws : ws.set q1 (a, .inl (cA 0, n1, .inl (va_cpy tFirst g 0 0 n.toNatClampNeg))) = ws') (kk : VB p l e R s m args below meth c cells slots Q D A nL ws' (pc + 3) lv st) : VB p l e R s m args below meth c cells slots Q D A nL ws pc lv (.int n :: .int 0 :: .ref a :: .int 0 :: .ref t0 :: st) := by
  intro H locs ls hP hD hS hl
  have nn : ∀ z : Int32, ¬ z < 0 → z.toInt = (z.toNatClampNeg : Int) := by
    intro z hz
    have hz0 : (0 : Int) ≤ z.toInt := by
      have := Int32.not_lt.mp hz
      simpa using Int32.le_iff_toInt_le.mp this
    show z.toInt = ((z.toInt.toNat : Nat) : Int)
    omega
  have z0 : ¬ (0 : Int32) < 0 := by decide
  have e0 : (0 : Int32).toNatClampNeg = 0 := by decide
  intro T hT Y
  obtain ⟨scr, hs1, hs2, hs3, hs4, -, hs5, hs7⟩ := X.2.1.2.2.2.1.narrow X.2.2.2.1
  have hc0 : H[t0]? = some scr := by rw [hS.2.1 t0 (Array.getElem?_eq_some_iff.mp hs1).1 hs7]; exact hs1
  have hc1 : H[a]? = some (vp_cell (cA 0) (n1, .inl g)) := hP q1 _ ha1
  obtain ⟨hs6, k0, hk0, cm0, hkk0⟩ := hs2
  obtain ⟨-, k1, hk1, cm1, hkk1⟩ := (X.2.1.1.2 0 _ rfl).1 n1 (fun j => .int (g j))
  obtain ⟨vm', Y', step⟩ := Y.arraycopy X.1.1 X.1.2.2.2.1 (X.1.2.2.2.2 _ hw) (X.1.2.2.2.2 _ ac_n) (X.1.2.2.2.2 _ ac_s) (X.1.2.2.2.2 _ ac_i) (src := t0) (dst := a) (cs := scr) (cd := vp_cell (cA 0) (n1, .inl g)) (srcPos := 0) (destPos := 0) (n := n) (by rw [hT]; exact hc0) (by rw [hT]; exact hc1)
    hs6 (fun _ h => by cases h) hs3 (fun h => by cases h) hk0 hk1 hkk0 hkk1 (by simp [refKind]) z0 z0 h3
    (by rw [nn 0 z0, nn n h3, e0]; omega)
    (by rw [nn 0 z0, nn n h3, e0]; show ¬ _ > ((arrV (cA 0) n1 (fun j => .int (g j))).slots.size : Int); rw [arrV_size]; omega)
    (fun vm₁ _ i hi => by
      have e : scr.slots.getD ((0 : Int32).toNatClampNeg + i) .null = .int (tFirst i) := by
        rw [e0, Nat.zero_add, Array.getD_eq_getD_getElem?, hs5 _ (by omega)]
        rfl
      refine ⟨?_, ?_⟩
      · rw [e]
        rfl
      · rw [e]
        exact trivial)
    (g := F0 m pc ls (.int n :: .int 0 :: .ref a :: .int 0 :: .ref t0 :: st)) rfl (by rw [X.1.2.2.1]; exact hl.1) (rest := st) rfl (by rw [X.1.2.1]; exact hd) hfr (by show 2 * 0 + _ + _ ≤ _; omega)
  have e1 : copied scr (vp_cell (cA 0) (n1, .inl g)) 0 0 n = vp_cell (cA 0) (n1, .inl (va_cpy tFirst g 0 0 n.toNatClampNeg)) := va_copiedX (fun z => .int z) scr (cA 0) tFirst g hs5 h4
  rw [e1] at Y' step
  have hlt : a < H.size := (Array.getElem?_eq_some_iff.mp hc1).1
  have hheap : ((T.setVm vm').setCell a (vp_cell (cA 0) (n1, .inl (va_cpy tFirst g 0 0 n.toNatClampNeg)))).heap = H.setIfInBounds a (vp_cell (cA 0) (n1, .inl (va_cpy tFirst g 0 0 n.toNatClampNeg))) := by rw [← hT]; rfl
  have oq : ∀ q : Nat, q ≠ a → (H.setIfInBounds a (vp_cell (cA 0) (n1, .inl (va_cpy tFirst g 0 0 n.toNatClampNeg))))[q]? = H[q]? := fun q hq => by simp [Array.getElem?_setIfInBounds, Ne.symm hq]
  have hP1 := hP.set hD ha1 (e := .inl (cA 0, n1, .inl (va_cpy tFirst g 0 0 n.toNatClampNeg))) (show (H.setIfInBounds a _)[a]? = some _ by simp [Array.getElem?_setIfInBounds, hlt]) oq
  have hD1 := hD.set (e := .inl (cA 0, n1, .inl (va_cpy tFirst g 0 0 n.toNatClampNeg))) ha1
  rw [hws] at hP1 hD1
  obtain ⟨t, a1, b1⟩ := kk _ _ ls hP1 hD1 ⟨by simp; exact hS.1, fun q g1 g2 => by
      rw [oq q (fun e => g2 (by rw [e]; exact hD.2 q1 _ ha1))]
      exact hS.2.1 q g1 g2, fun q hq => by
      rcases List.mem_append.mp hq with h | h
      · exact hS.2.2 q h
      · obtain ⟨z, -, hz⟩ := List.mem_map.mp h
        rw [← hz]
        exact hD.2 q1 _ ha1⟩ hl _ hheap Y'
  exact ⟨t, step t a1, b1⟩
/-- a constructor's contract: a fresh cell (h0, e0) becomes the cells w1 u -/
abbrev MB (l : Launch) (y : MethodName) (cY : ByteArray) (maxL fr lo mc ms : Nat) (D : va_G) (cA : Nat → ClassId) (base t0 sz h0 : Nat) (e0 : va_E) {S : Type} (post : S → Prop) (w1 : S → va_W) : Prop := Met l y (.code y cY maxL none :: wA) ({ frames := fr, cells := mc, slots := ms, locals := lo }) (va_Pc [.ref h0] (fun U => U.heap.size = sz ∧ va_P D kcl [(h0, e0)] U.heap ∧ KB D cA base t0 U ∧ va_D (fun _ => True) [(h0, e0)])) (va_Qv post (fun u t => va_P D kcl (w1 u) t.heap ∧ va_D (va_A [(h0, e0)] sz) (w1 u)) (va_A [(h0, e0)] sz)) mc ms (va_A [(h0, e0)] sz)
theorem b_callI (X : CB p R m c meth cc nL s args own D cA base t0 A) {y : MethodName} {cY : ByteArray} {maxL fr lo mc ms idx q : Nat} {e0 : va_E} {S : Type} {post : S → Prop} {w1 : S → va_W} {wr : va_W} (hM : ∀ sz : Nat, base ≤ sz → MB l y cY maxL fr lo mc ms D cA base t0 sz q e0 post w1) (hm : MW y cY maxL none 0) (hy : y.name = "<init>") (hi : Cond.instanceMethod y ∈ wA) (hlk : Cond.methodLink own idx y ∈ wA) (hRo : fr + 1 ≤ R.frames ∧ 8 + (maxL + 11) + lo ≤ R.locals) (hW : (st.map fun v => v.category).sum ≤ 8) (hf : cells + mc ≤ R.cells ∧ slots + ms ≤ R.slots) (isC isR : List Nat) (hC : isC.map (fun i => ws[i]?) = ([(q, e0)] : va_W).map some) (hR : isR.map (fun i => ws[i]?) = wr.map some) (hn : va_nd isR = true) (hdis : ∀ i ∈ isR, i ∉ isC) (hd : decode cc pc = .ok (.invokespecial idx, 3)) (kk : ∀ u : S, post u → VB p l e R s m args below meth c (cells + mc) (slots + ms) Q D A nL (wr ++ w1 u) (pc + 3) lv st) : VB p l e R s m args below meth c cells slots Q D A nL ws pc lv (.ref q :: st) := by
  intro H locs ls hP hD hS hl
  have hw := X.1.2.2.2.2
  have hat : ∀ (k : Nat) (x : Nat × va_E), ([(q, e0)] : va_W)[k]? = some x → ∃ i, isC[k]? = some i ∧ ws[i]? = some x := by
    intro k x hx
    have h1 : (isC.map (fun i => ws[i]?))[k]? = some (some x) := by rw [hC, List.getElem?_map, hx]; rfl
    rw [List.getElem?_map] at h1
    cases hi : isC[k]? with
    | none => rw [hi] at h1; cases h1
    | some i => rw [hi] at h1; exact ⟨i, rfl, Option.some.inj h1⟩
  obtain ⟨i0, -, hi0⟩ := hat 0 (q, e0) rfl
  have hPc : va_P D kcl [(q, e0)] H := by
    intro k x hx
    obtain ⟨i, -, h2⟩ := hat k x hx
    exact hP i x h2
  have hFc := va_free (wc := [(q, e0)]) hD hS X.2.2.1 isC hC
  refine va_callv (va_runI (As := []) (rest := st) ⟨X.1.1, X.1.2.1, X.1.2.2.1, X.1.2.2.2.1, hw⟩ (hM H.size (Nat.le_trans X.2.2.2.2 hS.1)) ⟨callB_of 0 hw (goodMW hm) rfl rfl rfl (hw _ hm.2.1) (hw _ hlk) hm.2.2 hRo, hy, hw _ hi⟩ ⟨fun a U g mk z => ⟨z.1, z.2.1, z.2.2.1, z.2.2.2.1.blind, z.2.2.2.2⟩, fun U hU hWm => ⟨rfl, by rw [hU], by rw [hU]; exact hPc, X.2.1.move X.2.2.2.1 hS hU hWm, ⟨fun i j a b ha hb _ => by
      have h1 := (List.getElem?_eq_some_iff.mp ha).1
      have h2 := (List.getElem?_eq_some_iff.mp hb).1
      simp at h1 h2
      omega, fun _ _ _ => trivial⟩⟩⟩ rfl rfl hl.1 rfl (lv_room hW) hd hf) hS (fun z _ h => hFc z h) hFc (fun u t H1 locs1 ht hvm hpost hB hz1 hk1 hS1 => ?_)
  obtain ⟨hP1, hD1⟩ := hB
  rw [ht] at hP1
  obtain ⟨hP2, hD2⟩ := va_join hP hD isC isR hC hR hn hdis hk1 hFc hP1 hD1
  exact kk u hpost H1 locs1 ls hP2 hD2 hS1 hl
theorem b_vret (X : CB p R m c meth cc nL s args own D cA base t0 A) {S : Type} {post : S → Prop} {w1 : S → va_W} (hr : meth.sig.returnType = none) (hlocks : meth.locks = false) (hd : decode cc pc = .ok (.return_, 1)) (u : S) (hp : post u) (hws : ∀ H, va_P D kcl ws H → va_P D kcl (w1 u) H) (hwd : va_D A ws → va_D A (w1 u)) : VB p l e R s m args below meth c cells slots (MQ below (va_Qv post (fun u t => va_P D kcl (w1 u) t.heap ∧ va_D A (w1 u)) A) args s cells slots A) D A nL ws pc lv [] := fun H locs ls hP hD hS hl => W.vret (hlocks := hlocks) X.1.1 X.1.2.1 hr (fun t ht hW => ⟨⟨u, rfl, hp, (show va_P D kcl (w1 u) t.heap by rw [ht]; exact hws H hP), hwd hD⟩, hS.F ht⟩) hS.2.2 hd
end BRows
theorem MB.ofV {l : Launch} {y : MethodName} {cY : ByteArray} {maxL fr lo mc ms base t0 sz h0 : Nat} {D : va_G} {cA : Nat → ClassId} {e0 : va_E} {S : Type} {post : S → Prop} {w1 : S → va_W} (hy : plainName y.cls = true) (hin : y.name = "<init>") (hlen : 1 ≤ maxL) (hb0 : base ≤ h0) (hbs : base ≤ sz)
    (body : ∀ p e s m args below meth c, CB p ({ frames := fr, cells := mc, slots := ms, locals := lo }) m c meth cY maxL s args y.cls D cA base t0 (va_A [(h0, e0)] sz) → meth.name = "<init>" → meth.sig.returnType = none → meth.locks = false → VB p l e ({ frames := fr, cells := mc, slots := ms, locals := lo }) s m args below meth c 0 0 (MQ below (va_Qv post (fun u t => va_P D kcl (w1 u) t.heap ∧ va_D (va_A [(h0, e0)] sz) (w1 u)) (va_A [(h0, e0)] sz)) args s mc ms (va_A [(h0, e0)] sz)) D (va_A [(h0, e0)] sz) maxL [(h0, e0)] 0 [(0, .ref h0)] []) : MB l y cY maxL fr lo mc ms D cA base t0 sz h0 e0 post w1 := by
  refine Met.ofW (cc := cY) (maxL := maxL) (ret := none) hy rfl ?_
  intro p e s m args below meth c s₁ B hml hv
  obtain ⟨rfl, hsz, hP, hKB, hD0⟩ := hv
  have hts := atoms_spec (ws := Cond.code y cY maxL none :: wA) B.pre
  have hown : s.vm.findClass y.cls = some m.cls := findClass_of_methodNamed B.named
  have hin2 : meth.name = "<init>" := by rw [← hin]; exact (name_of_methodNamed B.named B.method).1
  subst hsz
  have hD := hD0.self (sz := s.heap.size)
  have hl := lv_entry [.ref h0] (n := maxL) hlen
  rw [lg_entry_eq]
  refine body p e s m _ below meth c ⟨⟨B.exec, B.bytes, hml, hown, fun w hw => hts w (List.mem_cons_of_mem _ hw)⟩, hKB, fun q h => Or.inr h, fun q h => ?_, hbs⟩ hin2 B.returns B.notSynchronized s.heap [] _ hP hD va_S.rf hl
  rcases h with ⟨k, x, h⟩ | h
  · have h1 := (List.getElem?_eq_some_iff.mp h).1
    simp at h1
    subst h1
    cases h
    exact hb0
  · exact Nat.le_trans hbs h
