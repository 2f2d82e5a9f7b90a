/-! THE ROWS over the world S: an instruction each -/
section VRows
variable {p : Program} {l : Launch} {e : Env} {R : Room} {s : State} {m : MethodId} {args : Array Value} {below : List Frame} {meth : Method} {c : Code} {cells slots : Nat} {Q : State → Prop} {D : va_G} {cA : Nat → ClassId} {ad : Nat → Nat → Nat} {A : Nat → Prop} {nL : Nat} {cc : ByteArray} {own : String} {S : St} {pc : Nat} {lv : List (Nat × Value)} {st : List Value}
theorem v_iconst (X : Cx p R m c cc nL s args own cells slots D cA ad A) {n : Int} {v : Int32} (hd : decode cc pc = .ok (.iconst n, 1)) (hv : Int32.ofInt n = v) (k : VV p l e R s m args below meth c cells slots Q D cA ad A nL S (pc + 1) lv (.int v :: st)) : VV p l e R s m args below meth c cells slots Q D cA ad A nL S pc lv (st) := fun H locs ls hR hS hl => lv_iconst X.1.1 X.1.2.1 hd hv (k H locs ls hR hS hl)
theorem v_bipush (X : Cx p R m c cc nL s args own cells slots D cA ad A) {n : Int} {v : Int32} (hd : decode cc pc = .ok (.bipush n, 2)) (hv : (Int8.ofInt n).toInt32 = v) (k : VV p l e R s m args below meth c cells slots Q D cA ad A nL S (pc + 2) lv (.int v :: st)) : VV p l e R s m args below meth c cells slots Q D cA ad A nL S pc lv (st) := fun H locs ls hR hS hl => lv_bipush X.1.1 X.1.2.1 hd hv (k H locs ls hR hS hl)
theorem v_sipush (X : Cx p R m c cc nL s args own cells slots D cA ad A) {n : Int} {v : Int32} (hd : decode cc pc = .ok (.sipush n, 3)) (hv : (Int16.ofInt n).toInt32 = v) (k : VV p l e R s m args below meth c cells slots Q D cA ad A nL S (pc + 3) lv (.int v :: st)) : VV p l e R s m args below meth c cells slots Q D cA ad A nL S pc lv (st) := fun H locs ls hR hS hl => lv_sipush X.1.1 X.1.2.1 hd hv (k H locs ls hR hS hl)
theorem v_lconst (X : Cx p R m c cc nL s args own cells slots D cA ad A) {n : Fin 2} {v : Int64} (hd : decode cc pc = .ok (.lconst n, 1)) (hv : Int64.ofNat (n : Nat) = v) (k : VV p l e R s m args below meth c cells slots Q D cA ad A nL S (pc + 1) lv (.long v :: st)) : VV p l e R s m args below meth c cells slots Q D cA ad A nL S pc lv (st) := fun H locs ls hR hS hl => lv_lconst X.1.1 X.1.2.1 hd hv (k H locs ls hR hS hl)
theorem v_ldc (X : Cx p R m c cc nL s args own cells slots D cA ad A) {idx : Nat} {v : Int32} (hd : decode cc pc = .ok (.ldc idx, 2)) (hw : Cond.constant own idx v ∈ wA) (k : VV p l e R s m args below meth c cells slots Q D cA ad A nL S (pc + 2) lv (.int v :: st)) : VV p l e R s m args below meth c cells slots Q D cA ad A nL S pc lv (st) := fun H locs ls hR hS hl => lv_ldc X.1.1 X.1.2.1 X.1.2.2.2.1 (X.1.2.2.2.2 _ hw) hd (k H locs ls hR hS hl)
theorem v_ldc2 (X : Cx p R m c cc nL s args own cells slots D cA ad A) {idx : Nat} {v : Int64} (hd : decode cc pc = .ok (.ldc2_w idx, 3)) (hw : Cond.constantLong own idx v ∈ wA) (k : VV p l e R s m args below meth c cells slots Q D cA ad A nL S (pc + 3) lv (.long v :: st)) : VV p l e R s m args below meth c cells slots Q D cA ad A nL S pc lv (st) := fun H locs ls hR hS hl => lv_ldc2 X.1.1 X.1.2.1 X.1.2.2.2.1 (X.1.2.2.2.2 _ hw) hd (k H locs ls hR hS hl)
theorem v_iload_n (X : Cx p R m c cc nL s args own cells slots D cA ad A) {k9 : Fin 4} {i : Nat} {x : Int32} (hd : decode cc pc = .ok (.iload_n k9, 1)) (hi : (k9 : Nat) = i) (q : Nat) (hq : lv[q]? = some (i, .int x)) (k : VV p l e R s m args below meth c cells slots Q D cA ad A nL S (pc + 1) lv (.int x :: st)) : VV p l e R s m args below meth c cells slots Q D cA ad A nL S pc lv (st) := fun H locs ls hR hS hl => lv_iload_n X.1.1 X.1.2.1 hd hi (lv_at hl q hq) (k H locs ls hR hS hl)
theorem v_lload_n (X : Cx p R m c cc nL s args own cells slots D cA ad A) {k9 : Fin 4} {i : Nat} {x : Int64} (hd : decode cc pc = .ok (.lload_n k9, 1)) (hi : (k9 : Nat) = i) (q : Nat) (hq : lv[q]? = some (i, .long x)) (k : VV p l e R s m args below meth c cells slots Q D cA ad A nL S (pc + 1) lv (.long x :: st)) : VV p l e R s m args below meth c cells slots Q D cA ad A nL S pc lv (st) := fun H locs ls hR hS hl => lv_lload_n X.1.1 X.1.2.1 hd hi (lv_at hl q hq) (k H locs ls hR hS hl)
theorem v_aload_n (X : Cx p R m c cc nL s args own cells slots D cA ad A) {k9 : Fin 4} {i : Nat} {x : Nat} (hd : decode cc pc = .ok (.aload_n k9, 1)) (hi : (k9 : Nat) = i) (q : Nat) (hq : lv[q]? = some (i, .ref x)) (k : VV p l e R s m args below meth c cells slots Q D cA ad A nL S (pc + 1) lv (.ref x :: st)) : VV p l e R s m args below meth c cells slots Q D cA ad A nL S pc lv (st) := fun H locs ls hR hS hl => lv_aload_n X.1.1 X.1.2.1 hd hi (lv_at hl q hq) (k H locs ls hR hS hl)
theorem v_iload (X : Cx p R m c cc nL s args own cells slots D cA ad A) {i : Nat} {x : Int32} (hd : decode cc pc = .ok (.iload i, 2)) (q : Nat) (hq : lv[q]? = some (i, .int x)) (k : VV p l e R s m args below meth c cells slots Q D cA ad A nL S (pc + 2) lv (.int x :: st)) : VV p l e R s m args below meth c cells slots Q D cA ad A nL S pc lv (st) := fun H locs ls hR hS hl => lv_iload X.1.1 X.1.2.1 hd (lv_at hl q hq) (k H locs ls hR hS hl)
theorem v_lload (X : Cx p R m c cc nL s args own cells slots D cA ad A) {i : Nat} {x : Int64} (hd : decode cc pc = .ok (.lload i, 2)) (q : Nat) (hq : lv[q]? = some (i, .long x)) (k : VV p l e R s m args below meth c cells slots Q D cA ad A nL S (pc + 2) lv (.long x :: st)) : VV p l e R s m args below meth c cells slots Q D cA ad A nL S pc lv (st) := fun H locs ls hR hS hl => lv_lload X.1.1 X.1.2.1 hd (lv_at hl q hq) (k H locs ls hR hS hl)
theorem v_istore_n (X : Cx p R m c cc nL s args own cells slots D cA ad A) {k9 : Fin 4} {i : Nat} {x : Int32} (lv' : List (Nat × Value)) (hd : decode cc pc = .ok (.istore_n k9, 1)) (hi : (k9 : Nat) = i) (hn : i < nL) (hl0 : (i, Value.int x) :: lv.filter (fun q => !(q.1 == i) && !(q.1 + 1 == i && q.2.category == 2)) = lv') (k : VV p l e R s m args below meth c cells slots Q D cA ad A nL S (pc + 1) lv' st) : VV p l e R s m args below meth c cells slots Q D cA ad A nL S pc lv (.int x :: st) := fun H locs ls hR hS hl => lv_istore_n X.1.1 X.1.2.1 hd hi hl hn hl0 (fun ls hl => k H locs ls hR hS hl)
theorem v_astore_n (X : Cx p R m c cc nL s args own cells slots D cA ad A) {k9 : Fin 4} {i : Nat} {x : Nat} (lv' : List (Nat × Value)) (hd : decode cc pc = .ok (.astore_n k9, 1)) (hi : (k9 : Nat) = i) (hn : i < nL) (hl0 : (i, Value.ref x) :: lv.filter (fun q => !(q.1 == i) && !(q.1 + 1 == i && q.2.category == 2)) = lv') (k : VV p l e R s m args below meth c cells slots Q D cA ad A nL S (pc + 1) lv' st) : VV p l e R s m args below meth c cells slots Q D cA ad A nL S pc lv (.ref x :: st) := fun H locs ls hR hS hl => lv_astore_n X.1.1 X.1.2.1 hd hi hl hn hl0 (fun ls hl => k H locs ls hR hS hl)
theorem v_istore (X : Cx p R m c cc nL s args own cells slots D cA ad A) {i : Nat} {x : Int32} (lv' : List (Nat × Value)) (hd : decode cc pc = .ok (.istore i, 2)) (hn : i < nL) (hl0 : (i, Value.int x) :: lv.filter (fun q => !(q.1 == i) && !(q.1 + 1 == i && q.2.category == 2)) = lv') (k : VV p l e R s m args below meth c cells slots Q D cA ad A nL S (pc + 2) lv' st) : VV p l e R s m args below meth c cells slots Q D cA ad A nL S pc lv (.int x :: st) := fun H locs ls hR hS hl => lv_istore X.1.1 X.1.2.1 hd hl hn hl0 (fun ls hl => k H locs ls hR hS hl)
theorem v_iinc (X : Cx p R m c cc nL s args own cells slots D cA ad A) {i : Nat} {n : Int} {x v : Int32} (lv' : List (Nat × Value)) (hd : decode cc pc = .ok (.iinc i n, 3)) (q : Nat) (hq : lv[q]? = some (i, .int x)) (hv : x + Int32.ofInt n = v) (hn : i < nL) (hl0 : (i, Value.int v) :: lv.filter (fun q => !(q.1 == i) && !(q.1 + 1 == i && q.2.category == 2)) = lv') (k : VV p l e R s m args below meth c cells slots Q D cA ad A nL S (pc + 3) lv' st) : VV p l e R s m args below meth c cells slots Q D cA ad A nL S pc lv st := fun H locs ls hR hS hl => lv_iinc X.1.1 X.1.2.1 hd hl hq hv hn hl0 (fun ls hl => k H locs ls hR hS hl)
theorem v_iadd (X : Cx p R m c cc nL s args own cells slots D cA ad A) {x y : Int32} (hd : decode cc pc = .ok (.iadd, 1))  (k : VV p l e R s m args below meth c cells slots Q D cA ad A nL S (pc + 1) lv (.int (x + y) :: st)) : VV p l e R s m args below meth c cells slots Q D cA ad A nL S pc lv (.int y :: .int x :: st) := fun H locs ls hR hS hl => lv_iadd X.1.1 X.1.2.1 hd (k H locs ls hR hS hl)
theorem v_isub (X : Cx p R m c cc nL s args own cells slots D cA ad A) {x y : Int32} (hd : decode cc pc = .ok (.isub, 1))  (k : VV p l e R s m args below meth c cells slots Q D cA ad A nL S (pc + 1) lv (.int (x - y) :: st)) : VV p l e R s m args below meth c cells slots Q D cA ad A nL S pc lv (.int y :: .int x :: st) := fun H locs ls hR hS hl => lv_isub X.1.1 X.1.2.1 hd (k H locs ls hR hS hl)
theorem v_imul (X : Cx p R m c cc nL s args own cells slots D cA ad A) {x y : Int32} (hd : decode cc pc = .ok (.imul, 1))  (k : VV p l e R s m args below meth c cells slots Q D cA ad A nL S (pc + 1) lv (.int (x * y) :: st)) : VV p l e R s m args below meth c cells slots Q D cA ad A nL S pc lv (.int y :: .int x :: st) := fun H locs ls hR hS hl => lv_imul X.1.1 X.1.2.1 hd (k H locs ls hR hS hl)
theorem v_iand (X : Cx p R m c cc nL s args own cells slots D cA ad A) {x y : Int32} (hd : decode cc pc = .ok (.iand, 1))  (k : VV p l e R s m args below meth c cells slots Q D cA ad A nL S (pc + 1) lv (.int (x &&& y) :: st)) : VV p l e R s m args below meth c cells slots Q D cA ad A nL S pc lv (.int y :: .int x :: st) := fun H locs ls hR hS hl => lv_iand X.1.1 X.1.2.1 hd (k H locs ls hR hS hl)
theorem v_ior (X : Cx p R m c cc nL s args own cells slots D cA ad A) {x y : Int32} (hd : decode cc pc = .ok (.ior, 1))  (k : VV p l e R s m args below meth c cells slots Q D cA ad A nL S (pc + 1) lv (.int (x ||| y) :: st)) : VV p l e R s m args below meth c cells slots Q D cA ad A nL S pc lv (.int y :: .int x :: st) := fun H locs ls hR hS hl => lv_ior X.1.1 X.1.2.1 hd (k H locs ls hR hS hl)
theorem v_ishl (X : Cx p R m c cc nL s args own cells slots D cA ad A) {x y : Int32} (hd : decode cc pc = .ok (.ishl, 1))  (k : VV p l e R s m args below meth c cells slots Q D cA ad A nL S (pc + 1) lv (.int (x <<< (y &&& 31)) :: st)) : VV p l e R s m args below meth c cells slots Q D cA ad A nL S pc lv (.int y :: .int x :: st) := fun H locs ls hR hS hl => lv_ishl X.1.1 X.1.2.1 hd (k H locs ls hR hS hl)
theorem v_ishr (X : Cx p R m c cc nL s args own cells slots D cA ad A) {x y : Int32} (hd : decode cc pc = .ok (.ishr, 1))  (k : VV p l e R s m args below meth c cells slots Q D cA ad A nL S (pc + 1) lv (.int (x >>> (y &&& 31)) :: st)) : VV p l e R s m args below meth c cells slots Q D cA ad A nL S pc lv (.int y :: .int x :: st) := fun H locs ls hR hS hl => lv_ishr X.1.1 X.1.2.1 hd (k H locs ls hR hS hl)
theorem v_idiv (X : Cx p R m c cc nL s args own cells slots D cA ad A) {x y : Int32} (hd : decode cc pc = .ok (.idiv, 1)) (hne : ¬ y = 0) (k : VV p l e R s m args below meth c cells slots Q D cA ad A nL S (pc + 1) lv (.int (x / y) :: st)) : VV p l e R s m args below meth c cells slots Q D cA ad A nL S pc lv (.int y :: .int x :: st) := fun H locs ls hR hS hl => lv_idiv X.1.1 X.1.2.1 hd hne (k H locs ls hR hS hl)
theorem v_i2l (X : Cx p R m c cc nL s args own cells slots D cA ad A) {x : Int32} (hd : decode cc pc = .ok (.i2l, 1))  (k : VV p l e R s m args below meth c cells slots Q D cA ad A nL S (pc + 1) lv (.long x.toInt64 :: st)) : VV p l e R s m args below meth c cells slots Q D cA ad A nL S pc lv (.int x :: st) := fun H locs ls hR hS hl => lv_i2l X.1.1 X.1.2.1 hd rfl (k H locs ls hR hS hl)
theorem v_lcmp (X : Cx p R m c cc nL s args own cells slots D cA ad A) {x y : Int64} (hd : decode cc pc = .ok (.lcmp, 1))  (k : VV p l e R s m args below meth c cells slots Q D cA ad A nL S (pc + 1) lv (.int (lg_cmp x y) :: st)) : VV p l e R s m args below meth c cells slots Q D cA ad A nL S pc lv (.long y :: .long x :: st) := fun H locs ls hR hS hl => W.lcmp X.1.1 X.1.2.1 hd (k H locs ls hR hS hl)
theorem v_dup (X : Cx p R m c cc nL s args own cells slots D cA ad A) {va : Value} (hd : decode cc pc = .ok (.dup, 1)) (hc : va.category = 1) (k : VV p l e R s m args below meth c cells slots Q D cA ad A nL S (pc + 1) lv (va :: va :: st)) : VV p l e R s m args below meth c cells slots Q D cA ad A nL S pc lv (va :: st) := fun H locs ls hR hS hl => lv_dup X.1.1 X.1.2.1 hd hc (k H locs ls hR hS hl)
theorem v_dup2 (X : Cx p R m c cc nL s args own cells slots D cA ad A) {va vb : Value} (hd : decode cc pc = .ok (.dup2, 1)) (hc : va.category = 1) (hc2 : vb.category = 1) (k : VV p l e R s m args below meth c cells slots Q D cA ad A nL S (pc + 1) lv (va :: vb :: va :: vb :: st)) : VV p l e R s m args below meth c cells slots Q D cA ad A nL S pc lv (va :: vb :: st) := fun H locs ls hR hS hl => lv_dup2_11 X.1.1 X.1.2.1 hd hc hc2 (k H locs ls hR hS hl)
theorem v_pop (X : Cx p R m c cc nL s args own cells slots D cA ad A) {va : Value} (hd : decode cc pc = .ok (.pop, 1)) (hc : va.category = 1) (k : VV p l e R s m args below meth c cells slots Q D cA ad A nL S (pc + 1) lv (st)) : VV p l e R s m args below meth c cells slots Q D cA ad A nL S pc lv (va :: st) := fun H locs ls hR hS hl => lv_pop X.1.1 X.1.2.1 hd hc (k H locs ls hR hS hl)
theorem v_goto (X : Cx p R m c cc nL s args own cells slots D cA ad A) {off : Int} (tgt : Nat) (hd : decode cc pc = .ok (.goto off, 3)) (ht : (pc : Int) + off = (tgt : Int)) (k : VV p l e R s m args below meth c cells slots Q D cA ad A nL S tgt lv st) : VV p l e R s m args below meth c cells slots Q D cA ad A nL S pc lv st := fun H locs ls hR hS hl => lv_goto X.1.1 X.1.2.1 hd ht (k H locs ls hR hS hl)
theorem v_if_eq (X : Cx p R m c cc nL s args own cells slots D cA ad A) {x : Int32} {off : Int} (tgt : Nat) (hd : decode cc pc = .ok (.ifCond .eq off, 3)) (ht : (pc : Int) + off = (tgt : Int)) (kt : x = 0 → VV p l e R s m args below meth c cells slots Q D cA ad A nL S tgt lv st) (kf : ¬ x = 0 → VV p l e R s m args below meth c cells slots Q D cA ad A nL S (pc + 3) lv st) : VV p l e R s m args below meth c cells slots Q D cA ad A nL S pc lv (.int x :: st) := fun H locs ls hR hS hl => lv_if_eq X.1.1 X.1.2.1 hd ht (fun h => kt h H locs ls hR hS hl) (fun h => kf h H locs ls hR hS hl)
theorem v_if_ne (X : Cx p R m c cc nL s args own cells slots D cA ad A) {x : Int32} {off : Int} (tgt : Nat) (hd : decode cc pc = .ok (.ifCond .ne off, 3)) (ht : (pc : Int) + off = (tgt : Int)) (kt : ¬ x = 0 → VV p l e R s m args below meth c cells slots Q D cA ad A nL S tgt lv st) (kf : x = 0 → VV p l e R s m args below meth c cells slots Q D cA ad A nL S (pc + 3) lv st) : VV p l e R s m args below meth c cells slots Q D cA ad A nL S pc lv (.int x :: st) := fun H locs ls hR hS hl => lv_if_ne X.1.1 X.1.2.1 hd ht (fun h => kt h H locs ls hR hS hl) (fun h => kf h H locs ls hR hS hl)
theorem v_if_lt (X : Cx p R m c cc nL s args own cells slots D cA ad A) {x : Int32} {off : Int} (tgt : Nat) (hd : decode cc pc = .ok (.ifCond .lt off, 3)) (ht : (pc : Int) + off = (tgt : Int)) (kt : x < 0 → VV p l e R s m args below meth c cells slots Q D cA ad A nL S tgt lv st) (kf : ¬ x < 0 → VV p l e R s m args below meth c cells slots Q D cA ad A nL S (pc + 3) lv st) : VV p l e R s m args below meth c cells slots Q D cA ad A nL S pc lv (.int x :: st) := fun H locs ls hR hS hl => lv_if_lt X.1.1 X.1.2.1 hd ht (fun h => kt h H locs ls hR hS hl) (fun h => kf h H locs ls hR hS hl)
theorem v_if_ge (X : Cx p R m c cc nL s args own cells slots D cA ad A) {x : Int32} {off : Int} (tgt : Nat) (hd : decode cc pc = .ok (.ifCond .ge off, 3)) (ht : (pc : Int) + off = (tgt : Int)) (kt : 0 ≤ x → VV p l e R s m args below meth c cells slots Q D cA ad A nL S tgt lv st) (kf : ¬ 0 ≤ x → VV p l e R s m args below meth c cells slots Q D cA ad A nL S (pc + 3) lv st) : VV p l e R s m args below meth c cells slots Q D cA ad A nL S pc lv (.int x :: st) := fun H locs ls hR hS hl => lv_if_ge X.1.1 X.1.2.1 hd ht (fun h => kt h H locs ls hR hS hl) (fun h => kf h H locs ls hR hS hl)
theorem v_if_gt (X : Cx p R m c cc nL s args own cells slots D cA ad A) {x : Int32} {off : Int} (tgt : Nat) (hd : decode cc pc = .ok (.ifCond .gt off, 3)) (ht : (pc : Int) + off = (tgt : Int)) (kt : 0 < x → VV p l e R s m args below meth c cells slots Q D cA ad A nL S tgt lv st) (kf : ¬ 0 < x → VV p l e R s m args below meth c cells slots Q D cA ad A nL S (pc + 3) lv st) : VV p l e R s m args below meth c cells slots Q D cA ad A nL S pc lv (.int x :: st) := fun H locs ls hR hS hl => lv_if_gt X.1.1 X.1.2.1 hd ht (fun h => kt h H locs ls hR hS hl) (fun h => kf h H locs ls hR hS hl)
theorem v_if_le (X : Cx p R m c cc nL s args own cells slots D cA ad A) {x : Int32} {off : Int} (tgt : Nat) (hd : decode cc pc = .ok (.ifCond .le off, 3)) (ht : (pc : Int) + off = (tgt : Int)) (kt : x ≤ 0 → VV p l e R s m args below meth c cells slots Q D cA ad A nL S tgt lv st) (kf : ¬ x ≤ 0 → VV p l e R s m args below meth c cells slots Q D cA ad A nL S (pc + 3) lv st) : VV p l e R s m args below meth c cells slots Q D cA ad A nL S pc lv (.int x :: st) := fun H locs ls hR hS hl => lv_if_le X.1.1 X.1.2.1 hd ht (fun h => kt h H locs ls hR hS hl) (fun h => kf h H locs ls hR hS hl)
theorem v_icmp_eq (X : Cx p R m c cc nL s args own cells slots D cA ad A) {x y : Int32} {off : Int} (tgt : Nat) (hd : decode cc pc = .ok (.if_icmp .eq off, 3)) (ht : (pc : Int) + off = (tgt : Int)) (kt : x = y → VV p l e R s m args below meth c cells slots Q D cA ad A nL S tgt lv st) (kf : ¬ x = y → VV p l e R s m args below meth c cells slots Q D cA ad A nL S (pc + 3) lv st) : VV p l e R s m args below meth c cells slots Q D cA ad A nL S pc lv (.int y :: .int x :: st) := fun H locs ls hR hS hl => lv_icmp_eq X.1.1 X.1.2.1 hd ht (fun h => kt h H locs ls hR hS hl) (fun h => kf h H locs ls hR hS hl)
theorem v_icmp_ne (X : Cx p R m c cc nL s args own cells slots D cA ad A) {x y : Int32} {off : Int} (tgt : Nat) (hd : decode cc pc = .ok (.if_icmp .ne off, 3)) (ht : (pc : Int) + off = (tgt : Int)) (kt : ¬ x = y → VV p l e R s m args below meth c cells slots Q D cA ad A nL S tgt lv st) (kf : x = y → VV p l e R s m args below meth c cells slots Q D cA ad A nL S (pc + 3) lv st) : VV p l e R s m args below meth c cells slots Q D cA ad A nL S pc lv (.int y :: .int x :: st) := fun H locs ls hR hS hl => lv_icmp_ne X.1.1 X.1.2.1 hd ht (fun h => kt h H locs ls hR hS hl) (fun h => kf h H locs ls hR hS hl)
theorem v_icmp_lt (X : Cx p R m c cc nL s args own cells slots D cA ad A) {x y : Int32} {off : Int} (tgt : Nat) (hd : decode cc pc = .ok (.if_icmp .lt off, 3)) (ht : (pc : Int) + off = (tgt : Int)) (kt : x < y → VV p l e R s m args below meth c cells slots Q D cA ad A nL S tgt lv st) (kf : ¬ x < y → VV p l e R s m args below meth c cells slots Q D cA ad A nL S (pc + 3) lv st) : VV p l e R s m args below meth c cells slots Q D cA ad A nL S pc lv (.int y :: .int x :: st) := fun H locs ls hR hS hl => lv_icmp_lt X.1.1 X.1.2.1 hd ht (fun h => kt h H locs ls hR hS hl) (fun h => kf h H locs ls hR hS hl)
theorem v_icmp_ge (X : Cx p R m c cc nL s args own cells slots D cA ad A) {x y : Int32} {off : Int} (tgt : Nat) (hd : decode cc pc = .ok (.if_icmp .ge off, 3)) (ht : (pc : Int) + off = (tgt : Int)) (kt : y ≤ x → VV p l e R s m args below meth c cells slots Q D cA ad A nL S tgt lv st) (kf : ¬ y ≤ x → VV p l e R s m args below meth c cells slots Q D cA ad A nL S (pc + 3) lv st) : VV p l e R s m args below meth c cells slots Q D cA ad A nL S pc lv (.int y :: .int x :: st) := fun H locs ls hR hS hl => lv_icmp_ge X.1.1 X.1.2.1 hd ht (fun h => kt h H locs ls hR hS hl) (fun h => kf h H locs ls hR hS hl)
theorem v_icmp_gt (X : Cx p R m c cc nL s args own cells slots D cA ad A) {x y : Int32} {off : Int} (tgt : Nat) (hd : decode cc pc = .ok (.if_icmp .gt off, 3)) (ht : (pc : Int) + off = (tgt : Int)) (kt : y < x → VV p l e R s m args below meth c cells slots Q D cA ad A nL S tgt lv st) (kf : ¬ y < x → VV p l e R s m args below meth c cells slots Q D cA ad A nL S (pc + 3) lv st) : VV p l e R s m args below meth c cells slots Q D cA ad A nL S pc lv (.int y :: .int x :: st) := fun H locs ls hR hS hl => lv_icmp_gt X.1.1 X.1.2.1 hd ht (fun h => kt h H locs ls hR hS hl) (fun h => kf h H locs ls hR hS hl)
theorem v_icmp_le (X : Cx p R m c cc nL s args own cells slots D cA ad A) {x y : Int32} {off : Int} (tgt : Nat) (hd : decode cc pc = .ok (.if_icmp .le off, 3)) (ht : (pc : Int) + off = (tgt : Int)) (kt : x ≤ y → VV p l e R s m args below meth c cells slots Q D cA ad A nL S tgt lv st) (kf : ¬ x ≤ y → VV p l e R s m args below meth c cells slots Q D cA ad A nL S (pc + 3) lv st) : VV p l e R s m args below meth c cells slots Q D cA ad A nL S pc lv (.int y :: .int x :: st) := fun H locs ls hR hS hl => lv_icmp_le X.1.1 X.1.2.1 hd ht (fun h => kt h H locs ls hR hS hl) (fun h => kf h H locs ls hR hS hl)
theorem v_sub {lv' : List (Nat × Value)} (ks : List Nat) (hk : lv_pick lv ks = lv') (k : VV p l e R s m args below meth c cells slots Q D cA ad A nL S pc lv' st) : VV p l e R s m args below meth c cells slots Q D cA ad A nL S pc lv st := fun H locs ls hR hS hl => k H locs ls hR hS (lv_sub hl ks hk)
theorem v_st (k : ∀ S1 : St, S1 = S → VV p l e R s m args below meth c cells slots Q D cA ad A nL S1 pc lv st) : VV p l e R s m args below meth c cells slots Q D cA ad A nL S pc lv st := k S rfl
theorem v_lv (lv' : List (Nat × Value)) (h : lv = lv') (k : VV p l e R s m args below meth c cells slots Q D cA ad A nL S pc lv' st) : VV p l e R s m args below meth c cells slots Q D cA ad A nL S pc lv st := h ▸ k
theorem v_topi {x : Int32} (k : ∀ y : Int32, y = x → VV p l e R s m args below meth c cells slots Q D cA ad A nL S pc lv (.int y :: st)) : VV p l e R s m args below meth c cells slots Q D cA ad A nL S pc lv (.int x :: st) := k x rfl

/-- a field's link: of the class 'own' at idx, the field k of the class ci -/
def FLk (own : String) (idx ci k : Nat) : Prop := ∃ (C : String) (T : u_T) (N : Nat) (ty : Nat → FieldType), kcl[ci]? = some (C, T, N) ∧ k < N ∧ N = nF ci ∧ (∀ w ∈ u_ws C T N, w ∈ wA) ∧ (∀ k, k < N → parseFieldDescriptor (T k).2.2.1 = some (ty k)) ∧ (∀ a, a < N → ∀ b, b < N → a ≠ b → (T a).2.1 ≠ (T b).2.1) ∧ Cond.fieldLink own idx (T k).1 (T k).2.1 (T k).2.2.1 ∈ wA ∧ (ft ci k = 0 → (T k).2.2.2 = false ∧ (T k).2.2.1 = "I")
theorem flk0 {own : String} {idx k : Nat} (hk : k < 16) (h : Cond.fieldLink own idx (TX0 k).1 (TX0 k).2.1 (TX0 k).2.2.1 ∈ wA) (h0 : ft 0 k = 0 → (TX0 k).2.2.2 = false ∧ (TX0 k).2.2.1 = "I") : FLk own idx 0 k := ⟨RX0, TX0, 16, tyX0, rfl, hk, rfl, inlX0, tyX0_ok, nmX0, h, h0⟩
theorem flk1 {own : String} {idx k : Nat} (hk : k < 2) (h : Cond.fieldLink own idx (TX1 k).1 (TX1 k).2.1 (TX1 k).2.2.1 ∈ wA) (h0 : ft 1 k = 0 → (TX1 k).2.2.2 = false ∧ (TX1 k).2.2.1 = "I") : FLk own idx 1 k := ⟨RX1, TX1, 2, tyX1, rfl, hk, rfl, inlX1, tyX1_ok, nmX1, h, h0⟩
theorem flk2 {own : String} {idx k : Nat} (hk : k < 16) (h : Cond.fieldLink own idx (TX2 k).1 (TX2 k).2.1 (TX2 k).2.2.1 ∈ wA) (h0 : ft 2 k = 0 → (TX2 k).2.2.2 = false ∧ (TX2 k).2.2.1 = "I") : FLk own idx 2 k := ⟨RX2, TX2, 16, tyX2, rfl, hk, rfl, inlX2, tyX2_ok, nmX2, h, h0⟩
theorem flk3 {own : String} {idx k : Nat} (hk : k < 4) (h : Cond.fieldLink own idx (TX3 k).1 (TX3 k).2.1 (TX3 k).2.2.1 ∈ wA) (h0 : ft 3 k = 0 → (TX3 k).2.2.2 = false ∧ (TX3 k).2.2.1 = "I") : FLk own idx 3 k := ⟨RX3, TX3, 4, tyX3, rfl, hk, rfl, inlX3, tyX3_ok, nmX3, h, h0⟩
theorem flk4 {own : String} {idx k : Nat} (hk : k < 18) (h : Cond.fieldLink own idx (TX4 k).1 (TX4 k).2.1 (TX4 k).2.2.1 ∈ wA) (h0 : ft 4 k = 0 → (TX4 k).2.2.2 = false ∧ (TX4 k).2.2.1 = "I") : FLk own idx 4 k := ⟨RX4, TX4, 18, tyX4, rfl, hk, rfl, inlX4, tyX4_ok, nmX4, h, h0⟩

theorem v_get (X : Cx p R m c cc nL s args own cells slots D cA ad A) {o ci k idx : Nat} {v : Value} (hf : FLk own idx ci k) (ho : o < 11) (hk : kd o = ci) (hd : decode cc pc = .ok (.getfield idx, 3)) (hv : fv ad S ci o k = v) (kk : VV p l e R s m args below meth c cells slots Q D cA ad A nL S (pc + 3) lv (v :: st)) : VV p l e R s m args below meth c cells slots Q D cA ad A nL S pc lv (.ref (ad o 0) :: st) := by
  intro H locs ls hR hS hl
  obtain ⟨C, T, N, ty, hc, hkN, hN, hin, -, -, hw, -⟩ := hf
  obtain ⟨i, -, hi⟩ := wl_get (cA := cA) (ad := ad) (S := S) (celL_obj o ho)
  refine va_get (D := D) (ci := ci) (v := v) (C := C) (T := T) (N := N) X.1.1 X.1.2.1 X.1.2.2.2.2 hin X.1.2.2.2.1 X.2.1.1 hR.1 i (fs := (List.range (nF ci)).map (fv ad S ci o)) (by rw [hi]; subst hk; rfl) hc k hkN (X.1.2.2.2.2 _ hw) (fun _ h9 => h9) ?_ hd (kk H locs ls hR hS hl)
  rw [List.getElem?_map, List.getElem?_range (by omega)]
  exact congrArg some hv
theorem v_put (X : Cx p R m c cc nL s args own cells slots D cA ad A) {o ci k idx : Nat} {x : Int32} (hf : FLk own idx ci k) (ho : o < 11) (hk : kd o = ci) (h0 : ft ci k = 0) (hd : decode cc pc = .ok (.putfield idx, 3)) (kk : VV p l e R s m args below meth c cells slots Q D cA ad A nL (up3 S o k 0 x) (pc + 3) lv st) : VV p l e R s m args below meth c cells slots Q D cA ad A nL S pc lv (.int x :: .ref (ad o 0) :: st) := by
  intro H locs ls hR hS hl
  obtain ⟨C, T, N, ty, hc, hkN, hN, hin, hty, hnm, hw, hfin⟩ := hf
  obtain ⟨i, hi0, hi⟩ := wl_get (cA := cA) (ad := ad) (S := S) (celL_obj o ho)
  have hlen : k < ((List.range (nF ci)).map (fv ad S ci o)).length := by rw [List.length_map, List.length_range]; omega
  refine va_put (D := D) (ci := ci) (v := .int x) (ty := .int) (C := C) (T := T) (N := N) X.1.1 X.1.2.1 X.1.2.2.2.2 hin ty hty hnm X.1.2.2.2.1 X.2.1.1 hR.1 hR.2 hS i (fs := (List.range (nF ci)).map (fv ad S ci o)) (by rw [hi]; subst hk; rfl) hc k hkN (X.1.2.2.2.2 _ hw) (fun _ h9 => h9) (hfin h0).1 (by rw [(hfin h0).2]; decide +kernel) rfl rfl hlen hd (fun H1 locs1 hP1 hD1 hS1 => ?_)
  have e : (wl cA ad S).set i (ad o 0, .inr (ci, ((List.range (nF ci)).map (fv ad S ci o)).set k (.int x))) = wl cA ad (up3 S o k 0 x) := by
    have hk18 : k < 18 := by
      rw [hN] at hkN
      have h5 : ∀ c, c < 5 → nF c ≤ 18 := by decide
      exact Nat.lt_of_lt_of_le hkN (h5 ci (by rw [← hk]; exact kd_lt ho))
    refine wl_set' hi0 ?_ (cel_num (fun a b h => up3_ne h) (num_out o ho k hk18 (by rw [hk]; exact h0)))
    subst hk
    show Sum.inr (kd o, (List.range (nF (kd o))).map (fv ad (up3 S o k 0 x) (kd o) o)) = _
    congr 2
    apply List.ext_getElem?
    intro n
    rw [List.getElem?_set, List.getElem?_map, List.getElem?_map]
    by_cases hn : k = n
    · subst hn
      rw [if_pos rfl, if_pos hlen, List.getElem?_range (by omega)]
      show some (fv ad (up3 S o k 0 x) (kd o) o k) = _
      unfold fv
      rw [h0]
      simp [up3]
    · rw [if_neg hn]
      cases hq : (List.range (nF (kd o)))[n]? with
      | none => rfl
      | some n' =>
        have hnn : n' = n := by
          have h9 := List.getElem?_eq_some_iff.mp hq
          obtain ⟨h8, h7⟩ := h9
          rw [List.getElem_range] at h7
          exact h7.symm
        subst hnn
        show some (fv ad (up3 S o k 0 x) (kd o) o n') = some (fv ad S (kd o) o n')
        congr 1
        unfold fv
        split
        · rw [up3_ne (fun q => hn q.2.symm)]
        all_goals rfl
  exact kk H1 locs1 ls ⟨by rw [← e]; exact hP1, by rw [← e]; exact hD1⟩ hS1 hl
theorem cel_ints {o k : Nat} (h1 : ft (kd o) k = 1) : cel cA ad S o (k + 1) = .inl (cA 0, fl (kd o) k, .inl (S o k)) := by
  show (if ft (kd o) k = 3 then _ else _) = _
  rw [h1]
  rfl
theorem cel_bools {o k : Nat} (h1 : ft (kd o) k = 2) : cel cA ad S o (k + 1) = .inl (cA 1, fl (kd o) k, .inl (S o k)) := by
  show (if ft (kd o) k = 3 then _ else _) = _
  rw [h1]
  rfl
theorem cel_days {o k : Nat} (h1 : ft (kd o) k = 3) : cel cA ad S o (k + 1) = .inl (cA 2, fl (kd o) k, .inr (.inr (.inr (.inr (fun i => some (ad (S o k i).toNatClampNeg 0)))))) := by
  show (if ft (kd o) k = 3 then _ else _) = _
  rw [h1]
  rfl
theorem v_iald (X : Cx p R m c cc nL s args own cells slots D cA ad A) {o ci k n : Nat} {i : Int32} (ho : o < 11) (hk : kd o = ci) (h1 : ft ci k = 1) (hn : fl ci k = n) {j : Nat} (hj : i.toNatClampNeg = j) (hin : vp_in i n) (hd : decode cc pc = .ok (.iaload, 1)) (kk : VV p l e R s m args below meth c cells slots Q D cA ad A nL S (pc + 1) lv (.int (S o k j) :: st)) : VV p l e R s m args below meth c cells slots Q D cA ad A nL S pc lv (.int i :: .ref (ad o (k + 1)) :: st) := by
  subst hj
  intro H locs ls hR hS hl
  subst hk
  subst hn
  obtain ⟨q, -, hq⟩ := wl_get (cA := cA) (ad := ad) (S := S) (celL_arr ho (by rw [h1]; rfl))
  rw [cel_ints h1] at hq
  exact va_iald X.1.1 X.1.2.1 X.2.1.1 hR.1 q 0 hq rfl hin hd (kk H locs ls hR hS hl)
theorem v_zald (X : Cx p R m c cc nL s args own cells slots D cA ad A) {o ci k n : Nat} {i : Int32} (ho : o < 11) (hk : kd o = ci) (h1 : ft ci k = 2) (hn : fl ci k = n) {j : Nat} (hj : i.toNatClampNeg = j) (hin : vp_in i n) (hd : decode cc pc = .ok (.baload, 1)) (kk : VV p l e R s m args below meth c cells slots Q D cA ad A nL S (pc + 1) lv (.int (S o k j) :: st)) : VV p l e R s m args below meth c cells slots Q D cA ad A nL S pc lv (.int i :: .ref (ad o (k + 1)) :: st) := by
  subst hj
  intro H locs ls hR hS hl
  subst hk
  subst hn
  obtain ⟨q, -, hq⟩ := wl_get (cA := cA) (ad := ad) (S := S) (celL_arr ho (by rw [h1]; rfl))
  rw [cel_bools h1] at hq
  exact va_zald X.1.1 X.1.2.1 X.2.1.1 hR.1 q 1 hq rfl hin hd (kk H locs ls hR hS hl)
theorem v_aald (X : Cx p R m c cc nL s args own cells slots D cA ad A) {o ci k n d : Nat} {i : Int32} (ho : o < 11) (hk : kd o = ci) (h1 : ft ci k = 3) (hn : fl ci k = n) {j : Nat} (hj : i.toNatClampNeg = j) (hin : vp_in i n) (he : d = (S o k j).toNatClampNeg) (hd : decode cc pc = .ok (.aaload, 1)) (kk : VV p l e R s m args below meth c cells slots Q D cA ad A nL S (pc + 1) lv (.ref (ad d 0) :: st)) : VV p l e R s m args below meth c cells slots Q D cA ad A nL S pc lv (.int i :: .ref (ad o (k + 1)) :: st) := by
  subst hj
  intro H locs ls hR hS hl
  subst hk
  subst hn
  obtain ⟨q, -, hq⟩ := wl_get (cA := cA) (ad := ad) (S := S) (celL_arr ho (by rw [h1]; rfl))
  rw [cel_days h1] at hq
  subst he
  exact va_aldq X.1.1 X.1.2.1 X.2.1.1 hR.1 q 2 hq rfl hin hd (kk H locs ls hR hS hl)
theorem v_iast (X : Cx p R m c cc nL s args own cells slots D cA ad A) {o ci k n : Nat} {i x : Int32} (ho : o < 11) (hk : kd o = ci) (h1 : ft ci k = 1) (hn : fl ci k = n) {j : Nat} (hj : i.toNatClampNeg = j) (hin : vp_in i n) (hd : decode cc pc = .ok (.iastore, 1)) (kk : VV p l e R s m args below meth c cells slots Q D cA ad A nL (up3 S o k j x) (pc + 1) lv st) : VV p l e R s m args below meth c cells slots Q D cA ad A nL S pc lv (.int x :: .int i :: .ref (ad o (k + 1)) :: st) := by
  subst hj
  intro H locs ls hR hS hl
  subst hk
  subst hn
  obtain ⟨q, hq0, hq⟩ := wl_get (cA := cA) (ad := ad) (S := S) (celL_arr ho (by rw [h1]; rfl))
  rw [cel_ints h1] at hq
  refine va_iast X.1.1 X.1.2.1 X.2.1.1 hR.1 hR.2 hS q 0 hq rfl hin hd (fun H1 locs1 hP1 hD1 hS1 => ?_)
  have e := wl_set (cA := cA) (ad := ad) (S := S) (S' := up3 S o k i.toNatClampNeg x) hq0 (v := .inl (cA 0, fl (kd o) k, .inl (upd (S o k) i.toNatClampNeg x))) (by rw [cel_ints h1, up3_row]) (cel_row (by rw [h1]; decide) (fun a b h => up3_ne h))
  exact kk H1 locs1 ls ⟨by rw [← e]; exact hP1, by rw [← e]; exact hD1⟩ hS1 hl
/-- a boolean's number -/
def zb (r : Int32) : Prop := r = 0 ∨ r = 1
theorem zb_nar {r : Int32} (h : zb r) : vp_nar .boolean r = r := by
  rcases h with rfl | rfl <;> decide
theorem zb_narrow {r : Int32} (h : zb r) : narrow .boolean (.int r) = .int r := by
  rcases h with rfl | rfl <;> decide
theorem v_zast (X : Cx p R m c cc nL s args own cells slots D cA ad A) {o ci k n : Nat} {i x : Int32} (ho : o < 11) (hk : kd o = ci) (h1 : ft ci k = 2) (hn : fl ci k = n) (hz : zb x) {j : Nat} (hj : i.toNatClampNeg = j) (hin : vp_in i n) (hd : decode cc pc = .ok (.bastore, 1)) (kk : VV p l e R s m args below meth c cells slots Q D cA ad A nL (up3 S o k j x) (pc + 1) lv st) : VV p l e R s m args below meth c cells slots Q D cA ad A nL S pc lv (.int x :: .int i :: .ref (ad o (k + 1)) :: st) := by
  subst hj
  intro H locs ls hR hS hl
  subst hk
  subst hn
  obtain ⟨q, hq0, hq⟩ := wl_get (cA := cA) (ad := ad) (S := S) (celL_arr ho (by rw [h1]; rfl))
  rw [cel_bools h1] at hq
  refine va_zast X.1.1 X.1.2.1 X.2.1.1 hR.1 hR.2 hS q 1 hq rfl hin hd (fun H1 locs1 hP1 hD1 hS1 => ?_)
  rw [zb_nar hz] at hP1 hD1
  have e := wl_set (cA := cA) (ad := ad) (S := S) (S' := up3 S o k i.toNatClampNeg x) hq0 (v := .inl (cA 1, fl (kd o) k, .inl (upd (S o k) i.toNatClampNeg x))) (by rw [cel_bools h1, up3_row]) (cel_row (by rw [h1]; decide) (fun a b h => up3_ne h))
  exact kk H1 locs1 ls ⟨by rw [← e]; exact hP1, by rw [← e]; exact hD1⟩ hS1 hl
theorem v_aast (X : Cx p R m c cc nL s args own cells slots D cA ad A) {o ci k n d : Nat} {i : Int32} (ho : o < 11) (hk : kd o = ci) (h1 : ft ci k = 3) (hn : fl ci k = n) (hdd : d < 7) {j : Nat} (hj : i.toNatClampNeg = j) (hin : vp_in i n) (hd : decode cc pc = .ok (.aastore, 1)) (kk : VV p l e R s m args below meth c cells slots Q D cA ad A nL (up3 S o k j (nI d)) (pc + 1) lv st) : VV p l e R s m args below meth c cells slots Q D cA ad A nL S pc lv (.ref (ad d 0) :: .int i :: .ref (ad o (k + 1)) :: st) := by
  subst hj
  intro H locs ls hR hS hl
  subst hk
  subst hn
  obtain ⟨q, hq0, hq⟩ := wl_get (cA := cA) (ad := ad) (S := S) (celL_arr ho (by rw [h1]; rfl))
  rw [cel_days h1] at hq
  obtain ⟨q2, -, hq2⟩ := wl_get (cA := cA) (ad := ad) (S := S) (celL_obj d (by omega))
  have hq2 : (wl cA ad S)[q2]? = some (ad d 0, .inr (0, (List.range (nF (kd d))).map (fv ad S (kd d) d))) := by rw [hq2]; show some (_, Sum.inr (kd d, _)) = _; rw [kd_day hdd]
  refine va_astq X.1.1 X.1.2.1 X.2.1.1 hR.1 hR.2 hS q 2 q2 0 (r := (RX0, TX0, 16)) hq rfl hq2 rfl hin hd (fun H1 locs1 hP1 hD1 hS1 => ?_)
  have e := wl_set (cA := cA) (ad := ad) (S := S) (S' := up3 S o k i.toNatClampNeg (nI d)) hq0 (v := .inl (cA 2, fl (kd o) k, .inr (.inr (.inr (.inr (va_up (fun i => some (ad (S o k i).toNatClampNeg 0)) i.toNatClampNeg (some (ad d 0)))))))) (by
    have hfun : (fun j => some (ad (up3 S o k i.toNatClampNeg (nI d) o k j).toNatClampNeg 0)) = va_up (fun i => some (ad (S o k i).toNatClampNeg 0)) i.toNatClampNeg (some (ad d 0)) := by
      funext j
      by_cases hj : j = i.toNatClampNeg
      · subst hj
        simp [up3, va_up, nI_clamp (show d < 2 ^ 31 by omega)]
      · simp [up3, va_up, hj]
    rw [cel_days h1, hfun]) (cel_row (by rw [h1]; decide) (fun a b h => up3_ne h))
  exact kk H1 locs1 ls ⟨by rw [← e]; exact hP1, by rw [← e]; exact hD1⟩ hS1 hl
theorem v_copy (X : Cx p R m c cc nL s args own cells slots D cA ad A) {o ci k n o2 ci2 k2 n2 idx : Nat} {sp dp x : Int32} (ho : o < 11) (hk : kd o = ci) (h1 : ft ci k = 1) (hn : fl ci k = n) (ho2 : o2 < 11) (hk2 : kd o2 = ci2) (h12 : ft ci2 k2 = 1) (hn2 : fl ci2 k2 = n2) (hw : Cond.methodLink own idx arraycopyName ∈ wA) (hw1 : Cond.native arraycopyName ∈ wA) (hw2 : Cond.static arraycopyName ∈ wA) (hw3 : Cond.initialized "java/lang/System" ∈ wA) (g1 : ¬ sp < 0) (g2 : ¬ dp < 0) (g3 : ¬ x < 0) (g4 : sp.toNatClampNeg + x.toNatClampNeg ≤ n) (g5 : dp.toNatClampNeg + x.toNatClampNeg ≤ n2) (hfr : 1 ≤ R.frames) (hlo : (st.map fun v => v.category).sum + (nativeFrameWords "java/lang/System" "arraycopy" 5 + 11) ≤ R.locals) (hd : decode cc pc = .ok (.invokestatic idx, 3)) (kk : VV p l e R s m args below meth c cells slots Q D cA ad A nL (upA S o2 k2 (va_cpy (S o k) (S o2 k2) sp.toNatClampNeg dp.toNatClampNeg x.toNatClampNeg)) (pc + 3) lv st) : VV p l e R s m args below meth c cells slots Q D cA ad A nL S pc lv (.int x :: .int dp :: .ref (ad o2 (k2 + 1)) :: .int sp :: .ref (ad o (k + 1)) :: st) := by
  intro H locs ls hR hS hl
  subst hk
  subst hn
  subst hk2
  subst hn2
  obtain ⟨q, -, hq⟩ := wl_get (cA := cA) (ad := ad) (S := S) (celL_arr ho (by rw [h1]; rfl))
  rw [cel_ints h1] at hq
  obtain ⟨q2, hq20, hq2⟩ := wl_get (cA := cA) (ad := ad) (S := S) (celL_arr ho2 (by rw [h12]; rfl))
  rw [cel_ints h12] at hq2
  refine va_copyi (ty := .int) X.1.1 X.1.2.1 (by rw [X.1.2.2.1]; exact hl.1.symm) X.1.2.2.2.1 (X.1.2.2.2.2 _ hw) (X.1.2.2.2.2 _ hw1) (X.1.2.2.2.2 _ hw2) (X.1.2.2.2.2 _ hw3) X.2.1.1 hR.1 hR.2 hS q q2 0 0 hq hq2 rfl rfl rfl g1 g2 g3 g4 g5 (fun _ _ => rfl) hfr hlo hd (fun H1 locs1 hP1 hD1 hS1 => ?_)
  have e := wl_set (cA := cA) (ad := ad) (S := S) (S' := upA S o2 k2 (va_cpy (S o k) (S o2 k2) sp.toNatClampNeg dp.toNatClampNeg x.toNatClampNeg)) hq20 (v := .inl (cA 0, fl (kd o2) k2, .inl (va_cpy (S o k) (S o2 k2) sp.toNatClampNeg dp.toNatClampNeg x.toNatClampNeg))) (by rw [cel_ints h12, upA_row]) (cel_row (by rw [h12]; decide) (fun a b h => upA_ne h))
  exact kk H1 locs1 ls ⟨by rw [← e]; exact hP1, by rw [← e]; exact hD1⟩ hS1 hl
theorem v_mmax (X : Cx p R m c cc nL s args own cells slots D cA ad A) {idx : Nat} {x y : Int32} (hw : Cond.methodLink own idx Lib.Math.max.name ∈ wA) (hw1 : Cond.static Lib.Math.max.name ∈ wA) (hw2 : Cond.initialized "java/lang/Math" ∈ wA) (hw3 : Cond.code Lib.Math.max.name Lib.Math.max.code 2 (some .int) ∈ wA) (hfr : 1 ≤ R.frames) (hlo : (st.map fun v => v.category).sum + 13 ≤ R.locals) (hd : decode cc pc = .ok (.invokestatic idx, 3)) (kk : VV p l e R s m args below meth c cells slots Q D cA ad A nL S (pc + 3) lv (.int (if x < y then y else x) :: st)) : VV p l e R s m args below meth c cells slots Q D cA ad A nL S pc lv (.int y :: .int x :: st) := fun H locs ls hR hS hl => va_mmax X.1.1 X.1.2.1 (by rw [X.1.2.2.1]; exact hl.1.symm) X.1.2.2.2.1 (X.1.2.2.2.2 _ hw) (X.1.2.2.2.2 _ hw1) (X.1.2.2.2.2 _ hw2) (X.1.2.2.2.2 _ hw3) hfr hlo X.2.2.1 X.2.2.2 hd (kk H locs ls hR hS hl)
theorem v_mmin (X : Cx p R m c cc nL s args own cells slots D cA ad A) {idx : Nat} {x y : Int32} (hw : Cond.methodLink own idx Lib.Math.min.name ∈ wA) (hw1 : Cond.static Lib.Math.min.name ∈ wA) (hw2 : Cond.initialized "java/lang/Math" ∈ wA) (hw3 : Cond.code Lib.Math.min.name Lib.Math.min.code 2 (some .int) ∈ wA) (hfr : 1 ≤ R.frames) (hlo : (st.map fun v => v.category).sum + 13 ≤ R.locals) (hd : decode cc pc = .ok (.invokestatic idx, 3)) (kk : VV p l e R s m args below meth c cells slots Q D cA ad A nL S (pc + 3) lv (.int (if y < x then y else x) :: st)) : VV p l e R s m args below meth c cells slots Q D cA ad A nL S pc lv (.int y :: .int x :: st) := fun H locs ls hR hS hl => va_mmin X.1.1 X.1.2.1 (by rw [X.1.2.2.1]; exact hl.1.symm) X.1.2.2.2.1 (X.1.2.2.2.2 _ hw) (X.1.2.2.2.2 _ hw1) (X.1.2.2.2.2 _ hw2) (X.1.2.2.2.2 _ hw3) hfr hlo X.2.2.1 X.2.2.2 hd (kk H locs ls hR hS hl)
theorem v_getsL (X : Cx p R m c cc nL s args own cells slots D cA ad A) {idx : Nat} (hw : Cond.fieldLink own idx RX3 "LEAST_MINUTES" "[I" ∈ wA) (hd : decode cc pc = .ok (.getstatic idx, 3)) (kk : VV p l e R s m args below meth c cells slots Q D cA ad A nL S (pc + 3) lv (.ref (ad 11 0) :: st)) : VV p l e R s m args below meth c cells slots Q D cA ad A nL S pc lv st := fun H locs ls hR hS hl => va_gets X.1.1 X.1.2.1 X.2.1.2.2.2.1 hS X.1.2.2.2.1 (X.1.2.2.2.2 _ hw) (fun _ h => h) hd (kk H locs ls hR hS hl)
theorem v_getsM (X : Cx p R m c cc nL s args own cells slots D cA ad A) {idx : Nat} (hw : Cond.fieldLink own idx RX3 "MOST_MINUTES" "[I" ∈ wA) (hd : decode cc pc = .ok (.getstatic idx, 3)) (kk : VV p l e R s m args below meth c cells slots Q D cA ad A nL S (pc + 3) lv (.ref (ad 12 0) :: st)) : VV p l e R s m args below meth c cells slots Q D cA ad A nL S pc lv st := fun H locs ls hR hS hl => va_gets X.1.1 X.1.2.1 X.2.1.2.2.2.2.2.1 hS X.1.2.2.2.1 (X.1.2.2.2.2 _ hw) (fun _ h => h) hd (kk H locs ls hR hS hl)
theorem v_tiL (X : Cx p R m c cc nL s args own cells slots D cA ad A) {i : Int32} (hin : vp_in i 4) (hd : decode cc pc = .ok (.iaload, 1)) (kk : VV p l e R s m args below meth c cells slots Q D cA ad A nL S (pc + 1) lv (.int (tLeast i.toNatClampNeg) :: st)) : VV p l e R s m args below meth c cells slots Q D cA ad A nL S pc lv (.int i :: .ref (ad 11 0) :: st) := fun H locs ls hR hS hl => va_ti X.1.1 X.1.2.1 X.2.1.2.2.2.2.1 hS hin rfl hd (kk H locs ls hR hS hl)
theorem v_tiM (X : Cx p R m c cc nL s args own cells slots D cA ad A) {i : Int32} (hin : vp_in i 4) (hd : decode cc pc = .ok (.iaload, 1)) (kk : VV p l e R s m args below meth c cells slots Q D cA ad A nL S (pc + 1) lv (.int (tMost i.toNatClampNeg) :: st)) : VV p l e R s m args below meth c cells slots Q D cA ad A nL S pc lv (.int i :: .ref (ad 12 0) :: st) := fun H locs ls hR hS hl => va_ti X.1.1 X.1.2.1 X.2.1.2.2.2.2.2.2 hS hin rfl hd (kk H locs ls hR hS hl)
/-- a contract over the world -/
abbrev MT (l : Launch) (y : MethodName) (cY : ByteArray) (maxL : Nat) (ret : Option FieldType) (fr lo : Nat) (av : List Value) (D : va_G) (cA : Nat → ClassId) (ad : Nat → Nat → Nat) (A : Nat → Prop) (S : St) (Qc : Array Value → State → Outcome → State → Prop) : Prop := Met l y (.code y cY maxL ret :: wA) ({ frames := fr, cells := 0, slots := 0, locals := lo }) (va_Pc av (RepB D cA ad A S)) Qc 0 0 A
abbrev Qi (D : va_G) (cA : Nat → ClassId) (ad : Nat → Nat → Nat) (A : Nat → Prop) (K : Int32 → St → Prop) : Array Value → State → Outcome → State → Prop := va_Qi K (fun u t => Rep D cA ad A u t.heap) A
abbrev Qz (D : va_G) (cA : Nat → ClassId) (ad : Nat → Nat → Nat) (A : Nat → Prop) (K : Int32 → St → Prop) : Array Value → State → Outcome → State → Prop := va_Qi (fun r u => K r u ∧ zb r) (fun u t => Rep D cA ad A u t.heap) A
abbrev Qv (D : va_G) (cA : Nat → ClassId) (ad : Nat → Nat → Nat) (A : Nat → Prop) (K : St → Prop) : Array Value → State → Outcome → State → Prop := va_Qv K (fun u t => Rep D cA ad A u t.heap) A
/-- a method's own words, in every contract -/
def MW (y : MethodName) (cY : ByteArray) (maxL : Nat) (ret : Option FieldType) (n : Nat) : Prop := Cond.code y cY maxL ret ∈ wA ∧ Cond.initialized y.cls ∈ wA ∧ y.cls ≠ "java/lang/invoke/MethodHandle" ∧ y.cls ≠ "java/lang/invoke/VarHandle" ∧ (parseMethodDescriptor y.desc).map (fun d => d.parameters.length) = some n
theorem goodMW {y : MethodName} {cY : ByteArray} {maxL : Nat} {ret : Option FieldType} {n : Nat} (h : MW y cY maxL ret n) : GoodIn wA (.code y cY maxL ret :: wA) := by
  intro w hw
  have hm : w ∈ wA := by
    rcases List.mem_cons.mp hw with e | e
    · rw [e]; exact h.1
    · exact e
  exact ⟨hm, good_of_word (List.all_eq_true.mp goodAll w hm)⟩
def MV (own : String) (idx : Nat) (C : String) (y : MethodName) : Prop := Cond.methodLink own idx y ∈ wA ∧ Cond.instanceMethod y ∈ wA ∧ Cond.selects C y y ∈ wA ∧ y.cls = C
def MS (own : String) (idx : Nat) (y : MethodName) : Prop := Cond.methodLink own idx y ∈ wA ∧ Cond.static y ∈ wA
def kN (ci : Nat) : String := (kcl.getD ci (RX0, TX0, 16)).1
theorem v_runV (X : Cx p R m c cc nL s args own cells slots D cA ad A) {H : Heap} {locs : List Loc} {ls : Array Slot} {y : MethodName} {cY : ByteArray} {maxL n fr lo idx o ci : Nat} {ret : Option FieldType} {As rest : List Value} {Qc : Array Value → State → Outcome → State → Prop} (hR : Rep D cA ad A S H) (hS : va_S A s.heap H locs) (hl : lv_has ls nL lv)
    (hM : MT l y cY maxL ret fr lo (.ref (ad o 0) :: As) D cA ad A S Qc) (hm : MW y cY maxL ret n) (hv : MV own idx (kN ci) y) (ho : o < 11) (hk : kd o = ci) (hRo : fr + 1 ≤ R.frames ∧ 8 + (maxL + 11) + lo ≤ R.locals) (hn : As.length = n) (hW : (rest.map fun v => v.category).sum ≤ 8) (hd : decode cc pc = .ok (.invokevirtual idx, 3)) : va_Run p l e R s m args below meth c H locs cells slots 0 0 (F0 m pc ls (As.reverse ++ .ref (ad o 0) :: rest)) rest (Qc (Value.ref (ad o 0) :: As).toArray) A := by
  obtain ⟨i, -, hi⟩ := wl_get (cA := cA) (ad := ad) (S := S) (celL_obj o ho)
  have hci : ci < 5 := by rw [← hk]; exact kd_lt ho
  have hq : kcl[ci]? = some (kcl.getD ci (RX0, TX0, 16)) := by
    rw [List.getD_eq_getElem?_getD]
    have h5 : ∀ c, c < 5 → ∃ q, kcl[c]? = some q := by
      intro c hc
      exact ⟨kcl[c]'(by exact hc), List.getElem?_eq_getElem _⟩
    obtain ⟨q, h⟩ := h5 ci hci
    rw [h]
    rfl
  have hw := X.1.2.2.2.2
  refine va_runV (S := ⟨X.1.1, X.1.2.1, X.1.2.2.1, X.1.2.2.2.1, X.1.2.2.2.2⟩) (C := kN ci) (bytes := cY) (maxL := maxL) (ret := ret) (n := n) hM ⟨callB_of n hw (goodMW hm) rfl rfl rfl (hw _ hm.2.1) (hw _ hv.1) hm.2.2 hRo, hw _ hv.2.1, hw _ hv.2.2.1⟩ ⟨repB_blind, ?_, ?_⟩ rfl hn hl.1 rfl (lv_room hW) hd ⟨X.2.2.1, X.2.2.2⟩
  · exact va_recv (ci := ci) (q0 := i) X.2.1.1 hR.1 hq (by rw [hi]; subst hk; rfl)
  · intro U hU hWm
    exact ⟨rfl, by rw [hU]; exact hR, X.2.1.move hS hU hWm⟩
theorem v_callVi (X : Cx p R m c cc nL s args own cells slots D cA ad A) {y : MethodName} {cY : ByteArray} {maxL n fr lo idx o ci : Nat} {ret : Option FieldType} {As rest stk : List Value} {K : Int32 → St → Prop} (hM : MT l y cY maxL ret fr lo (.ref (ad o 0) :: As) D cA ad A S (Qi D cA ad A K)) (hm : MW y cY maxL ret n) (hv : MV own idx (kN ci) y) (ho : o < 11) (hk : kd o = ci) (hRo : fr + 1 ≤ R.frames ∧ 8 + (maxL + 11) + lo ≤ R.locals) (hn : As.length = n) (hW : (rest.map fun v => v.category).sum ≤ 8) (hst : stk = As.reverse ++ .ref (ad o 0) :: rest) (hd : decode cc pc = .ok (.invokevirtual idx, 3)) (kk : ∀ (r : Int32) (S' : St), K r S' → VV p l e R s m args below meth c cells slots Q D cA ad A nL S' (pc + 3) lv (.int r :: rest)) : VV p l e R s m args below meth c cells slots Q D cA ad A nL S pc lv stk := by
  intro H locs ls hR hS hl
  subst hst
  refine va_calli (v_runV X hR hS hl hM hm hv ho hk hRo hn hW hd) hS (fun _ _ h => h) (fun _ h => h) (fun r u t H1 locs1 ht _ hw hB _ _ hS1 => ?_)
  exact kk r u hw H1 locs1 ls (by rw [← ht]; exact hB) hS1 hl
theorem v_callVz (X : Cx p R m c cc nL s args own cells slots D cA ad A) {y : MethodName} {cY : ByteArray} {maxL n fr lo idx o ci : Nat} {ret : Option FieldType} {As rest stk : List Value} {K : Int32 → St → Prop} (hM : MT l y cY maxL ret fr lo (.ref (ad o 0) :: As) D cA ad A S (Qz D cA ad A K)) (hm : MW y cY maxL ret n) (hv : MV own idx (kN ci) y) (ho : o < 11) (hk : kd o = ci) (hRo : fr + 1 ≤ R.frames ∧ 8 + (maxL + 11) + lo ≤ R.locals) (hn : As.length = n) (hW : (rest.map fun v => v.category).sum ≤ 8) (hst : stk = As.reverse ++ .ref (ad o 0) :: rest) (hd : decode cc pc = .ok (.invokevirtual idx, 3)) (kk : ∀ (r : Int32) (S' : St), K r S' → zb r → VV p l e R s m args below meth c cells slots Q D cA ad A nL S' (pc + 3) lv (.int r :: rest)) : VV p l e R s m args below meth c cells slots Q D cA ad A nL S pc lv stk := by
  intro H locs ls hR hS hl
  subst hst
  refine va_calli (v_runV X hR hS hl hM hm hv ho hk hRo hn hW hd) hS (fun _ _ h => h) (fun _ h => h) (fun r u t H1 locs1 ht _ hw hB _ _ hS1 => ?_)
  exact kk r u hw.1 hw.2 H1 locs1 ls (by rw [← ht]; exact hB) hS1 hl
theorem v_callVv (X : Cx p R m c cc nL s args own cells slots D cA ad A) {y : MethodName} {cY : ByteArray} {maxL n fr lo idx o ci : Nat} {ret : Option FieldType} {As rest stk : List Value} {K : St → Prop} (hM : MT l y cY maxL ret fr lo (.ref (ad o 0) :: As) D cA ad A S (Qv D cA ad A K)) (hm : MW y cY maxL ret n) (hv : MV own idx (kN ci) y) (ho : o < 11) (hk : kd o = ci) (hRo : fr + 1 ≤ R.frames ∧ 8 + (maxL + 11) + lo ≤ R.locals) (hn : As.length = n) (hW : (rest.map fun v => v.category).sum ≤ 8) (hst : stk = As.reverse ++ .ref (ad o 0) :: rest) (hd : decode cc pc = .ok (.invokevirtual idx, 3)) (kk : ∀ (S' : St), K S' → VV p l e R s m args below meth c cells slots Q D cA ad A nL S' (pc + 3) lv rest) : VV p l e R s m args below meth c cells slots Q D cA ad A nL S pc lv stk := by
  intro H locs ls hR hS hl
  subst hst
  refine va_callv (v_runV X hR hS hl hM hm hv ho hk hRo hn hW hd) hS (fun _ _ h => h) (fun _ h => h) (fun u t H1 locs1 ht _ hw hB _ _ hS1 => ?_)
  exact kk u hw H1 locs1 ls (by rw [← ht]; exact hB) hS1 hl
theorem v_runS (X : Cx p R m c cc nL s args own cells slots D cA ad A) {H : Heap} {locs : List Loc} {ls : Array Slot} {y : MethodName} {cY : ByteArray} {maxL n fr lo idx : Nat} {ret : Option FieldType} {As rest : List Value} {Qc : Array Value → State → Outcome → State → Prop} (hR : Rep D cA ad A S H) (hS : va_S A s.heap H locs) (hl : lv_has ls nL lv)
    (hM : MT l y cY maxL ret fr lo As D cA ad A S Qc) (hm : MW y cY maxL ret n) (hv : MS own idx y) (hRo : fr + 1 ≤ R.frames ∧ 8 + (maxL + 11) + lo ≤ R.locals) (hn : As.length = n) (hW : (rest.map fun v => v.category).sum ≤ 8) (hd : decode cc pc = .ok (.invokestatic idx, 3)) : va_Run p l e R s m args below meth c H locs cells slots 0 0 (F0 m pc ls (As.reverse ++ rest)) rest (Qc As.toArray) A := by
  have hw := X.1.2.2.2.2
  refine va_runS (S := ⟨X.1.1, X.1.2.1, X.1.2.2.1, X.1.2.2.2.1, X.1.2.2.2.2⟩) (bytes := cY) (maxL := maxL) (ret := ret) (n := n) hM ⟨callB_of n hw (goodMW hm) rfl rfl rfl (hw _ hm.2.1) (hw _ hv.1) hm.2.2 hRo, hw _ hv.2⟩ ⟨repB_blind, ?_⟩ rfl hn hl.1 rfl (lv_room hW) hd ⟨X.2.2.1, X.2.2.2⟩
  intro U hU hWm
  exact ⟨rfl, by rw [hU]; exact hR, X.2.1.move hS hU hWm⟩
theorem v_callSz (X : Cx p R m c cc nL s args own cells slots D cA ad A) {y : MethodName} {cY : ByteArray} {maxL n fr lo idx : Nat} {ret : Option FieldType} {As rest stk : List Value} {K : Int32 → St → Prop} (hM : MT l y cY maxL ret fr lo As D cA ad A S (Qz D cA ad A K)) (hm : MW y cY maxL ret n) (hv : MS own idx y) (hRo : fr + 1 ≤ R.frames ∧ 8 + (maxL + 11) + lo ≤ R.locals) (hn : As.length = n) (hW : (rest.map fun v => v.category).sum ≤ 8) (hst : stk = As.reverse ++ rest) (hd : decode cc pc = .ok (.invokestatic idx, 3)) (kk : ∀ (r : Int32) (S' : St), K r S' → zb r → VV p l e R s m args below meth c cells slots Q D cA ad A nL S' (pc + 3) lv (.int r :: rest)) : VV p l e R s m args below meth c cells slots Q D cA ad A nL S pc lv stk := by
  intro H locs ls hR hS hl
  subst hst
  refine va_calli (v_runS X hR hS hl hM hm hv hRo hn hW hd) hS (fun _ _ h => h) (fun _ h => h) (fun r u t H1 locs1 ht _ hw hB _ _ hS1 => ?_)
  exact kk r u hw.1 hw.2 H1 locs1 ls (by rw [← ht]; exact hB) hS1 hl
theorem v_callSi (X : Cx p R m c cc nL s args own cells slots D cA ad A) {y : MethodName} {cY : ByteArray} {maxL n fr lo idx : Nat} {ret : Option FieldType} {As rest stk : List Value} {K : Int32 → St → Prop} (hM : MT l y cY maxL ret fr lo As D cA ad A S (Qi D cA ad A K)) (hm : MW y cY maxL ret n) (hv : MS own idx y) (hRo : fr + 1 ≤ R.frames ∧ 8 + (maxL + 11) + lo ≤ R.locals) (hn : As.length = n) (hW : (rest.map fun v => v.category).sum ≤ 8) (hst : stk = As.reverse ++ rest) (hd : decode cc pc = .ok (.invokestatic idx, 3)) (kk : ∀ (r : Int32) (S' : St), K r S' → VV p l e R s m args below meth c cells slots Q D cA ad A nL S' (pc + 3) lv (.int r :: rest)) : VV p l e R s m args below meth c cells slots Q D cA ad A nL S pc lv stk := by
  intro H locs ls hR hS hl
  subst hst
  refine va_calli (v_runS X hR hS hl hM hm hv hRo hn hW hd) hS (fun _ _ h => h) (fun _ h => h) (fun r u t H1 locs1 ht _ hw hB _ _ hS1 => ?_)
  exact kk r u hw H1 locs1 ls (by rw [← ht]; exact hB) hS1 hl
/-- the nest mate's static method, from Day and Plan -/
theorem v_callSN (X : Cx p R m c cc nL s args own cells slots D cA ad A) {y : MethodName} {cY : ByteArray} {maxL n fr lo idx : Nat} {ret : Option FieldType} {host : String} {As rest stk : List Value} {K : Int32 → St → Prop} (hM : MT l y cY maxL ret fr lo As D cA ad A S (Qi D cA ad A K)) (hm : MW y cY maxL ret n) (hst0 : Cond.static y ∈ wA) (hN : va_Nw (.methodLinkNest own idx y host) s) (hRo : fr + 1 ≤ R.frames ∧ 8 + (maxL + 11) + lo ≤ R.locals) (hn : As.length = n) (hW : (rest.map fun v => v.category).sum ≤ 8) (hst : stk = As.reverse ++ rest) (hd : decode cc pc = .ok (.invokestatic idx, 3)) (kk : ∀ (r : Int32) (S' : St), K r S' → VV p l e R s m args below meth c cells slots Q D cA ad A nL S' (pc + 3) lv (.int r :: rest)) : VV p l e R s m args below meth c cells slots Q D cA ad A nL S pc lv stk := by
  intro H locs ls hR hS hl
  subst hst
  have hw := X.1.2.2.2.2
  refine va_calli (va_runSN (S := ⟨X.1.1, X.1.2.1, X.1.2.2.1, X.1.2.2.2.1, X.1.2.2.2.2⟩) (bytes := cY) (maxL := maxL) (ret := ret) (n := n) hM ⟨va_cnB n hw (goodMW hm) rfl rfl rfl hN (hw _ hm.2.1) hm.2.2 hRo, hw _ hst0, trivial⟩ ⟨repB_blind, fun U hU hWm => ⟨rfl, by rw [hU]; exact hR, X.2.1.move hS hU hWm⟩⟩ rfl hn hl.1 rfl (lv_room hW) hd ⟨X.2.2.1, X.2.2.2⟩) hS (fun _ _ h => h) (fun _ h => h) (fun r u t H1 locs1 ht _ hw hB _ _ hS1 => ?_)
  exact kk r u hw H1 locs1 ls (by rw [← ht]; exact hB) hS1 hl
end VRows
section VEnds
variable {p : Program} {l : Launch} {e : Env} {R : Room} {s : State} {m : MethodId} {args : Array Value} {below : List Frame} {meth : Method} {c : Code} {cells slots : Nat} {D : va_G} {cA : Nat → ClassId} {ad : Nat → Nat → Nat} {A : Nat → Prop} {nL : Nat} {cc : ByteArray} {own : String} {S : St} {pc : Nat} {lv : List (Nat × Value)} {st : List Value}
theorem v_iret (X : Cx p R m c cc nL s args own cells slots D cA ad A) {v : Int32} {K : Int32 → St → Prop} (hr : meth.sig.returnType = some .int) (hlocks : meth.locks = false) (hd : decode cc pc = .ok (.ireturn, 1)) (hK : K v S) : VV p l e R s m args below meth c cells slots (MQ below (Qi D cA ad A K) args s cells slots A) D cA ad A nL S pc lv [.int v] := fun H locs ls hR hS hl => W.iret (hlocks := hlocks) X.1.1 X.1.2.1 hr (fun t ht hW => ⟨⟨v, S, rfl, hK, (show Rep D cA ad A S t.heap by rw [ht]; exact hR)⟩, hS.F ht⟩) hS.2.2 hd
theorem v_zret (X : Cx p R m c cc nL s args own cells slots D cA ad A) {v : Int32} {K : Int32 → St → Prop} (hr : meth.sig.returnType = some .boolean) (hlocks : meth.locks = false) (hd : decode cc pc = .ok (.ireturn, 1)) (hz : zb v) (hK : K v S) : VV p l e R s m args below meth c cells slots (MQ below (Qz D cA ad A K) args s cells slots A) D cA ad A nL S pc lv [.int v] := fun H locs ls hR hS hl => W.zret (hlocks := hlocks) X.1.1 X.1.2.1 hr (zb_narrow hz) (fun t ht hW => ⟨⟨v, S, rfl, ⟨hK, hz⟩, (show Rep D cA ad A S t.heap by rw [ht]; exact hR)⟩, hS.F ht⟩) hS.2.2 hd
theorem v_vret (X : Cx p R m c cc nL s args own cells slots D cA ad A) {K : St → Prop} (hr : meth.sig.returnType = none) (hlocks : meth.locks = false) (hd : decode cc pc = .ok (.return_, 1)) (hK : K S) : VV p l e R s m args below meth c cells slots (MQ below (Qv D cA ad A K) args s cells slots A) D cA ad A nL S pc lv [] := fun H locs ls hR hS hl => W.vret (hlocks := hlocks) X.1.1 X.1.2.1 hr (fun t ht hW => ⟨⟨S, rfl, hK, (show Rep D cA ad A S t.heap by rw [ht]; exact hR)⟩, hS.F ht⟩) hS.2.2 hd
end VEnds
/-- a contract out of a walk -/
theorem MT.ofV {l : Launch} {y : MethodName} {cY : ByteArray} {maxL : Nat} {ret : Option FieldType} {fr lo : Nat} {av : List Value} {D : va_G} {cA : Nat → ClassId} {ad : Nat → Nat → Nat} {A : Nat → Prop} {S : St} {Qc : Array Value → State → Outcome → State → Prop} (hy : plainName y.cls = true) (hlen : (lg_sl av).length ≤ maxL)
    (body : ∀ p e s m args below meth c, Cx p ({ frames := fr, cells := 0, slots := 0, locals := lo }) m c cY maxL s args y.cls 0 0 D cA ad A → meth.sig.returnType = ret → meth.locks = false → VV p l e ({ frames := fr, cells := 0, slots := 0, locals := lo }) s m args below meth c 0 0 (MQ below Qc args s 0 0 A) D cA ad A maxL S 0 (lv_args 0 av) []) : MT l y cY maxL ret fr lo av D cA ad A S Qc := by
  refine Met.ofW (cc := cY) (maxL := maxL) (ret := ret) hy rfl ?_
  intro p e s m args below meth c s₁ B hml hv
  obtain ⟨rfl, hRep, hWd⟩ := hv
  have hts := atoms_spec (ws := Cond.code y cY maxL ret :: wA) B.pre
  have hown : s.vm.findClass y.cls = some m.cls := findClass_of_methodNamed B.named
  have hl := lv_entry av (n := maxL) hlen
  rw [lg_entry_eq]
  exact body p e s m _ below meth c ⟨⟨B.exec, B.bytes, hml, hown, fun w hw => hts w (List.mem_cons_of_mem _ hw)⟩, hWd, Nat.le_refl _, Nat.le_refl _⟩ B.returns B.notSynchronized s.heap [] _ hRep va_S.rf hl
