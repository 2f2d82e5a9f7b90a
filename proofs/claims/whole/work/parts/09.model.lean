abbrev rm_X4_in : Room := { frames := 0, cells := 0, slots := 0, locals := 0 }
def w_X4_in (S : St) (x0 : Int64) (x2 : Int64) (x4 : Int64) (K : Int32 → Prop) : Prop := (((lg_cmp x0 x2) < 0) → (K 0)) ∧ ((¬ (lg_cmp x0 x2) < 0) → (((0 < (lg_cmp x0 x4)) → (K 0)) ∧ ((¬ 0 < (lg_cmp x0 x4)) → (K 1))))
set_option maxHeartbeats 4000000 in
set_option maxRecDepth 100000 in
theorem c_X4_in (l : Launch) {D : va_G} {cA : Nat → ClassId} {ad : Nat → Nat → Nat} {A : Nat → Prop} (S : St) (x0 : Int64) (x2 : Int64) (x4 : Int64) (K : Int32 → Prop) (h : w_X4_in S x0 x2 x4 K) : MT l yX4_in cX4_in 6 (some .boolean) 0 0 [.long x0, .long x2, .long x4] D cA ad A S (Qz D cA ad A (fun r S' => S' = S ∧ K r)) := by
  refine MT.ofV (by decide) (Nat.le_of_ble_eq_true rfl) ?_
  intro p e s m args below meth c X hr hlk
  have X : Cx p rm_X4_in m c cX4_in 6 s args RX4 0 0 D cA ad A := X
  refine v_lv [(0, .long x0), (2, .long x2), (4, .long x4)] rfl ?_
  unfold w_X4_in at h
  refine v_lload_n X dX4_in_0 rfl 0 rfl ?_
  refine v_lload_n X dX4_in_1 rfl 1 rfl ?_
  refine v_lcmp X dX4_in_2 ?_
  refine v_if_lt X 17 dX4_in_3 (by decide) (fun hc3 => ?_) (fun hc3 => ?_)
  · have h := h.1 hc3
    refine v_iconst (v := 0) X dX4_in_17 (by decide) ?_
    exact v_zret X hr hlk dX4_in_18 (by first | exact Or.inl rfl | exact Or.inr rfl) ⟨rfl, h⟩
  · have h := h.2 hc3
    refine v_lload_n X dX4_in_6 rfl 0 rfl ?_
    refine v_lload X dX4_in_7 2 rfl ?_
    refine v_lcmp X dX4_in_9 ?_
    refine v_if_gt X 17 dX4_in_10 (by decide) (fun hc10 => ?_) (fun hc10 => ?_)
    · have h := h.1 hc10
      refine v_iconst (v := 0) X dX4_in_17 (by decide) ?_
      exact v_zret X hr hlk dX4_in_18 (by first | exact Or.inl rfl | exact Or.inr rfl) ⟨rfl, h⟩
    · have h := h.2 hc10
      refine v_iconst (v := 1) X dX4_in_13 (by decide) ?_
      refine v_goto X 18 dX4_in_14 (by decide) ?_
      exact v_zret X hr hlk dX4_in_18 (by first | exact Or.inl rfl | exact Or.inr rfl) ⟨rfl, h⟩
abbrev rm_X4_keeps : Room := { frames := 0, cells := 0, slots := 0, locals := 0 }
def w_X4_keeps_50 (K : St → Prop) (S : St) (x1 : Int32) : Prop := ∃ I : Nat → St → Int32 → Prop, (∃ n : Nat, I n S x1) ∧ ∀ (n : Nat) (S : St) (x1 : Int32), I n S x1 → (((111 ≤ x1) → (∀ S89 : St, S89 = up3 S 10 2 0 ((S 10 2 0) + 1) → (K S89))) ∧ ((¬ 111 ≤ x1) → ((vp_in x1 111) ∧ ((vp_in ((111 * (S 10 2 0)) + x1) 555) ∧ (∀ S75 : St, S75 = up3 S 10 1 (((111 * (S 10 2 0)) + x1).toNatClampNeg) (S 10 0 x1.toNatClampNeg) → (∀ y76 : Int32, y76 = x1 + 1 → (∃ n' : Nat, n' < n ∧ I n' S75 y76)))))))
set_option maxHeartbeats 4000000 in
set_option maxRecDepth 100000 in
theorem t_X4_keeps_50 {p : Program} {l : Launch} {e : Env} {s : State} {m : MethodId} {args : Array Value} {below : List Frame} {meth : Method} {c : Code} {D : va_G} {cA : Nat → ClassId} {ad : Nat → Nat → Nat} {A : Nat → Prop} {K : St → Prop} {S : St} {x1 : Int32} (X : Cx p rm_X4_keeps m c cX4_keeps 2 s args RX4 0 0 D cA ad A) (hr : meth.sig.returnType = none) (hlk : meth.locks = false) (h : w_X4_keeps_50 K S x1) : VV p l e rm_X4_keeps s m args below meth c 0 0 (MQ below (Qv D cA ad A K) args s 0 0 A) D cA ad A 2 S 50 [(0, .ref (ad 10 0)), (1, .int x1)] [] := by
  obtain ⟨I, ⟨n, hI⟩, hbody⟩ := h
  suffices key : ∀ (n : Nat) (S : St) (x1 : Int32), I n S x1 → VV p l e rm_X4_keeps s m args below meth c 0 0 (MQ below (Qv D cA ad A K) args s 0 0 A) D cA ad A 2 S 50 [(0, .ref (ad 10 0)), (1, .int x1)] [] from key n S x1 hI
  clear hI
  intro n
  induction n using Nat.strongRecOn with
  | ind n ih =>
    intro S x1 hI
    have h := hbody n S x1 hI
    clear hI
    refine v_iload_n X dX4_keeps_50 rfl 1 rfl ?_
    refine v_bipush (v := 111) X dX4_keeps_51 (by decide) ?_
    refine v_icmp_ge X 82 dX4_keeps_53 (by decide) (fun hc53 => ?_) (fun hc53 => ?_)
    · have h := h.1 hc53
      refine v_aload_n X dX4_keeps_82 rfl 0 rfl ?_
      refine v_dup X dX4_keeps_83 rfl ?_
      refine v_get (v := .int (S 10 2 0)) X f_X4_56 oo10 kk10 dX4_keeps_84 rfl ?_
      refine v_iconst (v := 1) X dX4_keeps_87 (by decide) ?_
      refine v_iadd X dX4_keeps_88 ?_
      refine v_put (o := 10) X f_X4_56 oo10 kk10 rfl dX4_keeps_89 ?_
      refine v_st (fun S89 eS89 => ?_)
      have h := h S89 eS89
      exact v_vret X hr hlk dX4_keeps_92 h
    · have h := h.2 hc53
      refine v_aload_n X dX4_keeps_56 rfl 0 rfl ?_
      refine v_get (v := .ref (ad 10 2)) X f_X4_13 oo10 kk10 dX4_keeps_57 rfl ?_
      refine v_bipush (v := 111) X dX4_keeps_60 (by decide) ?_
      refine v_aload_n X dX4_keeps_62 rfl 0 rfl ?_
      refine v_get (v := .int (S 10 2 0)) X f_X4_56 oo10 kk10 dX4_keeps_63 rfl ?_
      refine v_imul X dX4_keeps_66 ?_
      refine v_iload_n X dX4_keeps_67 rfl 1 rfl ?_
      refine v_iadd X dX4_keeps_68 ?_
      refine v_aload_n X dX4_keeps_69 rfl 0 rfl ?_
      refine v_get (v := .ref (ad 10 1)) X f_X4_7 oo10 kk10 dX4_keeps_70 rfl ?_
      refine v_iload_n X dX4_keeps_73 rfl 1 rfl ?_
      obtain ⟨hb, h⟩ := h
      refine v_iald (o := 10) (k := 0) (n := 111) X oo10 kk10 rfl rfl rfl hb dX4_keeps_74 ?_
      obtain ⟨hb, h⟩ := h
      refine v_iast (o := 10) (k := 1) (n := 555) X oo10 kk10 rfl rfl rfl hb dX4_keeps_75 ?_
      refine v_st (fun S75 eS75 => ?_)
      have h := h S75 eS75
      obtain ⟨y76, ey76⟩ : ∃ z : Int32, z = x1 + 1 := ⟨_, rfl⟩
      have h := h y76 ey76
      refine v_iinc (v := y76) X [(1, .int y76), (0, .ref (ad 10 0))] dX4_keeps_76 1 rfl (by rw [ey76]; rfl) (by decide) rfl ?_
      refine v_goto X 50 dX4_keeps_79 (by decide) ?_
      obtain ⟨n', hlt, h⟩ := h
      refine v_sub [1, 0] rfl ?_
      exact ih n' hlt _ _ h
def w_X4_keeps_10 (K : St → Prop) (S : St) (x1 : Int32) : Prop := ∃ I : Nat → St → Int32 → Prop, (∃ n : Nat, I n S x1) ∧ ∀ (n : Nat) (S : St) (x1 : Int32), I n S x1 → (((444 ≤ x1) → (∀ S45 : St, S45 = up3 S 10 2 0 ((S 10 2 0) - 1) → (w_X4_keeps_50 K S45 0))) ∧ ((¬ 444 ≤ x1) → ((vp_in (111 + x1) 555) ∧ ((vp_in x1 555) ∧ (∀ S31 : St, S31 = up3 S 10 1 x1.toNatClampNeg (S 10 1 (111 + x1).toNatClampNeg) → (∀ y32 : Int32, y32 = x1 + 1 → (∃ n' : Nat, n' < n ∧ I n' S31 y32)))))))
set_option maxHeartbeats 4000000 in
set_option maxRecDepth 100000 in
theorem t_X4_keeps_10 {p : Program} {l : Launch} {e : Env} {s : State} {m : MethodId} {args : Array Value} {below : List Frame} {meth : Method} {c : Code} {D : va_G} {cA : Nat → ClassId} {ad : Nat → Nat → Nat} {A : Nat → Prop} {K : St → Prop} {S : St} {x1 : Int32} (X : Cx p rm_X4_keeps m c cX4_keeps 2 s args RX4 0 0 D cA ad A) (hr : meth.sig.returnType = none) (hlk : meth.locks = false) (h : w_X4_keeps_10 K S x1) : VV p l e rm_X4_keeps s m args below meth c 0 0 (MQ below (Qv D cA ad A K) args s 0 0 A) D cA ad A 2 S 10 [(0, .ref (ad 10 0)), (1, .int x1)] [] := by
  obtain ⟨I, ⟨n, hI⟩, hbody⟩ := h
  suffices key : ∀ (n : Nat) (S : St) (x1 : Int32), I n S x1 → VV p l e rm_X4_keeps s m args below meth c 0 0 (MQ below (Qv D cA ad A K) args s 0 0 A) D cA ad A 2 S 10 [(0, .ref (ad 10 0)), (1, .int x1)] [] from key n S x1 hI
  clear hI
  intro n
  induction n using Nat.strongRecOn with
  | ind n ih =>
    intro S x1 hI
    have h := hbody n S x1 hI
    clear hI
    refine v_iload_n X dX4_keeps_10 rfl 1 rfl ?_
    refine v_sipush (v := 444) X dX4_keeps_11 (by decide) ?_
    refine v_icmp_ge X 38 dX4_keeps_14 (by decide) (fun hc14 => ?_) (fun hc14 => ?_)
    · have h := h.1 hc14
      refine v_aload_n X dX4_keeps_38 rfl 0 rfl ?_
      refine v_dup X dX4_keeps_39 rfl ?_
      refine v_get (v := .int (S 10 2 0)) X f_X4_56 oo10 kk10 dX4_keeps_40 rfl ?_
      refine v_iconst (v := 1) X dX4_keeps_43 (by decide) ?_
      refine v_isub X dX4_keeps_44 ?_
      refine v_put (o := 10) X f_X4_56 oo10 kk10 rfl dX4_keeps_45 ?_
      refine v_st (fun S45 eS45 => ?_)
      have h := h S45 eS45
      refine v_iconst (v := 0) X dX4_keeps_48 (by decide) ?_
      refine v_istore_n X [(1, .int 0), (0, .ref (ad 10 0))] dX4_keeps_49 rfl (by decide) rfl ?_
      refine v_sub [1, 0] rfl ?_
      exact t_X4_keeps_50 X hr hlk h
    · have h := h.2 hc14
      refine v_aload_n X dX4_keeps_17 rfl 0 rfl ?_
      refine v_get (v := .ref (ad 10 2)) X f_X4_13 oo10 kk10 dX4_keeps_18 rfl ?_
      refine v_iload_n X dX4_keeps_21 rfl 1 rfl ?_
      refine v_aload_n X dX4_keeps_22 rfl 0 rfl ?_
      refine v_get (v := .ref (ad 10 2)) X f_X4_13 oo10 kk10 dX4_keeps_23 rfl ?_
      refine v_bipush (v := 111) X dX4_keeps_26 (by decide) ?_
      refine v_iload_n X dX4_keeps_28 rfl 1 rfl ?_
      refine v_iadd X dX4_keeps_29 ?_
      obtain ⟨hb, h⟩ := h
      refine v_iald (o := 10) (k := 1) (n := 555) X oo10 kk10 rfl rfl rfl hb dX4_keeps_30 ?_
      obtain ⟨hb, h⟩ := h
      refine v_iast (o := 10) (k := 1) (n := 555) X oo10 kk10 rfl rfl rfl hb dX4_keeps_31 ?_
      refine v_st (fun S31 eS31 => ?_)
      have h := h S31 eS31
      obtain ⟨y32, ey32⟩ : ∃ z : Int32, z = x1 + 1 := ⟨_, rfl⟩
      have h := h y32 ey32
      refine v_iinc (v := y32) X [(1, .int y32), (0, .ref (ad 10 0))] dX4_keeps_32 1 rfl (by rw [ey32]; rfl) (by decide) rfl ?_
      refine v_goto X 10 dX4_keeps_35 (by decide) ?_
      obtain ⟨n', hlt, h⟩ := h
      refine v_sub [1, 0] rfl ?_
      exact ih n' hlt _ _ h
def w_X4_keeps (S : St) (K : St → Prop) : Prop := ((¬ (S 10 2 0) = 5) → (w_X4_keeps_50 K S 0)) ∧ (((S 10 2 0) = 5) → (w_X4_keeps_10 K S 0))
set_option maxHeartbeats 4000000 in
set_option maxRecDepth 100000 in
theorem c_X4_keeps (l : Launch) {D : va_G} {cA : Nat → ClassId} {ad : Nat → Nat → Nat} {A : Nat → Prop} (S : St) (K : St → Prop) (h : w_X4_keeps S K) : MT l yX4_keeps cX4_keeps 2 none 0 0 [.ref (ad 10 0)] D cA ad A S (Qv D cA ad A K) := by
  refine MT.ofV (by decide) (Nat.le_of_ble_eq_true rfl) ?_
  intro p e s m args below meth c X hr hlk
  have X : Cx p rm_X4_keeps m c cX4_keeps 2 s args RX4 0 0 D cA ad A := X
  refine v_lv [(0, .ref (ad 10 0))] rfl ?_
  unfold w_X4_keeps at h
  refine v_aload_n X dX4_keeps_0 rfl 0 rfl ?_
  refine v_get (v := .int (S 10 2 0)) X f_X4_56 oo10 kk10 dX4_keeps_1 rfl ?_
  refine v_iconst (v := 5) X dX4_keeps_4 (by decide) ?_
  refine v_icmp_ne X 48 dX4_keeps_5 (by decide) (fun hc5 => ?_) (fun hc5 => ?_)
  · have h := h.1 hc5
    refine v_iconst (v := 0) X dX4_keeps_48 (by decide) ?_
    refine v_istore_n X [(1, .int 0), (0, .ref (ad 10 0))] dX4_keeps_49 rfl (by decide) rfl ?_
    refine v_sub [1, 0] rfl ?_
    exact t_X4_keeps_50 X hr hlk h
  · have h := h.2 hc5
    refine v_iconst (v := 0) X dX4_keeps_8 (by decide) ?_
    refine v_istore_n X [(1, .int 0), (0, .ref (ad 10 0))] dX4_keeps_9 rfl (by decide) rfl ?_
    refine v_sub [1, 0] rfl ?_
    exact t_X4_keeps_10 X hr hlk h
abbrev rm_X4_undo : Room := { frames := 0, cells := 0, slots := 0, locals := 0 }
def w_X4_undo_22 (K : Int32 → St → Prop) (S : St) (x1 : Int32) : Prop := ∃ I : Nat → St → Int32 → Prop, (∃ n : Nat, I n S x1) ∧ ∀ (n : Nat) (S : St) (x1 : Int32), I n S x1 → (((111 ≤ x1) → (K (S 10 2 0) S)) ∧ ((¬ 111 ≤ x1) → ((vp_in ((111 * (S 10 2 0)) + x1) 555) ∧ ((vp_in x1 111) ∧ (∀ S47 : St, S47 = up3 S 10 0 x1.toNatClampNeg (S 10 1 ((111 * (S 10 2 0)) + x1).toNatClampNeg) → (∀ y48 : Int32, y48 = x1 + 1 → (∃ n' : Nat, n' < n ∧ I n' S47 y48)))))))
set_option maxHeartbeats 4000000 in
set_option maxRecDepth 100000 in
theorem t_X4_undo_22 {p : Program} {l : Launch} {e : Env} {s : State} {m : MethodId} {args : Array Value} {below : List Frame} {meth : Method} {c : Code} {D : va_G} {cA : Nat → ClassId} {ad : Nat → Nat → Nat} {A : Nat → Prop} {K : Int32 → St → Prop} {S : St} {x1 : Int32} (X : Cx p rm_X4_undo m c cX4_undo 2 s args RX4 0 0 D cA ad A) (hr : meth.sig.returnType = (some .int)) (hlk : meth.locks = false) (h : w_X4_undo_22 K S x1) : VV p l e rm_X4_undo s m args below meth c 0 0 (MQ below (Qi D cA ad A K) args s 0 0 A) D cA ad A 2 S 22 [(0, .ref (ad 10 0)), (1, .int x1)] [] := by
  obtain ⟨I, ⟨n, hI⟩, hbody⟩ := h
  suffices key : ∀ (n : Nat) (S : St) (x1 : Int32), I n S x1 → VV p l e rm_X4_undo s m args below meth c 0 0 (MQ below (Qi D cA ad A K) args s 0 0 A) D cA ad A 2 S 22 [(0, .ref (ad 10 0)), (1, .int x1)] [] from key n S x1 hI
  clear hI
  intro n
  induction n using Nat.strongRecOn with
  | ind n ih =>
    intro S x1 hI
    have h := hbody n S x1 hI
    clear hI
    refine v_iload_n X dX4_undo_22 rfl 1 rfl ?_
    refine v_bipush (v := 111) X dX4_undo_23 (by decide) ?_
    refine v_icmp_ge X 54 dX4_undo_25 (by decide) (fun hc25 => ?_) (fun hc25 => ?_)
    · have h := h.1 hc25
      refine v_aload_n X dX4_undo_54 rfl 0 rfl ?_
      refine v_get (v := .int (S 10 2 0)) X f_X4_56 oo10 kk10 dX4_undo_55 rfl ?_
      exact v_iret X hr hlk dX4_undo_58 h
    · have h := h.2 hc25
      refine v_aload_n X dX4_undo_28 rfl 0 rfl ?_
      refine v_get (v := .ref (ad 10 1)) X f_X4_7 oo10 kk10 dX4_undo_29 rfl ?_
      refine v_iload_n X dX4_undo_32 rfl 1 rfl ?_
      refine v_aload_n X dX4_undo_33 rfl 0 rfl ?_
      refine v_get (v := .ref (ad 10 2)) X f_X4_13 oo10 kk10 dX4_undo_34 rfl ?_
      refine v_bipush (v := 111) X dX4_undo_37 (by decide) ?_
      refine v_aload_n X dX4_undo_39 rfl 0 rfl ?_
      refine v_get (v := .int (S 10 2 0)) X f_X4_56 oo10 kk10 dX4_undo_40 rfl ?_
      refine v_imul X dX4_undo_43 ?_
      refine v_iload_n X dX4_undo_44 rfl 1 rfl ?_
      refine v_iadd X dX4_undo_45 ?_
      obtain ⟨hb, h⟩ := h
      refine v_iald (o := 10) (k := 1) (n := 555) X oo10 kk10 rfl rfl rfl hb dX4_undo_46 ?_
      obtain ⟨hb, h⟩ := h
      refine v_iast (o := 10) (k := 0) (n := 111) X oo10 kk10 rfl rfl rfl hb dX4_undo_47 ?_
      refine v_st (fun S47 eS47 => ?_)
      have h := h S47 eS47
      obtain ⟨y48, ey48⟩ : ∃ z : Int32, z = x1 + 1 := ⟨_, rfl⟩
      have h := h y48 ey48
      refine v_iinc (v := y48) X [(1, .int y48), (0, .ref (ad 10 0))] dX4_undo_48 1 rfl (by rw [ey48]; rfl) (by decide) rfl ?_
      refine v_goto X 22 dX4_undo_51 (by decide) ?_
      obtain ⟨n', hlt, h⟩ := h
      refine v_sub [1, 0] rfl ?_
      exact ih n' hlt _ _ h
def w_X4_undo (S : St) (K : Int32 → St → Prop) : Prop := ((¬ (S 10 2 0) = 0) → (∀ S17 : St, S17 = up3 S 10 2 0 ((S 10 2 0) - 1) → (w_X4_undo_22 K S17 0))) ∧ (((S 10 2 0) = 0) → (K (-2) S))
set_option maxHeartbeats 4000000 in
set_option maxRecDepth 100000 in
theorem c_X4_undo (l : Launch) {D : va_G} {cA : Nat → ClassId} {ad : Nat → Nat → Nat} {A : Nat → Prop} (S : St) (K : Int32 → St → Prop) (h : w_X4_undo S K) : MT l yX4_undo cX4_undo 2 (some .int) 0 0 [.ref (ad 10 0)] D cA ad A S (Qi D cA ad A K) := by
  refine MT.ofV (by decide) (Nat.le_of_ble_eq_true rfl) ?_
  intro p e s m args below meth c X hr hlk
  have X : Cx p rm_X4_undo m c cX4_undo 2 s args RX4 0 0 D cA ad A := X
  refine v_lv [(0, .ref (ad 10 0))] rfl ?_
  unfold w_X4_undo at h
  refine v_aload_n X dX4_undo_0 rfl 0 rfl ?_
  refine v_get (v := .int (S 10 2 0)) X f_X4_56 oo10 kk10 dX4_undo_1 rfl ?_
  refine v_if_ne X 10 dX4_undo_4 (by decide) (fun hc4 => ?_) (fun hc4 => ?_)
  · have h := h.1 hc4
    refine v_aload_n X dX4_undo_10 rfl 0 rfl ?_
    refine v_dup X dX4_undo_11 rfl ?_
    refine v_get (v := .int (S 10 2 0)) X f_X4_56 oo10 kk10 dX4_undo_12 rfl ?_
    refine v_iconst (v := 1) X dX4_undo_15 (by decide) ?_
    refine v_isub X dX4_undo_16 ?_
    refine v_put (o := 10) X f_X4_56 oo10 kk10 rfl dX4_undo_17 ?_
    refine v_st (fun S17 eS17 => ?_)
    have h := h S17 eS17
    refine v_iconst (v := 0) X dX4_undo_20 (by decide) ?_
    refine v_istore_n X [(1, .int 0), (0, .ref (ad 10 0))] dX4_undo_21 rfl (by decide) rfl ?_
    refine v_sub [1, 0] rfl ?_
    exact t_X4_undo_22 X hr hlk h
  · have h := h.2 hc4
    refine v_bipush (v := (-2)) X dX4_undo_7 (by decide) ?_
    exact v_iret X hr hlk dX4_undo_9 h
abbrev rm_X4_isFilm : Room := { frames := 1, cells := 0, slots := 0, locals := 25 }
def w_X4_isFilm (S : St) (x0 : Int32) (K : Int32 → Prop) : Prop := w_X4_in S (Int32.toInt64 x0) 0 3 (fun r6 => K r6)
set_option maxHeartbeats 4000000 in
set_option maxRecDepth 100000 in
theorem c_X4_isFilm (l : Launch) {D : va_G} {cA : Nat → ClassId} {ad : Nat → Nat → Nat} {A : Nat → Prop} (S : St) (x0 : Int32) (K : Int32 → Prop) (h : w_X4_isFilm S x0 K) : MT l yX4_isFilm cX4_isFilm 1 (some .boolean) 1 25 [.int x0] D cA ad A S (Qz D cA ad A (fun r S' => S' = S ∧ K r)) := by
  refine MT.ofV (by decide) (Nat.le_of_ble_eq_true rfl) ?_
  intro p e s m args below meth c X hr hlk
  have X : Cx p rm_X4_isFilm m c cX4_isFilm 1 s args RX4 0 0 D cA ad A := X
  refine v_lv [(0, .int x0)] rfl ?_
  unfold w_X4_isFilm at h
  refine v_iload_n X dX4_isFilm_0 rfl 0 rfl ?_
  refine v_i2l X dX4_isFilm_1 ?_
  refine v_lconst (v := 0) X dX4_isFilm_2 (by decide) ?_
  refine v_ldc2 (v := 3) X dX4_isFilm_3 k_X4_60 ?_
  refine v_callSz (As := [.long (Int32.toInt64 x0), .long 0, .long 3]) (rest := []) X (c_X4_in l S (Int32.toInt64 x0) 0 3 _ h) mw_X4_in ms_X4_62 ⟨Nat.le_of_ble_eq_true rfl, Nat.le_of_ble_eq_true rfl⟩ rfl (Nat.le_of_ble_eq_true rfl) rfl dX4_isFilm_6 (fun r6 S' hq hz6 => ?_)
  obtain ⟨hq1, h⟩ := hq
  rw [hq1]
  clear hq1
  exact v_zret X hr hlk dX4_isFilm_9 hz6 ⟨rfl, h⟩
abbrev rm_X4_isHouse : Room := { frames := 1, cells := 0, slots := 0, locals := 25 }
def w_X4_isHouse (S : St) (x0 : Int32) (K : Int32 → Prop) : Prop := w_X4_in S (Int32.toInt64 x0) 0 1 (fun r4 => K r4)
set_option maxHeartbeats 4000000 in
set_option maxRecDepth 100000 in
theorem c_X4_isHouse (l : Launch) {D : va_G} {cA : Nat → ClassId} {ad : Nat → Nat → Nat} {A : Nat → Prop} (S : St) (x0 : Int32) (K : Int32 → Prop) (h : w_X4_isHouse S x0 K) : MT l yX4_isHouse cX4_isHouse 1 (some .boolean) 1 25 [.int x0] D cA ad A S (Qz D cA ad A (fun r S' => S' = S ∧ K r)) := by
  refine MT.ofV (by decide) (Nat.le_of_ble_eq_true rfl) ?_
  intro p e s m args below meth c X hr hlk
  have X : Cx p rm_X4_isHouse m c cX4_isHouse 1 s args RX4 0 0 D cA ad A := X
  refine v_lv [(0, .int x0)] rfl ?_
  unfold w_X4_isHouse at h
  refine v_iload_n X dX4_isHouse_0 rfl 0 rfl ?_
  refine v_i2l X dX4_isHouse_1 ?_
  refine v_lconst (v := 0) X dX4_isHouse_2 (by decide) ?_
  refine v_lconst (v := 1) X dX4_isHouse_3 (by decide) ?_
  refine v_callSz (As := [.long (Int32.toInt64 x0), .long 0, .long 1]) (rest := []) X (c_X4_in l S (Int32.toInt64 x0) 0 1 _ h) mw_X4_in ms_X4_62 ⟨Nat.le_of_ble_eq_true rfl, Nat.le_of_ble_eq_true rfl⟩ rfl (Nat.le_of_ble_eq_true rfl) rfl dX4_isHouse_4 (fun r4 S' hq hz4 => ?_)
  obtain ⟨hq1, h⟩ := hq
  rw [hq1]
  clear hq1
  exact v_zret X hr hlk dX4_isHouse_7 hz4 ⟨rfl, h⟩
abbrev rm_X4_isMachine : Room := { frames := 1, cells := 0, slots := 0, locals := 25 }
def w_X4_isMachine (S : St) (x1 : Int32) (K : Int32 → Prop) : Prop := w_X4_in S (Int32.toInt64 x1) 0 (Int32.toInt64 ((S 10 0 56) - 1)) (fun r13 => K r13)
set_option maxHeartbeats 4000000 in
set_option maxRecDepth 100000 in
theorem c_X4_isMachine (l : Launch) {D : va_G} {cA : Nat → ClassId} {ad : Nat → Nat → Nat} {A : Nat → Prop} (S : St) (x1 : Int32) (K : Int32 → Prop) (h : w_X4_isMachine S x1 K) : MT l yX4_isMachine cX4_isMachine 2 (some .boolean) 1 25 [.ref (ad 10 0), .int x1] D cA ad A S (Qz D cA ad A (fun r S' => S' = S ∧ K r)) := by
  refine MT.ofV (by decide) (Nat.le_of_ble_eq_true rfl) ?_
  intro p e s m args below meth c X hr hlk
  have X : Cx p rm_X4_isMachine m c cX4_isMachine 2 s args RX4 0 0 D cA ad A := X
  refine v_lv [(0, .ref (ad 10 0)), (1, .int x1)] rfl ?_
  unfold w_X4_isMachine at h
  refine v_iload_n X dX4_isMachine_0 rfl 1 rfl ?_
  refine v_i2l X dX4_isMachine_1 ?_
  refine v_lconst (v := 0) X dX4_isMachine_2 (by decide) ?_
  refine v_aload_n X dX4_isMachine_3 rfl 0 rfl ?_
  refine v_get (v := .ref (ad 10 1)) X f_X4_7 oo10 kk10 dX4_isMachine_4 rfl ?_
  refine v_bipush (v := 56) X dX4_isMachine_7 (by decide) ?_
  refine v_iald (o := 10) (k := 0) (n := 111) X oo10 kk10 rfl rfl (j := 56) (by decide) (by unfold vp_in; decide) dX4_isMachine_9 ?_
  refine v_iconst (v := 1) X dX4_isMachine_10 (by decide) ?_
  refine v_isub X dX4_isMachine_11 ?_
  refine v_i2l X dX4_isMachine_12 ?_
  refine v_callSz (As := [.long (Int32.toInt64 x1), .long 0, .long (Int32.toInt64 ((S 10 0 56) - 1))]) (rest := []) X (c_X4_in l S (Int32.toInt64 x1) 0 (Int32.toInt64 ((S 10 0 56) - 1)) _ h) mw_X4_in ms_X4_62 ⟨Nat.le_of_ble_eq_true rfl, Nat.le_of_ble_eq_true rfl⟩ rfl (Nat.le_of_ble_eq_true rfl) rfl dX4_isMachine_13 (fun r13 S' hq hz13 => ?_)
  obtain ⟨hq1, h⟩ := hq
  rw [hq1]
  clear hq1
  exact v_zret X hr hlk dX4_isMachine_16 hz13 ⟨rfl, h⟩
abbrev rm_X4_isShow : Room := { frames := 1, cells := 0, slots := 0, locals := 25 }
def w_X4_isShow (S : St) (x1 : Int32) (K : Int32 → Prop) : Prop := w_X4_in S (Int32.toInt64 x1) 0 (Int32.toInt64 ((S 10 0 67) - 1)) (fun r13 => K r13)
set_option maxHeartbeats 4000000 in
set_option maxRecDepth 100000 in
theorem c_X4_isShow (l : Launch) {D : va_G} {cA : Nat → ClassId} {ad : Nat → Nat → Nat} {A : Nat → Prop} (S : St) (x1 : Int32) (K : Int32 → Prop) (h : w_X4_isShow S x1 K) : MT l yX4_isShow cX4_isShow 2 (some .boolean) 1 25 [.ref (ad 10 0), .int x1] D cA ad A S (Qz D cA ad A (fun r S' => S' = S ∧ K r)) := by
  refine MT.ofV (by decide) (Nat.le_of_ble_eq_true rfl) ?_
  intro p e s m args below meth c X hr hlk
  have X : Cx p rm_X4_isShow m c cX4_isShow 2 s args RX4 0 0 D cA ad A := X
  refine v_lv [(0, .ref (ad 10 0)), (1, .int x1)] rfl ?_
  unfold w_X4_isShow at h
  refine v_iload_n X dX4_isShow_0 rfl 1 rfl ?_
  refine v_i2l X dX4_isShow_1 ?_
  refine v_lconst (v := 0) X dX4_isShow_2 (by decide) ?_
  refine v_aload_n X dX4_isShow_3 rfl 0 rfl ?_
  refine v_get (v := .ref (ad 10 1)) X f_X4_7 oo10 kk10 dX4_isShow_4 rfl ?_
  refine v_bipush (v := 67) X dX4_isShow_7 (by decide) ?_
  refine v_iald (o := 10) (k := 0) (n := 111) X oo10 kk10 rfl rfl (j := 67) (by decide) (by unfold vp_in; decide) dX4_isShow_9 ?_
  refine v_iconst (v := 1) X dX4_isShow_10 (by decide) ?_
  refine v_isub X dX4_isShow_11 ?_
  refine v_i2l X dX4_isShow_12 ?_
  refine v_callSz (As := [.long (Int32.toInt64 x1), .long 0, .long (Int32.toInt64 ((S 10 0 67) - 1))]) (rest := []) X (c_X4_in l S (Int32.toInt64 x1) 0 (Int32.toInt64 ((S 10 0 67) - 1)) _ h) mw_X4_in ms_X4_62 ⟨Nat.le_of_ble_eq_true rfl, Nat.le_of_ble_eq_true rfl⟩ rfl (Nat.le_of_ble_eq_true rfl) rfl dX4_isShow_13 (fun r13 S' hq hz13 => ?_)
  obtain ⟨hq1, h⟩ := hq
  rw [hq1]
  clear hq1
  exact v_zret X hr hlk dX4_isShow_16 hz13 ⟨rfl, h⟩
abbrev rm_X4_isStart : Room := { frames := 1, cells := 0, slots := 0, locals := 25 }
def w_X4_isStart (S : St) (x0 : Int32) (K : Int32 → Prop) : Prop := w_X4_in S (Int32.toInt64 x0) 0 1439 (fun r6 => K r6)
set_option maxHeartbeats 4000000 in
set_option maxRecDepth 100000 in
theorem c_X4_isStart (l : Launch) {D : va_G} {cA : Nat → ClassId} {ad : Nat → Nat → Nat} {A : Nat → Prop} (S : St) (x0 : Int32) (K : Int32 → Prop) (h : w_X4_isStart S x0 K) : MT l yX4_isStart cX4_isStart 1 (some .boolean) 1 25 [.int x0] D cA ad A S (Qz D cA ad A (fun r S' => S' = S ∧ K r)) := by
  refine MT.ofV (by decide) (Nat.le_of_ble_eq_true rfl) ?_
  intro p e s m args below meth c X hr hlk
  have X : Cx p rm_X4_isStart m c cX4_isStart 1 s args RX4 0 0 D cA ad A := X
  refine v_lv [(0, .int x0)] rfl ?_
  unfold w_X4_isStart at h
  refine v_iload_n X dX4_isStart_0 rfl 0 rfl ?_
  refine v_i2l X dX4_isStart_1 ?_
  refine v_lconst (v := 0) X dX4_isStart_2 (by decide) ?_
  refine v_ldc2 (v := 1439) X dX4_isStart_3 k_X4_66 ?_
  refine v_callSz (As := [.long (Int32.toInt64 x0), .long 0, .long 1439]) (rest := []) X (c_X4_in l S (Int32.toInt64 x0) 0 1439 _ h) mw_X4_in ms_X4_62 ⟨Nat.le_of_ble_eq_true rfl, Nat.le_of_ble_eq_true rfl⟩ rfl (Nat.le_of_ble_eq_true rfl) rfl dX4_isStart_6 (fun r6 S' hq hz6 => ?_)
  obtain ⟨hq1, h⟩ := hq
  rw [hq1]
  clear hq1
  exact v_zret X hr hlk dX4_isStart_9 hz6 ⟨rfl, h⟩
abbrev rm_X4_addReel : Room := { frames := 2, cells := 0, slots := 0, locals := 45 }
def w_X4_addReel (S : St) (x1 : Int32) (x2 : Int32) (x3 : Int32) (K : Int32 → St → Prop) : Prop := w_X4_isFilm S x1 (fun r1 => ((r1 = 0) → (K (-1) S)) ∧ ((¬ r1 = 0) → (w_X4_in S (Int32.toInt64 x2) 1 30 (fun r13 => ((r13 = 0) → (K (-1) S)) ∧ ((¬ r13 = 0) → (w_X4_in S (Int32.toInt64 x3) 0 2 (fun r25 => ((¬ r25 = 0) → ((vp_in (0 + x1) 111) ∧ (((¬ (S 10 0 (0 + x1).toNatClampNeg) = 6) → (w_X4_keeps S (fun S50 => (vp_in (0 + x1) 111) ∧ (∀ y66 : Int32, y66 = ((6 * x1) + (S50 10 0 (0 + x1).toNatClampNeg)) → ((vp_in (4 + y66) 111) ∧ (∀ S77 : St, S77 = up3 S50 10 0 ((4 + y66).toNatClampNeg) x2 → ((vp_in (28 + y66) 111) ∧ (∀ S88 : St, S88 = up3 S77 10 0 ((28 + y66).toNatClampNeg) x3 → ((vp_in (0 + x1) 111) ∧ ((vp_in (0 + x1) 111) ∧ (∀ S100 : St, S100 = up3 S88 10 0 ((0 + x1).toNatClampNeg) ((S88 10 0 (0 + x1).toNatClampNeg) + 1) → ((vp_in (0 + x1) 111) ∧ (K (S100 10 0 (0 + x1).toNatClampNeg) S100))))))))))))) ∧ (((S 10 0 (0 + x1).toNatClampNeg) = 6) → (K (-3) S))))) ∧ ((r25 = 0) → (K (-1) S)))))))))
set_option maxHeartbeats 4000000 in
set_option maxRecDepth 100000 in
theorem c_X4_addReel (l : Launch) {D : va_G} {cA : Nat → ClassId} {ad : Nat → Nat → Nat} {A : Nat → Prop} (S : St) (x1 : Int32) (x2 : Int32) (x3 : Int32) (K : Int32 → St → Prop) (h : w_X4_addReel S x1 x2 x3 K) : MT l yX4_addReel cX4_addReel 5 (some .int) 2 45 [.ref (ad 10 0), .int x1, .int x2, .int x3] D cA ad A S (Qi D cA ad A K) := by
  refine MT.ofV (by decide) (Nat.le_of_ble_eq_true rfl) ?_
  intro p e s m args below meth c X hr hlk
  have X : Cx p rm_X4_addReel m c cX4_addReel 5 s args RX4 0 0 D cA ad A := X
  refine v_lv [(0, .ref (ad 10 0)), (1, .int x1), (2, .int x2), (3, .int x3)] rfl ?_
  unfold w_X4_addReel at h
  refine v_iload_n X dX4_addReel_0 rfl 1 rfl ?_
  refine v_callSz (As := [.int x1]) (rest := []) X (c_X4_isFilm l S x1 _ h) mw_X4_isFilm ms_X4_68 ⟨Nat.le_of_ble_eq_true rfl, Nat.le_of_ble_eq_true rfl⟩ rfl (Nat.le_of_ble_eq_true rfl) rfl dX4_addReel_1 (fun r1 S' hq hz1 => ?_)
  obtain ⟨hq1, h⟩ := hq
  rw [hq1]
  clear hq1
  refine v_if_eq X 31 dX4_addReel_4 (by decide) (fun hc4 => ?_) (fun hc4 => ?_)
  · have h := h.1 hc4
    refine v_iconst (v := (-1)) X dX4_addReel_31 (by decide) ?_
    exact v_iret X hr hlk dX4_addReel_32 h
  · have h := h.2 hc4
    refine v_iload_n X dX4_addReel_7 rfl 2 rfl ?_
    refine v_i2l X dX4_addReel_8 ?_
    refine v_lconst (v := 1) X dX4_addReel_9 (by decide) ?_
    refine v_ldc2 (v := 30) X dX4_addReel_10 k_X4_72 ?_
    refine v_callSz (As := [.long (Int32.toInt64 x2), .long 1, .long 30]) (rest := []) X (c_X4_in l S (Int32.toInt64 x2) 1 30 _ h) mw_X4_in ms_X4_62 ⟨Nat.le_of_ble_eq_true rfl, Nat.le_of_ble_eq_true rfl⟩ rfl (Nat.le_of_ble_eq_true rfl) rfl dX4_addReel_13 (fun r13 S' hq hz13 => ?_)
    obtain ⟨hq1, h⟩ := hq
    rw [hq1]
    clear hq1
    refine v_if_eq X 31 dX4_addReel_16 (by decide) (fun hc16 => ?_) (fun hc16 => ?_)
    · have h := h.1 hc16
      refine v_iconst (v := (-1)) X dX4_addReel_31 (by decide) ?_
      exact v_iret X hr hlk dX4_addReel_32 h
    · have h := h.2 hc16
      refine v_iload_n X dX4_addReel_19 rfl 3 rfl ?_
      refine v_i2l X dX4_addReel_20 ?_
      refine v_lconst (v := 0) X dX4_addReel_21 (by decide) ?_
      refine v_ldc2 (v := 2) X dX4_addReel_22 k_X4_74 ?_
      refine v_callSz (As := [.long (Int32.toInt64 x3), .long 0, .long 2]) (rest := []) X (c_X4_in l S (Int32.toInt64 x3) 0 2 _ h) mw_X4_in ms_X4_62 ⟨Nat.le_of_ble_eq_true rfl, Nat.le_of_ble_eq_true rfl⟩ rfl (Nat.le_of_ble_eq_true rfl) rfl dX4_addReel_25 (fun r25 S' hq hz25 => ?_)
      obtain ⟨hq1, h⟩ := hq
      rw [hq1]
      clear hq1
      refine v_if_ne X 33 dX4_addReel_28 (by decide) (fun hc28 => ?_) (fun hc28 => ?_)
      · have h := h.1 hc28
        refine v_aload_n X dX4_addReel_33 rfl 0 rfl ?_
        refine v_get (v := .ref (ad 10 1)) X f_X4_7 oo10 kk10 dX4_addReel_34 rfl ?_
        refine v_iconst (v := 0) X dX4_addReel_37 (by decide) ?_
        refine v_iload_n X dX4_addReel_38 rfl 1 rfl ?_
        refine v_iadd X dX4_addReel_39 ?_
        obtain ⟨hb, h⟩ := h
        refine v_iald (o := 10) (k := 0) (n := 111) X oo10 kk10 rfl rfl rfl hb dX4_addReel_40 ?_
        refine v_bipush (v := 6) X dX4_addReel_41 (by decide) ?_
        refine v_icmp_ne X 49 dX4_addReel_43 (by decide) (fun hc43 => ?_) (fun hc43 => ?_)
        · have h := h.1 hc43
          refine v_aload_n X dX4_addReel_49 rfl 0 rfl ?_
          refine v_callVv (o := 10) (ci := 4) (As := []) (rest := []) X (c_X4_keeps l S _ h) mw_X4_keeps mv_X4_76 oo10 kk10 ⟨Nat.le_of_ble_eq_true rfl, Nat.le_of_ble_eq_true rfl⟩ rfl (Nat.le_of_ble_eq_true rfl) rfl dX4_addReel_50 (fun S50 h => ?_)
          refine v_bipush (v := 6) X dX4_addReel_53 (by decide) ?_
          refine v_iload_n X dX4_addReel_55 rfl 1 rfl ?_
          refine v_imul X dX4_addReel_56 ?_
          refine v_aload_n X dX4_addReel_57 rfl 0 rfl ?_
          refine v_get (v := .ref (ad 10 1)) X f_X4_7 oo10 kk10 dX4_addReel_58 rfl ?_
          refine v_iconst (v := 0) X dX4_addReel_61 (by decide) ?_
          refine v_iload_n X dX4_addReel_62 rfl 1 rfl ?_
          refine v_iadd X dX4_addReel_63 ?_
          obtain ⟨hb, h⟩ := h
          refine v_iald (o := 10) (k := 0) (n := 111) X oo10 kk10 rfl rfl rfl hb dX4_addReel_64 ?_
          refine v_iadd X dX4_addReel_65 ?_
          refine v_topi (fun y66 ey66 => ?_)
          have h := h y66 ey66
          refine v_istore X [(4, .int y66), (0, .ref (ad 10 0)), (1, .int x1), (2, .int x2), (3, .int x3)] dX4_addReel_66 (by decide) rfl ?_
          refine v_aload_n X dX4_addReel_68 rfl 1 rfl ?_
          refine v_get (v := .ref (ad 10 1)) X f_X4_7 oo10 kk10 dX4_addReel_69 rfl ?_
          refine v_iconst (v := 4) X dX4_addReel_72 (by decide) ?_
          refine v_iload X dX4_addReel_73 0 rfl ?_
          refine v_iadd X dX4_addReel_75 ?_
          refine v_iload_n X dX4_addReel_76 rfl 3 rfl ?_
          obtain ⟨hb, h⟩ := h
          refine v_iast (o := 10) (k := 0) (n := 111) X oo10 kk10 rfl rfl rfl hb dX4_addReel_77 ?_
          refine v_st (fun S77 eS77 => ?_)
          have h := h S77 eS77
          refine v_aload_n X dX4_addReel_78 rfl 1 rfl ?_
          refine v_get (v := .ref (ad 10 1)) X f_X4_7 oo10 kk10 dX4_addReel_79 rfl ?_
          refine v_bipush (v := 28) X dX4_addReel_82 (by decide) ?_
          refine v_iload X dX4_addReel_84 0 rfl ?_
          refine v_iadd X dX4_addReel_86 ?_
          refine v_iload_n X dX4_addReel_87 rfl 4 rfl ?_
          obtain ⟨hb, h⟩ := h
          refine v_iast (o := 10) (k := 0) (n := 111) X oo10 kk10 rfl rfl rfl hb dX4_addReel_88 ?_
          refine v_st (fun S88 eS88 => ?_)
          have h := h S88 eS88
          refine v_aload_n X dX4_addReel_89 rfl 1 rfl ?_
          refine v_get (v := .ref (ad 10 1)) X f_X4_7 oo10 kk10 dX4_addReel_90 rfl ?_
          refine v_iconst (v := 0) X dX4_addReel_93 (by decide) ?_
          refine v_iload_n X dX4_addReel_94 rfl 2 rfl ?_
          refine v_iadd X dX4_addReel_95 ?_
          refine v_dup2 X dX4_addReel_96 rfl rfl ?_
          obtain ⟨hb, h⟩ := h
          refine v_iald (o := 10) (k := 0) (n := 111) X oo10 kk10 rfl rfl rfl hb dX4_addReel_97 ?_
          refine v_iconst (v := 1) X dX4_addReel_98 (by decide) ?_
          refine v_iadd X dX4_addReel_99 ?_
          obtain ⟨hb, h⟩ := h
          refine v_iast (o := 10) (k := 0) (n := 111) X oo10 kk10 rfl rfl rfl hb dX4_addReel_100 ?_
          refine v_st (fun S100 eS100 => ?_)
          have h := h S100 eS100
          refine v_aload_n X dX4_addReel_101 rfl 1 rfl ?_
          refine v_get (v := .ref (ad 10 1)) X f_X4_7 oo10 kk10 dX4_addReel_102 rfl ?_
          refine v_iconst (v := 0) X dX4_addReel_105 (by decide) ?_
          refine v_iload_n X dX4_addReel_106 rfl 2 rfl ?_
          refine v_iadd X dX4_addReel_107 ?_
          obtain ⟨hb, h⟩ := h
          refine v_iald (o := 10) (k := 0) (n := 111) X oo10 kk10 rfl rfl rfl hb dX4_addReel_108 ?_
          exact v_iret X hr hlk dX4_addReel_109 h
        · have h := h.2 hc43
          refine v_bipush (v := (-3)) X dX4_addReel_46 (by decide) ?_
          exact v_iret X hr hlk dX4_addReel_48 h
      · have h := h.2 hc28
        refine v_iconst (v := (-1)) X dX4_addReel_31 (by decide) ?_
        exact v_iret X hr hlk dX4_addReel_32 h
abbrev rm_X4_removeReels : Room := { frames := 2, cells := 0, slots := 0, locals := 45 }
def w_X4_removeReels_11 (K : Int32 → St → Prop) (S : St) (x1 : Int32) (x2 : Int32) : Prop := ∃ I : Nat → Int32 → Prop, (∃ n : Nat, I n x2) ∧ ∀ (n : Nat) (x2 : Int32), I n x2 → ((((S 10 0 67) ≤ x2) → (w_X4_keeps S (fun S45 => (vp_in (0 + x1) 111) ∧ (∀ y56 : Int32, y56 = (S45 10 0 (0 + x1).toNatClampNeg) → ((vp_in (0 + x1) 111) ∧ (∀ S65 : St, S65 = up3 S45 10 0 ((0 + x1).toNatClampNeg) 0 → (K y56 S65))))))) ∧ ((¬ (S 10 0 67) ≤ x2) → ((vp_in (74 + x2) 111) ∧ (((¬ (S 10 0 (74 + x2).toNatClampNeg) = x1) → (∀ y38 : Int32, y38 = x2 + 1 → (∃ n' : Nat, n' < n ∧ I n' y38))) ∧ (((S 10 0 (74 + x2).toNatClampNeg) = x1) → (K (-2) S))))))
set_option maxHeartbeats 4000000 in
set_option maxRecDepth 100000 in
theorem t_X4_removeReels_11 {p : Program} {l : Launch} {e : Env} {s : State} {m : MethodId} {args : Array Value} {below : List Frame} {meth : Method} {c : Code} {D : va_G} {cA : Nat → ClassId} {ad : Nat → Nat → Nat} {A : Nat → Prop} {K : Int32 → St → Prop} {S : St} {x1 : Int32} {x2 : Int32} (X : Cx p rm_X4_removeReels m c cX4_removeReels 3 s args RX4 0 0 D cA ad A) (hr : meth.sig.returnType = (some .int)) (hlk : meth.locks = false) (h : w_X4_removeReels_11 K S x1 x2) : VV p l e rm_X4_removeReels s m args below meth c 0 0 (MQ below (Qi D cA ad A K) args s 0 0 A) D cA ad A 3 S 11 [(0, .ref (ad 10 0)), (1, .int x1), (2, .int x2)] [] := by
  obtain ⟨I, ⟨n, hI⟩, hbody⟩ := h
  suffices key : ∀ (n : Nat) (x2 : Int32), I n x2 → VV p l e rm_X4_removeReels s m args below meth c 0 0 (MQ below (Qi D cA ad A K) args s 0 0 A) D cA ad A 3 S 11 [(0, .ref (ad 10 0)), (1, .int x1), (2, .int x2)] [] from key n x2 hI
  clear hI
  intro n
  induction n using Nat.strongRecOn with
  | ind n ih =>
    intro x2 hI
    have h := hbody n x2 hI
    clear hI
    refine v_iload_n X dX4_removeReels_11 rfl 2 rfl ?_
    refine v_aload_n X dX4_removeReels_12 rfl 0 rfl ?_
    refine v_get (v := .ref (ad 10 1)) X f_X4_7 oo10 kk10 dX4_removeReels_13 rfl ?_
    refine v_bipush (v := 67) X dX4_removeReels_16 (by decide) ?_
    refine v_iald (o := 10) (k := 0) (n := 111) X oo10 kk10 rfl rfl (j := 67) (by decide) (by unfold vp_in; decide) dX4_removeReels_18 ?_
    refine v_icmp_ge X 44 dX4_removeReels_19 (by decide) (fun hc19 => ?_) (fun hc19 => ?_)
    · have h := h.1 hc19
      refine v_aload_n X dX4_removeReels_44 rfl 0 rfl ?_
      refine v_callVv (o := 10) (ci := 4) (As := []) (rest := []) X (c_X4_keeps l S _ h) mw_X4_keeps mv_X4_76 oo10 kk10 ⟨Nat.le_of_ble_eq_true rfl, Nat.le_of_ble_eq_true rfl⟩ rfl (Nat.le_of_ble_eq_true rfl) rfl dX4_removeReels_45 (fun S45 h => ?_)
      refine v_aload_n X dX4_removeReels_48 rfl 0 rfl ?_
      refine v_get (v := .ref (ad 10 1)) X f_X4_7 oo10 kk10 dX4_removeReels_49 rfl ?_
      refine v_iconst (v := 0) X dX4_removeReels_52 (by decide) ?_
      refine v_iload_n X dX4_removeReels_53 rfl 1 rfl ?_
      refine v_iadd X dX4_removeReels_54 ?_
      obtain ⟨hb, h⟩ := h
      refine v_iald (o := 10) (k := 0) (n := 111) X oo10 kk10 rfl rfl rfl hb dX4_removeReels_55 ?_
      refine v_topi (fun y56 ey56 => ?_)
      have h := h y56 ey56
      refine v_istore_n X [(2, .int y56), (0, .ref (ad 10 0)), (1, .int x1)] dX4_removeReels_56 rfl (by decide) rfl ?_
      refine v_aload_n X dX4_removeReels_57 rfl 1 rfl ?_
      refine v_get (v := .ref (ad 10 1)) X f_X4_7 oo10 kk10 dX4_removeReels_58 rfl ?_
      refine v_iconst (v := 0) X dX4_removeReels_61 (by decide) ?_
      refine v_iload_n X dX4_removeReels_62 rfl 2 rfl ?_
      refine v_iadd X dX4_removeReels_63 ?_
      refine v_iconst (v := 0) X dX4_removeReels_64 (by decide) ?_
      obtain ⟨hb, h⟩ := h
      refine v_iast (o := 10) (k := 0) (n := 111) X oo10 kk10 rfl rfl rfl hb dX4_removeReels_65 ?_
      refine v_st (fun S65 eS65 => ?_)
      have h := h S65 eS65
      refine v_iload_n X dX4_removeReels_66 rfl 0 rfl ?_
      exact v_iret X hr hlk dX4_removeReels_67 h
    · have h := h.2 hc19
      refine v_aload_n X dX4_removeReels_22 rfl 0 rfl ?_
      refine v_get (v := .ref (ad 10 1)) X f_X4_7 oo10 kk10 dX4_removeReels_23 rfl ?_
      refine v_bipush (v := 74) X dX4_removeReels_26 (by decide) ?_
      refine v_iload_n X dX4_removeReels_28 rfl 2 rfl ?_
      refine v_iadd X dX4_removeReels_29 ?_
      obtain ⟨hb, h⟩ := h
      refine v_iald (o := 10) (k := 0) (n := 111) X oo10 kk10 rfl rfl rfl hb dX4_removeReels_30 ?_
      refine v_iload_n X dX4_removeReels_31 rfl 1 rfl ?_
      refine v_icmp_ne X 38 dX4_removeReels_32 (by decide) (fun hc32 => ?_) (fun hc32 => ?_)
      · have h := h.1 hc32
        obtain ⟨y38, ey38⟩ : ∃ z : Int32, z = x2 + 1 := ⟨_, rfl⟩
        have h := h y38 ey38
        refine v_iinc (v := y38) X [(2, .int y38), (0, .ref (ad 10 0)), (1, .int x1)] dX4_removeReels_38 2 rfl (by rw [ey38]; rfl) (by decide) rfl ?_
        refine v_goto X 11 dX4_removeReels_41 (by decide) ?_
        obtain ⟨n', hlt, h⟩ := h
        refine v_sub [1, 2, 0] rfl ?_
        exact ih n' hlt _ h
      · have h := h.2 hc32
        refine v_bipush (v := (-2)) X dX4_removeReels_35 (by decide) ?_
        exact v_iret X hr hlk dX4_removeReels_37 h
def w_X4_removeReels (S : St) (x1 : Int32) (K : Int32 → St → Prop) : Prop := w_X4_isFilm S x1 (fun r1 => ((¬ r1 = 0) → (w_X4_removeReels_11 K S x1 0)) ∧ ((r1 = 0) → (K (-1) S)))
set_option maxHeartbeats 4000000 in
set_option maxRecDepth 100000 in
theorem c_X4_removeReels (l : Launch) {D : va_G} {cA : Nat → ClassId} {ad : Nat → Nat → Nat} {A : Nat → Prop} (S : St) (x1 : Int32) (K : Int32 → St → Prop) (h : w_X4_removeReels S x1 K) : MT l yX4_removeReels cX4_removeReels 3 (some .int) 2 45 [.ref (ad 10 0), .int x1] D cA ad A S (Qi D cA ad A K) := by
  refine MT.ofV (by decide) (Nat.le_of_ble_eq_true rfl) ?_
  intro p e s m args below meth c X hr hlk
  have X : Cx p rm_X4_removeReels m c cX4_removeReels 3 s args RX4 0 0 D cA ad A := X
  refine v_lv [(0, .ref (ad 10 0)), (1, .int x1)] rfl ?_
  unfold w_X4_removeReels at h
  refine v_iload_n X dX4_removeReels_0 rfl 1 rfl ?_
  refine v_callSz (As := [.int x1]) (rest := []) X (c_X4_isFilm l S x1 _ h) mw_X4_isFilm ms_X4_68 ⟨Nat.le_of_ble_eq_true rfl, Nat.le_of_ble_eq_true rfl⟩ rfl (Nat.le_of_ble_eq_true rfl) rfl dX4_removeReels_1 (fun r1 S' hq hz1 => ?_)
  obtain ⟨hq1, h⟩ := hq
  rw [hq1]
  clear hq1
  refine v_if_ne X 9 dX4_removeReels_4 (by decide) (fun hc4 => ?_) (fun hc4 => ?_)
  · have h := h.1 hc4
    refine v_iconst (v := 0) X dX4_removeReels_9 (by decide) ?_
    refine v_istore_n X [(2, .int 0), (0, .ref (ad 10 0)), (1, .int x1)] dX4_removeReels_10 rfl (by decide) rfl ?_
    refine v_sub [1, 2, 0] rfl ?_
    exact t_X4_removeReels_11 X hr hlk h
  · have h := h.2 hc4
    refine v_iconst (v := (-1)) X dX4_removeReels_7 (by decide) ?_
    exact v_iret X hr hlk dX4_removeReels_8 h
abbrev rm_X4_setHome : Room := { frames := 2, cells := 0, slots := 0, locals := 45 }
def w_X4_setHome (S : St) (x1 : Int32) (x2 : Int32) (K : Int32 → St → Prop) : Prop := w_X4_isFilm S x1 (fun r1 => ((r1 = 0) → (K (-1) S)) ∧ ((¬ r1 = 0) → (w_X4_isHouse S x2 (fun r8 => ((¬ r8 = 0) → (w_X4_keeps S (fun S17 => (vp_in (52 + x1) 111) ∧ (∀ y29 : Int32, y29 = (S17 10 0 (52 + x1).toNatClampNeg) → ((vp_in (52 + x1) 111) ∧ (∀ S39 : St, S39 = up3 S17 10 0 ((52 + x1).toNatClampNeg) x2 → (K y29 S39))))))) ∧ ((r8 = 0) → (K (-1) S))))))
set_option maxHeartbeats 4000000 in
set_option maxRecDepth 100000 in
theorem c_X4_setHome (l : Launch) {D : va_G} {cA : Nat → ClassId} {ad : Nat → Nat → Nat} {A : Nat → Prop} (S : St) (x1 : Int32) (x2 : Int32) (K : Int32 → St → Prop) (h : w_X4_setHome S x1 x2 K) : MT l yX4_setHome cX4_setHome 4 (some .int) 2 45 [.ref (ad 10 0), .int x1, .int x2] D cA ad A S (Qi D cA ad A K) := by
  refine MT.ofV (by decide) (Nat.le_of_ble_eq_true rfl) ?_
  intro p e s m args below meth c X hr hlk
  have X : Cx p rm_X4_setHome m c cX4_setHome 4 s args RX4 0 0 D cA ad A := X
  refine v_lv [(0, .ref (ad 10 0)), (1, .int x1), (2, .int x2)] rfl ?_
  unfold w_X4_setHome at h
  refine v_iload_n X dX4_setHome_0 rfl 1 rfl ?_
  refine v_callSz (As := [.int x1]) (rest := []) X (c_X4_isFilm l S x1 _ h) mw_X4_isFilm ms_X4_68 ⟨Nat.le_of_ble_eq_true rfl, Nat.le_of_ble_eq_true rfl⟩ rfl (Nat.le_of_ble_eq_true rfl) rfl dX4_setHome_1 (fun r1 S' hq hz1 => ?_)
  obtain ⟨hq1, h⟩ := hq
  rw [hq1]
  clear hq1
  refine v_if_eq X 14 dX4_setHome_4 (by decide) (fun hc4 => ?_) (fun hc4 => ?_)
  · have h := h.1 hc4
    refine v_iconst (v := (-1)) X dX4_setHome_14 (by decide) ?_
    exact v_iret X hr hlk dX4_setHome_15 h
  · have h := h.2 hc4
    refine v_iload_n X dX4_setHome_7 rfl 2 rfl ?_
    refine v_callSz (As := [.int x2]) (rest := []) X (c_X4_isHouse l S x2 _ h) mw_X4_isHouse ms_X4_79 ⟨Nat.le_of_ble_eq_true rfl, Nat.le_of_ble_eq_true rfl⟩ rfl (Nat.le_of_ble_eq_true rfl) rfl dX4_setHome_8 (fun r8 S' hq hz8 => ?_)
    obtain ⟨hq1, h⟩ := hq
    rw [hq1]
    clear hq1
    refine v_if_ne X 16 dX4_setHome_11 (by decide) (fun hc11 => ?_) (fun hc11 => ?_)
    · have h := h.1 hc11
      refine v_aload_n X dX4_setHome_16 rfl 0 rfl ?_
      refine v_callVv (o := 10) (ci := 4) (As := []) (rest := []) X (c_X4_keeps l S _ h) mw_X4_keeps mv_X4_76 oo10 kk10 ⟨Nat.le_of_ble_eq_true rfl, Nat.le_of_ble_eq_true rfl⟩ rfl (Nat.le_of_ble_eq_true rfl) rfl dX4_setHome_17 (fun S17 h => ?_)
      refine v_aload_n X dX4_setHome_20 rfl 0 rfl ?_
      refine v_get (v := .ref (ad 10 1)) X f_X4_7 oo10 kk10 dX4_setHome_21 rfl ?_
      refine v_bipush (v := 52) X dX4_setHome_24 (by decide) ?_
      refine v_iload_n X dX4_setHome_26 rfl 1 rfl ?_
      refine v_iadd X dX4_setHome_27 ?_
      obtain ⟨hb, h⟩ := h
      refine v_iald (o := 10) (k := 0) (n := 111) X oo10 kk10 rfl rfl rfl hb dX4_setHome_28 ?_
      refine v_topi (fun y29 ey29 => ?_)
      have h := h y29 ey29
      refine v_istore_n X [(3, .int y29), (0, .ref (ad 10 0)), (1, .int x1), (2, .int x2)] dX4_setHome_29 rfl (by decide) rfl ?_
      refine v_aload_n X dX4_setHome_30 rfl 1 rfl ?_
      refine v_get (v := .ref (ad 10 1)) X f_X4_7 oo10 kk10 dX4_setHome_31 rfl ?_
      refine v_bipush (v := 52) X dX4_setHome_34 (by decide) ?_
      refine v_iload_n X dX4_setHome_36 rfl 2 rfl ?_
      refine v_iadd X dX4_setHome_37 ?_
      refine v_iload_n X dX4_setHome_38 rfl 3 rfl ?_
      obtain ⟨hb, h⟩ := h
      refine v_iast (o := 10) (k := 0) (n := 111) X oo10 kk10 rfl rfl rfl hb dX4_setHome_39 ?_
      refine v_st (fun S39 eS39 => ?_)
      have h := h S39 eS39
      refine v_iload_n X dX4_setHome_40 rfl 0 rfl ?_
      exact v_iret X hr hlk dX4_setHome_41 h
    · have h := h.2 hc11
      refine v_iconst (v := (-1)) X dX4_setHome_14 (by decide) ?_
      exact v_iret X hr hlk dX4_setHome_15 h
abbrev rm_X4_filmLength : Room := { frames := 2, cells := 0, slots := 0, locals := 45 }
def w_X4_filmLength_13 (K : Int32 → Prop) (S : St) (x1 : Int32) (x2 : Int32) (x3 : Int32) : Prop := ∃ I : Nat → Int32 → Int32 → Prop, (∃ n : Nat, I n x2 x3) ∧ ∀ (n : Nat) (x2 : Int32) (x3 : Int32), I n x2 x3 → ((vp_in (0 + x1) 111) ∧ ((((S 10 0 (0 + x1).toNatClampNeg) ≤ x3) → (K x2)) ∧ ((¬ (S 10 0 (0 + x1).toNatClampNeg) ≤ x3) → ((vp_in ((4 + (6 * x1)) + x3) 111) ∧ (∀ y40 : Int32, y40 = (x2 + (S 10 0 ((4 + (6 * x1)) + x3).toNatClampNeg)) → (∀ y41 : Int32, y41 = x3 + 1 → (∃ n' : Nat, n' < n ∧ I n' y40 y41)))))))
set_option maxHeartbeats 4000000 in
set_option maxRecDepth 100000 in
theorem t_X4_filmLength_13 {p : Program} {l : Launch} {e : Env} {s : State} {m : MethodId} {args : Array Value} {below : List Frame} {meth : Method} {c : Code} {D : va_G} {cA : Nat → ClassId} {ad : Nat → Nat → Nat} {A : Nat → Prop} {K : Int32 → Prop} {S : St} {x1 : Int32} {x2 : Int32} {x3 : Int32} (X : Cx p rm_X4_filmLength m c cX4_filmLength 4 s args RX4 0 0 D cA ad A) (hr : meth.sig.returnType = (some .int)) (hlk : meth.locks = false) (h : w_X4_filmLength_13 K S x1 x2 x3) : VV p l e rm_X4_filmLength s m args below meth c 0 0 (MQ below (Qi D cA ad A (fun r S' => S' = S ∧ K r)) args s 0 0 A) D cA ad A 4 S 13 [(0, .ref (ad 10 0)), (1, .int x1), (2, .int x2), (3, .int x3)] [] := by
  obtain ⟨I, ⟨n, hI⟩, hbody⟩ := h
  suffices key : ∀ (n : Nat) (x2 : Int32) (x3 : Int32), I n x2 x3 → VV p l e rm_X4_filmLength s m args below meth c 0 0 (MQ below (Qi D cA ad A (fun r S' => S' = S ∧ K r)) args s 0 0 A) D cA ad A 4 S 13 [(0, .ref (ad 10 0)), (1, .int x1), (2, .int x2), (3, .int x3)] [] from key n x2 x3 hI
  clear hI
  intro n
  induction n using Nat.strongRecOn with
  | ind n ih =>
    intro x2 x3 hI
    have h := hbody n x2 x3 hI
    clear hI
    refine v_iload_n X dX4_filmLength_13 rfl 3 rfl ?_
    refine v_aload_n X dX4_filmLength_14 rfl 0 rfl ?_
    refine v_get (v := .ref (ad 10 1)) X f_X4_7 oo10 kk10 dX4_filmLength_15 rfl ?_
    refine v_iconst (v := 0) X dX4_filmLength_18 (by decide) ?_
    refine v_iload_n X dX4_filmLength_19 rfl 1 rfl ?_
    refine v_iadd X dX4_filmLength_20 ?_
    obtain ⟨hb, h⟩ := h
    refine v_iald (o := 10) (k := 0) (n := 111) X oo10 kk10 rfl rfl rfl hb dX4_filmLength_21 ?_
    refine v_icmp_ge X 47 dX4_filmLength_22 (by decide) (fun hc22 => ?_) (fun hc22 => ?_)
    · have h := h.1 hc22
      refine v_iload_n X dX4_filmLength_47 rfl 2 rfl ?_
      exact v_iret X hr hlk dX4_filmLength_48 ⟨rfl, h⟩
    · have h := h.2 hc22
      refine v_iload_n X dX4_filmLength_25 rfl 2 rfl ?_
      refine v_aload_n X dX4_filmLength_26 rfl 0 rfl ?_
      refine v_get (v := .ref (ad 10 1)) X f_X4_7 oo10 kk10 dX4_filmLength_27 rfl ?_
      refine v_iconst (v := 4) X dX4_filmLength_30 (by decide) ?_
      refine v_bipush (v := 6) X dX4_filmLength_31 (by decide) ?_
      refine v_iload_n X dX4_filmLength_33 rfl 1 rfl ?_
      refine v_imul X dX4_filmLength_34 ?_
      refine v_iadd X dX4_filmLength_35 ?_
      refine v_iload_n X dX4_filmLength_36 rfl 3 rfl ?_
      refine v_iadd X dX4_filmLength_37 ?_
      obtain ⟨hb, h⟩ := h
      refine v_iald (o := 10) (k := 0) (n := 111) X oo10 kk10 rfl rfl rfl hb dX4_filmLength_38 ?_
      refine v_iadd X dX4_filmLength_39 ?_
      refine v_topi (fun y40 ey40 => ?_)
      have h := h y40 ey40
      refine v_istore_n X [(2, .int y40), (0, .ref (ad 10 0)), (1, .int x1), (3, .int x3)] dX4_filmLength_40 rfl (by decide) rfl ?_
      obtain ⟨y41, ey41⟩ : ∃ z : Int32, z = x3 + 1 := ⟨_, rfl⟩
      have h := h y41 ey41
      refine v_iinc (v := y41) X [(3, .int y41), (2, .int y40), (0, .ref (ad 10 0)), (1, .int x1)] dX4_filmLength_41 3 rfl (by rw [ey41]; rfl) (by decide) rfl ?_
      refine v_goto X 13 dX4_filmLength_44 (by decide) ?_
      obtain ⟨n', hlt, h⟩ := h
      refine v_sub [2, 3, 1, 0] rfl ?_
      exact ih n' hlt _ _ h
def w_X4_filmLength (S : St) (x1 : Int32) (K : Int32 → Prop) : Prop := w_X4_isFilm S x1 (fun r1 => ((¬ r1 = 0) → (w_X4_filmLength_13 K S x1 0 0)) ∧ ((r1 = 0) → (K (-1))))
set_option maxHeartbeats 4000000 in
set_option maxRecDepth 100000 in
theorem c_X4_filmLength (l : Launch) {D : va_G} {cA : Nat → ClassId} {ad : Nat → Nat → Nat} {A : Nat → Prop} (S : St) (x1 : Int32) (K : Int32 → Prop) (h : w_X4_filmLength S x1 K) : MT l yX4_filmLength cX4_filmLength 4 (some .int) 2 45 [.ref (ad 10 0), .int x1] D cA ad A S (Qi D cA ad A (fun r S' => S' = S ∧ K r)) := by
  refine MT.ofV (by decide) (Nat.le_of_ble_eq_true rfl) ?_
  intro p e s m args below meth c X hr hlk
  have X : Cx p rm_X4_filmLength m c cX4_filmLength 4 s args RX4 0 0 D cA ad A := X
  refine v_lv [(0, .ref (ad 10 0)), (1, .int x1)] rfl ?_
  unfold w_X4_filmLength at h
  refine v_iload_n X dX4_filmLength_0 rfl 1 rfl ?_
  refine v_callSz (As := [.int x1]) (rest := []) X (c_X4_isFilm l S x1 _ h) mw_X4_isFilm ms_X4_68 ⟨Nat.le_of_ble_eq_true rfl, Nat.le_of_ble_eq_true rfl⟩ rfl (Nat.le_of_ble_eq_true rfl) rfl dX4_filmLength_1 (fun r1 S' hq hz1 => ?_)
  obtain ⟨hq1, h⟩ := hq
  rw [hq1]
  clear hq1
  refine v_if_ne X 9 dX4_filmLength_4 (by decide) (fun hc4 => ?_) (fun hc4 => ?_)
  · have h := h.1 hc4
    refine v_iconst (v := 0) X dX4_filmLength_9 (by decide) ?_
    refine v_istore_n X [(2, .int 0), (0, .ref (ad 10 0)), (1, .int x1)] dX4_filmLength_10 rfl (by decide) rfl ?_
    refine v_iconst (v := 0) X dX4_filmLength_11 (by decide) ?_
    refine v_istore_n X [(3, .int 0), (2, .int 0), (0, .ref (ad 10 0)), (1, .int x1)] dX4_filmLength_12 rfl (by decide) rfl ?_
    refine v_sub [2, 3, 1, 0] rfl ?_
    exact t_X4_filmLength_13 X hr hlk h
  · have h := h.2 hc4
    refine v_iconst (v := (-1)) X dX4_filmLength_7 (by decide) ?_
    exact v_iret X hr hlk dX4_filmLength_8 ⟨rfl, h⟩
abbrev rm_X4_addMachine : Room := { frames := 2, cells := 0, slots := 0, locals := 45 }
def w_X4_addMachine (S : St) (x1 : Int32) (K : Int32 → St → Prop) : Prop := w_X4_isHouse S x1 (fun r1 => ((¬ r1 = 0) → (((¬ (S 10 0 56) = 5) → (w_X4_keeps S (fun S24 => (vp_in (57 + (S24 10 0 56)) 111) ∧ (∀ S42 : St, S42 = up3 S24 10 0 ((57 + (S24 10 0 56)).toNatClampNeg) x1 → (∀ S53 : St, S53 = up3 S42 10 0 56 ((S42 10 0 56) + 1) → (K ((S53 10 0 56) - 1) S53)))))) ∧ (((S 10 0 56) = 5) → (K (-3) S)))) ∧ ((r1 = 0) → (K (-1) S)))
set_option maxHeartbeats 4000000 in
set_option maxRecDepth 100000 in
theorem c_X4_addMachine (l : Launch) {D : va_G} {cA : Nat → ClassId} {ad : Nat → Nat → Nat} {A : Nat → Prop} (S : St) (x1 : Int32) (K : Int32 → St → Prop) (h : w_X4_addMachine S x1 K) : MT l yX4_addMachine cX4_addMachine 2 (some .int) 2 45 [.ref (ad 10 0), .int x1] D cA ad A S (Qi D cA ad A K) := by
  refine MT.ofV (by decide) (Nat.le_of_ble_eq_true rfl) ?_
  intro p e s m args below meth c X hr hlk
  have X : Cx p rm_X4_addMachine m c cX4_addMachine 2 s args RX4 0 0 D cA ad A := X
  refine v_lv [(0, .ref (ad 10 0)), (1, .int x1)] rfl ?_
  unfold w_X4_addMachine at h
  refine v_iload_n X dX4_addMachine_0 rfl 1 rfl ?_
  refine v_callSz (As := [.int x1]) (rest := []) X (c_X4_isHouse l S x1 _ h) mw_X4_isHouse ms_X4_79 ⟨Nat.le_of_ble_eq_true rfl, Nat.le_of_ble_eq_true rfl⟩ rfl (Nat.le_of_ble_eq_true rfl) rfl dX4_addMachine_1 (fun r1 S' hq hz1 => ?_)
  obtain ⟨hq1, h⟩ := hq
  rw [hq1]
  clear hq1
  refine v_if_ne X 9 dX4_addMachine_4 (by decide) (fun hc4 => ?_) (fun hc4 => ?_)
  · have h := h.1 hc4
    refine v_aload_n X dX4_addMachine_9 rfl 0 rfl ?_
    refine v_get (v := .ref (ad 10 1)) X f_X4_7 oo10 kk10 dX4_addMachine_10 rfl ?_
    refine v_bipush (v := 56) X dX4_addMachine_13 (by decide) ?_
    refine v_iald (o := 10) (k := 0) (n := 111) X oo10 kk10 rfl rfl (j := 56) (by decide) (by unfold vp_in; decide) dX4_addMachine_15 ?_
    refine v_iconst (v := 5) X dX4_addMachine_16 (by decide) ?_
    refine v_icmp_ne X 23 dX4_addMachine_17 (by decide) (fun hc17 => ?_) (fun hc17 => ?_)
    · have h := h.1 hc17
      refine v_aload_n X dX4_addMachine_23 rfl 0 rfl ?_
      refine v_callVv (o := 10) (ci := 4) (As := []) (rest := []) X (c_X4_keeps l S _ h) mw_X4_keeps mv_X4_76 oo10 kk10 ⟨Nat.le_of_ble_eq_true rfl, Nat.le_of_ble_eq_true rfl⟩ rfl (Nat.le_of_ble_eq_true rfl) rfl dX4_addMachine_24 (fun S24 h => ?_)
      refine v_aload_n X dX4_addMachine_27 rfl 0 rfl ?_
      refine v_get (v := .ref (ad 10 1)) X f_X4_7 oo10 kk10 dX4_addMachine_28 rfl ?_
      refine v_bipush (v := 57) X dX4_addMachine_31 (by decide) ?_
      refine v_aload_n X dX4_addMachine_33 rfl 0 rfl ?_
      refine v_get (v := .ref (ad 10 1)) X f_X4_7 oo10 kk10 dX4_addMachine_34 rfl ?_
      refine v_bipush (v := 56) X dX4_addMachine_37 (by decide) ?_
      refine v_iald (o := 10) (k := 0) (n := 111) X oo10 kk10 rfl rfl (j := 56) (by decide) (by unfold vp_in; decide) dX4_addMachine_39 ?_
      refine v_iadd X dX4_addMachine_40 ?_
      refine v_iload_n X dX4_addMachine_41 rfl 1 rfl ?_
      obtain ⟨hb, h⟩ := h
      refine v_iast (o := 10) (k := 0) (n := 111) X oo10 kk10 rfl rfl rfl hb dX4_addMachine_42 ?_
      refine v_st (fun S42 eS42 => ?_)
      have h := h S42 eS42
      refine v_aload_n X dX4_addMachine_43 rfl 0 rfl ?_
      refine v_get (v := .ref (ad 10 1)) X f_X4_7 oo10 kk10 dX4_addMachine_44 rfl ?_
      refine v_bipush (v := 56) X dX4_addMachine_47 (by decide) ?_
      refine v_dup2 X dX4_addMachine_49 rfl rfl ?_
      refine v_iald (o := 10) (k := 0) (n := 111) X oo10 kk10 rfl rfl (j := 56) (by decide) (by unfold vp_in; decide) dX4_addMachine_50 ?_
      refine v_iconst (v := 1) X dX4_addMachine_51 (by decide) ?_
      refine v_iadd X dX4_addMachine_52 ?_
      refine v_iast (o := 10) (k := 0) (n := 111) X oo10 kk10 rfl rfl (j := 56) (by decide) (by unfold vp_in; decide) dX4_addMachine_53 ?_
      refine v_st (fun S53 eS53 => ?_)
      have h := h S53 eS53
      refine v_aload_n X dX4_addMachine_54 rfl 0 rfl ?_
      refine v_get (v := .ref (ad 10 1)) X f_X4_7 oo10 kk10 dX4_addMachine_55 rfl ?_
      refine v_bipush (v := 56) X dX4_addMachine_58 (by decide) ?_
      refine v_iald (o := 10) (k := 0) (n := 111) X oo10 kk10 rfl rfl (j := 56) (by decide) (by unfold vp_in; decide) dX4_addMachine_60 ?_
      refine v_iconst (v := 1) X dX4_addMachine_61 (by decide) ?_
      refine v_isub X dX4_addMachine_62 ?_
      exact v_iret X hr hlk dX4_addMachine_63 h
    · have h := h.2 hc17
      refine v_bipush (v := (-3)) X dX4_addMachine_20 (by decide) ?_
      exact v_iret X hr hlk dX4_addMachine_22 h
  · have h := h.2 hc4
    refine v_iconst (v := (-1)) X dX4_addMachine_7 (by decide) ?_
    exact v_iret X hr hlk dX4_addMachine_8 h
abbrev rm_X4_removeMachine : Room := { frames := 2, cells := 0, slots := 0, locals := 46 }
def w_X4_removeMachine_27 (K : Int32 → St → Prop) (S : St) (x2 : Int32) : Prop := ∃ I : Nat → St → Int32 → Prop, (∃ n : Nat, I n S x2) ∧ ∀ (n : Nat) (S : St) (x2 : Int32), I n S x2 → ((((S 10 0 56) ≤ x2) → (K (S 10 0 56) S)) ∧ ((¬ (S 10 0 56) ≤ x2) → ((vp_in ((57 + x2) + 1) 111) ∧ ((vp_in (57 + x2) 111) ∧ (∀ S57 : St, S57 = up3 S 10 0 ((57 + x2).toNatClampNeg) (S 10 0 ((57 + x2) + 1).toNatClampNeg) → (∀ y58 : Int32, y58 = x2 + 1 → (∃ n' : Nat, n' < n ∧ I n' S57 y58)))))))
set_option maxHeartbeats 4000000 in
set_option maxRecDepth 100000 in
theorem t_X4_removeMachine_27 {p : Program} {l : Launch} {e : Env} {s : State} {m : MethodId} {args : Array Value} {below : List Frame} {meth : Method} {c : Code} {D : va_G} {cA : Nat → ClassId} {ad : Nat → Nat → Nat} {A : Nat → Prop} {K : Int32 → St → Prop} {S : St} {x2 : Int32} (X : Cx p rm_X4_removeMachine m c cX4_removeMachine 3 s args RX4 0 0 D cA ad A) (hr : meth.sig.returnType = (some .int)) (hlk : meth.locks = false) (h : w_X4_removeMachine_27 K S x2) : VV p l e rm_X4_removeMachine s m args below meth c 0 0 (MQ below (Qi D cA ad A K) args s 0 0 A) D cA ad A 3 S 27 [(0, .ref (ad 10 0)), (2, .int x2)] [] := by
  obtain ⟨I, ⟨n, hI⟩, hbody⟩ := h
  suffices key : ∀ (n : Nat) (S : St) (x2 : Int32), I n S x2 → VV p l e rm_X4_removeMachine s m args below meth c 0 0 (MQ below (Qi D cA ad A K) args s 0 0 A) D cA ad A 3 S 27 [(0, .ref (ad 10 0)), (2, .int x2)] [] from key n S x2 hI
  clear hI
  intro n
  induction n using Nat.strongRecOn with
  | ind n ih =>
    intro S x2 hI
    have h := hbody n S x2 hI
    clear hI
    refine v_iload_n X dX4_removeMachine_27 rfl 1 rfl ?_
    refine v_aload_n X dX4_removeMachine_28 rfl 0 rfl ?_
    refine v_get (v := .ref (ad 10 1)) X f_X4_7 oo10 kk10 dX4_removeMachine_29 rfl ?_
    refine v_bipush (v := 56) X dX4_removeMachine_32 (by decide) ?_
    refine v_iald (o := 10) (k := 0) (n := 111) X oo10 kk10 rfl rfl (j := 56) (by decide) (by unfold vp_in; decide) dX4_removeMachine_34 ?_
    refine v_icmp_ge X 64 dX4_removeMachine_35 (by decide) (fun hc35 => ?_) (fun hc35 => ?_)
    · have h := h.1 hc35
      refine v_aload_n X dX4_removeMachine_64 rfl 0 rfl ?_
      refine v_get (v := .ref (ad 10 1)) X f_X4_7 oo10 kk10 dX4_removeMachine_65 rfl ?_
      refine v_bipush (v := 56) X dX4_removeMachine_68 (by decide) ?_
      refine v_iald (o := 10) (k := 0) (n := 111) X oo10 kk10 rfl rfl (j := 56) (by decide) (by unfold vp_in; decide) dX4_removeMachine_70 ?_
      exact v_iret X hr hlk dX4_removeMachine_71 h
    · have h := h.2 hc35
      refine v_aload_n X dX4_removeMachine_38 rfl 0 rfl ?_
      refine v_get (v := .ref (ad 10 1)) X f_X4_7 oo10 kk10 dX4_removeMachine_39 rfl ?_
      refine v_bipush (v := 57) X dX4_removeMachine_42 (by decide) ?_
      refine v_iload_n X dX4_removeMachine_44 rfl 1 rfl ?_
      refine v_iadd X dX4_removeMachine_45 ?_
      refine v_aload_n X dX4_removeMachine_46 rfl 0 rfl ?_
      refine v_get (v := .ref (ad 10 1)) X f_X4_7 oo10 kk10 dX4_removeMachine_47 rfl ?_
      refine v_bipush (v := 57) X dX4_removeMachine_50 (by decide) ?_
      refine v_iload_n X dX4_removeMachine_52 rfl 1 rfl ?_
      refine v_iadd X dX4_removeMachine_53 ?_
      refine v_iconst (v := 1) X dX4_removeMachine_54 (by decide) ?_
      refine v_iadd X dX4_removeMachine_55 ?_
      obtain ⟨hb, h⟩ := h
      refine v_iald (o := 10) (k := 0) (n := 111) X oo10 kk10 rfl rfl rfl hb dX4_removeMachine_56 ?_
      obtain ⟨hb, h⟩ := h
      refine v_iast (o := 10) (k := 0) (n := 111) X oo10 kk10 rfl rfl rfl hb dX4_removeMachine_57 ?_
      refine v_st (fun S57 eS57 => ?_)
      have h := h S57 eS57
      obtain ⟨y58, ey58⟩ : ∃ z : Int32, z = x2 + 1 := ⟨_, rfl⟩
      have h := h y58 ey58
      refine v_iinc (v := y58) X [(2, .int y58), (0, .ref (ad 10 0))] dX4_removeMachine_58 1 rfl (by rw [ey58]; rfl) (by decide) rfl ?_
      refine v_goto X 27 dX4_removeMachine_61 (by decide) ?_
      obtain ⟨n', hlt, h⟩ := h
      refine v_sub [1, 0] rfl ?_
      exact ih n' hlt _ _ h
def w_X4_removeMachine (S : St) (x1 : Int32) (K : Int32 → St → Prop) : Prop := w_X4_isMachine S x1 (fun r2 => ((¬ r2 = 0) → (w_X4_keeps S (fun S11 => ∀ S24 : St, S24 = up3 S11 10 0 56 ((S11 10 0 56) - 1) → (w_X4_removeMachine_27 K S24 x1)))) ∧ ((r2 = 0) → (K (-1) S)))
set_option maxHeartbeats 4000000 in
set_option maxRecDepth 100000 in
theorem c_X4_removeMachine (l : Launch) {D : va_G} {cA : Nat → ClassId} {ad : Nat → Nat → Nat} {A : Nat → Prop} (S : St) (x1 : Int32) (K : Int32 → St → Prop) (h : w_X4_removeMachine S x1 K) : MT l yX4_removeMachine cX4_removeMachine 3 (some .int) 2 46 [.ref (ad 10 0), .int x1] D cA ad A S (Qi D cA ad A K) := by
  refine MT.ofV (by decide) (Nat.le_of_ble_eq_true rfl) ?_
  intro p e s m args below meth c X hr hlk
  have X : Cx p rm_X4_removeMachine m c cX4_removeMachine 3 s args RX4 0 0 D cA ad A := X
  refine v_lv [(0, .ref (ad 10 0)), (1, .int x1)] rfl ?_
  unfold w_X4_removeMachine at h
  refine v_aload_n X dX4_removeMachine_0 rfl 0 rfl ?_
  refine v_iload_n X dX4_removeMachine_1 rfl 1 rfl ?_
  refine v_callVz (o := 10) (ci := 4) (As := [.int x1]) (rest := []) X (c_X4_isMachine l S x1 _ h) mw_X4_isMachine mv_X4_82 oo10 kk10 ⟨Nat.le_of_ble_eq_true rfl, Nat.le_of_ble_eq_true rfl⟩ rfl (Nat.le_of_ble_eq_true rfl) rfl dX4_removeMachine_2 (fun r2 S' hq hz2 => ?_)
  obtain ⟨hq1, h⟩ := hq
  rw [hq1]
  clear hq1
  refine v_if_ne X 10 dX4_removeMachine_5 (by decide) (fun hc5 => ?_) (fun hc5 => ?_)
  · have h := h.1 hc5
    refine v_aload_n X dX4_removeMachine_10 rfl 0 rfl ?_
    refine v_callVv (o := 10) (ci := 4) (As := []) (rest := []) X (c_X4_keeps l S _ h) mw_X4_keeps mv_X4_76 oo10 kk10 ⟨Nat.le_of_ble_eq_true rfl, Nat.le_of_ble_eq_true rfl⟩ rfl (Nat.le_of_ble_eq_true rfl) rfl dX4_removeMachine_11 (fun S11 h => ?_)
    refine v_aload_n X dX4_removeMachine_14 rfl 0 rfl ?_
    refine v_get (v := .ref (ad 10 1)) X f_X4_7 oo10 kk10 dX4_removeMachine_15 rfl ?_
    refine v_bipush (v := 56) X dX4_removeMachine_18 (by decide) ?_
    refine v_dup2 X dX4_removeMachine_20 rfl rfl ?_
    refine v_iald (o := 10) (k := 0) (n := 111) X oo10 kk10 rfl rfl (j := 56) (by decide) (by unfold vp_in; decide) dX4_removeMachine_21 ?_
    refine v_iconst (v := 1) X dX4_removeMachine_22 (by decide) ?_
    refine v_isub X dX4_removeMachine_23 ?_
    refine v_iast (o := 10) (k := 0) (n := 111) X oo10 kk10 rfl rfl (j := 56) (by decide) (by unfold vp_in; decide) dX4_removeMachine_24 ?_
    refine v_st (fun S24 eS24 => ?_)
    have h := h S24 eS24
    refine v_iload_n X dX4_removeMachine_25 rfl 1 rfl ?_
    refine v_istore_n X [(2, .int x1), (0, .ref (ad 10 0)), (1, .int x1)] dX4_removeMachine_26 rfl (by decide) rfl ?_
    refine v_sub [1, 0] rfl ?_
    exact t_X4_removeMachine_27 X hr hlk h
  · have h := h.2 hc5
    refine v_iconst (v := (-1)) X dX4_removeMachine_8 (by decide) ?_
    exact v_iret X hr hlk dX4_removeMachine_9 h
abbrev rm_X4_houseOf : Room := { frames := 2, cells := 0, slots := 0, locals := 46 }
def w_X4_houseOf (S : St) (x1 : Int32) (K : Int32 → Prop) : Prop := w_X4_isMachine S x1 (fun r2 => ((r2 = 0) → (K (-1))) ∧ ((¬ r2 = 0) → ((vp_in (57 + x1) 111) ∧ (K (S 10 0 (57 + x1).toNatClampNeg)))))
set_option maxHeartbeats 4000000 in
set_option maxRecDepth 100000 in
theorem c_X4_houseOf (l : Launch) {D : va_G} {cA : Nat → ClassId} {ad : Nat → Nat → Nat} {A : Nat → Prop} (S : St) (x1 : Int32) (K : Int32 → Prop) (h : w_X4_houseOf S x1 K) : MT l yX4_houseOf cX4_houseOf 2 (some .int) 2 46 [.ref (ad 10 0), .int x1] D cA ad A S (Qi D cA ad A (fun r S' => S' = S ∧ K r)) := by
  refine MT.ofV (by decide) (Nat.le_of_ble_eq_true rfl) ?_
  intro p e s m args below meth c X hr hlk
  have X : Cx p rm_X4_houseOf m c cX4_houseOf 2 s args RX4 0 0 D cA ad A := X
  refine v_lv [(0, .ref (ad 10 0)), (1, .int x1)] rfl ?_
  unfold w_X4_houseOf at h
  refine v_aload_n X dX4_houseOf_0 rfl 0 rfl ?_
  refine v_iload_n X dX4_houseOf_1 rfl 1 rfl ?_
  refine v_callVz (o := 10) (ci := 4) (As := [.int x1]) (rest := []) X (c_X4_isMachine l S x1 _ h) mw_X4_isMachine mv_X4_82 oo10 kk10 ⟨Nat.le_of_ble_eq_true rfl, Nat.le_of_ble_eq_true rfl⟩ rfl (Nat.le_of_ble_eq_true rfl) rfl dX4_houseOf_2 (fun r2 S' hq hz2 => ?_)
  obtain ⟨hq1, h⟩ := hq
  rw [hq1]
  clear hq1
  refine v_if_eq X 20 dX4_houseOf_5 (by decide) (fun hc5 => ?_) (fun hc5 => ?_)
  · have h := h.1 hc5
    refine v_iconst (v := (-1)) X dX4_houseOf_20 (by decide) ?_
    exact v_iret X hr hlk dX4_houseOf_21 ⟨rfl, h⟩
  · have h := h.2 hc5
    refine v_aload_n X dX4_houseOf_8 rfl 0 rfl ?_
    refine v_get (v := .ref (ad 10 1)) X f_X4_7 oo10 kk10 dX4_houseOf_9 rfl ?_
    refine v_bipush (v := 57) X dX4_houseOf_12 (by decide) ?_
    refine v_iload_n X dX4_houseOf_14 rfl 1 rfl ?_
    refine v_iadd X dX4_houseOf_15 ?_
    obtain ⟨hb, h⟩ := h
    refine v_iald (o := 10) (k := 0) (n := 111) X oo10 kk10 rfl rfl rfl hb dX4_houseOf_16 ?_
    refine v_goto X 21 dX4_houseOf_17 (by decide) ?_
    exact v_iret X hr hlk dX4_houseOf_21 ⟨rfl, h⟩
abbrev rm_X4_setCarriers : Room := { frames := 1, cells := 0, slots := 0, locals := 25 }
def w_X4_setCarriers (S : St) (x1 : Int32) (K : Int32 → St → Prop) : Prop := w_X4_in S (Int32.toInt64 x1) 1 3 (fun r6 => ((¬ r6 = 0) → (w_X4_keeps S (fun S15 => ∀ y25 : Int32, y25 = (S15 10 0 62) → (∀ S33 : St, S33 = up3 S15 10 0 62 x1 → (K y25 S33))))) ∧ ((r6 = 0) → (K (-1) S)))
set_option maxHeartbeats 4000000 in
set_option maxRecDepth 100000 in
theorem c_X4_setCarriers (l : Launch) {D : va_G} {cA : Nat → ClassId} {ad : Nat → Nat → Nat} {A : Nat → Prop} (S : St) (x1 : Int32) (K : Int32 → St → Prop) (h : w_X4_setCarriers S x1 K) : MT l yX4_setCarriers cX4_setCarriers 3 (some .int) 1 25 [.ref (ad 10 0), .int x1] D cA ad A S (Qi D cA ad A K) := by
  refine MT.ofV (by decide) (Nat.le_of_ble_eq_true rfl) ?_
  intro p e s m args below meth c X hr hlk
  have X : Cx p rm_X4_setCarriers m c cX4_setCarriers 3 s args RX4 0 0 D cA ad A := X
  refine v_lv [(0, .ref (ad 10 0)), (1, .int x1)] rfl ?_
  unfold w_X4_setCarriers at h
  refine v_iload_n X dX4_setCarriers_0 rfl 1 rfl ?_
  refine v_i2l X dX4_setCarriers_1 ?_
  refine v_lconst (v := 1) X dX4_setCarriers_2 (by decide) ?_
  refine v_ldc2 (v := 3) X dX4_setCarriers_3 k_X4_60 ?_
  refine v_callSz (As := [.long (Int32.toInt64 x1), .long 1, .long 3]) (rest := []) X (c_X4_in l S (Int32.toInt64 x1) 1 3 _ h) mw_X4_in ms_X4_62 ⟨Nat.le_of_ble_eq_true rfl, Nat.le_of_ble_eq_true rfl⟩ rfl (Nat.le_of_ble_eq_true rfl) rfl dX4_setCarriers_6 (fun r6 S' hq hz6 => ?_)
  obtain ⟨hq1, h⟩ := hq
  rw [hq1]
  clear hq1
  refine v_if_ne X 14 dX4_setCarriers_9 (by decide) (fun hc9 => ?_) (fun hc9 => ?_)
  · have h := h.1 hc9
    refine v_aload_n X dX4_setCarriers_14 rfl 0 rfl ?_
    refine v_callVv (o := 10) (ci := 4) (As := []) (rest := []) X (c_X4_keeps l S _ h) mw_X4_keeps mv_X4_76 oo10 kk10 ⟨Nat.le_of_ble_eq_true rfl, Nat.le_of_ble_eq_true rfl⟩ rfl (Nat.le_of_ble_eq_true rfl) rfl dX4_setCarriers_15 (fun S15 h => ?_)
    refine v_aload_n X dX4_setCarriers_18 rfl 0 rfl ?_
    refine v_get (v := .ref (ad 10 1)) X f_X4_7 oo10 kk10 dX4_setCarriers_19 rfl ?_
    refine v_bipush (v := 62) X dX4_setCarriers_22 (by decide) ?_
    refine v_iald (o := 10) (k := 0) (n := 111) X oo10 kk10 rfl rfl (j := 62) (by decide) (by unfold vp_in; decide) dX4_setCarriers_24 ?_
    refine v_topi (fun y25 ey25 => ?_)
    have h := h y25 ey25
    refine v_istore_n X [(2, .int y25), (0, .ref (ad 10 0)), (1, .int x1)] dX4_setCarriers_25 rfl (by decide) rfl ?_
    refine v_aload_n X dX4_setCarriers_26 rfl 1 rfl ?_
    refine v_get (v := .ref (ad 10 1)) X f_X4_7 oo10 kk10 dX4_setCarriers_27 rfl ?_
    refine v_bipush (v := 62) X dX4_setCarriers_30 (by decide) ?_
    refine v_iload_n X dX4_setCarriers_32 rfl 2 rfl ?_
    refine v_iast (o := 10) (k := 0) (n := 111) X oo10 kk10 rfl rfl (j := 62) (by decide) (by unfold vp_in; decide) dX4_setCarriers_33 ?_
    refine v_st (fun S33 eS33 => ?_)
    have h := h S33 eS33
    refine v_iload_n X dX4_setCarriers_34 rfl 0 rfl ?_
    exact v_iret X hr hlk dX4_setCarriers_35 h
  · have h := h.2 hc9
    refine v_iconst (v := (-1)) X dX4_setCarriers_12 (by decide) ?_
    exact v_iret X hr hlk dX4_setCarriers_13 h
abbrev rm_X4_setDuration : Room := { frames := 1, cells := 0, slots := 0, locals := 25 }
def w_X4_setDuration_49 (K : Int32 → St → Prop) (S : St) (x1 : Int32) (x2 : Int32) (t0 : Int64) (t1 : Int64) (t2 : Int64) : Prop := w_X4_in S t2 t1 t0 (fun r49 => ((¬ r49 = 0) → (w_X4_keeps S (fun S58 => (vp_in (63 + x1) 111) ∧ (∀ y70 : Int32, y70 = (S58 10 0 (63 + x1).toNatClampNeg) → ((vp_in (63 + x1) 111) ∧ (∀ S80 : St, S80 = up3 S58 10 0 ((63 + x1).toNatClampNeg) x2 → (K y70 S80))))))) ∧ ((r49 = 0) → (K (-1) S)))
set_option maxHeartbeats 4000000 in
set_option maxRecDepth 100000 in
theorem t_X4_setDuration_49 {p : Program} {l : Launch} {e : Env} {s : State} {m : MethodId} {args : Array Value} {below : List Frame} {meth : Method} {c : Code} {D : va_G} {cA : Nat → ClassId} {ad : Nat → Nat → Nat} {A : Nat → Prop} {K : Int32 → St → Prop} {S : St} {x1 : Int32} {x2 : Int32} {t0 : Int64} {t1 : Int64} {t2 : Int64} (X : Cx p rm_X4_setDuration m c cX4_setDuration 4 s args RX4 0 0 D cA ad A) (hr : meth.sig.returnType = (some .int)) (hlk : meth.locks = false) (h : w_X4_setDuration_49 K S x1 x2 t0 t1 t2) : VV p l e rm_X4_setDuration s m args below meth c 0 0 (MQ below (Qi D cA ad A K) args s 0 0 A) D cA ad A 4 S 49 [(0, .ref (ad 10 0)), (1, .int x1), (2, .int x2)] [.long t0, .long t1, .long t2] := by
  unfold w_X4_setDuration_49 at h
  refine v_callSz (As := [.long t2, .long t1, .long t0]) (rest := []) X (c_X4_in l S t2 t1 t0 _ h) mw_X4_in ms_X4_62 ⟨Nat.le_of_ble_eq_true rfl, Nat.le_of_ble_eq_true rfl⟩ rfl (Nat.le_of_ble_eq_true rfl) rfl dX4_setDuration_49 (fun r49 S' hq hz49 => ?_)
  obtain ⟨hq1, h⟩ := hq
  rw [hq1]
  clear hq1
  refine v_if_ne X 57 dX4_setDuration_52 (by decide) (fun hc52 => ?_) (fun hc52 => ?_)
  · have h := h.1 hc52
    refine v_aload_n X dX4_setDuration_57 rfl 0 rfl ?_
    refine v_callVv (o := 10) (ci := 4) (As := []) (rest := []) X (c_X4_keeps l S _ h) mw_X4_keeps mv_X4_76 oo10 kk10 ⟨Nat.le_of_ble_eq_true rfl, Nat.le_of_ble_eq_true rfl⟩ rfl (Nat.le_of_ble_eq_true rfl) rfl dX4_setDuration_58 (fun S58 h => ?_)
    refine v_aload_n X dX4_setDuration_61 rfl 0 rfl ?_
    refine v_get (v := .ref (ad 10 1)) X f_X4_7 oo10 kk10 dX4_setDuration_62 rfl ?_
    refine v_bipush (v := 63) X dX4_setDuration_65 (by decide) ?_
    refine v_iload_n X dX4_setDuration_67 rfl 1 rfl ?_
    refine v_iadd X dX4_setDuration_68 ?_
    obtain ⟨hb, h⟩ := h
    refine v_iald (o := 10) (k := 0) (n := 111) X oo10 kk10 rfl rfl rfl hb dX4_setDuration_69 ?_
    refine v_topi (fun y70 ey70 => ?_)
    have h := h y70 ey70
    refine v_istore_n X [(3, .int y70), (0, .ref (ad 10 0)), (1, .int x1), (2, .int x2)] dX4_setDuration_70 rfl (by decide) rfl ?_
    refine v_aload_n X dX4_setDuration_71 rfl 1 rfl ?_
    refine v_get (v := .ref (ad 10 1)) X f_X4_7 oo10 kk10 dX4_setDuration_72 rfl ?_
    refine v_bipush (v := 63) X dX4_setDuration_75 (by decide) ?_
    refine v_iload_n X dX4_setDuration_77 rfl 2 rfl ?_
    refine v_iadd X dX4_setDuration_78 ?_
    refine v_iload_n X dX4_setDuration_79 rfl 3 rfl ?_
    obtain ⟨hb, h⟩ := h
    refine v_iast (o := 10) (k := 0) (n := 111) X oo10 kk10 rfl rfl rfl hb dX4_setDuration_80 ?_
    refine v_st (fun S80 eS80 => ?_)
    have h := h S80 eS80
    refine v_iload_n X dX4_setDuration_81 rfl 0 rfl ?_
    exact v_iret X hr hlk dX4_setDuration_82 h
  · have h := h.2 hc52
    refine v_iconst (v := (-1)) X dX4_setDuration_55 (by decide) ?_
    exact v_iret X hr hlk dX4_setDuration_56 h
def w_X4_setDuration_24 (K : Int32 → St → Prop) (S : St) (x1 : Int32) (x2 : Int32) (t0 : Int64) (t1 : Int64) : Prop := ((2 ≤ x1) → (((¬ x1 = 2) → (w_X4_setDuration_49 K S x1 x2 30 t0 t1)) ∧ ((x1 = 2) → (w_X4_setDuration_49 K S x1 x2 15 t0 t1)))) ∧ ((¬ 2 ≤ x1) → (w_X4_setDuration_49 K S x1 x2 10 t0 t1))
set_option maxHeartbeats 4000000 in
set_option maxRecDepth 100000 in
theorem t_X4_setDuration_24 {p : Program} {l : Launch} {e : Env} {s : State} {m : MethodId} {args : Array Value} {below : List Frame} {meth : Method} {c : Code} {D : va_G} {cA : Nat → ClassId} {ad : Nat → Nat → Nat} {A : Nat → Prop} {K : Int32 → St → Prop} {S : St} {x1 : Int32} {x2 : Int32} {t0 : Int64} {t1 : Int64} (X : Cx p rm_X4_setDuration m c cX4_setDuration 4 s args RX4 0 0 D cA ad A) (hr : meth.sig.returnType = (some .int)) (hlk : meth.locks = false) (h : w_X4_setDuration_24 K S x1 x2 t0 t1) : VV p l e rm_X4_setDuration s m args below meth c 0 0 (MQ below (Qi D cA ad A K) args s 0 0 A) D cA ad A 4 S 24 [(0, .ref (ad 10 0)), (1, .int x1), (2, .int x2)] [.long t0, .long t1] := by
  unfold w_X4_setDuration_24 at h
  refine v_iload_n X dX4_setDuration_24 rfl 1 rfl ?_
  refine v_iconst (v := 2) X dX4_setDuration_25 (by decide) ?_
  refine v_icmp_ge X 35 dX4_setDuration_26 (by decide) (fun hc26 => ?_) (fun hc26 => ?_)
  · have h := h.1 hc26
    refine v_iload_n X dX4_setDuration_35 rfl 1 rfl ?_
    refine v_iconst (v := 2) X dX4_setDuration_36 (by decide) ?_
    refine v_icmp_ne X 46 dX4_setDuration_37 (by decide) (fun hc37 => ?_) (fun hc37 => ?_)
    · have h := h.1 hc37
      refine v_ldc2 (v := 30) X dX4_setDuration_46 k_X4_72 ?_
      exact t_X4_setDuration_49 X hr hlk h
    · have h := h.2 hc37
      refine v_ldc2 (v := 15) X dX4_setDuration_40 k_X4_87 ?_
      refine v_goto X 49 dX4_setDuration_43 (by decide) ?_
      exact t_X4_setDuration_49 X hr hlk h
  · have h := h.2 hc26
    refine v_ldc2 (v := 10) X dX4_setDuration_29 k_X4_85 ?_
    refine v_goto X 49 dX4_setDuration_32 (by decide) ?_
    exact t_X4_setDuration_49 X hr hlk h
def w_X4_setDuration (S : St) (x1 : Int32) (x2 : Int32) (K : Int32 → St → Prop) : Prop := w_X4_in S (Int32.toInt64 x1) 0 3 (fun r6 => ((r6 = 0) → (K (-1) S)) ∧ ((¬ r6 = 0) → (((¬ x1 = 3) → (w_X4_setDuration_24 K S x1 x2 0 (Int32.toInt64 x2))) ∧ ((x1 = 3) → (w_X4_setDuration_24 K S x1 x2 1 (Int32.toInt64 x2))))))
set_option maxHeartbeats 4000000 in
set_option maxRecDepth 100000 in
theorem c_X4_setDuration (l : Launch) {D : va_G} {cA : Nat → ClassId} {ad : Nat → Nat → Nat} {A : Nat → Prop} (S : St) (x1 : Int32) (x2 : Int32) (K : Int32 → St → Prop) (h : w_X4_setDuration S x1 x2 K) : MT l yX4_setDuration cX4_setDuration 4 (some .int) 1 25 [.ref (ad 10 0), .int x1, .int x2] D cA ad A S (Qi D cA ad A K) := by
  refine MT.ofV (by decide) (Nat.le_of_ble_eq_true rfl) ?_
  intro p e s m args below meth c X hr hlk
  have X : Cx p rm_X4_setDuration m c cX4_setDuration 4 s args RX4 0 0 D cA ad A := X
  refine v_lv [(0, .ref (ad 10 0)), (1, .int x1), (2, .int x2)] rfl ?_
  unfold w_X4_setDuration at h
  refine v_iload_n X dX4_setDuration_0 rfl 1 rfl ?_
  refine v_i2l X dX4_setDuration_1 ?_
  refine v_lconst (v := 0) X dX4_setDuration_2 (by decide) ?_
  refine v_ldc2 (v := 3) X dX4_setDuration_3 k_X4_60 ?_
  refine v_callSz (As := [.long (Int32.toInt64 x1), .long 0, .long 3]) (rest := []) X (c_X4_in l S (Int32.toInt64 x1) 0 3 _ h) mw_X4_in ms_X4_62 ⟨Nat.le_of_ble_eq_true rfl, Nat.le_of_ble_eq_true rfl⟩ rfl (Nat.le_of_ble_eq_true rfl) rfl dX4_setDuration_6 (fun r6 S' hq hz6 => ?_)
  obtain ⟨hq1, h⟩ := hq
  rw [hq1]
  clear hq1
  refine v_if_eq X 55 dX4_setDuration_9 (by decide) (fun hc9 => ?_) (fun hc9 => ?_)
  · have h := h.1 hc9
    refine v_iconst (v := (-1)) X dX4_setDuration_55 (by decide) ?_
    exact v_iret X hr hlk dX4_setDuration_56 h
  · have h := h.2 hc9
    refine v_iload_n X dX4_setDuration_12 rfl 2 rfl ?_
    refine v_i2l X dX4_setDuration_13 ?_
    refine v_iload_n X dX4_setDuration_14 rfl 1 rfl ?_
    refine v_iconst (v := 3) X dX4_setDuration_15 (by decide) ?_
    refine v_icmp_ne X 23 dX4_setDuration_16 (by decide) (fun hc16 => ?_) (fun hc16 => ?_)
    · have h := h.1 hc16
      refine v_lconst (v := 0) X dX4_setDuration_23 (by decide) ?_
      exact t_X4_setDuration_24 X hr hlk h
    · have h := h.2 hc16
      refine v_lconst (v := 1) X dX4_setDuration_19 (by decide) ?_
      refine v_goto X 24 dX4_setDuration_20 (by decide) ?_
      exact t_X4_setDuration_24 X hr hlk h
abbrev rm_X4_addShow : Room := { frames := 2, cells := 0, slots := 0, locals := 45 }
def w_X4_addShow (S : St) (x1 : Int32) (x2 : Int32) (x3 : Int32) (K : Int32 → St → Prop) : Prop := w_X4_isHouse S x1 (fun r1 => ((r1 = 0) → (K (-1) S)) ∧ ((¬ r1 = 0) → (w_X4_isFilm S x2 (fun r8 => ((r8 = 0) → (K (-1) S)) ∧ ((¬ r8 = 0) → (w_X4_isStart S x3 (fun r15 => ((¬ r15 = 0) → ((vp_in (0 + x2) 111) ∧ (((¬ (S 10 0 (0 + x2).toNatClampNeg) = 0) → (((¬ (S 10 0 67) = 6) → (w_X4_keeps S (fun S53 => ∀ y63 : Int32, y63 = (S53 10 0 67) → ((vp_in (68 + y63) 111) ∧ (∀ S75 : St, S75 = up3 S53 10 0 ((68 + y63).toNatClampNeg) x1 → ((vp_in (74 + y63) 111) ∧ (∀ S86 : St, S86 = up3 S75 10 0 ((74 + y63).toNatClampNeg) x2 → ((vp_in (80 + y63) 111) ∧ (∀ S97 : St, S97 = up3 S86 10 0 ((80 + y63).toNatClampNeg) x3 → (∀ S108 : St, S108 = up3 S97 10 0 67 ((S97 10 0 67) + 1) → (K y63 S108))))))))))) ∧ (((S 10 0 67) = 6) → (K (-3) S)))) ∧ (((S 10 0 (0 + x2).toNatClampNeg) = 0) → (K (-2) S))))) ∧ ((r15 = 0) → (K (-1) S)))))))))
set_option maxHeartbeats 4000000 in
set_option maxRecDepth 100000 in
theorem c_X4_addShow (l : Launch) {D : va_G} {cA : Nat → ClassId} {ad : Nat → Nat → Nat} {A : Nat → Prop} (S : St) (x1 : Int32) (x2 : Int32) (x3 : Int32) (K : Int32 → St → Prop) (h : w_X4_addShow S x1 x2 x3 K) : MT l yX4_addShow cX4_addShow 5 (some .int) 2 45 [.ref (ad 10 0), .int x1, .int x2, .int x3] D cA ad A S (Qi D cA ad A K) := by
  refine MT.ofV (by decide) (Nat.le_of_ble_eq_true rfl) ?_
  intro p e s m args below meth c X hr hlk
  have X : Cx p rm_X4_addShow m c cX4_addShow 5 s args RX4 0 0 D cA ad A := X
  refine v_lv [(0, .ref (ad 10 0)), (1, .int x1), (2, .int x2), (3, .int x3)] rfl ?_
  unfold w_X4_addShow at h
  refine v_iload_n X dX4_addShow_0 rfl 1 rfl ?_
  refine v_callSz (As := [.int x1]) (rest := []) X (c_X4_isHouse l S x1 _ h) mw_X4_isHouse ms_X4_79 ⟨Nat.le_of_ble_eq_true rfl, Nat.le_of_ble_eq_true rfl⟩ rfl (Nat.le_of_ble_eq_true rfl) rfl dX4_addShow_1 (fun r1 S' hq hz1 => ?_)
  obtain ⟨hq1, h⟩ := hq
  rw [hq1]
  clear hq1
  refine v_if_eq X 21 dX4_addShow_4 (by decide) (fun hc4 => ?_) (fun hc4 => ?_)
  · have h := h.1 hc4
    refine v_iconst (v := (-1)) X dX4_addShow_21 (by decide) ?_
    exact v_iret X hr hlk dX4_addShow_22 h
  · have h := h.2 hc4
    refine v_iload_n X dX4_addShow_7 rfl 2 rfl ?_
    refine v_callSz (As := [.int x2]) (rest := []) X (c_X4_isFilm l S x2 _ h) mw_X4_isFilm ms_X4_68 ⟨Nat.le_of_ble_eq_true rfl, Nat.le_of_ble_eq_true rfl⟩ rfl (Nat.le_of_ble_eq_true rfl) rfl dX4_addShow_8 (fun r8 S' hq hz8 => ?_)
    obtain ⟨hq1, h⟩ := hq
    rw [hq1]
    clear hq1
    refine v_if_eq X 21 dX4_addShow_11 (by decide) (fun hc11 => ?_) (fun hc11 => ?_)
    · have h := h.1 hc11
      refine v_iconst (v := (-1)) X dX4_addShow_21 (by decide) ?_
      exact v_iret X hr hlk dX4_addShow_22 h
    · have h := h.2 hc11
      refine v_iload_n X dX4_addShow_14 rfl 3 rfl ?_
      refine v_callSz (As := [.int x3]) (rest := []) X (c_X4_isStart l S x3 _ h) mw_X4_isStart ms_X4_89 ⟨Nat.le_of_ble_eq_true rfl, Nat.le_of_ble_eq_true rfl⟩ rfl (Nat.le_of_ble_eq_true rfl) rfl dX4_addShow_15 (fun r15 S' hq hz15 => ?_)
      obtain ⟨hq1, h⟩ := hq
      rw [hq1]
      clear hq1
      refine v_if_ne X 23 dX4_addShow_18 (by decide) (fun hc18 => ?_) (fun hc18 => ?_)
      · have h := h.1 hc18
        refine v_aload_n X dX4_addShow_23 rfl 0 rfl ?_
        refine v_get (v := .ref (ad 10 1)) X f_X4_7 oo10 kk10 dX4_addShow_24 rfl ?_
        refine v_iconst (v := 0) X dX4_addShow_27 (by decide) ?_
        refine v_iload_n X dX4_addShow_28 rfl 2 rfl ?_
        refine v_iadd X dX4_addShow_29 ?_
        obtain ⟨hb, h⟩ := h
        refine v_iald (o := 10) (k := 0) (n := 111) X oo10 kk10 rfl rfl rfl hb dX4_addShow_30 ?_
        refine v_if_ne X 37 dX4_addShow_31 (by decide) (fun hc31 => ?_) (fun hc31 => ?_)
        · have h := h.1 hc31
          refine v_aload_n X dX4_addShow_37 rfl 0 rfl ?_
          refine v_get (v := .ref (ad 10 1)) X f_X4_7 oo10 kk10 dX4_addShow_38 rfl ?_
          refine v_bipush (v := 67) X dX4_addShow_41 (by decide) ?_
          refine v_iald (o := 10) (k := 0) (n := 111) X oo10 kk10 rfl rfl (j := 67) (by decide) (by unfold vp_in; decide) dX4_addShow_43 ?_
          refine v_bipush (v := 6) X dX4_addShow_44 (by decide) ?_
          refine v_icmp_ne X 52 dX4_addShow_46 (by decide) (fun hc46 => ?_) (fun hc46 => ?_)
          · have h := h.1 hc46
            refine v_aload_n X dX4_addShow_52 rfl 0 rfl ?_
            refine v_callVv (o := 10) (ci := 4) (As := []) (rest := []) X (c_X4_keeps l S _ h) mw_X4_keeps mv_X4_76 oo10 kk10 ⟨Nat.le_of_ble_eq_true rfl, Nat.le_of_ble_eq_true rfl⟩ rfl (Nat.le_of_ble_eq_true rfl) rfl dX4_addShow_53 (fun S53 h => ?_)
            refine v_aload_n X dX4_addShow_56 rfl 0 rfl ?_
            refine v_get (v := .ref (ad 10 1)) X f_X4_7 oo10 kk10 dX4_addShow_57 rfl ?_
            refine v_bipush (v := 67) X dX4_addShow_60 (by decide) ?_
            refine v_iald (o := 10) (k := 0) (n := 111) X oo10 kk10 rfl rfl (j := 67) (by decide) (by unfold vp_in; decide) dX4_addShow_62 ?_
            refine v_topi (fun y63 ey63 => ?_)
            have h := h y63 ey63
            refine v_istore X [(4, .int y63), (0, .ref (ad 10 0)), (1, .int x1), (2, .int x2), (3, .int x3)] dX4_addShow_63 (by decide) rfl ?_
            refine v_aload_n X dX4_addShow_65 rfl 1 rfl ?_
            refine v_get (v := .ref (ad 10 1)) X f_X4_7 oo10 kk10 dX4_addShow_66 rfl ?_
            refine v_bipush (v := 68) X dX4_addShow_69 (by decide) ?_
            refine v_iload X dX4_addShow_71 0 rfl ?_
            refine v_iadd X dX4_addShow_73 ?_
            refine v_iload_n X dX4_addShow_74 rfl 2 rfl ?_
            obtain ⟨hb, h⟩ := h
            refine v_iast (o := 10) (k := 0) (n := 111) X oo10 kk10 rfl rfl rfl hb dX4_addShow_75 ?_
            refine v_st (fun S75 eS75 => ?_)
            have h := h S75 eS75
            refine v_aload_n X dX4_addShow_76 rfl 1 rfl ?_
            refine v_get (v := .ref (ad 10 1)) X f_X4_7 oo10 kk10 dX4_addShow_77 rfl ?_
            refine v_bipush (v := 74) X dX4_addShow_80 (by decide) ?_
            refine v_iload X dX4_addShow_82 0 rfl ?_
            refine v_iadd X dX4_addShow_84 ?_
            refine v_iload_n X dX4_addShow_85 rfl 3 rfl ?_
            obtain ⟨hb, h⟩ := h
            refine v_iast (o := 10) (k := 0) (n := 111) X oo10 kk10 rfl rfl rfl hb dX4_addShow_86 ?_
            refine v_st (fun S86 eS86 => ?_)
            have h := h S86 eS86
            refine v_aload_n X dX4_addShow_87 rfl 1 rfl ?_
            refine v_get (v := .ref (ad 10 1)) X f_X4_7 oo10 kk10 dX4_addShow_88 rfl ?_
            refine v_bipush (v := 80) X dX4_addShow_91 (by decide) ?_
            refine v_iload X dX4_addShow_93 0 rfl ?_
            refine v_iadd X dX4_addShow_95 ?_
            refine v_iload_n X dX4_addShow_96 rfl 4 rfl ?_
            obtain ⟨hb, h⟩ := h
            refine v_iast (o := 10) (k := 0) (n := 111) X oo10 kk10 rfl rfl rfl hb dX4_addShow_97 ?_
            refine v_st (fun S97 eS97 => ?_)
            have h := h S97 eS97
            refine v_aload_n X dX4_addShow_98 rfl 1 rfl ?_
            refine v_get (v := .ref (ad 10 1)) X f_X4_7 oo10 kk10 dX4_addShow_99 rfl ?_
            refine v_bipush (v := 67) X dX4_addShow_102 (by decide) ?_
            refine v_dup2 X dX4_addShow_104 rfl rfl ?_
            refine v_iald (o := 10) (k := 0) (n := 111) X oo10 kk10 rfl rfl (j := 67) (by decide) (by unfold vp_in; decide) dX4_addShow_105 ?_
            refine v_iconst (v := 1) X dX4_addShow_106 (by decide) ?_
            refine v_iadd X dX4_addShow_107 ?_
            refine v_iast (o := 10) (k := 0) (n := 111) X oo10 kk10 rfl rfl (j := 67) (by decide) (by unfold vp_in; decide) dX4_addShow_108 ?_
            refine v_st (fun S108 eS108 => ?_)
            have h := h S108 eS108
            refine v_iload X dX4_addShow_109 0 rfl ?_
            exact v_iret X hr hlk dX4_addShow_111 h
          · have h := h.2 hc46
            refine v_bipush (v := (-3)) X dX4_addShow_49 (by decide) ?_
            exact v_iret X hr hlk dX4_addShow_51 h
        · have h := h.2 hc31
          refine v_bipush (v := (-2)) X dX4_addShow_34 (by decide) ?_
          exact v_iret X hr hlk dX4_addShow_36 h
      · have h := h.2 hc18
        refine v_iconst (v := (-1)) X dX4_addShow_21 (by decide) ?_
        exact v_iret X hr hlk dX4_addShow_22 h
abbrev rm_X4_goes : Room := { frames := 0, cells := 0, slots := 0, locals := 0 }
def w_X4_goes_145 (K : St → Prop) (B94 : St → Int32 → Int32 → Prop) (S : St) (x1 : Int32) (x2 : Int32) (x3 : Int32) (t0 : Int32) (t1 : Int32) : Prop := (vp_in t1 111) ∧ (∀ S145 : St, S145 = up3 S 10 0 t1.toNatClampNeg t0 → ((vp_in (95 + x3) 111) ∧ ((vp_in (95 + x2) 111) ∧ (∀ S163 : St, S163 = up3 S145 10 0 ((95 + x2).toNatClampNeg) (S145 10 0 (95 + x3).toNatClampNeg) → ((vp_in (103 + x3) 111) ∧ ((vp_in (103 + x2) 111) ∧ (∀ S181 : St, S181 = up3 S163 10 0 ((103 + x2).toNatClampNeg) (S163 10 0 (103 + x3).toNatClampNeg) → (∀ y182 : Int32, y182 = x2 + 1 → (∀ y185 : Int32, y185 = x3 + 1 → (B94 S181 y182 y185))))))))))
set_option maxHeartbeats 4000000 in
set_option maxRecDepth 100000 in
theorem t_X4_goes_145 {p : Program} {l : Launch} {e : Env} {s : State} {m : MethodId} {args : Array Value} {below : List Frame} {meth : Method} {c : Code} {D : va_G} {cA : Nat → ClassId} {ad : Nat → Nat → Nat} {A : Nat → Prop} {K : St → Prop} {B94 : St → Int32 → Int32 → Prop} {S : St} {x1 : Int32} {x2 : Int32} {x3 : Int32} {t0 : Int32} {t1 : Int32} (X : Cx p rm_X4_goes m c cX4_goes 5 s args RX4 0 0 D cA ad A) (hr : meth.sig.returnType = none) (hlk : meth.locks = false) (hB94 : ∀ (S1 : St) (x2 : Int32) (x3 : Int32), B94 S1 x2 x3 → VV p l e rm_X4_goes s m args below meth c 0 0 (MQ below (Qv D cA ad A K) args s 0 0 A) D cA ad A 5 S1 94 [(0, .ref (ad 10 0)), (1, .int x1), (2, .int x2), (3, .int x3)] []) (h : w_X4_goes_145 K B94 S x1 x2 x3 t0 t1) : VV p l e rm_X4_goes s m args below meth c 0 0 (MQ below (Qv D cA ad A K) args s 0 0 A) D cA ad A 5 S 145 [(0, .ref (ad 10 0)), (1, .int x1), (2, .int x2), (3, .int x3)] [.int t0, .int t1, .ref (ad 10 1)] := by
  unfold w_X4_goes_145 at h
  obtain ⟨hb, h⟩ := h
  refine v_iast (o := 10) (k := 0) (n := 111) X oo10 kk10 rfl rfl rfl hb dX4_goes_145 ?_
  refine v_st (fun S145 eS145 => ?_)
  have h := h S145 eS145
  refine v_aload_n X dX4_goes_146 rfl 0 rfl ?_
  refine v_get (v := .ref (ad 10 1)) X f_X4_7 oo10 kk10 dX4_goes_147 rfl ?_
  refine v_bipush (v := 95) X dX4_goes_150 (by decide) ?_
  refine v_iload_n X dX4_goes_152 rfl 2 rfl ?_
  refine v_iadd X dX4_goes_153 ?_
  refine v_aload_n X dX4_goes_154 rfl 0 rfl ?_
  refine v_get (v := .ref (ad 10 1)) X f_X4_7 oo10 kk10 dX4_goes_155 rfl ?_
  refine v_bipush (v := 95) X dX4_goes_158 (by decide) ?_
  refine v_iload_n X dX4_goes_160 rfl 3 rfl ?_
  refine v_iadd X dX4_goes_161 ?_
  obtain ⟨hb, h⟩ := h
  refine v_iald (o := 10) (k := 0) (n := 111) X oo10 kk10 rfl rfl rfl hb dX4_goes_162 ?_
  obtain ⟨hb, h⟩ := h
  refine v_iast (o := 10) (k := 0) (n := 111) X oo10 kk10 rfl rfl rfl hb dX4_goes_163 ?_
  refine v_st (fun S163 eS163 => ?_)
  have h := h S163 eS163
  refine v_aload_n X dX4_goes_164 rfl 0 rfl ?_
  refine v_get (v := .ref (ad 10 1)) X f_X4_7 oo10 kk10 dX4_goes_165 rfl ?_
  refine v_bipush (v := 103) X dX4_goes_168 (by decide) ?_
  refine v_iload_n X dX4_goes_170 rfl 2 rfl ?_
  refine v_iadd X dX4_goes_171 ?_
  refine v_aload_n X dX4_goes_172 rfl 0 rfl ?_
  refine v_get (v := .ref (ad 10 1)) X f_X4_7 oo10 kk10 dX4_goes_173 rfl ?_
  refine v_bipush (v := 103) X dX4_goes_176 (by decide) ?_
  refine v_iload_n X dX4_goes_178 rfl 3 rfl ?_
  refine v_iadd X dX4_goes_179 ?_
  obtain ⟨hb, h⟩ := h
  refine v_iald (o := 10) (k := 0) (n := 111) X oo10 kk10 rfl rfl rfl hb dX4_goes_180 ?_
  obtain ⟨hb, h⟩ := h
  refine v_iast (o := 10) (k := 0) (n := 111) X oo10 kk10 rfl rfl rfl hb dX4_goes_181 ?_
  refine v_st (fun S181 eS181 => ?_)
  have h := h S181 eS181
  obtain ⟨y182, ey182⟩ : ∃ z : Int32, z = x2 + 1 := ⟨_, rfl⟩
  have h := h y182 ey182
  refine v_iinc (v := y182) X [(2, .int y182), (0, .ref (ad 10 0)), (1, .int x1), (3, .int x3)] dX4_goes_182 2 rfl (by rw [ey182]; rfl) (by decide) rfl ?_
  obtain ⟨y185, ey185⟩ : ∃ z : Int32, z = x3 + 1 := ⟨_, rfl⟩
  have h := h y185 ey185
  refine v_iinc (v := y185) X [(3, .int y185), (2, .int y182), (0, .ref (ad 10 0)), (1, .int x1)] dX4_goes_185 3 rfl (by rw [ey185]; rfl) (by decide) rfl ?_
  refine v_goto X 94 dX4_goes_188 (by decide) ?_
  refine v_sub [2, 3, 1, 0] rfl ?_
  exact hB94 _ _ _ h
def w_X4_goes_94 (K : St → Prop) (S : St) (x1 : Int32) (x2 : Int32) (x3 : Int32) : Prop := ∃ I : Nat → St → Int32 → Int32 → Prop, (∃ n : Nat, I n S x2 x3) ∧ ∀ (n : Nat) (S : St) (x2 : Int32) (x3 : Int32), I n S x2 x3 → ((((S 10 0 86) ≤ x3) → (∀ S198 : St, S198 = up3 S 10 0 86 x2 → (K S198))) ∧ ((¬ (S 10 0 86) ≤ x3) → ((vp_in (87 + x3) 111) ∧ (∀ y114 : Int32, y114 = (S 10 0 (87 + x3).toNatClampNeg) → (((y114 = x1) → (∀ y185 : Int32, y185 = x3 + 1 → (∃ n' : Nat, n' < n ∧ I n' S x2 y185))) ∧ ((¬ y114 = x1) → (((y114 ≤ x1) → (w_X4_goes_145 K (fun (S : St) (x2 : Int32) (x3 : Int32) => ∃ n' : Nat, n' < n ∧ I n' S x2 x3) S x1 x2 x3 y114 (87 + x2))) ∧ ((¬ y114 ≤ x1) → (w_X4_goes_145 K (fun (S : St) (x2 : Int32) (x3 : Int32) => ∃ n' : Nat, n' < n ∧ I n' S x2 x3) S x1 x2 x3 (y114 - 1) (87 + x2))))))))))
set_option maxHeartbeats 4000000 in
set_option maxRecDepth 100000 in
theorem t_X4_goes_94 {p : Program} {l : Launch} {e : Env} {s : State} {m : MethodId} {args : Array Value} {below : List Frame} {meth : Method} {c : Code} {D : va_G} {cA : Nat → ClassId} {ad : Nat → Nat → Nat} {A : Nat → Prop} {K : St → Prop} {S : St} {x1 : Int32} {x2 : Int32} {x3 : Int32} (X : Cx p rm_X4_goes m c cX4_goes 5 s args RX4 0 0 D cA ad A) (hr : meth.sig.returnType = none) (hlk : meth.locks = false) (h : w_X4_goes_94 K S x1 x2 x3) : VV p l e rm_X4_goes s m args below meth c 0 0 (MQ below (Qv D cA ad A K) args s 0 0 A) D cA ad A 5 S 94 [(0, .ref (ad 10 0)), (1, .int x1), (2, .int x2), (3, .int x3)] [] := by
  obtain ⟨I, ⟨n, hI⟩, hbody⟩ := h
  suffices key : ∀ (n : Nat) (S : St) (x2 : Int32) (x3 : Int32), I n S x2 x3 → VV p l e rm_X4_goes s m args below meth c 0 0 (MQ below (Qv D cA ad A K) args s 0 0 A) D cA ad A 5 S 94 [(0, .ref (ad 10 0)), (1, .int x1), (2, .int x2), (3, .int x3)] [] from key n S x2 x3 hI
  clear hI
  intro n
  induction n using Nat.strongRecOn with
  | ind n ih =>
    intro S x2 x3 hI
    have h := hbody n S x2 x3 hI
    clear hI
    refine v_iload_n X dX4_goes_94 rfl 3 rfl ?_
    refine v_aload_n X dX4_goes_95 rfl 0 rfl ?_
    refine v_get (v := .ref (ad 10 1)) X f_X4_7 oo10 kk10 dX4_goes_96 rfl ?_
    refine v_bipush (v := 86) X dX4_goes_99 (by decide) ?_
    refine v_iald (o := 10) (k := 0) (n := 111) X oo10 kk10 rfl rfl (j := 86) (by decide) (by unfold vp_in; decide) dX4_goes_101 ?_
    refine v_icmp_ge X 191 dX4_goes_102 (by decide) (fun hc102 => ?_) (fun hc102 => ?_)
    · have h := h.1 hc102
      refine v_aload_n X dX4_goes_191 rfl 0 rfl ?_
      refine v_get (v := .ref (ad 10 1)) X f_X4_7 oo10 kk10 dX4_goes_192 rfl ?_
      refine v_bipush (v := 86) X dX4_goes_195 (by decide) ?_
      refine v_iload_n X dX4_goes_197 rfl 2 rfl ?_
      refine v_iast (o := 10) (k := 0) (n := 111) X oo10 kk10 rfl rfl (j := 86) (by decide) (by unfold vp_in; decide) dX4_goes_198 ?_
      refine v_st (fun S198 eS198 => ?_)
      have h := h S198 eS198
      exact v_vret X hr hlk dX4_goes_199 h
    · have h := h.2 hc102
      refine v_aload_n X dX4_goes_105 rfl 0 rfl ?_
      refine v_get (v := .ref (ad 10 1)) X f_X4_7 oo10 kk10 dX4_goes_106 rfl ?_
      refine v_bipush (v := 87) X dX4_goes_109 (by decide) ?_
      refine v_iload_n X dX4_goes_111 rfl 3 rfl ?_
      refine v_iadd X dX4_goes_112 ?_
      obtain ⟨hb, h⟩ := h
      refine v_iald (o := 10) (k := 0) (n := 111) X oo10 kk10 rfl rfl rfl hb dX4_goes_113 ?_
      refine v_topi (fun y114 ey114 => ?_)
      have h := h y114 ey114
      refine v_istore X [(4, .int y114), (0, .ref (ad 10 0)), (1, .int x1), (2, .int x2), (3, .int x3)] dX4_goes_114 (by decide) rfl ?_
      refine v_iload X dX4_goes_116 0 rfl ?_
      refine v_iload_n X dX4_goes_118 rfl 2 rfl ?_
      refine v_icmp_eq X 185 dX4_goes_119 (by decide) (fun hc119 => ?_) (fun hc119 => ?_)
      · have h := h.1 hc119
        obtain ⟨y185, ey185⟩ : ∃ z : Int32, z = x3 + 1 := ⟨_, rfl⟩
        have h := h y185 ey185
        refine v_iinc (v := y185) X [(3, .int y185), (4, .int y114), (0, .ref (ad 10 0)), (1, .int x1), (2, .int x2)] dX4_goes_185 4 rfl (by rw [ey185]; rfl) (by decide) rfl ?_
        refine v_goto X 94 dX4_goes_188 (by decide) ?_
        obtain ⟨n', hlt, h⟩ := h
        refine v_sub [2, 3, 4, 0] rfl ?_
        exact ih n' hlt _ _ _ h
      · have h := h.2 hc119
        refine v_aload_n X dX4_goes_122 rfl 1 rfl ?_
        refine v_get (v := .ref (ad 10 1)) X f_X4_7 oo10 kk10 dX4_goes_123 rfl ?_
        refine v_bipush (v := 87) X dX4_goes_126 (by decide) ?_
        refine v_iload_n X dX4_goes_128 rfl 3 rfl ?_
        refine v_iadd X dX4_goes_129 ?_
        refine v_iload X dX4_goes_130 0 rfl ?_
        refine v_iload_n X dX4_goes_132 rfl 2 rfl ?_
        refine v_icmp_le X 143 dX4_goes_133 (by decide) (fun hc133 => ?_) (fun hc133 => ?_)
        · have h := h.1 hc133
          refine v_iload X dX4_goes_143 0 rfl ?_
          refine v_sub [1, 2, 3, 4] rfl ?_
          exact t_X4_goes_145 X hr hlk (fun S x2 x3 hq => by obtain ⟨n', hlt, hq⟩ := hq; exact ih n' hlt S x2 x3 hq) h
        · have h := h.2 hc133
          refine v_iload X dX4_goes_136 0 rfl ?_
          refine v_iconst (v := 1) X dX4_goes_138 (by decide) ?_
          refine v_isub X dX4_goes_139 ?_
          refine v_goto X 145 dX4_goes_140 (by decide) ?_
          refine v_sub [1, 2, 3, 4] rfl ?_
          exact t_X4_goes_145 X hr hlk (fun S x2 x3 hq => by obtain ⟨n', hlt, hq⟩ := hq; exact ih n' hlt S x2 x3 hq) h
def w_X4_goes_13 (K : St → Prop) (S : St) (x1 : Int32) (x2 : Int32) : Prop := ∃ I : Nat → St → Int32 → Prop, (∃ n : Nat, I n S x2) ∧ ∀ (n : Nat) (S : St) (x2 : Int32), I n S x2 → ((((S 10 0 67) ≤ x2) → (w_X4_goes_94 K S x1 0 0)) ∧ ((¬ (S 10 0 67) ≤ x2) → ((vp_in ((68 + x2) + 1) 111) ∧ ((vp_in (68 + x2) 111) ∧ (∀ S43 : St, S43 = up3 S 10 0 ((68 + x2).toNatClampNeg) (S 10 0 ((68 + x2) + 1).toNatClampNeg) → ((vp_in ((74 + x2) + 1) 111) ∧ ((vp_in (74 + x2) 111) ∧ (∀ S63 : St, S63 = up3 S43 10 0 ((74 + x2).toNatClampNeg) (S43 10 0 ((74 + x2) + 1).toNatClampNeg) → ((vp_in ((80 + x2) + 1) 111) ∧ ((vp_in (80 + x2) 111) ∧ (∀ S83 : St, S83 = up3 S63 10 0 ((80 + x2).toNatClampNeg) (S63 10 0 ((80 + x2) + 1).toNatClampNeg) → (∀ y84 : Int32, y84 = x2 + 1 → (∃ n' : Nat, n' < n ∧ I n' S83 y84)))))))))))))
set_option maxHeartbeats 4000000 in
set_option maxRecDepth 100000 in
theorem t_X4_goes_13 {p : Program} {l : Launch} {e : Env} {s : State} {m : MethodId} {args : Array Value} {below : List Frame} {meth : Method} {c : Code} {D : va_G} {cA : Nat → ClassId} {ad : Nat → Nat → Nat} {A : Nat → Prop} {K : St → Prop} {S : St} {x1 : Int32} {x2 : Int32} (X : Cx p rm_X4_goes m c cX4_goes 5 s args RX4 0 0 D cA ad A) (hr : meth.sig.returnType = none) (hlk : meth.locks = false) (h : w_X4_goes_13 K S x1 x2) : VV p l e rm_X4_goes s m args below meth c 0 0 (MQ below (Qv D cA ad A K) args s 0 0 A) D cA ad A 5 S 13 [(0, .ref (ad 10 0)), (1, .int x1), (2, .int x2)] [] := by
  obtain ⟨I, ⟨n, hI⟩, hbody⟩ := h
  suffices key : ∀ (n : Nat) (S : St) (x2 : Int32), I n S x2 → VV p l e rm_X4_goes s m args below meth c 0 0 (MQ below (Qv D cA ad A K) args s 0 0 A) D cA ad A 5 S 13 [(0, .ref (ad 10 0)), (1, .int x1), (2, .int x2)] [] from key n S x2 hI
  clear hI
  intro n
  induction n using Nat.strongRecOn with
  | ind n ih =>
    intro S x2 hI
    have h := hbody n S x2 hI
    clear hI
    refine v_iload_n X dX4_goes_13 rfl 2 rfl ?_
    refine v_aload_n X dX4_goes_14 rfl 0 rfl ?_
    refine v_get (v := .ref (ad 10 1)) X f_X4_7 oo10 kk10 dX4_goes_15 rfl ?_
    refine v_bipush (v := 67) X dX4_goes_18 (by decide) ?_
    refine v_iald (o := 10) (k := 0) (n := 111) X oo10 kk10 rfl rfl (j := 67) (by decide) (by unfold vp_in; decide) dX4_goes_20 ?_
    refine v_icmp_ge X 90 dX4_goes_21 (by decide) (fun hc21 => ?_) (fun hc21 => ?_)
    · have h := h.1 hc21
      refine v_iconst (v := 0) X dX4_goes_90 (by decide) ?_
      refine v_istore_n X [(2, .int 0), (0, .ref (ad 10 0)), (1, .int x1)] dX4_goes_91 rfl (by decide) rfl ?_
      refine v_iconst (v := 0) X dX4_goes_92 (by decide) ?_
      refine v_istore_n X [(3, .int 0), (2, .int 0), (0, .ref (ad 10 0)), (1, .int x1)] dX4_goes_93 rfl (by decide) rfl ?_
      refine v_sub [2, 3, 1, 0] rfl ?_
      exact t_X4_goes_94 X hr hlk h
    · have h := h.2 hc21
      refine v_aload_n X dX4_goes_24 rfl 0 rfl ?_
      refine v_get (v := .ref (ad 10 1)) X f_X4_7 oo10 kk10 dX4_goes_25 rfl ?_
      refine v_bipush (v := 68) X dX4_goes_28 (by decide) ?_
      refine v_iload_n X dX4_goes_30 rfl 2 rfl ?_
      refine v_iadd X dX4_goes_31 ?_
      refine v_aload_n X dX4_goes_32 rfl 0 rfl ?_
      refine v_get (v := .ref (ad 10 1)) X f_X4_7 oo10 kk10 dX4_goes_33 rfl ?_
      refine v_bipush (v := 68) X dX4_goes_36 (by decide) ?_
      refine v_iload_n X dX4_goes_38 rfl 2 rfl ?_
      refine v_iadd X dX4_goes_39 ?_
      refine v_iconst (v := 1) X dX4_goes_40 (by decide) ?_
      refine v_iadd X dX4_goes_41 ?_
      obtain ⟨hb, h⟩ := h
      refine v_iald (o := 10) (k := 0) (n := 111) X oo10 kk10 rfl rfl rfl hb dX4_goes_42 ?_
      obtain ⟨hb, h⟩ := h
      refine v_iast (o := 10) (k := 0) (n := 111) X oo10 kk10 rfl rfl rfl hb dX4_goes_43 ?_
      refine v_st (fun S43 eS43 => ?_)
      have h := h S43 eS43
      refine v_aload_n X dX4_goes_44 rfl 0 rfl ?_
      refine v_get (v := .ref (ad 10 1)) X f_X4_7 oo10 kk10 dX4_goes_45 rfl ?_
      refine v_bipush (v := 74) X dX4_goes_48 (by decide) ?_
      refine v_iload_n X dX4_goes_50 rfl 2 rfl ?_
      refine v_iadd X dX4_goes_51 ?_
      refine v_aload_n X dX4_goes_52 rfl 0 rfl ?_
      refine v_get (v := .ref (ad 10 1)) X f_X4_7 oo10 kk10 dX4_goes_53 rfl ?_
      refine v_bipush (v := 74) X dX4_goes_56 (by decide) ?_
      refine v_iload_n X dX4_goes_58 rfl 2 rfl ?_
      refine v_iadd X dX4_goes_59 ?_
      refine v_iconst (v := 1) X dX4_goes_60 (by decide) ?_
      refine v_iadd X dX4_goes_61 ?_
      obtain ⟨hb, h⟩ := h
      refine v_iald (o := 10) (k := 0) (n := 111) X oo10 kk10 rfl rfl rfl hb dX4_goes_62 ?_
      obtain ⟨hb, h⟩ := h
      refine v_iast (o := 10) (k := 0) (n := 111) X oo10 kk10 rfl rfl rfl hb dX4_goes_63 ?_
      refine v_st (fun S63 eS63 => ?_)
      have h := h S63 eS63
      refine v_aload_n X dX4_goes_64 rfl 0 rfl ?_
      refine v_get (v := .ref (ad 10 1)) X f_X4_7 oo10 kk10 dX4_goes_65 rfl ?_
      refine v_bipush (v := 80) X dX4_goes_68 (by decide) ?_
      refine v_iload_n X dX4_goes_70 rfl 2 rfl ?_
      refine v_iadd X dX4_goes_71 ?_
      refine v_aload_n X dX4_goes_72 rfl 0 rfl ?_
      refine v_get (v := .ref (ad 10 1)) X f_X4_7 oo10 kk10 dX4_goes_73 rfl ?_
      refine v_bipush (v := 80) X dX4_goes_76 (by decide) ?_
      refine v_iload_n X dX4_goes_78 rfl 2 rfl ?_
      refine v_iadd X dX4_goes_79 ?_
      refine v_iconst (v := 1) X dX4_goes_80 (by decide) ?_
      refine v_iadd X dX4_goes_81 ?_
      obtain ⟨hb, h⟩ := h
      refine v_iald (o := 10) (k := 0) (n := 111) X oo10 kk10 rfl rfl rfl hb dX4_goes_82 ?_
      obtain ⟨hb, h⟩ := h
      refine v_iast (o := 10) (k := 0) (n := 111) X oo10 kk10 rfl rfl rfl hb dX4_goes_83 ?_
      refine v_st (fun S83 eS83 => ?_)
      have h := h S83 eS83
      obtain ⟨y84, ey84⟩ : ∃ z : Int32, z = x2 + 1 := ⟨_, rfl⟩
      have h := h y84 ey84
      refine v_iinc (v := y84) X [(2, .int y84), (0, .ref (ad 10 0)), (1, .int x1)] dX4_goes_84 2 rfl (by rw [ey84]; rfl) (by decide) rfl ?_
      refine v_goto X 13 dX4_goes_87 (by decide) ?_
      obtain ⟨n', hlt, h⟩ := h
      refine v_sub [1, 2, 0] rfl ?_
      exact ih n' hlt _ _ h
def w_X4_goes (S : St) (x1 : Int32) (K : St → Prop) : Prop := ∀ S10 : St, S10 = up3 S 10 0 67 ((S 10 0 67) - 1) → (w_X4_goes_13 K S10 x1 x1)
set_option maxHeartbeats 4000000 in
set_option maxRecDepth 100000 in
theorem c_X4_goes (l : Launch) {D : va_G} {cA : Nat → ClassId} {ad : Nat → Nat → Nat} {A : Nat → Prop} (S : St) (x1 : Int32) (K : St → Prop) (h : w_X4_goes S x1 K) : MT l yX4_goes cX4_goes 5 none 0 0 [.ref (ad 10 0), .int x1] D cA ad A S (Qv D cA ad A K) := by
  refine MT.ofV (by decide) (Nat.le_of_ble_eq_true rfl) ?_
  intro p e s m args below meth c X hr hlk
  have X : Cx p rm_X4_goes m c cX4_goes 5 s args RX4 0 0 D cA ad A := X
  refine v_lv [(0, .ref (ad 10 0)), (1, .int x1)] rfl ?_
  unfold w_X4_goes at h
  refine v_aload_n X dX4_goes_0 rfl 0 rfl ?_
  refine v_get (v := .ref (ad 10 1)) X f_X4_7 oo10 kk10 dX4_goes_1 rfl ?_
  refine v_bipush (v := 67) X dX4_goes_4 (by decide) ?_
  refine v_dup2 X dX4_goes_6 rfl rfl ?_
  refine v_iald (o := 10) (k := 0) (n := 111) X oo10 kk10 rfl rfl (j := 67) (by decide) (by unfold vp_in; decide) dX4_goes_7 ?_
  refine v_iconst (v := 1) X dX4_goes_8 (by decide) ?_
  refine v_isub X dX4_goes_9 ?_
  refine v_iast (o := 10) (k := 0) (n := 111) X oo10 kk10 rfl rfl (j := 67) (by decide) (by unfold vp_in; decide) dX4_goes_10 ?_
  refine v_st (fun S10 eS10 => ?_)
  have h := h S10 eS10
  refine v_iload_n X dX4_goes_11 rfl 1 rfl ?_
  refine v_istore_n X [(2, .int x1), (0, .ref (ad 10 0)), (1, .int x1)] dX4_goes_12 rfl (by decide) rfl ?_
  refine v_sub [1, 2, 0] rfl ?_
  exact t_X4_goes_13 X hr hlk h
abbrev rm_X4_removeShow : Room := { frames := 2, cells := 0, slots := 0, locals := 46 }
def w_X4_removeShow (S : St) (x1 : Int32) (K : Int32 → St → Prop) : Prop := w_X4_isShow S x1 (fun r2 => ((¬ r2 = 0) → (w_X4_keeps S (fun S11 => w_X4_goes S11 x1 (fun S16 => K (S16 10 0 67) S16)))) ∧ ((r2 = 0) → (K (-1) S)))
set_option maxHeartbeats 4000000 in
set_option maxRecDepth 100000 in
theorem c_X4_removeShow (l : Launch) {D : va_G} {cA : Nat → ClassId} {ad : Nat → Nat → Nat} {A : Nat → Prop} (S : St) (x1 : Int32) (K : Int32 → St → Prop) (h : w_X4_removeShow S x1 K) : MT l yX4_removeShow cX4_removeShow 2 (some .int) 2 46 [.ref (ad 10 0), .int x1] D cA ad A S (Qi D cA ad A K) := by
  refine MT.ofV (by decide) (Nat.le_of_ble_eq_true rfl) ?_
  intro p e s m args below meth c X hr hlk
  have X : Cx p rm_X4_removeShow m c cX4_removeShow 2 s args RX4 0 0 D cA ad A := X
  refine v_lv [(0, .ref (ad 10 0)), (1, .int x1)] rfl ?_
  unfold w_X4_removeShow at h
  refine v_aload_n X dX4_removeShow_0 rfl 0 rfl ?_
  refine v_iload_n X dX4_removeShow_1 rfl 1 rfl ?_
  refine v_callVz (o := 10) (ci := 4) (As := [.int x1]) (rest := []) X (c_X4_isShow l S x1 _ h) mw_X4_isShow mv_X4_92 oo10 kk10 ⟨Nat.le_of_ble_eq_true rfl, Nat.le_of_ble_eq_true rfl⟩ rfl (Nat.le_of_ble_eq_true rfl) rfl dX4_removeShow_2 (fun r2 S' hq hz2 => ?_)
  obtain ⟨hq1, h⟩ := hq
  rw [hq1]
  clear hq1
  refine v_if_ne X 10 dX4_removeShow_5 (by decide) (fun hc5 => ?_) (fun hc5 => ?_)
  · have h := h.1 hc5
    refine v_aload_n X dX4_removeShow_10 rfl 0 rfl ?_
    refine v_callVv (o := 10) (ci := 4) (As := []) (rest := []) X (c_X4_keeps l S _ h) mw_X4_keeps mv_X4_76 oo10 kk10 ⟨Nat.le_of_ble_eq_true rfl, Nat.le_of_ble_eq_true rfl⟩ rfl (Nat.le_of_ble_eq_true rfl) rfl dX4_removeShow_11 (fun S11 h => ?_)
    refine v_aload_n X dX4_removeShow_14 rfl 0 rfl ?_
    refine v_iload_n X dX4_removeShow_15 rfl 1 rfl ?_
    refine v_callVv (o := 10) (ci := 4) (As := [.int x1]) (rest := []) X (c_X4_goes l S11 x1 _ h) mw_X4_goes mv_X4_95 oo10 kk10 ⟨Nat.le_of_ble_eq_true rfl, Nat.le_of_ble_eq_true rfl⟩ rfl (Nat.le_of_ble_eq_true rfl) rfl dX4_removeShow_16 (fun S16 h => ?_)
    refine v_aload_n X dX4_removeShow_19 rfl 0 rfl ?_
    refine v_get (v := .ref (ad 10 1)) X f_X4_7 oo10 kk10 dX4_removeShow_20 rfl ?_
    refine v_bipush (v := 67) X dX4_removeShow_23 (by decide) ?_
    refine v_iald (o := 10) (k := 0) (n := 111) X oo10 kk10 rfl rfl (j := 67) (by decide) (by unfold vp_in; decide) dX4_removeShow_25 ?_
    exact v_iret X hr hlk dX4_removeShow_26 h
  · have h := h.2 hc5
    refine v_iconst (v := (-1)) X dX4_removeShow_8 (by decide) ?_
    exact v_iret X hr hlk dX4_removeShow_9 h
abbrev rm_X4_moveShow : Room := { frames := 2, cells := 0, slots := 0, locals := 46 }
def w_X4_moveShow (S : St) (x1 : Int32) (x2 : Int32) (K : Int32 → St → Prop) : Prop := w_X4_isShow S x1 (fun r2 => ((r2 = 0) → (K (-1) S)) ∧ ((¬ r2 = 0) → (w_X4_isStart S x2 (fun r9 => ((¬ r9 = 0) → (w_X4_keeps S (fun S18 => (vp_in (80 + x1) 111) ∧ (∀ y30 : Int32, y30 = (S18 10 0 (80 + x1).toNatClampNeg) → ((vp_in (80 + x1) 111) ∧ (∀ S40 : St, S40 = up3 S18 10 0 ((80 + x1).toNatClampNeg) x2 → (K y30 S40))))))) ∧ ((r9 = 0) → (K (-1) S))))))
set_option maxHeartbeats 4000000 in
set_option maxRecDepth 100000 in
theorem c_X4_moveShow (l : Launch) {D : va_G} {cA : Nat → ClassId} {ad : Nat → Nat → Nat} {A : Nat → Prop} (S : St) (x1 : Int32) (x2 : Int32) (K : Int32 → St → Prop) (h : w_X4_moveShow S x1 x2 K) : MT l yX4_moveShow cX4_moveShow 4 (some .int) 2 46 [.ref (ad 10 0), .int x1, .int x2] D cA ad A S (Qi D cA ad A K) := by
  refine MT.ofV (by decide) (Nat.le_of_ble_eq_true rfl) ?_
  intro p e s m args below meth c X hr hlk
  have X : Cx p rm_X4_moveShow m c cX4_moveShow 4 s args RX4 0 0 D cA ad A := X
  refine v_lv [(0, .ref (ad 10 0)), (1, .int x1), (2, .int x2)] rfl ?_
  unfold w_X4_moveShow at h
  refine v_aload_n X dX4_moveShow_0 rfl 0 rfl ?_
  refine v_iload_n X dX4_moveShow_1 rfl 1 rfl ?_
  refine v_callVz (o := 10) (ci := 4) (As := [.int x1]) (rest := []) X (c_X4_isShow l S x1 _ h) mw_X4_isShow mv_X4_92 oo10 kk10 ⟨Nat.le_of_ble_eq_true rfl, Nat.le_of_ble_eq_true rfl⟩ rfl (Nat.le_of_ble_eq_true rfl) rfl dX4_moveShow_2 (fun r2 S' hq hz2 => ?_)
  obtain ⟨hq1, h⟩ := hq
  rw [hq1]
  clear hq1
  refine v_if_eq X 15 dX4_moveShow_5 (by decide) (fun hc5 => ?_) (fun hc5 => ?_)
  · have h := h.1 hc5
    refine v_iconst (v := (-1)) X dX4_moveShow_15 (by decide) ?_
    exact v_iret X hr hlk dX4_moveShow_16 h
  · have h := h.2 hc5
    refine v_iload_n X dX4_moveShow_8 rfl 2 rfl ?_
    refine v_callSz (As := [.int x2]) (rest := []) X (c_X4_isStart l S x2 _ h) mw_X4_isStart ms_X4_89 ⟨Nat.le_of_ble_eq_true rfl, Nat.le_of_ble_eq_true rfl⟩ rfl (Nat.le_of_ble_eq_true rfl) rfl dX4_moveShow_9 (fun r9 S' hq hz9 => ?_)
    obtain ⟨hq1, h⟩ := hq
    rw [hq1]
    clear hq1
    refine v_if_ne X 17 dX4_moveShow_12 (by decide) (fun hc12 => ?_) (fun hc12 => ?_)
    · have h := h.1 hc12
      refine v_aload_n X dX4_moveShow_17 rfl 0 rfl ?_
      refine v_callVv (o := 10) (ci := 4) (As := []) (rest := []) X (c_X4_keeps l S _ h) mw_X4_keeps mv_X4_76 oo10 kk10 ⟨Nat.le_of_ble_eq_true rfl, Nat.le_of_ble_eq_true rfl⟩ rfl (Nat.le_of_ble_eq_true rfl) rfl dX4_moveShow_18 (fun S18 h => ?_)
      refine v_aload_n X dX4_moveShow_21 rfl 0 rfl ?_
      refine v_get (v := .ref (ad 10 1)) X f_X4_7 oo10 kk10 dX4_moveShow_22 rfl ?_
      refine v_bipush (v := 80) X dX4_moveShow_25 (by decide) ?_
      refine v_iload_n X dX4_moveShow_27 rfl 1 rfl ?_
      refine v_iadd X dX4_moveShow_28 ?_
      obtain ⟨hb, h⟩ := h
      refine v_iald (o := 10) (k := 0) (n := 111) X oo10 kk10 rfl rfl rfl hb dX4_moveShow_29 ?_
      refine v_topi (fun y30 ey30 => ?_)
      have h := h y30 ey30
      refine v_istore_n X [(3, .int y30), (0, .ref (ad 10 0)), (1, .int x1), (2, .int x2)] dX4_moveShow_30 rfl (by decide) rfl ?_
      refine v_aload_n X dX4_moveShow_31 rfl 1 rfl ?_
      refine v_get (v := .ref (ad 10 1)) X f_X4_7 oo10 kk10 dX4_moveShow_32 rfl ?_
      refine v_bipush (v := 80) X dX4_moveShow_35 (by decide) ?_
      refine v_iload_n X dX4_moveShow_37 rfl 2 rfl ?_
      refine v_iadd X dX4_moveShow_38 ?_
      refine v_iload_n X dX4_moveShow_39 rfl 3 rfl ?_
      obtain ⟨hb, h⟩ := h
      refine v_iast (o := 10) (k := 0) (n := 111) X oo10 kk10 rfl rfl rfl hb dX4_moveShow_40 ?_
      refine v_st (fun S40 eS40 => ?_)
      have h := h S40 eS40
      refine v_iload_n X dX4_moveShow_41 rfl 0 rfl ?_
      exact v_iret X hr hlk dX4_moveShow_42 h
    · have h := h.2 hc12
      refine v_iconst (v := (-1)) X dX4_moveShow_15 (by decide) ?_
      exact v_iret X hr hlk dX4_moveShow_16 h
abbrev rm_X4_isReel : Room := { frames := 2, cells := 0, slots := 0, locals := 46 }
def w_X4_isReel (S : St) (x1 : Int32) (x2 : Int32) (K : Int32 → Prop) : Prop := w_X4_isShow S x1 (fun r2 => ((r2 = 0) → (K 0)) ∧ ((¬ r2 = 0) → ((vp_in (74 + x1) 111) ∧ ((vp_in (0 + (S 10 0 (74 + x1).toNatClampNeg)) 111) ∧ (w_X4_in S (Int32.toInt64 x2) 0 (Int32.toInt64 ((S 10 0 (0 + (S 10 0 (74 + x1).toNatClampNeg)).toNatClampNeg) - 1)) (fun r30 => ((r30 = 0) → (K 0)) ∧ ((¬ r30 = 0) → (K 1))))))))
set_option maxHeartbeats 4000000 in
set_option maxRecDepth 100000 in
theorem c_X4_isReel (l : Launch) {D : va_G} {cA : Nat → ClassId} {ad : Nat → Nat → Nat} {A : Nat → Prop} (S : St) (x1 : Int32) (x2 : Int32) (K : Int32 → Prop) (h : w_X4_isReel S x1 x2 K) : MT l yX4_isReel cX4_isReel 3 (some .boolean) 2 46 [.ref (ad 10 0), .int x1, .int x2] D cA ad A S (Qz D cA ad A (fun r S' => S' = S ∧ K r)) := by
  refine MT.ofV (by decide) (Nat.le_of_ble_eq_true rfl) ?_
  intro p e s m args below meth c X hr hlk
  have X : Cx p rm_X4_isReel m c cX4_isReel 3 s args RX4 0 0 D cA ad A := X
  refine v_lv [(0, .ref (ad 10 0)), (1, .int x1), (2, .int x2)] rfl ?_
  unfold w_X4_isReel at h
  refine v_aload_n X dX4_isReel_0 rfl 0 rfl ?_
  refine v_iload_n X dX4_isReel_1 rfl 1 rfl ?_
  refine v_callVz (o := 10) (ci := 4) (As := [.int x1]) (rest := []) X (c_X4_isShow l S x1 _ h) mw_X4_isShow mv_X4_92 oo10 kk10 ⟨Nat.le_of_ble_eq_true rfl, Nat.le_of_ble_eq_true rfl⟩ rfl (Nat.le_of_ble_eq_true rfl) rfl dX4_isReel_2 (fun r2 S' hq hz2 => ?_)
  obtain ⟨hq1, h⟩ := hq
  rw [hq1]
  clear hq1
  refine v_if_eq X 40 dX4_isReel_5 (by decide) (fun hc5 => ?_) (fun hc5 => ?_)
  · have h := h.1 hc5
    refine v_iconst (v := 0) X dX4_isReel_40 (by decide) ?_
    exact v_zret X hr hlk dX4_isReel_41 (by first | exact Or.inl rfl | exact Or.inr rfl) ⟨rfl, h⟩
  · have h := h.2 hc5
    refine v_iload_n X dX4_isReel_8 rfl 2 rfl ?_
    refine v_i2l X dX4_isReel_9 ?_
    refine v_lconst (v := 0) X dX4_isReel_10 (by decide) ?_
    refine v_aload_n X dX4_isReel_11 rfl 0 rfl ?_
    refine v_get (v := .ref (ad 10 1)) X f_X4_7 oo10 kk10 dX4_isReel_12 rfl ?_
    refine v_iconst (v := 0) X dX4_isReel_15 (by decide) ?_
    refine v_aload_n X dX4_isReel_16 rfl 0 rfl ?_
    refine v_get (v := .ref (ad 10 1)) X f_X4_7 oo10 kk10 dX4_isReel_17 rfl ?_
    refine v_bipush (v := 74) X dX4_isReel_20 (by decide) ?_
    refine v_iload_n X dX4_isReel_22 rfl 1 rfl ?_
    refine v_iadd X dX4_isReel_23 ?_
    obtain ⟨hb, h⟩ := h
    refine v_iald (o := 10) (k := 0) (n := 111) X oo10 kk10 rfl rfl rfl hb dX4_isReel_24 ?_
    refine v_iadd X dX4_isReel_25 ?_
    obtain ⟨hb, h⟩ := h
    refine v_iald (o := 10) (k := 0) (n := 111) X oo10 kk10 rfl rfl rfl hb dX4_isReel_26 ?_
    refine v_iconst (v := 1) X dX4_isReel_27 (by decide) ?_
    refine v_isub X dX4_isReel_28 ?_
    refine v_i2l X dX4_isReel_29 ?_
    refine v_callSz (As := [.long (Int32.toInt64 x2), .long 0, .long (Int32.toInt64 ((S 10 0 (0 + (S 10 0 (74 + x1).toNatClampNeg)).toNatClampNeg) - 1))]) (rest := []) X (c_X4_in l S (Int32.toInt64 x2) 0 (Int32.toInt64 ((S 10 0 (0 + (S 10 0 (74 + x1).toNatClampNeg)).toNatClampNeg) - 1)) _ h) mw_X4_in ms_X4_62 ⟨Nat.le_of_ble_eq_true rfl, Nat.le_of_ble_eq_true rfl⟩ rfl (Nat.le_of_ble_eq_true rfl) rfl dX4_isReel_30 (fun r30 S' hq hz30 => ?_)
    obtain ⟨hq1, h⟩ := hq
    rw [hq1]
    clear hq1
    refine v_if_eq X 40 dX4_isReel_33 (by decide) (fun hc33 => ?_) (fun hc33 => ?_)
    · have h := h.1 hc33
      refine v_iconst (v := 0) X dX4_isReel_40 (by decide) ?_
      exact v_zret X hr hlk dX4_isReel_41 (by first | exact Or.inl rfl | exact Or.inr rfl) ⟨rfl, h⟩
    · have h := h.2 hc33
      refine v_iconst (v := 1) X dX4_isReel_36 (by decide) ?_
      refine v_goto X 41 dX4_isReel_37 (by decide) ?_
      exact v_zret X hr hlk dX4_isReel_41 (by first | exact Or.inl rfl | exact Or.inr rfl) ⟨rfl, h⟩
abbrev rm_X4_addBreak : Room := { frames := 3, cells := 0, slots := 0, locals := 68 }
def w_X4_addBreak (S : St) (x1 : Int32) (x2 : Int32) (x3 : Int32) (K : Int32 → St → Prop) : Prop := w_X4_isReel S x1 x2 (fun r3 => ((r3 = 0) → (K (-1) S)) ∧ ((¬ r3 = 0) → (w_X4_in S (Int32.toInt64 x3) 1 60 (fun r15 => ((¬ r15 = 0) → (((¬ (S 10 0 86) = 8) → (w_X4_keeps S (fun S39 => (vp_in (87 + (S39 10 0 86)) 111) ∧ (∀ S57 : St, S57 = up3 S39 10 0 ((87 + (S39 10 0 86)).toNatClampNeg) x1 → ((vp_in (95 + (S57 10 0 86)) 111) ∧ (∀ S73 : St, S73 = up3 S57 10 0 ((95 + (S57 10 0 86)).toNatClampNeg) x2 → ((vp_in (103 + (S73 10 0 86)) 111) ∧ (∀ S89 : St, S89 = up3 S73 10 0 ((103 + (S73 10 0 86)).toNatClampNeg) x3 → (∀ S100 : St, S100 = up3 S89 10 0 86 ((S89 10 0 86) + 1) → (K (S100 10 0 86) S100)))))))))) ∧ (((S 10 0 86) = 8) → (K (-3) S)))) ∧ ((r15 = 0) → (K (-1) S))))))
set_option maxHeartbeats 4000000 in
set_option maxRecDepth 100000 in
theorem c_X4_addBreak (l : Launch) {D : va_G} {cA : Nat → ClassId} {ad : Nat → Nat → Nat} {A : Nat → Prop} (S : St) (x1 : Int32) (x2 : Int32) (x3 : Int32) (K : Int32 → St → Prop) (h : w_X4_addBreak S x1 x2 x3 K) : MT l yX4_addBreak cX4_addBreak 4 (some .int) 3 68 [.ref (ad 10 0), .int x1, .int x2, .int x3] D cA ad A S (Qi D cA ad A K) := by
  refine MT.ofV (by decide) (Nat.le_of_ble_eq_true rfl) ?_
  intro p e s m args below meth c X hr hlk
  have X : Cx p rm_X4_addBreak m c cX4_addBreak 4 s args RX4 0 0 D cA ad A := X
  refine v_lv [(0, .ref (ad 10 0)), (1, .int x1), (2, .int x2), (3, .int x3)] rfl ?_
  unfold w_X4_addBreak at h
  refine v_aload_n X dX4_addBreak_0 rfl 0 rfl ?_
  refine v_iload_n X dX4_addBreak_1 rfl 1 rfl ?_
  refine v_iload_n X dX4_addBreak_2 rfl 2 rfl ?_
  refine v_callVz (o := 10) (ci := 4) (As := [.int x1, .int x2]) (rest := []) X (c_X4_isReel l S x1 x2 _ h) mw_X4_isReel mv_X4_99 oo10 kk10 ⟨Nat.le_of_ble_eq_true rfl, Nat.le_of_ble_eq_true rfl⟩ rfl (Nat.le_of_ble_eq_true rfl) rfl dX4_addBreak_3 (fun r3 S' hq hz3 => ?_)
  obtain ⟨hq1, h⟩ := hq
  rw [hq1]
  clear hq1
  refine v_if_eq X 21 dX4_addBreak_6 (by decide) (fun hc6 => ?_) (fun hc6 => ?_)
  · have h := h.1 hc6
    refine v_iconst (v := (-1)) X dX4_addBreak_21 (by decide) ?_
    exact v_iret X hr hlk dX4_addBreak_22 h
  · have h := h.2 hc6
    refine v_iload_n X dX4_addBreak_9 rfl 3 rfl ?_
    refine v_i2l X dX4_addBreak_10 ?_
    refine v_lconst (v := 1) X dX4_addBreak_11 (by decide) ?_
    refine v_ldc2 (v := 60) X dX4_addBreak_12 k_X4_103 ?_
    refine v_callSz (As := [.long (Int32.toInt64 x3), .long 1, .long 60]) (rest := []) X (c_X4_in l S (Int32.toInt64 x3) 1 60 _ h) mw_X4_in ms_X4_62 ⟨Nat.le_of_ble_eq_true rfl, Nat.le_of_ble_eq_true rfl⟩ rfl (Nat.le_of_ble_eq_true rfl) rfl dX4_addBreak_15 (fun r15 S' hq hz15 => ?_)
    obtain ⟨hq1, h⟩ := hq
    rw [hq1]
    clear hq1
    refine v_if_ne X 23 dX4_addBreak_18 (by decide) (fun hc18 => ?_) (fun hc18 => ?_)
    · have h := h.1 hc18
      refine v_aload_n X dX4_addBreak_23 rfl 0 rfl ?_
      refine v_get (v := .ref (ad 10 1)) X f_X4_7 oo10 kk10 dX4_addBreak_24 rfl ?_
      refine v_bipush (v := 86) X dX4_addBreak_27 (by decide) ?_
      refine v_iald (o := 10) (k := 0) (n := 111) X oo10 kk10 rfl rfl (j := 86) (by decide) (by unfold vp_in; decide) dX4_addBreak_29 ?_
      refine v_bipush (v := 8) X dX4_addBreak_30 (by decide) ?_
      refine v_icmp_ne X 38 dX4_addBreak_32 (by decide) (fun hc32 => ?_) (fun hc32 => ?_)
      · have h := h.1 hc32
        refine v_aload_n X dX4_addBreak_38 rfl 0 rfl ?_
        refine v_callVv (o := 10) (ci := 4) (As := []) (rest := []) X (c_X4_keeps l S _ h) mw_X4_keeps mv_X4_76 oo10 kk10 ⟨Nat.le_of_ble_eq_true rfl, Nat.le_of_ble_eq_true rfl⟩ rfl (Nat.le_of_ble_eq_true rfl) rfl dX4_addBreak_39 (fun S39 h => ?_)
        refine v_aload_n X dX4_addBreak_42 rfl 0 rfl ?_
        refine v_get (v := .ref (ad 10 1)) X f_X4_7 oo10 kk10 dX4_addBreak_43 rfl ?_
        refine v_bipush (v := 87) X dX4_addBreak_46 (by decide) ?_
        refine v_aload_n X dX4_addBreak_48 rfl 0 rfl ?_
        refine v_get (v := .ref (ad 10 1)) X f_X4_7 oo10 kk10 dX4_addBreak_49 rfl ?_
        refine v_bipush (v := 86) X dX4_addBreak_52 (by decide) ?_
        refine v_iald (o := 10) (k := 0) (n := 111) X oo10 kk10 rfl rfl (j := 86) (by decide) (by unfold vp_in; decide) dX4_addBreak_54 ?_
        refine v_iadd X dX4_addBreak_55 ?_
        refine v_iload_n X dX4_addBreak_56 rfl 1 rfl ?_
        obtain ⟨hb, h⟩ := h
        refine v_iast (o := 10) (k := 0) (n := 111) X oo10 kk10 rfl rfl rfl hb dX4_addBreak_57 ?_
        refine v_st (fun S57 eS57 => ?_)
        have h := h S57 eS57
        refine v_aload_n X dX4_addBreak_58 rfl 0 rfl ?_
        refine v_get (v := .ref (ad 10 1)) X f_X4_7 oo10 kk10 dX4_addBreak_59 rfl ?_
        refine v_bipush (v := 95) X dX4_addBreak_62 (by decide) ?_
        refine v_aload_n X dX4_addBreak_64 rfl 0 rfl ?_
        refine v_get (v := .ref (ad 10 1)) X f_X4_7 oo10 kk10 dX4_addBreak_65 rfl ?_
        refine v_bipush (v := 86) X dX4_addBreak_68 (by decide) ?_
        refine v_iald (o := 10) (k := 0) (n := 111) X oo10 kk10 rfl rfl (j := 86) (by decide) (by unfold vp_in; decide) dX4_addBreak_70 ?_
        refine v_iadd X dX4_addBreak_71 ?_
        refine v_iload_n X dX4_addBreak_72 rfl 2 rfl ?_
        obtain ⟨hb, h⟩ := h
        refine v_iast (o := 10) (k := 0) (n := 111) X oo10 kk10 rfl rfl rfl hb dX4_addBreak_73 ?_
        refine v_st (fun S73 eS73 => ?_)
        have h := h S73 eS73
        refine v_aload_n X dX4_addBreak_74 rfl 0 rfl ?_
        refine v_get (v := .ref (ad 10 1)) X f_X4_7 oo10 kk10 dX4_addBreak_75 rfl ?_
        refine v_bipush (v := 103) X dX4_addBreak_78 (by decide) ?_
        refine v_aload_n X dX4_addBreak_80 rfl 0 rfl ?_
        refine v_get (v := .ref (ad 10 1)) X f_X4_7 oo10 kk10 dX4_addBreak_81 rfl ?_
        refine v_bipush (v := 86) X dX4_addBreak_84 (by decide) ?_
        refine v_iald (o := 10) (k := 0) (n := 111) X oo10 kk10 rfl rfl (j := 86) (by decide) (by unfold vp_in; decide) dX4_addBreak_86 ?_
        refine v_iadd X dX4_addBreak_87 ?_
        refine v_iload_n X dX4_addBreak_88 rfl 3 rfl ?_
        obtain ⟨hb, h⟩ := h
        refine v_iast (o := 10) (k := 0) (n := 111) X oo10 kk10 rfl rfl rfl hb dX4_addBreak_89 ?_
        refine v_st (fun S89 eS89 => ?_)
        have h := h S89 eS89
        refine v_aload_n X dX4_addBreak_90 rfl 0 rfl ?_
        refine v_get (v := .ref (ad 10 1)) X f_X4_7 oo10 kk10 dX4_addBreak_91 rfl ?_
        refine v_bipush (v := 86) X dX4_addBreak_94 (by decide) ?_
        refine v_dup2 X dX4_addBreak_96 rfl rfl ?_
        refine v_iald (o := 10) (k := 0) (n := 111) X oo10 kk10 rfl rfl (j := 86) (by decide) (by unfold vp_in; decide) dX4_addBreak_97 ?_
        refine v_iconst (v := 1) X dX4_addBreak_98 (by decide) ?_
        refine v_iadd X dX4_addBreak_99 ?_
        refine v_iast (o := 10) (k := 0) (n := 111) X oo10 kk10 rfl rfl (j := 86) (by decide) (by unfold vp_in; decide) dX4_addBreak_100 ?_
        refine v_st (fun S100 eS100 => ?_)
        have h := h S100 eS100
        refine v_aload_n X dX4_addBreak_101 rfl 0 rfl ?_
        refine v_get (v := .ref (ad 10 1)) X f_X4_7 oo10 kk10 dX4_addBreak_102 rfl ?_
        refine v_bipush (v := 86) X dX4_addBreak_105 (by decide) ?_
        refine v_iald (o := 10) (k := 0) (n := 111) X oo10 kk10 rfl rfl (j := 86) (by decide) (by unfold vp_in; decide) dX4_addBreak_107 ?_
        exact v_iret X hr hlk dX4_addBreak_108 h
      · have h := h.2 hc32
        refine v_bipush (v := (-3)) X dX4_addBreak_35 (by decide) ?_
        exact v_iret X hr hlk dX4_addBreak_37 h
    · have h := h.2 hc18
      refine v_iconst (v := (-1)) X dX4_addBreak_21 (by decide) ?_
      exact v_iret X hr hlk dX4_addBreak_22 h
abbrev rm_X4_clearBreaks : Room := { frames := 1, cells := 0, slots := 0, locals := 21 }
def w_X4_clearBreaks (S : St) (K : Int32 → St → Prop) : Prop := w_X4_keeps S (fun S1 => ∀ y11 : Int32, y11 = (S1 10 0 86) → (∀ S19 : St, S19 = up3 S1 10 0 86 0 → (K y11 S19)))
set_option maxHeartbeats 4000000 in
set_option maxRecDepth 100000 in
theorem c_X4_clearBreaks (l : Launch) {D : va_G} {cA : Nat → ClassId} {ad : Nat → Nat → Nat} {A : Nat → Prop} (S : St) (K : Int32 → St → Prop) (h : w_X4_clearBreaks S K) : MT l yX4_clearBreaks cX4_clearBreaks 2 (some .int) 1 21 [.ref (ad 10 0)] D cA ad A S (Qi D cA ad A K) := by
  refine MT.ofV (by decide) (Nat.le_of_ble_eq_true rfl) ?_
  intro p e s m args below meth c X hr hlk
  have X : Cx p rm_X4_clearBreaks m c cX4_clearBreaks 2 s args RX4 0 0 D cA ad A := X
  refine v_lv [(0, .ref (ad 10 0))] rfl ?_
  unfold w_X4_clearBreaks at h
  refine v_aload_n X dX4_clearBreaks_0 rfl 0 rfl ?_
  refine v_callVv (o := 10) (ci := 4) (As := []) (rest := []) X (c_X4_keeps l S _ h) mw_X4_keeps mv_X4_76 oo10 kk10 ⟨Nat.le_of_ble_eq_true rfl, Nat.le_of_ble_eq_true rfl⟩ rfl (Nat.le_of_ble_eq_true rfl) rfl dX4_clearBreaks_1 (fun S1 h => ?_)
  refine v_aload_n X dX4_clearBreaks_4 rfl 0 rfl ?_
  refine v_get (v := .ref (ad 10 1)) X f_X4_7 oo10 kk10 dX4_clearBreaks_5 rfl ?_
  refine v_bipush (v := 86) X dX4_clearBreaks_8 (by decide) ?_
  refine v_iald (o := 10) (k := 0) (n := 111) X oo10 kk10 rfl rfl (j := 86) (by decide) (by unfold vp_in; decide) dX4_clearBreaks_10 ?_
  refine v_topi (fun y11 ey11 => ?_)
  have h := h y11 ey11
  refine v_istore_n X [(1, .int y11), (0, .ref (ad 10 0))] dX4_clearBreaks_11 rfl (by decide) rfl ?_
  refine v_aload_n X dX4_clearBreaks_12 rfl 1 rfl ?_
  refine v_get (v := .ref (ad 10 1)) X f_X4_7 oo10 kk10 dX4_clearBreaks_13 rfl ?_
  refine v_bipush (v := 86) X dX4_clearBreaks_16 (by decide) ?_
  refine v_iconst (v := 0) X dX4_clearBreaks_18 (by decide) ?_
  refine v_iast (o := 10) (k := 0) (n := 111) X oo10 kk10 rfl rfl (j := 86) (by decide) (by unfold vp_in; decide) dX4_clearBreaks_19 ?_
  refine v_st (fun S19 eS19 => ?_)
  have h := h S19 eS19
  refine v_iload_n X dX4_clearBreaks_20 rfl 0 rfl ?_
  exact v_iret X hr hlk dX4_clearBreaks_21 h
abbrev rm_X4_arrives : Room := { frames := 0, cells := 0, slots := 0, locals := 0 }
def w_X4_arrives_150 (K : Int32 → St → Prop) (S : St) (x1 : Int32) (x2 : Int32) (x3 : Int32) (t0 : Int32) : Prop := ∀ y158 : Int32, y158 = (t0 + (S 10 0 66)) → ((vp_in x3 3) ∧ (∀ S175 : St, S175 = up3 S 10 5 x3.toNatClampNeg (y158 + (S 10 0 66)) → ((vp_in x1 24) ∧ (∀ S182 : St, S182 = up3 S175 10 3 x1.toNatClampNeg x2 → (∀ S190 : St, S190 = up3 S182 10 15 0 ((S182 10 15 0) + 1) → (K y158 S190))))))
set_option maxHeartbeats 4000000 in
set_option maxRecDepth 100000 in
theorem t_X4_arrives_150 {p : Program} {l : Launch} {e : Env} {s : State} {m : MethodId} {args : Array Value} {below : List Frame} {meth : Method} {c : Code} {D : va_G} {cA : Nat → ClassId} {ad : Nat → Nat → Nat} {A : Nat → Prop} {K : Int32 → St → Prop} {S : St} {x1 : Int32} {x2 : Int32} {x3 : Int32} {t0 : Int32} (X : Cx p rm_X4_arrives m c cX4_arrives 7 s args RX4 0 0 D cA ad A) (hr : meth.sig.returnType = (some .int)) (hlk : meth.locks = false) (h : w_X4_arrives_150 K S x1 x2 x3 t0) : VV p l e rm_X4_arrives s m args below meth c 0 0 (MQ below (Qi D cA ad A K) args s 0 0 A) D cA ad A 7 S 150 [(0, .ref (ad 10 0)), (1, .int x1), (2, .int x2), (3, .int x3)] [.int t0] := by
  unfold w_X4_arrives_150 at h
  refine v_aload_n X dX4_arrives_150 rfl 0 rfl ?_
  refine v_get (v := .ref (ad 10 1)) X f_X4_7 oo10 kk10 dX4_arrives_151 rfl ?_
  refine v_bipush (v := 66) X dX4_arrives_154 (by decide) ?_
  refine v_iald (o := 10) (k := 0) (n := 111) X oo10 kk10 rfl rfl (j := 66) (by decide) (by unfold vp_in; decide) dX4_arrives_156 ?_
  refine v_iadd X dX4_arrives_157 ?_
  refine v_topi (fun y158 ey158 => ?_)
  have h := h y158 ey158
  refine v_istore X [(4, .int y158), (0, .ref (ad 10 0)), (1, .int x1), (2, .int x2), (3, .int x3)] dX4_arrives_158 (by decide) rfl ?_
  refine v_aload_n X dX4_arrives_160 rfl 1 rfl ?_
  refine v_get (v := .ref (ad 10 6)) X f_X4_22 oo10 kk10 dX4_arrives_161 rfl ?_
  refine v_iload_n X dX4_arrives_164 rfl 4 rfl ?_
  refine v_iload X dX4_arrives_165 0 rfl ?_
  refine v_aload_n X dX4_arrives_167 rfl 1 rfl ?_
  refine v_get (v := .ref (ad 10 1)) X f_X4_7 oo10 kk10 dX4_arrives_168 rfl ?_
  refine v_bipush (v := 66) X dX4_arrives_171 (by decide) ?_
  refine v_iald (o := 10) (k := 0) (n := 111) X oo10 kk10 rfl rfl (j := 66) (by decide) (by unfold vp_in; decide) dX4_arrives_173 ?_
  refine v_iadd X dX4_arrives_174 ?_
  obtain ⟨hb, h⟩ := h
  refine v_iast (o := 10) (k := 5) (n := 3) X oo10 kk10 rfl rfl rfl hb dX4_arrives_175 ?_
  refine v_st (fun S175 eS175 => ?_)
  have h := h S175 eS175
  refine v_aload_n X dX4_arrives_176 rfl 1 rfl ?_
  refine v_get (v := .ref (ad 10 4)) X f_X4_16 oo10 kk10 dX4_arrives_177 rfl ?_
  refine v_iload_n X dX4_arrives_180 rfl 2 rfl ?_
  refine v_iload_n X dX4_arrives_181 rfl 3 rfl ?_
  obtain ⟨hb, h⟩ := h
  refine v_iast (o := 10) (k := 3) (n := 24) X oo10 kk10 rfl rfl rfl hb dX4_arrives_182 ?_
  refine v_st (fun S182 eS182 => ?_)
  have h := h S182 eS182
  refine v_aload_n X dX4_arrives_183 rfl 1 rfl ?_
  refine v_dup X dX4_arrives_184 rfl ?_
  refine v_get (v := .int (S182 10 15 0)) X f_X4_105 oo10 kk10 dX4_arrives_185 rfl ?_
  refine v_iconst (v := 1) X dX4_arrives_188 (by decide) ?_
  refine v_iadd X dX4_arrives_189 ?_
  refine v_put (o := 10) X f_X4_105 oo10 kk10 rfl dX4_arrives_190 ?_
  refine v_st (fun S190 eS190 => ?_)
  have h := h S190 eS190
  refine v_iload X dX4_arrives_193 0 rfl ?_
  exact v_iret X hr hlk dX4_arrives_195 h
def w_X4_arrives_98 (K : Int32 → St → Prop) (B22 : Int32 → Int32 → Prop) (S : St) (x1 : Int32) (x2 : Int32) (x3 : Int32) (x4 : Int32) (x5 : Int32) (t0 : Int32) : Prop := ((t0 ≤ x5) → (∀ y114 : Int32, y114 = x4 + 1 → (B22 x3 y114))) ∧ ((¬ t0 ≤ x5) → (∀ y114 : Int32, y114 = x4 + 1 → (B22 x4 y114)))
set_option maxHeartbeats 4000000 in
set_option maxRecDepth 100000 in
theorem t_X4_arrives_98 {p : Program} {l : Launch} {e : Env} {s : State} {m : MethodId} {args : Array Value} {below : List Frame} {meth : Method} {c : Code} {D : va_G} {cA : Nat → ClassId} {ad : Nat → Nat → Nat} {A : Nat → Prop} {K : Int32 → St → Prop} {B22 : Int32 → Int32 → Prop} {S : St} {x1 : Int32} {x2 : Int32} {x3 : Int32} {x4 : Int32} {x5 : Int32} {t0 : Int32} (X : Cx p rm_X4_arrives m c cX4_arrives 7 s args RX4 0 0 D cA ad A) (hr : meth.sig.returnType = (some .int)) (hlk : meth.locks = false) (hB22 : ∀ (x3 : Int32) (x4 : Int32), B22 x3 x4 → VV p l e rm_X4_arrives s m args below meth c 0 0 (MQ below (Qi D cA ad A K) args s 0 0 A) D cA ad A 7 S 22 [(0, .ref (ad 10 0)), (1, .int x1), (2, .int x2), (3, .int x3), (4, .int x4)] []) (h : w_X4_arrives_98 K B22 S x1 x2 x3 x4 x5 t0) : VV p l e rm_X4_arrives s m args below meth c 0 0 (MQ below (Qi D cA ad A K) args s 0 0 A) D cA ad A 7 S 98 [(0, .ref (ad 10 0)), (1, .int x1), (2, .int x2), (3, .int x3), (4, .int x4), (5, .int x5)] [.int t0] := by
  unfold w_X4_arrives_98 at h
  refine v_istore X [(6, .int t0), (0, .ref (ad 10 0)), (1, .int x1), (2, .int x2), (3, .int x3), (4, .int x4), (5, .int x5)] dX4_arrives_98 (by decide) rfl ?_
  refine v_iload X dX4_arrives_100 6 rfl ?_
  refine v_iload X dX4_arrives_102 0 rfl ?_
  refine v_icmp_ge X 112 dX4_arrives_104 (by decide) (fun hc104 => ?_) (fun hc104 => ?_)
  · have h := h.1 hc104
    refine v_iload_n X dX4_arrives_112 rfl 4 rfl ?_
    refine v_istore_n X [(3, .int x3), (6, .int t0), (0, .ref (ad 10 0)), (1, .int x1), (2, .int x2), (4, .int x4), (5, .int x5)] dX4_arrives_113 rfl (by decide) rfl ?_
    obtain ⟨y114, ey114⟩ : ∃ z : Int32, z = x4 + 1 := ⟨_, rfl⟩
    have h := h y114 ey114
    refine v_iinc (v := y114) X [(4, .int y114), (3, .int x3), (6, .int t0), (0, .ref (ad 10 0)), (1, .int x1), (2, .int x2), (5, .int x5)] dX4_arrives_114 5 rfl (by rw [ey114]; rfl) (by decide) rfl ?_
    refine v_goto X 22 dX4_arrives_117 (by decide) ?_
    refine v_sub [3, 4, 5, 1, 0] rfl ?_
    exact hB22 _ _ h
  · have h := h.2 hc104
    refine v_iload X dX4_arrives_107 5 rfl ?_
    refine v_goto X 113 dX4_arrives_109 (by decide) ?_
    refine v_istore_n X [(3, .int x4), (6, .int t0), (0, .ref (ad 10 0)), (1, .int x1), (2, .int x2), (4, .int x4), (5, .int x5)] dX4_arrives_113 rfl (by decide) rfl ?_
    obtain ⟨y114, ey114⟩ : ∃ z : Int32, z = x4 + 1 := ⟨_, rfl⟩
    have h := h y114 ey114
    refine v_iinc (v := y114) X [(4, .int y114), (3, .int x4), (6, .int t0), (0, .ref (ad 10 0)), (1, .int x1), (2, .int x2), (5, .int x5)] dX4_arrives_114 5 rfl (by rw [ey114]; rfl) (by decide) rfl ?_
    refine v_goto X 22 dX4_arrives_117 (by decide) ?_
    refine v_sub [3, 4, 5, 1, 0] rfl ?_
    exact hB22 _ _ h
def w_X4_arrives_66 (K : Int32 → St → Prop) (B22 : Int32 → Int32 → Prop) (S : St) (x1 : Int32) (x2 : Int32) (x3 : Int32) (x4 : Int32) (t0 : Int32) : Prop := (vp_in x3 3) ∧ ((vp_in x1 24) ∧ ((((S 10 5 x3.toNatClampNeg) ≤ (S 10 4 x1.toNatClampNeg)) → ((vp_in x1 24) ∧ (w_X4_arrives_98 K B22 S x1 x2 x3 x4 t0 (S 10 4 x1.toNatClampNeg)))) ∧ ((¬ (S 10 5 x3.toNatClampNeg) ≤ (S 10 4 x1.toNatClampNeg)) → ((vp_in x3 3) ∧ (w_X4_arrives_98 K B22 S x1 x2 x3 x4 t0 (S 10 5 x3.toNatClampNeg))))))
set_option maxHeartbeats 4000000 in
set_option maxRecDepth 100000 in
theorem t_X4_arrives_66 {p : Program} {l : Launch} {e : Env} {s : State} {m : MethodId} {args : Array Value} {below : List Frame} {meth : Method} {c : Code} {D : va_G} {cA : Nat → ClassId} {ad : Nat → Nat → Nat} {A : Nat → Prop} {K : Int32 → St → Prop} {B22 : Int32 → Int32 → Prop} {S : St} {x1 : Int32} {x2 : Int32} {x3 : Int32} {x4 : Int32} {t0 : Int32} (X : Cx p rm_X4_arrives m c cX4_arrives 7 s args RX4 0 0 D cA ad A) (hr : meth.sig.returnType = (some .int)) (hlk : meth.locks = false) (hB22 : ∀ (x3 : Int32) (x4 : Int32), B22 x3 x4 → VV p l e rm_X4_arrives s m args below meth c 0 0 (MQ below (Qi D cA ad A K) args s 0 0 A) D cA ad A 7 S 22 [(0, .ref (ad 10 0)), (1, .int x1), (2, .int x2), (3, .int x3), (4, .int x4)] []) (h : w_X4_arrives_66 K B22 S x1 x2 x3 x4 t0) : VV p l e rm_X4_arrives s m args below meth c 0 0 (MQ below (Qi D cA ad A K) args s 0 0 A) D cA ad A 7 S 66 [(0, .ref (ad 10 0)), (1, .int x1), (2, .int x2), (3, .int x3), (4, .int x4)] [.int t0] := by
  unfold w_X4_arrives_66 at h
  refine v_istore X [(5, .int t0), (0, .ref (ad 10 0)), (1, .int x1), (2, .int x2), (3, .int x3), (4, .int x4)] dX4_arrives_66 (by decide) rfl ?_
  refine v_aload_n X dX4_arrives_68 rfl 1 rfl ?_
  refine v_get (v := .ref (ad 10 6)) X f_X4_22 oo10 kk10 dX4_arrives_69 rfl ?_
  refine v_iload_n X dX4_arrives_72 rfl 4 rfl ?_
  obtain ⟨hb, h⟩ := h
  refine v_iald (o := 10) (k := 5) (n := 3) X oo10 kk10 rfl rfl rfl hb dX4_arrives_73 ?_
  refine v_aload_n X dX4_arrives_74 rfl 1 rfl ?_
  refine v_get (v := .ref (ad 10 5)) X f_X4_19 oo10 kk10 dX4_arrives_75 rfl ?_
  refine v_iload_n X dX4_arrives_78 rfl 2 rfl ?_
  obtain ⟨hb, h⟩ := h
  refine v_iald (o := 10) (k := 4) (n := 24) X oo10 kk10 rfl rfl rfl hb dX4_arrives_79 ?_
  refine v_icmp_le X 92 dX4_arrives_80 (by decide) (fun hc80 => ?_) (fun hc80 => ?_)
  · have h := h.1 hc80
    refine v_aload_n X dX4_arrives_92 rfl 1 rfl ?_
    refine v_get (v := .ref (ad 10 5)) X f_X4_19 oo10 kk10 dX4_arrives_93 rfl ?_
    refine v_iload_n X dX4_arrives_96 rfl 2 rfl ?_
    obtain ⟨hb, h⟩ := h
    refine v_iald (o := 10) (k := 4) (n := 24) X oo10 kk10 rfl rfl rfl hb dX4_arrives_97 ?_
    refine v_sub [1, 2, 3, 4, 5, 0] rfl ?_
    exact t_X4_arrives_98 X hr hlk hB22 h
  · have h := h.2 hc80
    refine v_aload_n X dX4_arrives_83 rfl 1 rfl ?_
    refine v_get (v := .ref (ad 10 6)) X f_X4_22 oo10 kk10 dX4_arrives_84 rfl ?_
    refine v_iload_n X dX4_arrives_87 rfl 4 rfl ?_
    obtain ⟨hb, h⟩ := h
    refine v_iald (o := 10) (k := 5) (n := 3) X oo10 kk10 rfl rfl rfl hb dX4_arrives_88 ?_
    refine v_goto X 98 dX4_arrives_89 (by decide) ?_
    refine v_sub [1, 2, 3, 4, 5, 0] rfl ?_
    exact t_X4_arrives_98 X hr hlk hB22 h
def w_X4_arrives_22 (K : Int32 → St → Prop) (S : St) (x1 : Int32) (x2 : Int32) (x3 : Int32) (x4 : Int32) : Prop := ∃ I : Nat → Int32 → Int32 → Prop, (∃ n : Nat, I n x3 x4) ∧ ∀ (n : Nat) (x3 : Int32) (x4 : Int32), I n x3 x4 → ((((S 10 0 62) ≤ x4) → ((vp_in x3 3) ∧ ((vp_in x1 24) ∧ ((((S 10 5 x3.toNatClampNeg) ≤ (S 10 4 x1.toNatClampNeg)) → ((vp_in x1 24) ∧ (w_X4_arrives_150 K S x1 x2 x3 (S 10 4 x1.toNatClampNeg)))) ∧ ((¬ (S 10 5 x3.toNatClampNeg) ≤ (S 10 4 x1.toNatClampNeg)) → ((vp_in x3 3) ∧ (w_X4_arrives_150 K S x1 x2 x3 (S 10 5 x3.toNatClampNeg)))))))) ∧ ((¬ (S 10 0 62) ≤ x4) → ((vp_in x4 3) ∧ ((vp_in x1 24) ∧ ((((S 10 5 x4.toNatClampNeg) ≤ (S 10 4 x1.toNatClampNeg)) → ((vp_in x1 24) ∧ (w_X4_arrives_66 K (fun (x3 : Int32) (x4 : Int32) => ∃ n' : Nat, n' < n ∧ I n' x3 x4) S x1 x2 x3 x4 (S 10 4 x1.toNatClampNeg)))) ∧ ((¬ (S 10 5 x4.toNatClampNeg) ≤ (S 10 4 x1.toNatClampNeg)) → ((vp_in x4 3) ∧ (w_X4_arrives_66 K (fun (x3 : Int32) (x4 : Int32) => ∃ n' : Nat, n' < n ∧ I n' x3 x4) S x1 x2 x3 x4 (S 10 5 x4.toNatClampNeg)))))))))
set_option maxHeartbeats 4000000 in
set_option maxRecDepth 100000 in
theorem t_X4_arrives_22 {p : Program} {l : Launch} {e : Env} {s : State} {m : MethodId} {args : Array Value} {below : List Frame} {meth : Method} {c : Code} {D : va_G} {cA : Nat → ClassId} {ad : Nat → Nat → Nat} {A : Nat → Prop} {K : Int32 → St → Prop} {S : St} {x1 : Int32} {x2 : Int32} {x3 : Int32} {x4 : Int32} (X : Cx p rm_X4_arrives m c cX4_arrives 7 s args RX4 0 0 D cA ad A) (hr : meth.sig.returnType = (some .int)) (hlk : meth.locks = false) (h : w_X4_arrives_22 K S x1 x2 x3 x4) : VV p l e rm_X4_arrives s m args below meth c 0 0 (MQ below (Qi D cA ad A K) args s 0 0 A) D cA ad A 7 S 22 [(0, .ref (ad 10 0)), (1, .int x1), (2, .int x2), (3, .int x3), (4, .int x4)] [] := by
  obtain ⟨I, ⟨n, hI⟩, hbody⟩ := h
  suffices key : ∀ (n : Nat) (x3 : Int32) (x4 : Int32), I n x3 x4 → VV p l e rm_X4_arrives s m args below meth c 0 0 (MQ below (Qi D cA ad A K) args s 0 0 A) D cA ad A 7 S 22 [(0, .ref (ad 10 0)), (1, .int x1), (2, .int x2), (3, .int x3), (4, .int x4)] [] from key n x3 x4 hI
  clear hI
  intro n
  induction n using Nat.strongRecOn with
  | ind n ih =>
    intro x3 x4 hI
    have h := hbody n x3 x4 hI
    clear hI
    refine v_iload X dX4_arrives_22 4 rfl ?_
    refine v_aload_n X dX4_arrives_24 rfl 0 rfl ?_
    refine v_get (v := .ref (ad 10 1)) X f_X4_7 oo10 kk10 dX4_arrives_25 rfl ?_
    refine v_bipush (v := 62) X dX4_arrives_28 (by decide) ?_
    refine v_iald (o := 10) (k := 0) (n := 111) X oo10 kk10 rfl rfl (j := 62) (by decide) (by unfold vp_in; decide) dX4_arrives_30 ?_
    refine v_icmp_ge X 120 dX4_arrives_31 (by decide) (fun hc31 => ?_) (fun hc31 => ?_)
    · have h := h.1 hc31
      refine v_aload_n X dX4_arrives_120 rfl 0 rfl ?_
      refine v_get (v := .ref (ad 10 6)) X f_X4_22 oo10 kk10 dX4_arrives_121 rfl ?_
      refine v_iload_n X dX4_arrives_124 rfl 3 rfl ?_
      obtain ⟨hb, h⟩ := h
      refine v_iald (o := 10) (k := 5) (n := 3) X oo10 kk10 rfl rfl rfl hb dX4_arrives_125 ?_
      refine v_aload_n X dX4_arrives_126 rfl 0 rfl ?_
      refine v_get (v := .ref (ad 10 5)) X f_X4_19 oo10 kk10 dX4_arrives_127 rfl ?_
      refine v_iload_n X dX4_arrives_130 rfl 1 rfl ?_
      obtain ⟨hb, h⟩ := h
      refine v_iald (o := 10) (k := 4) (n := 24) X oo10 kk10 rfl rfl rfl hb dX4_arrives_131 ?_
      refine v_icmp_le X 144 dX4_arrives_132 (by decide) (fun hc132 => ?_) (fun hc132 => ?_)
      · have h := h.1 hc132
        refine v_aload_n X dX4_arrives_144 rfl 0 rfl ?_
        refine v_get (v := .ref (ad 10 5)) X f_X4_19 oo10 kk10 dX4_arrives_145 rfl ?_
        refine v_iload_n X dX4_arrives_148 rfl 1 rfl ?_
        obtain ⟨hb, h⟩ := h
        refine v_iald (o := 10) (k := 4) (n := 24) X oo10 kk10 rfl rfl rfl hb dX4_arrives_149 ?_
        refine v_sub [0, 1, 2, 3] rfl ?_
        exact t_X4_arrives_150 X hr hlk h
      · have h := h.2 hc132
        refine v_aload_n X dX4_arrives_135 rfl 0 rfl ?_
        refine v_get (v := .ref (ad 10 6)) X f_X4_22 oo10 kk10 dX4_arrives_136 rfl ?_
        refine v_iload_n X dX4_arrives_139 rfl 3 rfl ?_
        obtain ⟨hb, h⟩ := h
        refine v_iald (o := 10) (k := 5) (n := 3) X oo10 kk10 rfl rfl rfl hb dX4_arrives_140 ?_
        refine v_goto X 150 dX4_arrives_141 (by decide) ?_
        refine v_sub [0, 1, 2, 3] rfl ?_
        exact t_X4_arrives_150 X hr hlk h
    · have h := h.2 hc31
      refine v_aload_n X dX4_arrives_34 rfl 0 rfl ?_
      refine v_get (v := .ref (ad 10 6)) X f_X4_22 oo10 kk10 dX4_arrives_35 rfl ?_
      refine v_iload X dX4_arrives_38 4 rfl ?_
      obtain ⟨hb, h⟩ := h
      refine v_iald (o := 10) (k := 5) (n := 3) X oo10 kk10 rfl rfl rfl hb dX4_arrives_40 ?_
      refine v_aload_n X dX4_arrives_41 rfl 0 rfl ?_
      refine v_get (v := .ref (ad 10 5)) X f_X4_19 oo10 kk10 dX4_arrives_42 rfl ?_
      refine v_iload_n X dX4_arrives_45 rfl 1 rfl ?_
      obtain ⟨hb, h⟩ := h
      refine v_iald (o := 10) (k := 4) (n := 24) X oo10 kk10 rfl rfl rfl hb dX4_arrives_46 ?_
      refine v_icmp_le X 60 dX4_arrives_47 (by decide) (fun hc47 => ?_) (fun hc47 => ?_)
      · have h := h.1 hc47
        refine v_aload_n X dX4_arrives_60 rfl 0 rfl ?_
        refine v_get (v := .ref (ad 10 5)) X f_X4_19 oo10 kk10 dX4_arrives_61 rfl ?_
        refine v_iload_n X dX4_arrives_64 rfl 1 rfl ?_
        obtain ⟨hb, h⟩ := h
        refine v_iald (o := 10) (k := 4) (n := 24) X oo10 kk10 rfl rfl rfl hb dX4_arrives_65 ?_
        exact t_X4_arrives_66 X hr hlk (fun x3 x4 hq => by obtain ⟨n', hlt, hq⟩ := hq; exact ih n' hlt x3 x4 hq) h
      · have h := h.2 hc47
        refine v_aload_n X dX4_arrives_50 rfl 0 rfl ?_
        refine v_get (v := .ref (ad 10 6)) X f_X4_22 oo10 kk10 dX4_arrives_51 rfl ?_
        refine v_iload X dX4_arrives_54 4 rfl ?_
        obtain ⟨hb, h⟩ := h
        refine v_iald (o := 10) (k := 5) (n := 3) X oo10 kk10 rfl rfl rfl hb dX4_arrives_56 ?_
        refine v_goto X 66 dX4_arrives_57 (by decide) ?_
        exact t_X4_arrives_66 X hr hlk (fun x3 x4 hq => by obtain ⟨n', hlt, hq⟩ := hq; exact ih n' hlt x3 x4 hq) h
def w_X4_arrives (S : St) (x1 : Int32) (x2 : Int32) (K : Int32 → St → Prop) : Prop := (vp_in x1 24) ∧ (((¬ (S 10 3 x1.toNatClampNeg) = x2) → (w_X4_arrives_22 K S x1 x2 0 1)) ∧ (((S 10 3 x1.toNatClampNeg) = x2) → ((vp_in x1 24) ∧ (K (S 10 4 x1.toNatClampNeg) S))))
set_option maxHeartbeats 4000000 in
set_option maxRecDepth 100000 in
theorem c_X4_arrives (l : Launch) {D : va_G} {cA : Nat → ClassId} {ad : Nat → Nat → Nat} {A : Nat → Prop} (S : St) (x1 : Int32) (x2 : Int32) (K : Int32 → St → Prop) (h : w_X4_arrives S x1 x2 K) : MT l yX4_arrives cX4_arrives 7 (some .int) 0 0 [.ref (ad 10 0), .int x1, .int x2] D cA ad A S (Qi D cA ad A K) := by
  refine MT.ofV (by decide) (Nat.le_of_ble_eq_true rfl) ?_
  intro p e s m args below meth c X hr hlk
  have X : Cx p rm_X4_arrives m c cX4_arrives 7 s args RX4 0 0 D cA ad A := X
  refine v_lv [(0, .ref (ad 10 0)), (1, .int x1), (2, .int x2)] rfl ?_
  unfold w_X4_arrives at h
  refine v_aload_n X dX4_arrives_0 rfl 0 rfl ?_
  refine v_get (v := .ref (ad 10 4)) X f_X4_16 oo10 kk10 dX4_arrives_1 rfl ?_
  refine v_iload_n X dX4_arrives_4 rfl 1 rfl ?_
  obtain ⟨hb, h⟩ := h
  refine v_iald (o := 10) (k := 3) (n := 24) X oo10 kk10 rfl rfl rfl hb dX4_arrives_5 ?_
  refine v_iload_n X dX4_arrives_6 rfl 2 rfl ?_
  refine v_icmp_ne X 17 dX4_arrives_7 (by decide) (fun hc7 => ?_) (fun hc7 => ?_)
  · have h := h.1 hc7
    refine v_iconst (v := 0) X dX4_arrives_17 (by decide) ?_
    refine v_istore_n X [(3, .int 0), (0, .ref (ad 10 0)), (1, .int x1), (2, .int x2)] dX4_arrives_18 rfl (by decide) rfl ?_
    refine v_iconst (v := 1) X dX4_arrives_19 (by decide) ?_
    refine v_istore X [(4, .int 1), (3, .int 0), (0, .ref (ad 10 0)), (1, .int x1), (2, .int x2)] dX4_arrives_20 (by decide) rfl ?_
    refine v_sub [2, 3, 4, 1, 0] rfl ?_
    exact t_X4_arrives_22 X hr hlk h
  · have h := h.2 hc7
    refine v_aload_n X dX4_arrives_10 rfl 0 rfl ?_
    refine v_get (v := .ref (ad 10 5)) X f_X4_19 oo10 kk10 dX4_arrives_11 rfl ?_
    refine v_iload_n X dX4_arrives_14 rfl 1 rfl ?_
    obtain ⟨hb, h⟩ := h
    refine v_iald (o := 10) (k := 4) (n := 24) X oo10 kk10 rfl rfl rfl hb dX4_arrives_15 ?_
    exact v_iret X hr hlk dX4_arrives_16 h
abbrev rm_X4_hasPlate : Room := { frames := 0, cells := 0, slots := 0, locals := 0 }
def w_X4_hasPlate (S : St) (x1 : Int32) (x2 : Int32) (K : Int32 → Prop) : Prop := (vp_in x1 5) ∧ ((((S 10 7 x1.toNatClampNeg) < 0) → (K 0)) ∧ ((¬ (S 10 7 x1.toNatClampNeg) < 0) → ((vp_in x1 5) ∧ ((((S 10 7 x1.toNatClampNeg) = x2) → (K 0)) ∧ ((¬ (S 10 7 x1.toNatClampNeg) = x2) → (K 1))))))
set_option maxHeartbeats 4000000 in
set_option maxRecDepth 100000 in
theorem c_X4_hasPlate (l : Launch) {D : va_G} {cA : Nat → ClassId} {ad : Nat → Nat → Nat} {A : Nat → Prop} (S : St) (x1 : Int32) (x2 : Int32) (K : Int32 → Prop) (h : w_X4_hasPlate S x1 x2 K) : MT l yX4_hasPlate cX4_hasPlate 3 (some .boolean) 0 0 [.ref (ad 10 0), .int x1, .int x2] D cA ad A S (Qz D cA ad A (fun r S' => S' = S ∧ K r)) := by
  refine MT.ofV (by decide) (Nat.le_of_ble_eq_true rfl) ?_
  intro p e s m args below meth c X hr hlk
  have X : Cx p rm_X4_hasPlate m c cX4_hasPlate 3 s args RX4 0 0 D cA ad A := X
  refine v_lv [(0, .ref (ad 10 0)), (1, .int x1), (2, .int x2)] rfl ?_
  unfold w_X4_hasPlate at h
  refine v_aload_n X dX4_hasPlate_0 rfl 0 rfl ?_
  refine v_get (v := .ref (ad 10 8)) X f_X4_28 oo10 kk10 dX4_hasPlate_1 rfl ?_
  refine v_iload_n X dX4_hasPlate_4 rfl 1 rfl ?_
  obtain ⟨hb, h⟩ := h
  refine v_iald (o := 10) (k := 7) (n := 5) X oo10 kk10 rfl rfl rfl hb dX4_hasPlate_5 ?_
  refine v_if_lt X 23 dX4_hasPlate_6 (by decide) (fun hc6 => ?_) (fun hc6 => ?_)
  · have h := h.1 hc6
    refine v_iconst (v := 0) X dX4_hasPlate_23 (by decide) ?_
    exact v_zret X hr hlk dX4_hasPlate_24 (by first | exact Or.inl rfl | exact Or.inr rfl) ⟨rfl, h⟩
  · have h := h.2 hc6
    refine v_aload_n X dX4_hasPlate_9 rfl 0 rfl ?_
    refine v_get (v := .ref (ad 10 8)) X f_X4_28 oo10 kk10 dX4_hasPlate_10 rfl ?_
    refine v_iload_n X dX4_hasPlate_13 rfl 1 rfl ?_
    obtain ⟨hb, h⟩ := h
    refine v_iald (o := 10) (k := 7) (n := 5) X oo10 kk10 rfl rfl rfl hb dX4_hasPlate_14 ?_
    refine v_iload_n X dX4_hasPlate_15 rfl 2 rfl ?_
    refine v_icmp_eq X 23 dX4_hasPlate_16 (by decide) (fun hc16 => ?_) (fun hc16 => ?_)
    · have h := h.1 hc16
      refine v_iconst (v := 0) X dX4_hasPlate_23 (by decide) ?_
      exact v_zret X hr hlk dX4_hasPlate_24 (by first | exact Or.inl rfl | exact Or.inr rfl) ⟨rfl, h⟩
    · have h := h.2 hc16
      refine v_iconst (v := 1) X dX4_hasPlate_19 (by decide) ?_
      refine v_goto X 24 dX4_hasPlate_20 (by decide) ?_
      exact v_zret X hr hlk dX4_hasPlate_24 (by first | exact Or.inl rfl | exact Or.inr rfl) ⟨rfl, h⟩
abbrev rm_X4_startBy : Room := { frames := 1, cells := 0, slots := 0, locals := 22 }
def w_X4_startBy_42 (K : Int32 → Prop) (S : St) (x2 : Int32) (t0 : Int32) : Prop := ∀ y50 : Int32, y50 = (t0 + (S 10 0 63)) → (((x2 ≤ y50) → (K y50)) ∧ ((¬ x2 ≤ y50) → (K x2)))
set_option maxHeartbeats 4000000 in
set_option maxRecDepth 100000 in
theorem t_X4_startBy_42 {p : Program} {l : Launch} {e : Env} {s : State} {m : MethodId} {args : Array Value} {below : List Frame} {meth : Method} {c : Code} {D : va_G} {cA : Nat → ClassId} {ad : Nat → Nat → Nat} {A : Nat → Prop} {K : Int32 → Prop} {S : St} {x2 : Int32} {t0 : Int32} (X : Cx p rm_X4_startBy m c cX4_startBy 6 s args RX4 0 0 D cA ad A) (hr : meth.sig.returnType = (some .int)) (hlk : meth.locks = false) (h : w_X4_startBy_42 K S x2 t0) : VV p l e rm_X4_startBy s m args below meth c 0 0 (MQ below (Qi D cA ad A (fun r S' => S' = S ∧ K r)) args s 0 0 A) D cA ad A 6 S 42 [(0, .ref (ad 10 0)), (2, .int x2)] [.int t0] := by
  unfold w_X4_startBy_42 at h
  refine v_aload_n X dX4_startBy_42 rfl 0 rfl ?_
  refine v_get (v := .ref (ad 10 1)) X f_X4_7 oo10 kk10 dX4_startBy_43 rfl ?_
  refine v_bipush (v := 63) X dX4_startBy_46 (by decide) ?_
  refine v_iald (o := 10) (k := 0) (n := 111) X oo10 kk10 rfl rfl (j := 63) (by decide) (by unfold vp_in; decide) dX4_startBy_48 ?_
  refine v_iadd X dX4_startBy_49 ?_
  refine v_topi (fun y50 ey50 => ?_)
  have h := h y50 ey50
  refine v_istore X [(5, .int y50), (0, .ref (ad 10 0)), (2, .int x2)] dX4_startBy_50 (by decide) rfl ?_
  refine v_iload_n X dX4_startBy_52 rfl 2 rfl ?_
  refine v_iload X dX4_startBy_53 0 rfl ?_
  refine v_icmp_le X 62 dX4_startBy_55 (by decide) (fun hc55 => ?_) (fun hc55 => ?_)
  · have h := h.1 hc55
    refine v_iload X dX4_startBy_62 0 rfl ?_
    exact v_iret X hr hlk dX4_startBy_64 ⟨rfl, h⟩
  · have h := h.2 hc55
    refine v_iload_n X dX4_startBy_58 rfl 2 rfl ?_
    refine v_goto X 64 dX4_startBy_59 (by decide) ?_
    exact v_iret X hr hlk dX4_startBy_64 ⟨rfl, h⟩
def w_X4_startBy_27 (K : Int32 → Prop) (S : St) (x2 : Int32) (x3 : Int32) (t0 : Int32) (t1 : Int32) : Prop := ∀ y28 : Int32, y28 = (t1 + t0) → (((x3 ≤ y28) → (w_X4_startBy_42 K S x2 y28)) ∧ ((¬ x3 ≤ y28) → (w_X4_startBy_42 K S x2 x3)))
set_option maxHeartbeats 4000000 in
set_option maxRecDepth 100000 in
theorem t_X4_startBy_27 {p : Program} {l : Launch} {e : Env} {s : State} {m : MethodId} {args : Array Value} {below : List Frame} {meth : Method} {c : Code} {D : va_G} {cA : Nat → ClassId} {ad : Nat → Nat → Nat} {A : Nat → Prop} {K : Int32 → Prop} {S : St} {x2 : Int32} {x3 : Int32} {t0 : Int32} {t1 : Int32} (X : Cx p rm_X4_startBy m c cX4_startBy 6 s args RX4 0 0 D cA ad A) (hr : meth.sig.returnType = (some .int)) (hlk : meth.locks = false) (h : w_X4_startBy_27 K S x2 x3 t0 t1) : VV p l e rm_X4_startBy s m args below meth c 0 0 (MQ below (Qi D cA ad A (fun r S' => S' = S ∧ K r)) args s 0 0 A) D cA ad A 6 S 27 [(0, .ref (ad 10 0)), (2, .int x2), (3, .int x3)] [.int t0, .int t1] := by
  unfold w_X4_startBy_27 at h
  refine v_iadd X dX4_startBy_27 ?_
  refine v_topi (fun y28 ey28 => ?_)
  have h := h y28 ey28
  refine v_istore X [(5, .int y28), (0, .ref (ad 10 0)), (2, .int x2), (3, .int x3)] dX4_startBy_28 (by decide) rfl ?_
  refine v_iload_n X dX4_startBy_30 rfl 3 rfl ?_
  refine v_iload X dX4_startBy_31 0 rfl ?_
  refine v_icmp_le X 40 dX4_startBy_33 (by decide) (fun hc33 => ?_) (fun hc33 => ?_)
  · have h := h.1 hc33
    refine v_iload X dX4_startBy_40 0 rfl ?_
    refine v_sub [1, 2] rfl ?_
    exact t_X4_startBy_42 X hr hlk h
  · have h := h.2 hc33
    refine v_iload_n X dX4_startBy_36 rfl 3 rfl ?_
    refine v_goto X 42 dX4_startBy_37 (by decide) ?_
    refine v_sub [1, 2] rfl ?_
    exact t_X4_startBy_42 X hr hlk h
def w_X4_startBy (S : St) (x1 : Int32) (x2 : Int32) (x3 : Int32) (x4 : Int32) (K : Int32 → Prop) : Prop := (vp_in x1 5) ∧ (w_X4_hasPlate S x1 x4 (fun r10 => ((r10 = 0) → (w_X4_startBy_27 K S x2 x3 0 (S 10 6 x1.toNatClampNeg))) ∧ ((¬ r10 = 0) → (w_X4_startBy_27 K S x2 x3 (S 10 0 64) (S 10 6 x1.toNatClampNeg)))))
set_option maxHeartbeats 4000000 in
set_option maxRecDepth 100000 in
theorem c_X4_startBy (l : Launch) {D : va_G} {cA : Nat → ClassId} {ad : Nat → Nat → Nat} {A : Nat → Prop} (S : St) (x1 : Int32) (x2 : Int32) (x3 : Int32) (x4 : Int32) (K : Int32 → Prop) (h : w_X4_startBy S x1 x2 x3 x4 K) : MT l yX4_startBy cX4_startBy 6 (some .int) 1 22 [.ref (ad 10 0), .int x1, .int x2, .int x3, .int x4] D cA ad A S (Qi D cA ad A (fun r S' => S' = S ∧ K r)) := by
  refine MT.ofV (by decide) (Nat.le_of_ble_eq_true rfl) ?_
  intro p e s m args below meth c X hr hlk
  have X : Cx p rm_X4_startBy m c cX4_startBy 6 s args RX4 0 0 D cA ad A := X
  refine v_lv [(0, .ref (ad 10 0)), (1, .int x1), (2, .int x2), (3, .int x3), (4, .int x4)] rfl ?_
  unfold w_X4_startBy at h
  refine v_aload_n X dX4_startBy_0 rfl 0 rfl ?_
  refine v_get (v := .ref (ad 10 7)) X f_X4_25 oo10 kk10 dX4_startBy_1 rfl ?_
  refine v_iload_n X dX4_startBy_4 rfl 1 rfl ?_
  obtain ⟨hb, h⟩ := h
  refine v_iald (o := 10) (k := 6) (n := 5) X oo10 kk10 rfl rfl rfl hb dX4_startBy_5 ?_
  refine v_aload_n X dX4_startBy_6 rfl 0 rfl ?_
  refine v_iload_n X dX4_startBy_7 rfl 1 rfl ?_
  refine v_iload X dX4_startBy_8 4 rfl ?_
  refine v_callVz (o := 10) (ci := 4) (As := [.int x1, .int x4]) (rest := [.int (S 10 6 x1.toNatClampNeg)]) X (c_X4_hasPlate l S x1 x4 _ h) mw_X4_hasPlate mv_X4_108 oo10 kk10 ⟨Nat.le_of_ble_eq_true rfl, Nat.le_of_ble_eq_true rfl⟩ rfl (Nat.le_of_ble_eq_true rfl) rfl dX4_startBy_10 (fun r10 S' hq hz10 => ?_)
  obtain ⟨hq1, h⟩ := hq
  rw [hq1]
  clear hq1
  refine v_if_eq X 26 dX4_startBy_13 (by decide) (fun hc13 => ?_) (fun hc13 => ?_)
  · have h := h.1 hc13
    refine v_iconst (v := 0) X dX4_startBy_26 (by decide) ?_
    refine v_sub [0, 2, 3] rfl ?_
    exact t_X4_startBy_27 X hr hlk h
  · have h := h.2 hc13
    refine v_aload_n X dX4_startBy_16 rfl 0 rfl ?_
    refine v_get (v := .ref (ad 10 1)) X f_X4_7 oo10 kk10 dX4_startBy_17 rfl ?_
    refine v_bipush (v := 64) X dX4_startBy_20 (by decide) ?_
    refine v_iald (o := 10) (k := 0) (n := 111) X oo10 kk10 rfl rfl (j := 64) (by decide) (by unfold vp_in; decide) dX4_startBy_22 ?_
    refine v_goto X 27 dX4_startBy_23 (by decide) ?_
    refine v_sub [0, 2, 3] rfl ?_
    exact t_X4_startBy_27 X hr hlk h
abbrev rm_X4_repairs : Room := { frames := 0, cells := 0, slots := 0, locals := 0 }
def w_X4_repairs_5 (K : Int32 → Prop) (S : St) (x1 : Int32) (x2 : Int32) (x3 : Int32) (x4 : Int32) : Prop := ∃ I : Nat → Int32 → Int32 → Prop, (∃ n : Nat, I n x3 x4) ∧ ∀ (n : Nat) (x3 : Int32) (x4 : Int32), I n x3 x4 → ((((S 10 0 86) ≤ x4) → (K x3)) ∧ ((¬ (S 10 0 86) ≤ x4) → ((vp_in (87 + x4) 111) ∧ (((¬ (S 10 0 (87 + x4).toNatClampNeg) = x1) → (∀ y61 : Int32, y61 = (x3 + 0) → (∀ y62 : Int32, y62 = x4 + 1 → (∃ n' : Nat, n' < n ∧ I n' y61 y62)))) ∧ (((S 10 0 (87 + x4).toNatClampNeg) = x1) → ((vp_in (95 + x4) 111) ∧ (((¬ (S 10 0 (95 + x4).toNatClampNeg) = x2) → (∀ y61 : Int32, y61 = (x3 + 0) → (∀ y62 : Int32, y62 = x4 + 1 → (∃ n' : Nat, n' < n ∧ I n' y61 y62)))) ∧ (((S 10 0 (95 + x4).toNatClampNeg) = x2) → ((vp_in (103 + x4) 111) ∧ (∀ y61 : Int32, y61 = (x3 + (S 10 0 (103 + x4).toNatClampNeg)) → (∀ y62 : Int32, y62 = x4 + 1 → (∃ n' : Nat, n' < n ∧ I n' y61 y62))))))))))))
set_option maxHeartbeats 4000000 in
set_option maxRecDepth 100000 in
theorem t_X4_repairs_5 {p : Program} {l : Launch} {e : Env} {s : State} {m : MethodId} {args : Array Value} {below : List Frame} {meth : Method} {c : Code} {D : va_G} {cA : Nat → ClassId} {ad : Nat → Nat → Nat} {A : Nat → Prop} {K : Int32 → Prop} {S : St} {x1 : Int32} {x2 : Int32} {x3 : Int32} {x4 : Int32} (X : Cx p rm_X4_repairs m c cX4_repairs 5 s args RX4 0 0 D cA ad A) (hr : meth.sig.returnType = (some .int)) (hlk : meth.locks = false) (h : w_X4_repairs_5 K S x1 x2 x3 x4) : VV p l e rm_X4_repairs s m args below meth c 0 0 (MQ below (Qi D cA ad A (fun r S' => S' = S ∧ K r)) args s 0 0 A) D cA ad A 5 S 5 [(0, .ref (ad 10 0)), (1, .int x1), (2, .int x2), (3, .int x3), (4, .int x4)] [] := by
  obtain ⟨I, ⟨n, hI⟩, hbody⟩ := h
  suffices key : ∀ (n : Nat) (x3 : Int32) (x4 : Int32), I n x3 x4 → VV p l e rm_X4_repairs s m args below meth c 0 0 (MQ below (Qi D cA ad A (fun r S' => S' = S ∧ K r)) args s 0 0 A) D cA ad A 5 S 5 [(0, .ref (ad 10 0)), (1, .int x1), (2, .int x2), (3, .int x3), (4, .int x4)] [] from key n x3 x4 hI
  clear hI
  intro n
  induction n using Nat.strongRecOn with
  | ind n ih =>
    intro x3 x4 hI
    have h := hbody n x3 x4 hI
    clear hI
    refine v_iload X dX4_repairs_5 4 rfl ?_
    refine v_aload_n X dX4_repairs_7 rfl 0 rfl ?_
    refine v_get (v := .ref (ad 10 1)) X f_X4_7 oo10 kk10 dX4_repairs_8 rfl ?_
    refine v_bipush (v := 86) X dX4_repairs_11 (by decide) ?_
    refine v_iald (o := 10) (k := 0) (n := 111) X oo10 kk10 rfl rfl (j := 86) (by decide) (by unfold vp_in; decide) dX4_repairs_13 ?_
    refine v_icmp_ge X 68 dX4_repairs_14 (by decide) (fun hc14 => ?_) (fun hc14 => ?_)
    · have h := h.1 hc14
      refine v_iload_n X dX4_repairs_68 rfl 3 rfl ?_
      exact v_iret X hr hlk dX4_repairs_69 ⟨rfl, h⟩
    · have h := h.2 hc14
      refine v_iload_n X dX4_repairs_17 rfl 3 rfl ?_
      refine v_aload_n X dX4_repairs_18 rfl 0 rfl ?_
      refine v_get (v := .ref (ad 10 1)) X f_X4_7 oo10 kk10 dX4_repairs_19 rfl ?_
      refine v_bipush (v := 87) X dX4_repairs_22 (by decide) ?_
      refine v_iload X dX4_repairs_24 4 rfl ?_
      refine v_iadd X dX4_repairs_26 ?_
      obtain ⟨hb, h⟩ := h
      refine v_iald (o := 10) (k := 0) (n := 111) X oo10 kk10 rfl rfl rfl hb dX4_repairs_27 ?_
      refine v_iload_n X dX4_repairs_28 rfl 1 rfl ?_
      refine v_icmp_ne X 59 dX4_repairs_29 (by decide) (fun hc29 => ?_) (fun hc29 => ?_)
      · have h := h.1 hc29
        refine v_iconst (v := 0) X dX4_repairs_59 (by decide) ?_
        refine v_iadd X dX4_repairs_60 ?_
        refine v_topi (fun y61 ey61 => ?_)
        have h := h y61 ey61
        refine v_istore_n X [(3, .int y61), (0, .ref (ad 10 0)), (1, .int x1), (2, .int x2), (4, .int x4)] dX4_repairs_61 rfl (by decide) rfl ?_
        obtain ⟨y62, ey62⟩ : ∃ z : Int32, z = x4 + 1 := ⟨_, rfl⟩
        have h := h y62 ey62
        refine v_iinc (v := y62) X [(4, .int y62), (3, .int y61), (0, .ref (ad 10 0)), (1, .int x1), (2, .int x2)] dX4_repairs_62 4 rfl (by rw [ey62]; rfl) (by decide) rfl ?_
        refine v_goto X 5 dX4_repairs_65 (by decide) ?_
        obtain ⟨n', hlt, h⟩ := h
        refine v_sub [2, 3, 4, 1, 0] rfl ?_
        exact ih n' hlt _ _ h
      · have h := h.2 hc29
        refine v_aload_n X dX4_repairs_32 rfl 0 rfl ?_
        refine v_get (v := .ref (ad 10 1)) X f_X4_7 oo10 kk10 dX4_repairs_33 rfl ?_
        refine v_bipush (v := 95) X dX4_repairs_36 (by decide) ?_
        refine v_iload X dX4_repairs_38 4 rfl ?_
        refine v_iadd X dX4_repairs_40 ?_
        obtain ⟨hb, h⟩ := h
        refine v_iald (o := 10) (k := 0) (n := 111) X oo10 kk10 rfl rfl rfl hb dX4_repairs_41 ?_
        refine v_iload_n X dX4_repairs_42 rfl 2 rfl ?_
        refine v_icmp_ne X 59 dX4_repairs_43 (by decide) (fun hc43 => ?_) (fun hc43 => ?_)
        · have h := h.1 hc43
          refine v_iconst (v := 0) X dX4_repairs_59 (by decide) ?_
          refine v_iadd X dX4_repairs_60 ?_
          refine v_topi (fun y61 ey61 => ?_)
          have h := h y61 ey61
          refine v_istore_n X [(3, .int y61), (0, .ref (ad 10 0)), (1, .int x1), (2, .int x2), (4, .int x4)] dX4_repairs_61 rfl (by decide) rfl ?_
          obtain ⟨y62, ey62⟩ : ∃ z : Int32, z = x4 + 1 := ⟨_, rfl⟩
          have h := h y62 ey62
          refine v_iinc (v := y62) X [(4, .int y62), (3, .int y61), (0, .ref (ad 10 0)), (1, .int x1), (2, .int x2)] dX4_repairs_62 4 rfl (by rw [ey62]; rfl) (by decide) rfl ?_
          refine v_goto X 5 dX4_repairs_65 (by decide) ?_
          obtain ⟨n', hlt, h⟩ := h
          refine v_sub [2, 3, 4, 1, 0] rfl ?_
          exact ih n' hlt _ _ h
        · have h := h.2 hc43
          refine v_aload_n X dX4_repairs_46 rfl 0 rfl ?_
          refine v_get (v := .ref (ad 10 1)) X f_X4_7 oo10 kk10 dX4_repairs_47 rfl ?_
          refine v_bipush (v := 103) X dX4_repairs_50 (by decide) ?_
          refine v_iload X dX4_repairs_52 4 rfl ?_
          refine v_iadd X dX4_repairs_54 ?_
          obtain ⟨hb, h⟩ := h
          refine v_iald (o := 10) (k := 0) (n := 111) X oo10 kk10 rfl rfl rfl hb dX4_repairs_55 ?_
          refine v_goto X 60 dX4_repairs_56 (by decide) ?_
          refine v_iadd X dX4_repairs_60 ?_
          refine v_topi (fun y61 ey61 => ?_)
          have h := h y61 ey61
          refine v_istore_n X [(3, .int y61), (0, .ref (ad 10 0)), (1, .int x1), (2, .int x2), (4, .int x4)] dX4_repairs_61 rfl (by decide) rfl ?_
          obtain ⟨y62, ey62⟩ : ∃ z : Int32, z = x4 + 1 := ⟨_, rfl⟩
          have h := h y62 ey62
          refine v_iinc (v := y62) X [(4, .int y62), (3, .int y61), (0, .ref (ad 10 0)), (1, .int x1), (2, .int x2)] dX4_repairs_62 4 rfl (by rw [ey62]; rfl) (by decide) rfl ?_
          refine v_goto X 5 dX4_repairs_65 (by decide) ?_
          obtain ⟨n', hlt, h⟩ := h
          refine v_sub [2, 3, 4, 1, 0] rfl ?_
          exact ih n' hlt _ _ h
def w_X4_repairs (S : St) (x1 : Int32) (x2 : Int32) (K : Int32 → Prop) : Prop := w_X4_repairs_5 K S x1 x2 0 0
set_option maxHeartbeats 4000000 in
set_option maxRecDepth 100000 in
theorem c_X4_repairs (l : Launch) {D : va_G} {cA : Nat → ClassId} {ad : Nat → Nat → Nat} {A : Nat → Prop} (S : St) (x1 : Int32) (x2 : Int32) (K : Int32 → Prop) (h : w_X4_repairs S x1 x2 K) : MT l yX4_repairs cX4_repairs 5 (some .int) 0 0 [.ref (ad 10 0), .int x1, .int x2] D cA ad A S (Qi D cA ad A (fun r S' => S' = S ∧ K r)) := by
  refine MT.ofV (by decide) (Nat.le_of_ble_eq_true rfl) ?_
  intro p e s m args below meth c X hr hlk
  have X : Cx p rm_X4_repairs m c cX4_repairs 5 s args RX4 0 0 D cA ad A := X
  refine v_lv [(0, .ref (ad 10 0)), (1, .int x1), (2, .int x2)] rfl ?_
  unfold w_X4_repairs at h
  refine v_iconst (v := 0) X dX4_repairs_0 (by decide) ?_
  refine v_istore_n X [(3, .int 0), (0, .ref (ad 10 0)), (1, .int x1), (2, .int x2)] dX4_repairs_1 rfl (by decide) rfl ?_
  refine v_iconst (v := 0) X dX4_repairs_2 (by decide) ?_
  refine v_istore X [(4, .int 0), (3, .int 0), (0, .ref (ad 10 0)), (1, .int x1), (2, .int x2)] dX4_repairs_3 (by decide) rfl ?_
  refine v_sub [2, 3, 4, 1, 0] rfl ?_
  exact t_X4_repairs_5 X hr hlk h
abbrev rm_X4_runs : Room := { frames := 2, cells := 0, slots := 0, locals := 47 }
def w_X4_runs_195 (K : Int32 → St → Prop) (S : St) (x1 : Int32) (x2 : Int32) (x5 : Int32) (x6 : Int32) (x8 : Int32) (x9 : Int32) (x10 : Int32) (t0 : Int32) (t1 : Int32) : Prop := ∀ S196 : St, S196 = up3 S 10 16 0 (t1 + t0) → ((vp_in x8 5) ∧ (∀ S207 : St, S207 = up3 S196 10 7 x8.toNatClampNeg x6 → ((vp_in x8 5) ∧ (∀ S216 : St, S216 = up3 S207 10 6 x8.toNatClampNeg x10 → ((vp_in x8 5) ∧ ((vp_in x8 5) ∧ (∀ S231 : St, S231 = up3 S216 10 8 x8.toNatClampNeg ((S216 10 8 x8.toNatClampNeg) + (x10 - x9)) → ((vp_in x5 24) ∧ (∀ S248 : St, S248 = up3 S231 10 4 x5.toNatClampNeg (x10 + (S231 10 0 65)) → ((vp_in ((6 * x1) + x2) 36) ∧ (∀ S261 : St, S261 = up3 S248 10 9 (((6 * x1) + x2).toNatClampNeg) x9 → ((vp_in ((6 * x1) + x2) 36) ∧ (∀ S274 : St, S274 = up3 S261 10 10 (((6 * x1) + x2).toNatClampNeg) x8 → (K x10 S274))))))))))))))
set_option maxHeartbeats 4000000 in
set_option maxRecDepth 100000 in
theorem t_X4_runs_195 {p : Program} {l : Launch} {e : Env} {s : State} {m : MethodId} {args : Array Value} {below : List Frame} {meth : Method} {c : Code} {D : va_G} {cA : Nat → ClassId} {ad : Nat → Nat → Nat} {A : Nat → Prop} {K : Int32 → St → Prop} {S : St} {x1 : Int32} {x2 : Int32} {x5 : Int32} {x6 : Int32} {x8 : Int32} {x9 : Int32} {x10 : Int32} {t0 : Int32} {t1 : Int32} (X : Cx p rm_X4_runs m c cX4_runs 11 s args RX4 0 0 D cA ad A) (hr : meth.sig.returnType = (some .int)) (hlk : meth.locks = false) (h : w_X4_runs_195 K S x1 x2 x5 x6 x8 x9 x10 t0 t1) : VV p l e rm_X4_runs s m args below meth c 0 0 (MQ below (Qi D cA ad A K) args s 0 0 A) D cA ad A 11 S 195 [(0, .ref (ad 10 0)), (1, .int x1), (2, .int x2), (5, .int x5), (6, .int x6), (8, .int x8), (9, .int x9), (10, .int x10)] [.int t0, .int t1, .ref (ad 10 0)] := by
  unfold w_X4_runs_195 at h
  refine v_iadd X dX4_runs_195 ?_
  refine v_put (o := 10) X f_X4_122 oo10 kk10 rfl dX4_runs_196 ?_
  refine v_st (fun S196 eS196 => ?_)
  have h := h S196 eS196
  refine v_aload_n X dX4_runs_199 rfl 0 rfl ?_
  refine v_get (v := .ref (ad 10 8)) X f_X4_28 oo10 kk10 dX4_runs_200 rfl ?_
  refine v_iload X dX4_runs_203 5 rfl ?_
  refine v_iload X dX4_runs_205 4 rfl ?_
  obtain ⟨hb, h⟩ := h
  refine v_iast (o := 10) (k := 7) (n := 5) X oo10 kk10 rfl rfl rfl hb dX4_runs_207 ?_
  refine v_st (fun S207 eS207 => ?_)
  have h := h S207 eS207
  refine v_aload_n X dX4_runs_208 rfl 0 rfl ?_
  refine v_get (v := .ref (ad 10 7)) X f_X4_25 oo10 kk10 dX4_runs_209 rfl ?_
  refine v_iload X dX4_runs_212 5 rfl ?_
  refine v_iload X dX4_runs_214 7 rfl ?_
  obtain ⟨hb, h⟩ := h
  refine v_iast (o := 10) (k := 6) (n := 5) X oo10 kk10 rfl rfl rfl hb dX4_runs_216 ?_
  refine v_st (fun S216 eS216 => ?_)
  have h := h S216 eS216
  refine v_aload_n X dX4_runs_217 rfl 0 rfl ?_
  refine v_get (v := .ref (ad 10 9)) X f_X4_31 oo10 kk10 dX4_runs_218 rfl ?_
  refine v_iload X dX4_runs_221 5 rfl ?_
  refine v_dup2 X dX4_runs_223 rfl rfl ?_
  obtain ⟨hb, h⟩ := h
  refine v_iald (o := 10) (k := 8) (n := 5) X oo10 kk10 rfl rfl rfl hb dX4_runs_224 ?_
  refine v_iload X dX4_runs_225 7 rfl ?_
  refine v_iload X dX4_runs_227 6 rfl ?_
  refine v_isub X dX4_runs_229 ?_
  refine v_iadd X dX4_runs_230 ?_
  obtain ⟨hb, h⟩ := h
  refine v_iast (o := 10) (k := 8) (n := 5) X oo10 kk10 rfl rfl rfl hb dX4_runs_231 ?_
  refine v_st (fun S231 eS231 => ?_)
  have h := h S231 eS231
  refine v_aload_n X dX4_runs_232 rfl 0 rfl ?_
  refine v_get (v := .ref (ad 10 5)) X f_X4_19 oo10 kk10 dX4_runs_233 rfl ?_
  refine v_iload X dX4_runs_236 3 rfl ?_
  refine v_iload X dX4_runs_238 7 rfl ?_
  refine v_aload_n X dX4_runs_240 rfl 0 rfl ?_
  refine v_get (v := .ref (ad 10 1)) X f_X4_7 oo10 kk10 dX4_runs_241 rfl ?_
  refine v_bipush (v := 65) X dX4_runs_244 (by decide) ?_
  refine v_iald (o := 10) (k := 0) (n := 111) X oo10 kk10 rfl rfl (j := 65) (by decide) (by unfold vp_in; decide) dX4_runs_246 ?_
  refine v_iadd X dX4_runs_247 ?_
  obtain ⟨hb, h⟩ := h
  refine v_iast (o := 10) (k := 4) (n := 24) X oo10 kk10 rfl rfl rfl hb dX4_runs_248 ?_
  refine v_st (fun S248 eS248 => ?_)
  have h := h S248 eS248
  refine v_aload_n X dX4_runs_249 rfl 0 rfl ?_
  refine v_get (v := .ref (ad 10 10)) X f_X4_34 oo10 kk10 dX4_runs_250 rfl ?_
  refine v_bipush (v := 6) X dX4_runs_253 (by decide) ?_
  refine v_iload_n X dX4_runs_255 rfl 1 rfl ?_
  refine v_imul X dX4_runs_256 ?_
  refine v_iload_n X dX4_runs_257 rfl 2 rfl ?_
  refine v_iadd X dX4_runs_258 ?_
  refine v_iload X dX4_runs_259 6 rfl ?_
  obtain ⟨hb, h⟩ := h
  refine v_iast (o := 10) (k := 9) (n := 36) X oo10 kk10 rfl rfl rfl hb dX4_runs_261 ?_
  refine v_st (fun S261 eS261 => ?_)
  have h := h S261 eS261
  refine v_aload_n X dX4_runs_262 rfl 0 rfl ?_
  refine v_get (v := .ref (ad 10 11)) X f_X4_37 oo10 kk10 dX4_runs_263 rfl ?_
  refine v_bipush (v := 6) X dX4_runs_266 (by decide) ?_
  refine v_iload_n X dX4_runs_268 rfl 1 rfl ?_
  refine v_imul X dX4_runs_269 ?_
  refine v_iload_n X dX4_runs_270 rfl 2 rfl ?_
  refine v_iadd X dX4_runs_271 ?_
  refine v_iload X dX4_runs_272 5 rfl ?_
  obtain ⟨hb, h⟩ := h
  refine v_iast (o := 10) (k := 10) (n := 36) X oo10 kk10 rfl rfl rfl hb dX4_runs_274 ?_
  refine v_st (fun S274 eS274 => ?_)
  have h := h S274 eS274
  refine v_iload X dX4_runs_275 7 rfl ?_
  exact v_iret X hr hlk dX4_runs_277 h
def w_X4_runs_88 (K : Int32 → St → Prop) (B56 : Int32 → Int32 → Prop) (S : St) (x1 : Int32) (x2 : Int32) (x3 : Int32) (x4 : Int32) (x5 : Int32) (x6 : Int32) (x7 : Int32) (x8 : Int32) (x9 : Int32) (t0 : Int32) : Prop := ((t0 = 0) → (∀ y134 : Int32, y134 = x9 + 1 → (B56 x8 y134))) ∧ ((¬ t0 = 0) → (((x8 < 0) → (∀ y134 : Int32, y134 = x9 + 1 → (B56 x9 y134))) ∧ ((¬ x8 < 0) → (w_X4_startBy S x9 x3 x7 x6 (fun r108 => w_X4_startBy S x8 x3 x7 x6 (fun r119 => ((r119 ≤ r108) → (∀ y134 : Int32, y134 = x9 + 1 → (B56 x8 y134))) ∧ ((¬ r119 ≤ r108) → (∀ y134 : Int32, y134 = x9 + 1 → (B56 x9 y134)))))))))
set_option maxHeartbeats 4000000 in
set_option maxRecDepth 100000 in
theorem t_X4_runs_88 {p : Program} {l : Launch} {e : Env} {s : State} {m : MethodId} {args : Array Value} {below : List Frame} {meth : Method} {c : Code} {D : va_G} {cA : Nat → ClassId} {ad : Nat → Nat → Nat} {A : Nat → Prop} {K : Int32 → St → Prop} {B56 : Int32 → Int32 → Prop} {S : St} {x1 : Int32} {x2 : Int32} {x3 : Int32} {x4 : Int32} {x5 : Int32} {x6 : Int32} {x7 : Int32} {x8 : Int32} {x9 : Int32} {t0 : Int32} (X : Cx p rm_X4_runs m c cX4_runs 11 s args RX4 0 0 D cA ad A) (hr : meth.sig.returnType = (some .int)) (hlk : meth.locks = false) (hB56 : ∀ (x8 : Int32) (x9 : Int32), B56 x8 x9 → VV p l e rm_X4_runs s m args below meth c 0 0 (MQ below (Qi D cA ad A K) args s 0 0 A) D cA ad A 11 S 56 [(0, .ref (ad 10 0)), (1, .int x1), (2, .int x2), (3, .int x3), (4, .int x4), (5, .int x5), (6, .int x6), (7, .int x7), (8, .int x8), (9, .int x9)] []) (h : w_X4_runs_88 K B56 S x1 x2 x3 x4 x5 x6 x7 x8 x9 t0) : VV p l e rm_X4_runs s m args below meth c 0 0 (MQ below (Qi D cA ad A K) args s 0 0 A) D cA ad A 11 S 88 [(0, .ref (ad 10 0)), (1, .int x1), (2, .int x2), (3, .int x3), (4, .int x4), (5, .int x5), (6, .int x6), (7, .int x7), (8, .int x8), (9, .int x9)] [.int t0] := by
  unfold w_X4_runs_88 at h
  refine v_istore X [(10, .int t0), (0, .ref (ad 10 0)), (1, .int x1), (2, .int x2), (3, .int x3), (4, .int x4), (5, .int x5), (6, .int x6), (7, .int x7), (8, .int x8), (9, .int x9)] dX4_runs_88 (by decide) rfl ?_
  refine v_iload X dX4_runs_90 0 rfl ?_
  refine v_if_eq X 130 dX4_runs_92 (by decide) (fun hc92 => ?_) (fun hc92 => ?_)
  · have h := h.1 hc92
    refine v_iload X dX4_runs_130 9 rfl ?_
    refine v_istore X [(8, .int x8), (10, .int t0), (0, .ref (ad 10 0)), (1, .int x1), (2, .int x2), (3, .int x3), (4, .int x4), (5, .int x5), (6, .int x6), (7, .int x7), (9, .int x9)] dX4_runs_132 (by decide) rfl ?_
    obtain ⟨y134, ey134⟩ : ∃ z : Int32, z = x9 + 1 := ⟨_, rfl⟩
    have h := h y134 ey134
    refine v_iinc (v := y134) X [(9, .int y134), (8, .int x8), (10, .int t0), (0, .ref (ad 10 0)), (1, .int x1), (2, .int x2), (3, .int x3), (4, .int x4), (5, .int x5), (6, .int x6), (7, .int x7)] dX4_runs_134 10 rfl (by rw [ey134]; rfl) (by decide) rfl ?_
    refine v_goto X 56 dX4_runs_137 (by decide) ?_
    refine v_sub [3, 4, 5, 6, 7, 8, 9, 10, 1, 0] rfl ?_
    exact hB56 _ _ h
  · have h := h.2 hc92
    refine v_iload X dX4_runs_95 9 rfl ?_
    refine v_if_lt X 125 dX4_runs_97 (by decide) (fun hc97 => ?_) (fun hc97 => ?_)
    · have h := h.1 hc97
      refine v_iload X dX4_runs_125 10 rfl ?_
      refine v_goto X 132 dX4_runs_127 (by decide) ?_
      refine v_istore X [(8, .int x9), (10, .int t0), (0, .ref (ad 10 0)), (1, .int x1), (2, .int x2), (3, .int x3), (4, .int x4), (5, .int x5), (6, .int x6), (7, .int x7), (9, .int x9)] dX4_runs_132 (by decide) rfl ?_
      obtain ⟨y134, ey134⟩ : ∃ z : Int32, z = x9 + 1 := ⟨_, rfl⟩
      have h := h y134 ey134
      refine v_iinc (v := y134) X [(9, .int y134), (8, .int x9), (10, .int t0), (0, .ref (ad 10 0)), (1, .int x1), (2, .int x2), (3, .int x3), (4, .int x4), (5, .int x5), (6, .int x6), (7, .int x7)] dX4_runs_134 10 rfl (by rw [ey134]; rfl) (by decide) rfl ?_
      refine v_goto X 56 dX4_runs_137 (by decide) ?_
      refine v_sub [3, 4, 5, 6, 7, 8, 9, 10, 1, 0] rfl ?_
      exact hB56 _ _ h
    · have h := h.2 hc97
      refine v_aload_n X dX4_runs_100 rfl 1 rfl ?_
      refine v_iload X dX4_runs_101 10 rfl ?_
      refine v_iload_n X dX4_runs_103 rfl 4 rfl ?_
      refine v_iload X dX4_runs_104 8 rfl ?_
      refine v_iload X dX4_runs_106 7 rfl ?_
      refine v_callVi (o := 10) (ci := 4) (As := [.int x9, .int x3, .int x7, .int x6]) (rest := []) X (c_X4_startBy l S x9 x3 x7 x6 _ h) mw_X4_startBy mv_X4_115 oo10 kk10 ⟨Nat.le_of_ble_eq_true rfl, Nat.le_of_ble_eq_true rfl⟩ rfl (Nat.le_of_ble_eq_true rfl) rfl dX4_runs_108 (fun r108 S' hq => ?_)
      obtain ⟨hq1, h⟩ := hq
      rw [hq1]
      clear hq1
      refine v_aload_n X dX4_runs_111 rfl 1 rfl ?_
      refine v_iload X dX4_runs_112 9 rfl ?_
      refine v_iload_n X dX4_runs_114 rfl 4 rfl ?_
      refine v_iload X dX4_runs_115 8 rfl ?_
      refine v_iload X dX4_runs_117 7 rfl ?_
      refine v_callVi (o := 10) (ci := 4) (As := [.int x8, .int x3, .int x7, .int x6]) (rest := [.int r108]) X (c_X4_startBy l S x8 x3 x7 x6 _ h) mw_X4_startBy mv_X4_115 oo10 kk10 ⟨Nat.le_of_ble_eq_true rfl, Nat.le_of_ble_eq_true rfl⟩ rfl (Nat.le_of_ble_eq_true rfl) rfl dX4_runs_119 (fun r119 S' hq => ?_)
      obtain ⟨hq1, h⟩ := hq
      rw [hq1]
      clear hq1
      refine v_icmp_ge X 130 dX4_runs_122 (by decide) (fun hc122 => ?_) (fun hc122 => ?_)
      · have h := h.1 hc122
        refine v_iload X dX4_runs_130 9 rfl ?_
        refine v_istore X [(8, .int x8), (10, .int t0), (0, .ref (ad 10 0)), (1, .int x1), (2, .int x2), (3, .int x3), (4, .int x4), (5, .int x5), (6, .int x6), (7, .int x7), (9, .int x9)] dX4_runs_132 (by decide) rfl ?_
        obtain ⟨y134, ey134⟩ : ∃ z : Int32, z = x9 + 1 := ⟨_, rfl⟩
        have h := h y134 ey134
        refine v_iinc (v := y134) X [(9, .int y134), (8, .int x8), (10, .int t0), (0, .ref (ad 10 0)), (1, .int x1), (2, .int x2), (3, .int x3), (4, .int x4), (5, .int x5), (6, .int x6), (7, .int x7)] dX4_runs_134 10 rfl (by rw [ey134]; rfl) (by decide) rfl ?_
        refine v_goto X 56 dX4_runs_137 (by decide) ?_
        refine v_sub [3, 4, 5, 6, 7, 8, 9, 10, 1, 0] rfl ?_
        exact hB56 _ _ h
      · have h := h.2 hc122
        refine v_iload X dX4_runs_125 10 rfl ?_
        refine v_goto X 132 dX4_runs_127 (by decide) ?_
        refine v_istore X [(8, .int x9), (10, .int t0), (0, .ref (ad 10 0)), (1, .int x1), (2, .int x2), (3, .int x3), (4, .int x4), (5, .int x5), (6, .int x6), (7, .int x7), (9, .int x9)] dX4_runs_132 (by decide) rfl ?_
        obtain ⟨y134, ey134⟩ : ∃ z : Int32, z = x9 + 1 := ⟨_, rfl⟩
        have h := h y134 ey134
        refine v_iinc (v := y134) X [(9, .int y134), (8, .int x9), (10, .int t0), (0, .ref (ad 10 0)), (1, .int x1), (2, .int x2), (3, .int x3), (4, .int x4), (5, .int x5), (6, .int x6), (7, .int x7)] dX4_runs_134 10 rfl (by rw [ey134]; rfl) (by decide) rfl ?_
        refine v_goto X 56 dX4_runs_137 (by decide) ?_
        refine v_sub [3, 4, 5, 6, 7, 8, 9, 10, 1, 0] rfl ?_
        exact hB56 _ _ h
def w_X4_runs_56 (K : Int32 → St → Prop) (S : St) (x1 : Int32) (x2 : Int32) (x3 : Int32) (x4 : Int32) (x5 : Int32) (x6 : Int32) (x7 : Int32) (x8 : Int32) (x9 : Int32) : Prop := ∃ I : Nat → Int32 → Int32 → Prop, (∃ n : Nat, I n x8 x9) ∧ ∀ (n : Nat) (x8 : Int32) (x9 : Int32), I n x8 x9 → ((((S 10 0 56) ≤ x9) → (w_X4_startBy S x8 x3 x7 x6 (fun r148 => (vp_in (4 + x5) 111) ∧ (w_X4_repairs S x1 x2 (fun r168 => ∀ y172 : Int32, y172 = ((r148 + (S 10 0 (4 + x5).toNatClampNeg)) + r168) → (w_X4_hasPlate S x8 x6 (fun r184 => ((r184 = 0) → (w_X4_runs_195 K S x1 x2 x5 x6 x8 r148 y172 0 (S 10 16 0))) ∧ ((¬ r184 = 0) → (w_X4_runs_195 K S x1 x2 x5 x6 x8 r148 y172 1 (S 10 16 0)))))))))) ∧ ((¬ (S 10 0 56) ≤ x9) → ((vp_in (57 + x9) 111) ∧ (((¬ (S 10 0 (57 + x9).toNatClampNeg) = x4) → (w_X4_runs_88 K (fun (x8 : Int32) (x9 : Int32) => ∃ n' : Nat, n' < n ∧ I n' x8 x9) S x1 x2 x3 x4 x5 x6 x7 x8 x9 0)) ∧ (((S 10 0 (57 + x9).toNatClampNeg) = x4) → (w_X4_runs_88 K (fun (x8 : Int32) (x9 : Int32) => ∃ n' : Nat, n' < n ∧ I n' x8 x9) S x1 x2 x3 x4 x5 x6 x7 x8 x9 1))))))
set_option maxHeartbeats 4000000 in
set_option maxRecDepth 100000 in
theorem t_X4_runs_56 {p : Program} {l : Launch} {e : Env} {s : State} {m : MethodId} {args : Array Value} {below : List Frame} {meth : Method} {c : Code} {D : va_G} {cA : Nat → ClassId} {ad : Nat → Nat → Nat} {A : Nat → Prop} {K : Int32 → St → Prop} {S : St} {x1 : Int32} {x2 : Int32} {x3 : Int32} {x4 : Int32} {x5 : Int32} {x6 : Int32} {x7 : Int32} {x8 : Int32} {x9 : Int32} (X : Cx p rm_X4_runs m c cX4_runs 11 s args RX4 0 0 D cA ad A) (hr : meth.sig.returnType = (some .int)) (hlk : meth.locks = false) (h : w_X4_runs_56 K S x1 x2 x3 x4 x5 x6 x7 x8 x9) : VV p l e rm_X4_runs s m args below meth c 0 0 (MQ below (Qi D cA ad A K) args s 0 0 A) D cA ad A 11 S 56 [(0, .ref (ad 10 0)), (1, .int x1), (2, .int x2), (3, .int x3), (4, .int x4), (5, .int x5), (6, .int x6), (7, .int x7), (8, .int x8), (9, .int x9)] [] := by
  obtain ⟨I, ⟨n, hI⟩, hbody⟩ := h
  suffices key : ∀ (n : Nat) (x8 : Int32) (x9 : Int32), I n x8 x9 → VV p l e rm_X4_runs s m args below meth c 0 0 (MQ below (Qi D cA ad A K) args s 0 0 A) D cA ad A 11 S 56 [(0, .ref (ad 10 0)), (1, .int x1), (2, .int x2), (3, .int x3), (4, .int x4), (5, .int x5), (6, .int x6), (7, .int x7), (8, .int x8), (9, .int x9)] [] from key n x8 x9 hI
  clear hI
  intro n
  induction n using Nat.strongRecOn with
  | ind n ih =>
    intro x8 x9 hI
    have h := hbody n x8 x9 hI
    clear hI
    refine v_iload X dX4_runs_56 9 rfl ?_
    refine v_aload_n X dX4_runs_58 rfl 0 rfl ?_
    refine v_get (v := .ref (ad 10 1)) X f_X4_7 oo10 kk10 dX4_runs_59 rfl ?_
    refine v_bipush (v := 56) X dX4_runs_62 (by decide) ?_
    refine v_iald (o := 10) (k := 0) (n := 111) X oo10 kk10 rfl rfl (j := 56) (by decide) (by unfold vp_in; decide) dX4_runs_64 ?_
    refine v_icmp_ge X 140 dX4_runs_65 (by decide) (fun hc65 => ?_) (fun hc65 => ?_)
    · have h := h.1 hc65
      refine v_aload_n X dX4_runs_140 rfl 0 rfl ?_
      refine v_iload X dX4_runs_141 8 rfl ?_
      refine v_iload_n X dX4_runs_143 rfl 3 rfl ?_
      refine v_iload X dX4_runs_144 7 rfl ?_
      refine v_iload X dX4_runs_146 6 rfl ?_
      refine v_callVi (o := 10) (ci := 4) (As := [.int x8, .int x3, .int x7, .int x6]) (rest := []) X (c_X4_startBy l S x8 x3 x7 x6 _ h) mw_X4_startBy mv_X4_115 oo10 kk10 ⟨Nat.le_of_ble_eq_true rfl, Nat.le_of_ble_eq_true rfl⟩ rfl (Nat.le_of_ble_eq_true rfl) rfl dX4_runs_148 (fun r148 S' hq => ?_)
      obtain ⟨hq1, h⟩ := hq
      rw [hq1]
      clear hq1
      refine v_istore X [(9, .int r148), (0, .ref (ad 10 0)), (1, .int x1), (2, .int x2), (3, .int x3), (4, .int x4), (5, .int x5), (6, .int x6), (7, .int x7), (8, .int x8)] dX4_runs_151 (by decide) rfl ?_
      refine v_iload X dX4_runs_153 0 rfl ?_
      refine v_aload_n X dX4_runs_155 rfl 1 rfl ?_
      refine v_get (v := .ref (ad 10 1)) X f_X4_7 oo10 kk10 dX4_runs_156 rfl ?_
      refine v_iconst (v := 4) X dX4_runs_159 (by decide) ?_
      refine v_iload X dX4_runs_160 6 rfl ?_
      refine v_iadd X dX4_runs_162 ?_
      obtain ⟨hb, h⟩ := h
      refine v_iald (o := 10) (k := 0) (n := 111) X oo10 kk10 rfl rfl rfl hb dX4_runs_163 ?_
      refine v_iadd X dX4_runs_164 ?_
      refine v_aload_n X dX4_runs_165 rfl 1 rfl ?_
      refine v_iload_n X dX4_runs_166 rfl 2 rfl ?_
      refine v_iload_n X dX4_runs_167 rfl 3 rfl ?_
      refine v_callVi (o := 10) (ci := 4) (As := [.int x1, .int x2]) (rest := [.int (r148 + (S 10 0 (4 + x5).toNatClampNeg))]) X (c_X4_repairs l S x1 x2 _ h) mw_X4_repairs mv_X4_119 oo10 kk10 ⟨Nat.le_of_ble_eq_true rfl, Nat.le_of_ble_eq_true rfl⟩ rfl (Nat.le_of_ble_eq_true rfl) rfl dX4_runs_168 (fun r168 S' hq => ?_)
      obtain ⟨hq1, h⟩ := hq
      rw [hq1]
      clear hq1
      refine v_iadd X dX4_runs_171 ?_
      refine v_topi (fun y172 ey172 => ?_)
      have h := h y172 ey172
      refine v_istore X [(10, .int y172), (9, .int r148), (0, .ref (ad 10 0)), (1, .int x1), (2, .int x2), (3, .int x3), (4, .int x4), (5, .int x5), (6, .int x6), (7, .int x7), (8, .int x8)] dX4_runs_172 (by decide) rfl ?_
      refine v_aload_n X dX4_runs_174 rfl 2 rfl ?_
      refine v_dup X dX4_runs_175 rfl ?_
      refine v_get (v := .int (S 10 16 0)) X f_X4_122 oo10 kk10 dX4_runs_176 rfl ?_
      refine v_aload_n X dX4_runs_179 rfl 2 rfl ?_
      refine v_iload X dX4_runs_180 10 rfl ?_
      refine v_iload X dX4_runs_182 8 rfl ?_
      refine v_callVz (o := 10) (ci := 4) (As := [.int x8, .int x6]) (rest := [.int (S 10 16 0), .ref (ad 10 0)]) X (c_X4_hasPlate l S x8 x6 _ h) mw_X4_hasPlate mv_X4_108 oo10 kk10 ⟨Nat.le_of_ble_eq_true rfl, Nat.le_of_ble_eq_true rfl⟩ rfl (Nat.le_of_ble_eq_true rfl) rfl dX4_runs_184 (fun r184 S' hq hz184 => ?_)
      obtain ⟨hq1, h⟩ := hq
      rw [hq1]
      clear hq1
      refine v_if_eq X 194 dX4_runs_187 (by decide) (fun hc187 => ?_) (fun hc187 => ?_)
      · have h := h.1 hc187
        refine v_iconst (v := 0) X dX4_runs_194 (by decide) ?_
        refine v_sub [2, 3, 4, 7, 8, 10, 1, 0] rfl ?_
        exact t_X4_runs_195 X hr hlk h
      · have h := h.2 hc187
        refine v_iconst (v := 1) X dX4_runs_190 (by decide) ?_
        refine v_goto X 195 dX4_runs_191 (by decide) ?_
        refine v_sub [2, 3, 4, 7, 8, 10, 1, 0] rfl ?_
        exact t_X4_runs_195 X hr hlk h
    · have h := h.2 hc65
      refine v_aload_n X dX4_runs_68 rfl 0 rfl ?_
      refine v_get (v := .ref (ad 10 1)) X f_X4_7 oo10 kk10 dX4_runs_69 rfl ?_
      refine v_bipush (v := 57) X dX4_runs_72 (by decide) ?_
      refine v_iload X dX4_runs_74 9 rfl ?_
      refine v_iadd X dX4_runs_76 ?_
      obtain ⟨hb, h⟩ := h
      refine v_iald (o := 10) (k := 0) (n := 111) X oo10 kk10 rfl rfl rfl hb dX4_runs_77 ?_
      refine v_iload X dX4_runs_78 4 rfl ?_
      refine v_icmp_ne X 87 dX4_runs_80 (by decide) (fun hc80 => ?_) (fun hc80 => ?_)
      · have h := h.1 hc80
        refine v_iconst (v := 0) X dX4_runs_87 (by decide) ?_
        exact t_X4_runs_88 X hr hlk (fun x8 x9 hq => by obtain ⟨n', hlt, hq⟩ := hq; exact ih n' hlt x8 x9 hq) h
      · have h := h.2 hc80
        refine v_iconst (v := 1) X dX4_runs_83 (by decide) ?_
        refine v_goto X 88 dX4_runs_84 (by decide) ?_
        exact t_X4_runs_88 X hr hlk (fun x8 x9 hq => by obtain ⟨n', hlt, hq⟩ := hq; exact ih n' hlt x8 x9 hq) h
def w_X4_runs (S : St) (x1 : Int32) (x2 : Int32) (x3 : Int32) (K : Int32 → St → Prop) : Prop := (vp_in (68 + x1) 111) ∧ (∀ y9 : Int32, y9 = (S 10 0 (68 + x1).toNatClampNeg) → ((vp_in (74 + x1) 111) ∧ (∀ y25 : Int32, y25 = ((6 * (S 10 0 (74 + x1).toNatClampNeg)) + x2) → ((vp_in (28 + y25) 111) ∧ (∀ y37 : Int32, y37 = (S 10 0 (28 + y25).toNatClampNeg) → (w_X4_arrives S y25 y9 (fun r44 S44 => w_X4_runs_56 K S44 x1 x2 x3 y9 y25 y37 r44 (-4) 0)))))))
set_option maxHeartbeats 4000000 in
set_option maxRecDepth 100000 in
theorem c_X4_runs (l : Launch) {D : va_G} {cA : Nat → ClassId} {ad : Nat → Nat → Nat} {A : Nat → Prop} (S : St) (x1 : Int32) (x2 : Int32) (x3 : Int32) (K : Int32 → St → Prop) (h : w_X4_runs S x1 x2 x3 K) : MT l yX4_runs cX4_runs 11 (some .int) 2 47 [.ref (ad 10 0), .int x1, .int x2, .int x3] D cA ad A S (Qi D cA ad A K) := by
  refine MT.ofV (by decide) (Nat.le_of_ble_eq_true rfl) ?_
  intro p e s m args below meth c X hr hlk
  have X : Cx p rm_X4_runs m c cX4_runs 11 s args RX4 0 0 D cA ad A := X
  refine v_lv [(0, .ref (ad 10 0)), (1, .int x1), (2, .int x2), (3, .int x3)] rfl ?_
  unfold w_X4_runs at h
  refine v_aload_n X dX4_runs_0 rfl 0 rfl ?_
  refine v_get (v := .ref (ad 10 1)) X f_X4_7 oo10 kk10 dX4_runs_1 rfl ?_
  refine v_bipush (v := 68) X dX4_runs_4 (by decide) ?_
  refine v_iload_n X dX4_runs_6 rfl 1 rfl ?_
  refine v_iadd X dX4_runs_7 ?_
  obtain ⟨hb, h⟩ := h
  refine v_iald (o := 10) (k := 0) (n := 111) X oo10 kk10 rfl rfl rfl hb dX4_runs_8 ?_
  refine v_topi (fun y9 ey9 => ?_)
  have h := h y9 ey9
  refine v_istore X [(4, .int y9), (0, .ref (ad 10 0)), (1, .int x1), (2, .int x2), (3, .int x3)] dX4_runs_9 (by decide) rfl ?_
  refine v_bipush (v := 6) X dX4_runs_11 (by decide) ?_
  refine v_aload_n X dX4_runs_13 rfl 1 rfl ?_
  refine v_get (v := .ref (ad 10 1)) X f_X4_7 oo10 kk10 dX4_runs_14 rfl ?_
  refine v_bipush (v := 74) X dX4_runs_17 (by decide) ?_
  refine v_iload_n X dX4_runs_19 rfl 2 rfl ?_
  refine v_iadd X dX4_runs_20 ?_
  obtain ⟨hb, h⟩ := h
  refine v_iald (o := 10) (k := 0) (n := 111) X oo10 kk10 rfl rfl rfl hb dX4_runs_21 ?_
  refine v_imul X dX4_runs_22 ?_
  refine v_iload_n X dX4_runs_23 rfl 3 rfl ?_
  refine v_iadd X dX4_runs_24 ?_
  refine v_topi (fun y25 ey25 => ?_)
  have h := h y25 ey25
  refine v_istore X [(5, .int y25), (4, .int y9), (0, .ref (ad 10 0)), (1, .int x1), (2, .int x2), (3, .int x3)] dX4_runs_25 (by decide) rfl ?_
  refine v_aload_n X dX4_runs_27 rfl 2 rfl ?_
  refine v_get (v := .ref (ad 10 1)) X f_X4_7 oo10 kk10 dX4_runs_28 rfl ?_
  refine v_bipush (v := 28) X dX4_runs_31 (by decide) ?_
  refine v_iload X dX4_runs_33 0 rfl ?_
  refine v_iadd X dX4_runs_35 ?_
  obtain ⟨hb, h⟩ := h
  refine v_iald (o := 10) (k := 0) (n := 111) X oo10 kk10 rfl rfl rfl hb dX4_runs_36 ?_
  refine v_topi (fun y37 ey37 => ?_)
  have h := h y37 ey37
  refine v_istore X [(6, .int y37), (5, .int y25), (4, .int y9), (0, .ref (ad 10 0)), (1, .int x1), (2, .int x2), (3, .int x3)] dX4_runs_37 (by decide) rfl ?_
  refine v_aload_n X dX4_runs_39 rfl 3 rfl ?_
  refine v_iload X dX4_runs_40 1 rfl ?_
  refine v_iload X dX4_runs_42 2 rfl ?_
  refine v_callVi (o := 10) (ci := 4) (As := [.int y25, .int y9]) (rest := []) X (c_X4_arrives l S y25 y9 _ h) mw_X4_arrives mv_X4_111 oo10 kk10 ⟨Nat.le_of_ble_eq_true rfl, Nat.le_of_ble_eq_true rfl⟩ rfl (Nat.le_of_ble_eq_true rfl) rfl dX4_runs_44 (fun r44 S44 h => ?_)
  refine v_istore X [(7, .int r44), (6, .int y37), (5, .int y25), (4, .int y9), (0, .ref (ad 10 0)), (1, .int x1), (2, .int x2), (3, .int x3)] dX4_runs_47 (by decide) rfl ?_
  refine v_bipush (v := (-4)) X dX4_runs_49 (by decide) ?_
  refine v_istore X [(8, .int (-4)), (7, .int r44), (6, .int y37), (5, .int y25), (4, .int y9), (0, .ref (ad 10 0)), (1, .int x1), (2, .int x2), (3, .int x3)] dX4_runs_51 (by decide) rfl ?_
  refine v_iconst (v := 0) X dX4_runs_53 (by decide) ?_
  refine v_istore X [(9, .int 0), (8, .int (-4)), (7, .int r44), (6, .int y37), (5, .int y25), (4, .int y9), (0, .ref (ad 10 0)), (1, .int x1), (2, .int x2), (3, .int x3)] dX4_runs_54 (by decide) rfl ?_
  refine v_sub [6, 7, 8, 9, 5, 4, 3, 2, 1, 0] rfl ?_
  exact t_X4_runs_56 X hr hlk h
abbrev rm_X4_plansShow : Room := { frames := 3, cells := 0, slots := 0, locals := 77 }
def w_X4_plansShow_162 (K : St → Prop) (B103 : St → Int32 → Int32 → Prop) (S : St) (x1 : Int32) (x2 : Int32) (x3 : Int32) (x4 : Int32) (t0 : Int32) (t1 : Int32) (t2 : Int32) : Prop := (vp_in t2 6) ∧ (∀ S163 : St, S163 = up3 S 10 13 t2.toNatClampNeg (t1 + t0) → ((vp_in x1 6) ∧ (((¬ x3 = 0) → ((vp_in ((6 * x1) + x3) 36) ∧ ((vp_in x1 6) ∧ (∀ S194 : St, S194 = up3 S163 10 14 x1.toNatClampNeg ((S163 10 14 x1.toNatClampNeg) + ((S163 10 9 ((6 * x1) + x3).toNatClampNeg) - x4)) → (∀ y195 : Int32, y195 = x3 + 1 → (B103 S194 x2 y195)))))) ∧ ((x3 = 0) → ((vp_in x1 6) ∧ (∀ S194 : St, S194 = up3 S163 10 14 x1.toNatClampNeg ((S163 10 14 x1.toNatClampNeg) + 0) → (∀ y195 : Int32, y195 = x3 + 1 → (B103 S194 x2 y195))))))))
set_option maxHeartbeats 4000000 in
set_option maxRecDepth 100000 in
theorem t_X4_plansShow_162 {p : Program} {l : Launch} {e : Env} {s : State} {m : MethodId} {args : Array Value} {below : List Frame} {meth : Method} {c : Code} {D : va_G} {cA : Nat → ClassId} {ad : Nat → Nat → Nat} {A : Nat → Prop} {K : St → Prop} {B103 : St → Int32 → Int32 → Prop} {S : St} {x1 : Int32} {x2 : Int32} {x3 : Int32} {x4 : Int32} {t0 : Int32} {t1 : Int32} {t2 : Int32} (X : Cx p rm_X4_plansShow m c cX4_plansShow 5 s args RX4 0 0 D cA ad A) (hr : meth.sig.returnType = none) (hlk : meth.locks = false) (hB103 : ∀ (S1 : St) (x2 : Int32) (x3 : Int32), B103 S1 x2 x3 → VV p l e rm_X4_plansShow s m args below meth c 0 0 (MQ below (Qv D cA ad A K) args s 0 0 A) D cA ad A 5 S1 103 [(0, .ref (ad 10 0)), (1, .int x1), (2, .int x2), (3, .int x3)] []) (h : w_X4_plansShow_162 K B103 S x1 x2 x3 x4 t0 t1 t2) : VV p l e rm_X4_plansShow s m args below meth c 0 0 (MQ below (Qv D cA ad A K) args s 0 0 A) D cA ad A 5 S 162 [(0, .ref (ad 10 0)), (1, .int x1), (2, .int x2), (3, .int x3), (4, .int x4)] [.int t0, .int t1, .int t2, .ref (ad 10 14)] := by
  unfold w_X4_plansShow_162 at h
  refine v_iadd X dX4_plansShow_162 ?_
  obtain ⟨hb, h⟩ := h
  refine v_iast (o := 10) (k := 13) (n := 6) X oo10 kk10 rfl rfl rfl hb dX4_plansShow_163 ?_
  refine v_st (fun S163 eS163 => ?_)
  have h := h S163 eS163
  refine v_aload_n X dX4_plansShow_164 rfl 0 rfl ?_
  refine v_get (v := .ref (ad 10 15)) X f_X4_50 oo10 kk10 dX4_plansShow_165 rfl ?_
  refine v_iload_n X dX4_plansShow_168 rfl 1 rfl ?_
  refine v_dup2 X dX4_plansShow_169 rfl rfl ?_
  obtain ⟨hb, h⟩ := h
  refine v_iald (o := 10) (k := 14) (n := 6) X oo10 kk10 rfl rfl rfl hb dX4_plansShow_170 ?_
  refine v_iload_n X dX4_plansShow_171 rfl 3 rfl ?_
  refine v_if_ne X 179 dX4_plansShow_172 (by decide) (fun hc172 => ?_) (fun hc172 => ?_)
  · have h := h.1 hc172
    refine v_aload_n X dX4_plansShow_179 rfl 0 rfl ?_
    refine v_get (v := .ref (ad 10 10)) X f_X4_34 oo10 kk10 dX4_plansShow_180 rfl ?_
    refine v_bipush (v := 6) X dX4_plansShow_183 (by decide) ?_
    refine v_iload_n X dX4_plansShow_185 rfl 1 rfl ?_
    refine v_imul X dX4_plansShow_186 ?_
    refine v_iload_n X dX4_plansShow_187 rfl 3 rfl ?_
    refine v_iadd X dX4_plansShow_188 ?_
    obtain ⟨hb, h⟩ := h
    refine v_iald (o := 10) (k := 9) (n := 36) X oo10 kk10 rfl rfl rfl hb dX4_plansShow_189 ?_
    refine v_iload X dX4_plansShow_190 4 rfl ?_
    refine v_isub X dX4_plansShow_192 ?_
    refine v_iadd X dX4_plansShow_193 ?_
    obtain ⟨hb, h⟩ := h
    refine v_iast (o := 10) (k := 14) (n := 6) X oo10 kk10 rfl rfl rfl hb dX4_plansShow_194 ?_
    refine v_st (fun S194 eS194 => ?_)
    have h := h S194 eS194
    obtain ⟨y195, ey195⟩ : ∃ z : Int32, z = x3 + 1 := ⟨_, rfl⟩
    have h := h y195 ey195
    refine v_iinc (v := y195) X [(3, .int y195), (0, .ref (ad 10 0)), (1, .int x1), (2, .int x2), (4, .int x4)] dX4_plansShow_195 3 rfl (by rw [ey195]; rfl) (by decide) rfl ?_
    refine v_goto X 103 dX4_plansShow_198 (by decide) ?_
    refine v_sub [1, 2, 3, 0] rfl ?_
    exact hB103 _ _ _ h
  · have h := h.2 hc172
    refine v_iconst (v := 0) X dX4_plansShow_175 (by decide) ?_
    refine v_goto X 193 dX4_plansShow_176 (by decide) ?_
    refine v_iadd X dX4_plansShow_193 ?_
    obtain ⟨hb, h⟩ := h
    refine v_iast (o := 10) (k := 14) (n := 6) X oo10 kk10 rfl rfl rfl hb dX4_plansShow_194 ?_
    refine v_st (fun S194 eS194 => ?_)
    have h := h S194 eS194
    obtain ⟨y195, ey195⟩ : ∃ z : Int32, z = x3 + 1 := ⟨_, rfl⟩
    have h := h y195 ey195
    refine v_iinc (v := y195) X [(3, .int y195), (0, .ref (ad 10 0)), (1, .int x1), (2, .int x2), (4, .int x4)] dX4_plansShow_195 3 rfl (by rw [ey195]; rfl) (by decide) rfl ?_
    refine v_goto X 103 dX4_plansShow_198 (by decide) ?_
    refine v_sub [1, 2, 3, 0] rfl ?_
    exact hB103 _ _ _ h
def w_X4_plansShow_103 (K : St → Prop) (S : St) (x1 : Int32) (x2 : Int32) (x3 : Int32) : Prop := ∃ I : Nat → St → Int32 → Int32 → Prop, (∃ n : Nat, I n S x2 x3) ∧ ∀ (n : Nat) (S : St) (x2 : Int32) (x3 : Int32), I n S x2 x3 → ((vp_in (74 + x1) 111) ∧ ((vp_in (0 + (S 10 0 (74 + x1).toNatClampNeg)) 111) ∧ ((((S 10 0 (0 + (S 10 0 (74 + x1).toNatClampNeg)).toNatClampNeg) ≤ x3) → ((vp_in x1 6) ∧ (∀ S207 : St, S207 = up3 S 10 12 x1.toNatClampNeg x2 → (K S207)))) ∧ ((¬ (S 10 0 (0 + (S 10 0 (74 + x1).toNatClampNeg)).toNatClampNeg) ≤ x3) → (w_X4_runs S x1 x3 x2 (fun r131 S131 => (vp_in x1 6) ∧ (((¬ x3 = 0) → (w_X4_plansShow_162 K (fun (S : St) (x2 : Int32) (x3 : Int32) => ∃ n' : Nat, n' < n ∧ I n' S x2 x3) S131 x1 r131 x3 x2 0 (S131 10 13 x1.toNatClampNeg) x1)) ∧ ((x3 = 0) → ((vp_in (6 * x1) 36) ∧ (w_X4_plansShow_162 K (fun (S : St) (x2 : Int32) (x3 : Int32) => ∃ n' : Nat, n' < n ∧ I n' S x2 x3) S131 x1 r131 x3 x2 ((S131 10 9 (6 * x1).toNatClampNeg) - x2) (S131 10 13 x1.toNatClampNeg) x1))))))))))
set_option maxHeartbeats 4000000 in
set_option maxRecDepth 100000 in
theorem t_X4_plansShow_103 {p : Program} {l : Launch} {e : Env} {s : State} {m : MethodId} {args : Array Value} {below : List Frame} {meth : Method} {c : Code} {D : va_G} {cA : Nat → ClassId} {ad : Nat → Nat → Nat} {A : Nat → Prop} {K : St → Prop} {S : St} {x1 : Int32} {x2 : Int32} {x3 : Int32} (X : Cx p rm_X4_plansShow m c cX4_plansShow 5 s args RX4 0 0 D cA ad A) (hr : meth.sig.returnType = none) (hlk : meth.locks = false) (h : w_X4_plansShow_103 K S x1 x2 x3) : VV p l e rm_X4_plansShow s m args below meth c 0 0 (MQ below (Qv D cA ad A K) args s 0 0 A) D cA ad A 5 S 103 [(0, .ref (ad 10 0)), (1, .int x1), (2, .int x2), (3, .int x3)] [] := by
  obtain ⟨I, ⟨n, hI⟩, hbody⟩ := h
  suffices key : ∀ (n : Nat) (S : St) (x2 : Int32) (x3 : Int32), I n S x2 x3 → VV p l e rm_X4_plansShow s m args below meth c 0 0 (MQ below (Qv D cA ad A K) args s 0 0 A) D cA ad A 5 S 103 [(0, .ref (ad 10 0)), (1, .int x1), (2, .int x2), (3, .int x3)] [] from key n S x2 x3 hI
  clear hI
  intro n
  induction n using Nat.strongRecOn with
  | ind n ih =>
    intro S x2 x3 hI
    have h := hbody n S x2 x3 hI
    clear hI
    refine v_iload_n X dX4_plansShow_103 rfl 3 rfl ?_
    refine v_aload_n X dX4_plansShow_104 rfl 0 rfl ?_
    refine v_get (v := .ref (ad 10 1)) X f_X4_7 oo10 kk10 dX4_plansShow_105 rfl ?_
    refine v_iconst (v := 0) X dX4_plansShow_108 (by decide) ?_
    refine v_aload_n X dX4_plansShow_109 rfl 0 rfl ?_
    refine v_get (v := .ref (ad 10 1)) X f_X4_7 oo10 kk10 dX4_plansShow_110 rfl ?_
    refine v_bipush (v := 74) X dX4_plansShow_113 (by decide) ?_
    refine v_iload_n X dX4_plansShow_115 rfl 1 rfl ?_
    refine v_iadd X dX4_plansShow_116 ?_
    obtain ⟨hb, h⟩ := h
    refine v_iald (o := 10) (k := 0) (n := 111) X oo10 kk10 rfl rfl rfl hb dX4_plansShow_117 ?_
    refine v_iadd X dX4_plansShow_118 ?_
    obtain ⟨hb, h⟩ := h
    refine v_iald (o := 10) (k := 0) (n := 111) X oo10 kk10 rfl rfl rfl hb dX4_plansShow_119 ?_
    refine v_icmp_ge X 201 dX4_plansShow_120 (by decide) (fun hc120 => ?_) (fun hc120 => ?_)
    · have h := h.1 hc120
      refine v_aload_n X dX4_plansShow_201 rfl 0 rfl ?_
      refine v_get (v := .ref (ad 10 13)) X f_X4_44 oo10 kk10 dX4_plansShow_202 rfl ?_
      refine v_iload_n X dX4_plansShow_205 rfl 1 rfl ?_
      refine v_iload_n X dX4_plansShow_206 rfl 2 rfl ?_
      obtain ⟨hb, h⟩ := h
      refine v_iast (o := 10) (k := 12) (n := 6) X oo10 kk10 rfl rfl rfl hb dX4_plansShow_207 ?_
      refine v_st (fun S207 eS207 => ?_)
      have h := h S207 eS207
      exact v_vret X hr hlk dX4_plansShow_208 h
    · have h := h.2 hc120
      refine v_iload_n X dX4_plansShow_123 rfl 2 rfl ?_
      refine v_istore X [(4, .int x2), (0, .ref (ad 10 0)), (1, .int x1), (2, .int x2), (3, .int x3)] dX4_plansShow_124 (by decide) rfl ?_
      refine v_aload_n X dX4_plansShow_126 rfl 1 rfl ?_
      refine v_iload_n X dX4_plansShow_127 rfl 2 rfl ?_
      refine v_iload_n X dX4_plansShow_128 rfl 4 rfl ?_
      refine v_iload X dX4_plansShow_129 0 rfl ?_
      refine v_callVi (o := 10) (ci := 4) (As := [.int x1, .int x3, .int x2]) (rest := []) X (c_X4_runs l S x1 x3 x2 _ h) mw_X4_runs mv_X4_125 oo10 kk10 ⟨Nat.le_of_ble_eq_true rfl, Nat.le_of_ble_eq_true rfl⟩ rfl (Nat.le_of_ble_eq_true rfl) rfl dX4_plansShow_131 (fun r131 S131 h => ?_)
      refine v_istore_n X [(2, .int r131), (4, .int x2), (0, .ref (ad 10 0)), (1, .int x1), (3, .int x3)] dX4_plansShow_134 rfl (by decide) rfl ?_
      refine v_aload_n X dX4_plansShow_135 rfl 2 rfl ?_
      refine v_get (v := .ref (ad 10 14)) X f_X4_47 oo10 kk10 dX4_plansShow_136 rfl ?_
      refine v_iload_n X dX4_plansShow_139 rfl 3 rfl ?_
      refine v_dup2 X dX4_plansShow_140 rfl rfl ?_
      obtain ⟨hb, h⟩ := h
      refine v_iald (o := 10) (k := 13) (n := 6) X oo10 kk10 rfl rfl rfl hb dX4_plansShow_141 ?_
      refine v_iload_n X dX4_plansShow_142 rfl 4 rfl ?_
      refine v_if_ne X 161 dX4_plansShow_143 (by decide) (fun hc143 => ?_) (fun hc143 => ?_)
      · have h := h.1 hc143
        refine v_iconst (v := 0) X dX4_plansShow_161 (by decide) ?_
        refine v_sub [2, 3, 0, 4, 1] rfl ?_
        exact t_X4_plansShow_162 X hr hlk (fun S x2 x3 hq => by obtain ⟨n', hlt, hq⟩ := hq; exact ih n' hlt S x2 x3 hq) h
      · have h := h.2 hc143
        refine v_aload_n X dX4_plansShow_146 rfl 2 rfl ?_
        refine v_get (v := .ref (ad 10 10)) X f_X4_34 oo10 kk10 dX4_plansShow_147 rfl ?_
        refine v_bipush (v := 6) X dX4_plansShow_150 (by decide) ?_
        refine v_iload_n X dX4_plansShow_152 rfl 3 rfl ?_
        refine v_imul X dX4_plansShow_153 ?_
        obtain ⟨hb, h⟩ := h
        refine v_iald (o := 10) (k := 9) (n := 36) X oo10 kk10 rfl rfl rfl hb dX4_plansShow_154 ?_
        refine v_iload X dX4_plansShow_155 1 rfl ?_
        refine v_isub X dX4_plansShow_157 ?_
        refine v_goto X 162 dX4_plansShow_158 (by decide) ?_
        refine v_sub [2, 3, 0, 4, 1] rfl ?_
        exact t_X4_plansShow_162 X hr hlk (fun S x2 x3 hq => by obtain ⟨n', hlt, hq⟩ := hq; exact ih n' hlt S x2 x3 hq) h
def w_X4_plansShow_9 (K : St → Prop) (S : St) (x1 : Int32) (x2 : Int32) : Prop := ∃ I : Nat → St → Int32 → Prop, (∃ n : Nat, I n S x2) ∧ ∀ (n : Nat) (S : St) (x2 : Int32), I n S x2 → ((((S 10 0 56) ≤ x2) → ((vp_in x1 6) ∧ (∀ S73 : St, S73 = up3 S 10 13 x1.toNatClampNeg 0 → ((vp_in x1 6) ∧ (∀ S80 : St, S80 = up3 S73 10 14 x1.toNatClampNeg 0 → ((vp_in x1 6) ∧ (((¬ (S80 10 11 x1.toNatClampNeg) = 0) → ((vp_in (80 + x1) 111) ∧ (∀ y100 : Int32, y100 = (S80 10 0 (80 + x1).toNatClampNeg) → (w_X4_plansShow_103 K S80 x1 y100 0)))) ∧ (((S80 10 11 x1.toNatClampNeg) = 0) → (K S80))))))))) ∧ ((¬ (S 10 0 56) ≤ x2) → ((vp_in x1 6) ∧ (((¬ (S 10 11 x1.toNatClampNeg) = 0) → ((vp_in x1 6) ∧ (∀ S60 : St, S60 = up3 S 10 11 x1.toNatClampNeg 1 → (∀ y61 : Int32, y61 = x2 + 1 → (∃ n' : Nat, n' < n ∧ I n' S60 y61))))) ∧ (((S 10 11 x1.toNatClampNeg) = 0) → ((vp_in (57 + x2) 111) ∧ ((vp_in (68 + x1) 111) ∧ (((¬ (S 10 0 (57 + x2).toNatClampNeg) = (S 10 0 (68 + x1).toNatClampNeg)) → ((vp_in x1 6) ∧ (∀ S60 : St, S60 = up3 S 10 11 x1.toNatClampNeg 0 → (∀ y61 : Int32, y61 = x2 + 1 → (∃ n' : Nat, n' < n ∧ I n' S60 y61))))) ∧ (((S 10 0 (57 + x2).toNatClampNeg) = (S 10 0 (68 + x1).toNatClampNeg)) → ((vp_in x1 6) ∧ (∀ S60 : St, S60 = up3 S 10 11 x1.toNatClampNeg 1 → (∀ y61 : Int32, y61 = x2 + 1 → (∃ n' : Nat, n' < n ∧ I n' S60 y61)))))))))))))
set_option maxHeartbeats 4000000 in
set_option maxRecDepth 100000 in
theorem t_X4_plansShow_9 {p : Program} {l : Launch} {e : Env} {s : State} {m : MethodId} {args : Array Value} {below : List Frame} {meth : Method} {c : Code} {D : va_G} {cA : Nat → ClassId} {ad : Nat → Nat → Nat} {A : Nat → Prop} {K : St → Prop} {S : St} {x1 : Int32} {x2 : Int32} (X : Cx p rm_X4_plansShow m c cX4_plansShow 5 s args RX4 0 0 D cA ad A) (hr : meth.sig.returnType = none) (hlk : meth.locks = false) (h : w_X4_plansShow_9 K S x1 x2) : VV p l e rm_X4_plansShow s m args below meth c 0 0 (MQ below (Qv D cA ad A K) args s 0 0 A) D cA ad A 5 S 9 [(0, .ref (ad 10 0)), (1, .int x1), (2, .int x2)] [] := by
  obtain ⟨I, ⟨n, hI⟩, hbody⟩ := h
  suffices key : ∀ (n : Nat) (S : St) (x2 : Int32), I n S x2 → VV p l e rm_X4_plansShow s m args below meth c 0 0 (MQ below (Qv D cA ad A K) args s 0 0 A) D cA ad A 5 S 9 [(0, .ref (ad 10 0)), (1, .int x1), (2, .int x2)] [] from key n S x2 hI
  clear hI
  intro n
  induction n using Nat.strongRecOn with
  | ind n ih =>
    intro S x2 hI
    have h := hbody n S x2 hI
    clear hI
    refine v_iload_n X dX4_plansShow_9 rfl 2 rfl ?_
    refine v_aload_n X dX4_plansShow_10 rfl 0 rfl ?_
    refine v_get (v := .ref (ad 10 1)) X f_X4_7 oo10 kk10 dX4_plansShow_11 rfl ?_
    refine v_bipush (v := 56) X dX4_plansShow_14 (by decide) ?_
    refine v_iald (o := 10) (k := 0) (n := 111) X oo10 kk10 rfl rfl (j := 56) (by decide) (by unfold vp_in; decide) dX4_plansShow_16 ?_
    refine v_icmp_ge X 67 dX4_plansShow_17 (by decide) (fun hc17 => ?_) (fun hc17 => ?_)
    · have h := h.1 hc17
      refine v_aload_n X dX4_plansShow_67 rfl 0 rfl ?_
      refine v_get (v := .ref (ad 10 14)) X f_X4_47 oo10 kk10 dX4_plansShow_68 rfl ?_
      refine v_iload_n X dX4_plansShow_71 rfl 1 rfl ?_
      refine v_iconst (v := 0) X dX4_plansShow_72 (by decide) ?_
      obtain ⟨hb, h⟩ := h
      refine v_iast (o := 10) (k := 13) (n := 6) X oo10 kk10 rfl rfl rfl hb dX4_plansShow_73 ?_
      refine v_st (fun S73 eS73 => ?_)
      have h := h S73 eS73
      refine v_aload_n X dX4_plansShow_74 rfl 0 rfl ?_
      refine v_get (v := .ref (ad 10 15)) X f_X4_50 oo10 kk10 dX4_plansShow_75 rfl ?_
      refine v_iload_n X dX4_plansShow_78 rfl 1 rfl ?_
      refine v_iconst (v := 0) X dX4_plansShow_79 (by decide) ?_
      obtain ⟨hb, h⟩ := h
      refine v_iast (o := 10) (k := 14) (n := 6) X oo10 kk10 rfl rfl rfl hb dX4_plansShow_80 ?_
      refine v_st (fun S80 eS80 => ?_)
      have h := h S80 eS80
      refine v_aload_n X dX4_plansShow_81 rfl 0 rfl ?_
      refine v_get (v := .ref (ad 10 12)) X f_X4_40 oo10 kk10 dX4_plansShow_82 rfl ?_
      refine v_iload_n X dX4_plansShow_85 rfl 1 rfl ?_
      obtain ⟨hb, h⟩ := h
      refine v_zald (o := 10) (k := 11) (n := 6) X oo10 kk10 rfl rfl rfl hb dX4_plansShow_86 ?_
      refine v_if_ne X 91 dX4_plansShow_87 (by decide) (fun hc87 => ?_) (fun hc87 => ?_)
      · have h := h.1 hc87
        refine v_aload_n X dX4_plansShow_91 rfl 0 rfl ?_
        refine v_get (v := .ref (ad 10 1)) X f_X4_7 oo10 kk10 dX4_plansShow_92 rfl ?_
        refine v_bipush (v := 80) X dX4_plansShow_95 (by decide) ?_
        refine v_iload_n X dX4_plansShow_97 rfl 1 rfl ?_
        refine v_iadd X dX4_plansShow_98 ?_
        obtain ⟨hb, h⟩ := h
        refine v_iald (o := 10) (k := 0) (n := 111) X oo10 kk10 rfl rfl rfl hb dX4_plansShow_99 ?_
        refine v_topi (fun y100 ey100 => ?_)
        have h := h y100 ey100
        refine v_istore_n X [(2, .int y100), (0, .ref (ad 10 0)), (1, .int x1)] dX4_plansShow_100 rfl (by decide) rfl ?_
        refine v_iconst (v := 0) X dX4_plansShow_101 (by decide) ?_
        refine v_istore_n X [(3, .int 0), (2, .int y100), (0, .ref (ad 10 0)), (1, .int x1)] dX4_plansShow_102 rfl (by decide) rfl ?_
        refine v_sub [2, 3, 1, 0] rfl ?_
        exact t_X4_plansShow_103 X hr hlk h
      · have h := h.2 hc87
        exact v_vret X hr hlk dX4_plansShow_90 h
    · have h := h.2 hc17
      refine v_aload_n X dX4_plansShow_20 rfl 0 rfl ?_
      refine v_get (v := .ref (ad 10 12)) X f_X4_40 oo10 kk10 dX4_plansShow_21 rfl ?_
      refine v_iload_n X dX4_plansShow_24 rfl 1 rfl ?_
      refine v_aload_n X dX4_plansShow_25 rfl 0 rfl ?_
      refine v_get (v := .ref (ad 10 12)) X f_X4_40 oo10 kk10 dX4_plansShow_26 rfl ?_
      refine v_iload_n X dX4_plansShow_29 rfl 1 rfl ?_
      obtain ⟨hb, h⟩ := h
      refine v_zald (o := 10) (k := 11) (n := 6) X oo10 kk10 rfl rfl rfl hb dX4_plansShow_30 ?_
      refine v_if_ne X 55 dX4_plansShow_31 (by decide) (fun hc31 => ?_) (fun hc31 => ?_)
      · have h := h.1 hc31
        refine v_iconst (v := 1) X dX4_plansShow_55 (by decide) ?_
        refine v_goto X 60 dX4_plansShow_56 (by decide) ?_
        obtain ⟨hb, h⟩ := h
        refine v_zast (o := 10) (k := 11) (n := 6) X oo10 kk10 rfl rfl (by first | exact Or.inl rfl | exact Or.inr rfl) rfl hb dX4_plansShow_60 ?_
        refine v_st (fun S60 eS60 => ?_)
        have h := h S60 eS60
        obtain ⟨y61, ey61⟩ : ∃ z : Int32, z = x2 + 1 := ⟨_, rfl⟩
        have h := h y61 ey61
        refine v_iinc (v := y61) X [(2, .int y61), (0, .ref (ad 10 0)), (1, .int x1)] dX4_plansShow_61 2 rfl (by rw [ey61]; rfl) (by decide) rfl ?_
        refine v_goto X 9 dX4_plansShow_64 (by decide) ?_
        obtain ⟨n', hlt, h⟩ := h
        refine v_sub [1, 2, 0] rfl ?_
        exact ih n' hlt _ _ h
      · have h := h.2 hc31
        refine v_aload_n X dX4_plansShow_34 rfl 0 rfl ?_
        refine v_get (v := .ref (ad 10 1)) X f_X4_7 oo10 kk10 dX4_plansShow_35 rfl ?_
        refine v_bipush (v := 57) X dX4_plansShow_38 (by decide) ?_
        refine v_iload_n X dX4_plansShow_40 rfl 2 rfl ?_
        refine v_iadd X dX4_plansShow_41 ?_
        obtain ⟨hb, h⟩ := h
        refine v_iald (o := 10) (k := 0) (n := 111) X oo10 kk10 rfl rfl rfl hb dX4_plansShow_42 ?_
        refine v_aload_n X dX4_plansShow_43 rfl 0 rfl ?_
        refine v_get (v := .ref (ad 10 1)) X f_X4_7 oo10 kk10 dX4_plansShow_44 rfl ?_
        refine v_bipush (v := 68) X dX4_plansShow_47 (by decide) ?_
        refine v_iload_n X dX4_plansShow_49 rfl 1 rfl ?_
        refine v_iadd X dX4_plansShow_50 ?_
        obtain ⟨hb, h⟩ := h
        refine v_iald (o := 10) (k := 0) (n := 111) X oo10 kk10 rfl rfl rfl hb dX4_plansShow_51 ?_
        refine v_icmp_ne X 59 dX4_plansShow_52 (by decide) (fun hc52 => ?_) (fun hc52 => ?_)
        · have h := h.1 hc52
          refine v_iconst (v := 0) X dX4_plansShow_59 (by decide) ?_
          obtain ⟨hb, h⟩ := h
          refine v_zast (o := 10) (k := 11) (n := 6) X oo10 kk10 rfl rfl (by first | exact Or.inl rfl | exact Or.inr rfl) rfl hb dX4_plansShow_60 ?_
          refine v_st (fun S60 eS60 => ?_)
          have h := h S60 eS60
          obtain ⟨y61, ey61⟩ : ∃ z : Int32, z = x2 + 1 := ⟨_, rfl⟩
          have h := h y61 ey61
          refine v_iinc (v := y61) X [(2, .int y61), (0, .ref (ad 10 0)), (1, .int x1)] dX4_plansShow_61 2 rfl (by rw [ey61]; rfl) (by decide) rfl ?_
          refine v_goto X 9 dX4_plansShow_64 (by decide) ?_
          obtain ⟨n', hlt, h⟩ := h
          refine v_sub [1, 2, 0] rfl ?_
          exact ih n' hlt _ _ h
        · have h := h.2 hc52
          refine v_iconst (v := 1) X dX4_plansShow_55 (by decide) ?_
          refine v_goto X 60 dX4_plansShow_56 (by decide) ?_
          obtain ⟨hb, h⟩ := h
          refine v_zast (o := 10) (k := 11) (n := 6) X oo10 kk10 rfl rfl (by first | exact Or.inl rfl | exact Or.inr rfl) rfl hb dX4_plansShow_60 ?_
          refine v_st (fun S60 eS60 => ?_)
          have h := h S60 eS60
          obtain ⟨y61, ey61⟩ : ∃ z : Int32, z = x2 + 1 := ⟨_, rfl⟩
          have h := h y61 ey61
          refine v_iinc (v := y61) X [(2, .int y61), (0, .ref (ad 10 0)), (1, .int x1)] dX4_plansShow_61 2 rfl (by rw [ey61]; rfl) (by decide) rfl ?_
          refine v_goto X 9 dX4_plansShow_64 (by decide) ?_
          obtain ⟨n', hlt, h⟩ := h
          refine v_sub [1, 2, 0] rfl ?_
          exact ih n' hlt _ _ h
def w_X4_plansShow (S : St) (x1 : Int32) (K : St → Prop) : Prop := (vp_in x1 6) ∧ (∀ S6 : St, S6 = up3 S 10 11 x1.toNatClampNeg 0 → (w_X4_plansShow_9 K S6 x1 0))
set_option maxHeartbeats 4000000 in
set_option maxRecDepth 100000 in
theorem c_X4_plansShow (l : Launch) {D : va_G} {cA : Nat → ClassId} {ad : Nat → Nat → Nat} {A : Nat → Prop} (S : St) (x1 : Int32) (K : St → Prop) (h : w_X4_plansShow S x1 K) : MT l yX4_plansShow cX4_plansShow 5 none 3 77 [.ref (ad 10 0), .int x1] D cA ad A S (Qv D cA ad A K) := by
  refine MT.ofV (by decide) (Nat.le_of_ble_eq_true rfl) ?_
  intro p e s m args below meth c X hr hlk
  have X : Cx p rm_X4_plansShow m c cX4_plansShow 5 s args RX4 0 0 D cA ad A := X
  refine v_lv [(0, .ref (ad 10 0)), (1, .int x1)] rfl ?_
  unfold w_X4_plansShow at h
  refine v_aload_n X dX4_plansShow_0 rfl 0 rfl ?_
  refine v_get (v := .ref (ad 10 12)) X f_X4_40 oo10 kk10 dX4_plansShow_1 rfl ?_
  refine v_iload_n X dX4_plansShow_4 rfl 1 rfl ?_
  refine v_iconst (v := 0) X dX4_plansShow_5 (by decide) ?_
  obtain ⟨hb, h⟩ := h
  refine v_zast (o := 10) (k := 11) (n := 6) X oo10 kk10 rfl rfl (by first | exact Or.inl rfl | exact Or.inr rfl) rfl hb dX4_plansShow_6 ?_
  refine v_st (fun S6 eS6 => ?_)
  have h := h S6 eS6
  refine v_iconst (v := 0) X dX4_plansShow_7 (by decide) ?_
  refine v_istore_n X [(2, .int 0), (0, .ref (ad 10 0)), (1, .int x1)] dX4_plansShow_8 rfl (by decide) rfl ?_
  refine v_sub [1, 2, 0] rfl ?_
  exact t_X4_plansShow_9 X hr hlk h
abbrev rm_X4_plans : Room := { frames := 4, cells := 0, slots := 0, locals := 101 }
def w_X4_plans_153 (K : Int32 → St → Prop) (B109 : St → Int32 → Int32 → Int32 → Prop) (B127 : Int32 → Int32 → Prop) (S : St) (x1 : Int32) (x2 : Int32) (x3 : Int32) (x4 : Int32) (x5 : Int32) (t0 : Int32) : Prop := ((t0 = 0) → (∀ y197 : Int32, y197 = x5 + 1 → (B127 x4 y197))) ∧ ((¬ t0 = 0) → (((x4 < 0) → (∀ y197 : Int32, y197 = x5 + 1 → (B127 x5 y197))) ∧ ((¬ x4 < 0) → ((vp_in (80 + x5) 111) ∧ ((vp_in (80 + x4) 111) ∧ ((((S 10 0 (80 + x4).toNatClampNeg) ≤ (S 10 0 (80 + x5).toNatClampNeg)) → (∀ y197 : Int32, y197 = x5 + 1 → (B127 x4 y197))) ∧ ((¬ (S 10 0 (80 + x4).toNatClampNeg) ≤ (S 10 0 (80 + x5).toNatClampNeg)) → (∀ y197 : Int32, y197 = x5 + 1 → (B127 x5 y197)))))))))
set_option maxHeartbeats 4000000 in
set_option maxRecDepth 100000 in
theorem t_X4_plans_153 {p : Program} {l : Launch} {e : Env} {s : State} {m : MethodId} {args : Array Value} {below : List Frame} {meth : Method} {c : Code} {D : va_G} {cA : Nat → ClassId} {ad : Nat → Nat → Nat} {A : Nat → Prop} {K : Int32 → St → Prop} {B109 : St → Int32 → Int32 → Int32 → Prop} {B127 : Int32 → Int32 → Prop} {S : St} {x1 : Int32} {x2 : Int32} {x3 : Int32} {x4 : Int32} {x5 : Int32} {t0 : Int32} (X : Cx p rm_X4_plans m c cX4_plans 7 s args RX4 0 0 D cA ad A) (hr : meth.sig.returnType = (some .int)) (hlk : meth.locks = false) (hB109 : ∀ (S1 : St) (x1 : Int32) (x2 : Int32) (x3 : Int32), B109 S1 x1 x2 x3 → VV p l e rm_X4_plans s m args below meth c 0 0 (MQ below (Qi D cA ad A K) args s 0 0 A) D cA ad A 7 S1 109 [(0, .ref (ad 10 0)), (1, .int x1), (2, .int x2), (3, .int x3)] []) (hB127 : ∀ (x4 : Int32) (x5 : Int32), B127 x4 x5 → VV p l e rm_X4_plans s m args below meth c 0 0 (MQ below (Qi D cA ad A K) args s 0 0 A) D cA ad A 7 S 127 [(0, .ref (ad 10 0)), (1, .int x1), (2, .int x2), (3, .int x3), (4, .int x4), (5, .int x5)] []) (h : w_X4_plans_153 K B109 B127 S x1 x2 x3 x4 x5 t0) : VV p l e rm_X4_plans s m args below meth c 0 0 (MQ below (Qi D cA ad A K) args s 0 0 A) D cA ad A 7 S 153 [(0, .ref (ad 10 0)), (1, .int x1), (2, .int x2), (3, .int x3), (4, .int x4), (5, .int x5)] [.int t0] := by
  unfold w_X4_plans_153 at h
  refine v_istore X [(6, .int t0), (0, .ref (ad 10 0)), (1, .int x1), (2, .int x2), (3, .int x3), (4, .int x4), (5, .int x5)] dX4_plans_153 (by decide) rfl ?_
  refine v_iload X dX4_plans_155 0 rfl ?_
  refine v_if_eq X 193 dX4_plans_157 (by decide) (fun hc157 => ?_) (fun hc157 => ?_)
  · have h := h.1 hc157
    refine v_iload X dX4_plans_193 5 rfl ?_
    refine v_istore X [(4, .int x4), (6, .int t0), (0, .ref (ad 10 0)), (1, .int x1), (2, .int x2), (3, .int x3), (5, .int x5)] dX4_plans_195 (by decide) rfl ?_
    obtain ⟨y197, ey197⟩ : ∃ z : Int32, z = x5 + 1 := ⟨_, rfl⟩
    have h := h y197 ey197
    refine v_iinc (v := y197) X [(5, .int y197), (4, .int x4), (6, .int t0), (0, .ref (ad 10 0)), (1, .int x1), (2, .int x2), (3, .int x3)] dX4_plans_197 6 rfl (by rw [ey197]; rfl) (by decide) rfl ?_
    refine v_goto X 127 dX4_plans_200 (by decide) ?_
    refine v_sub [3, 4, 5, 6, 1, 0] rfl ?_
    exact hB127 _ _ h
  · have h := h.2 hc157
    refine v_iload X dX4_plans_160 5 rfl ?_
    refine v_if_lt X 188 dX4_plans_162 (by decide) (fun hc162 => ?_) (fun hc162 => ?_)
    · have h := h.1 hc162
      refine v_iload X dX4_plans_188 6 rfl ?_
      refine v_goto X 195 dX4_plans_190 (by decide) ?_
      refine v_istore X [(4, .int x5), (6, .int t0), (0, .ref (ad 10 0)), (1, .int x1), (2, .int x2), (3, .int x3), (5, .int x5)] dX4_plans_195 (by decide) rfl ?_
      obtain ⟨y197, ey197⟩ : ∃ z : Int32, z = x5 + 1 := ⟨_, rfl⟩
      have h := h y197 ey197
      refine v_iinc (v := y197) X [(5, .int y197), (4, .int x5), (6, .int t0), (0, .ref (ad 10 0)), (1, .int x1), (2, .int x2), (3, .int x3)] dX4_plans_197 6 rfl (by rw [ey197]; rfl) (by decide) rfl ?_
      refine v_goto X 127 dX4_plans_200 (by decide) ?_
      refine v_sub [3, 4, 5, 6, 1, 0] rfl ?_
      exact hB127 _ _ h
    · have h := h.2 hc162
      refine v_aload_n X dX4_plans_165 rfl 1 rfl ?_
      refine v_get (v := .ref (ad 10 1)) X f_X4_7 oo10 kk10 dX4_plans_166 rfl ?_
      refine v_bipush (v := 80) X dX4_plans_169 (by decide) ?_
      refine v_iload X dX4_plans_171 6 rfl ?_
      refine v_iadd X dX4_plans_173 ?_
      obtain ⟨hb, h⟩ := h
      refine v_iald (o := 10) (k := 0) (n := 111) X oo10 kk10 rfl rfl rfl hb dX4_plans_174 ?_
      refine v_aload_n X dX4_plans_175 rfl 1 rfl ?_
      refine v_get (v := .ref (ad 10 1)) X f_X4_7 oo10 kk10 dX4_plans_176 rfl ?_
      refine v_bipush (v := 80) X dX4_plans_179 (by decide) ?_
      refine v_iload X dX4_plans_181 5 rfl ?_
      refine v_iadd X dX4_plans_183 ?_
      obtain ⟨hb, h⟩ := h
      refine v_iald (o := 10) (k := 0) (n := 111) X oo10 kk10 rfl rfl rfl hb dX4_plans_184 ?_
      refine v_icmp_ge X 193 dX4_plans_185 (by decide) (fun hc185 => ?_) (fun hc185 => ?_)
      · have h := h.1 hc185
        refine v_iload X dX4_plans_193 5 rfl ?_
        refine v_istore X [(4, .int x4), (6, .int t0), (0, .ref (ad 10 0)), (1, .int x1), (2, .int x2), (3, .int x3), (5, .int x5)] dX4_plans_195 (by decide) rfl ?_
        obtain ⟨y197, ey197⟩ : ∃ z : Int32, z = x5 + 1 := ⟨_, rfl⟩
        have h := h y197 ey197
        refine v_iinc (v := y197) X [(5, .int y197), (4, .int x4), (6, .int t0), (0, .ref (ad 10 0)), (1, .int x1), (2, .int x2), (3, .int x3)] dX4_plans_197 6 rfl (by rw [ey197]; rfl) (by decide) rfl ?_
        refine v_goto X 127 dX4_plans_200 (by decide) ?_
        refine v_sub [3, 4, 5, 6, 1, 0] rfl ?_
        exact hB127 _ _ h
      · have h := h.2 hc185
        refine v_iload X dX4_plans_188 6 rfl ?_
        refine v_goto X 195 dX4_plans_190 (by decide) ?_
        refine v_istore X [(4, .int x5), (6, .int t0), (0, .ref (ad 10 0)), (1, .int x1), (2, .int x2), (3, .int x3), (5, .int x5)] dX4_plans_195 (by decide) rfl ?_
        obtain ⟨y197, ey197⟩ : ∃ z : Int32, z = x5 + 1 := ⟨_, rfl⟩
        have h := h y197 ey197
        refine v_iinc (v := y197) X [(5, .int y197), (4, .int x5), (6, .int t0), (0, .ref (ad 10 0)), (1, .int x1), (2, .int x2), (3, .int x3)] dX4_plans_197 6 rfl (by rw [ey197]; rfl) (by decide) rfl ?_
        refine v_goto X 127 dX4_plans_200 (by decide) ?_
        refine v_sub [3, 4, 5, 6, 1, 0] rfl ?_
        exact hB127 _ _ h
def w_X4_plans_127 (K : Int32 → St → Prop) (B109 : St → Int32 → Int32 → Int32 → Prop) (S : St) (x1 : Int32) (x2 : Int32) (x3 : Int32) (x4 : Int32) (x5 : Int32) : Prop := ∃ I : Nat → Int32 → Int32 → Prop, (∃ n : Nat, I n x4 x5) ∧ ∀ (n : Nat) (x4 : Int32) (x5 : Int32), I n x4 x5 → ((((S 10 0 67) ≤ x5) → (∀ y209 : Int32, y209 = (x1 ||| (1 <<< (x4 &&& 31))) → (w_X4_plansShow S x4 (fun S213 => (vp_in x4 6) ∧ ((((S213 10 11 x4.toNatClampNeg) = 0) → (∀ y249 : Int32, y249 = (x2 + 1000) → (∀ y250 : Int32, y250 = x3 + 1 → (B109 S213 y209 y249 y250)))) ∧ ((¬ (S213 10 11 x4.toNatClampNeg) = 0) → ((vp_in x4 6) ∧ ((vp_in x4 6) ∧ (∀ y249 : Int32, y249 = (x2 + ((S213 10 13 x4.toNatClampNeg) + (S213 10 14 x4.toNatClampNeg))) → (∀ y250 : Int32, y250 = x3 + 1 → (B109 S213 y209 y249 y250))))))))))) ∧ ((¬ (S 10 0 67) ≤ x5) → (((¬ ((x1 >>> (x5 &&& 31)) &&& 1) = 0) → (w_X4_plans_153 K B109 (fun (x4 : Int32) (x5 : Int32) => ∃ n' : Nat, n' < n ∧ I n' x4 x5) S x1 x2 x3 x4 x5 0)) ∧ ((((x1 >>> (x5 &&& 31)) &&& 1) = 0) → (w_X4_plans_153 K B109 (fun (x4 : Int32) (x5 : Int32) => ∃ n' : Nat, n' < n ∧ I n' x4 x5) S x1 x2 x3 x4 x5 1)))))
set_option maxHeartbeats 4000000 in
set_option maxRecDepth 100000 in
theorem t_X4_plans_127 {p : Program} {l : Launch} {e : Env} {s : State} {m : MethodId} {args : Array Value} {below : List Frame} {meth : Method} {c : Code} {D : va_G} {cA : Nat → ClassId} {ad : Nat → Nat → Nat} {A : Nat → Prop} {K : Int32 → St → Prop} {B109 : St → Int32 → Int32 → Int32 → Prop} {S : St} {x1 : Int32} {x2 : Int32} {x3 : Int32} {x4 : Int32} {x5 : Int32} (X : Cx p rm_X4_plans m c cX4_plans 7 s args RX4 0 0 D cA ad A) (hr : meth.sig.returnType = (some .int)) (hlk : meth.locks = false) (hB109 : ∀ (S1 : St) (x1 : Int32) (x2 : Int32) (x3 : Int32), B109 S1 x1 x2 x3 → VV p l e rm_X4_plans s m args below meth c 0 0 (MQ below (Qi D cA ad A K) args s 0 0 A) D cA ad A 7 S1 109 [(0, .ref (ad 10 0)), (1, .int x1), (2, .int x2), (3, .int x3)] []) (h : w_X4_plans_127 K B109 S x1 x2 x3 x4 x5) : VV p l e rm_X4_plans s m args below meth c 0 0 (MQ below (Qi D cA ad A K) args s 0 0 A) D cA ad A 7 S 127 [(0, .ref (ad 10 0)), (1, .int x1), (2, .int x2), (3, .int x3), (4, .int x4), (5, .int x5)] [] := by
  obtain ⟨I, ⟨n, hI⟩, hbody⟩ := h
  suffices key : ∀ (n : Nat) (x4 : Int32) (x5 : Int32), I n x4 x5 → VV p l e rm_X4_plans s m args below meth c 0 0 (MQ below (Qi D cA ad A K) args s 0 0 A) D cA ad A 7 S 127 [(0, .ref (ad 10 0)), (1, .int x1), (2, .int x2), (3, .int x3), (4, .int x4), (5, .int x5)] [] from key n x4 x5 hI
  clear hI
  intro n
  induction n using Nat.strongRecOn with
  | ind n ih =>
    intro x4 x5 hI
    have h := hbody n x4 x5 hI
    clear hI
    refine v_iload X dX4_plans_127 5 rfl ?_
    refine v_aload_n X dX4_plans_129 rfl 0 rfl ?_
    refine v_get (v := .ref (ad 10 1)) X f_X4_7 oo10 kk10 dX4_plans_130 rfl ?_
    refine v_bipush (v := 67) X dX4_plans_133 (by decide) ?_
    refine v_iald (o := 10) (k := 0) (n := 111) X oo10 kk10 rfl rfl (j := 67) (by decide) (by unfold vp_in; decide) dX4_plans_135 ?_
    refine v_icmp_ge X 203 dX4_plans_136 (by decide) (fun hc136 => ?_) (fun hc136 => ?_)
    · have h := h.1 hc136
      refine v_iload_n X dX4_plans_203 rfl 1 rfl ?_
      refine v_iconst (v := 1) X dX4_plans_204 (by decide) ?_
      refine v_iload X dX4_plans_205 4 rfl ?_
      refine v_ishl X dX4_plans_207 ?_
      refine v_ior X dX4_plans_208 ?_
      refine v_topi (fun y209 ey209 => ?_)
      have h := h y209 ey209
      refine v_istore_n X [(1, .int y209), (0, .ref (ad 10 0)), (2, .int x2), (3, .int x3), (4, .int x4), (5, .int x5)] dX4_plans_209 rfl (by decide) rfl ?_
      refine v_aload_n X dX4_plans_210 rfl 1 rfl ?_
      refine v_iload X dX4_plans_211 4 rfl ?_
      refine v_callVv (o := 10) (ci := 4) (As := [.int x4]) (rest := []) X (c_X4_plansShow l S x4 _ h) mw_X4_plansShow mv_X4_129 oo10 kk10 ⟨Nat.le_of_ble_eq_true rfl, Nat.le_of_ble_eq_true rfl⟩ rfl (Nat.le_of_ble_eq_true rfl) rfl dX4_plans_213 (fun S213 h => ?_)
      refine v_iload_n X dX4_plans_216 rfl 2 rfl ?_
      refine v_aload_n X dX4_plans_217 rfl 1 rfl ?_
      refine v_get (v := .ref (ad 10 12)) X f_X4_40 oo10 kk10 dX4_plans_218 rfl ?_
      refine v_iload X dX4_plans_221 4 rfl ?_
      obtain ⟨hb, h⟩ := h
      refine v_zald (o := 10) (k := 11) (n := 6) X oo10 kk10 rfl rfl rfl hb dX4_plans_223 ?_
      refine v_if_eq X 245 dX4_plans_224 (by decide) (fun hc224 => ?_) (fun hc224 => ?_)
      · have h := h.1 hc224
        refine v_sipush (v := 1000) X dX4_plans_245 (by decide) ?_
        refine v_iadd X dX4_plans_248 ?_
        refine v_topi (fun y249 ey249 => ?_)
        have h := h y249 ey249
        refine v_istore_n X [(2, .int y249), (1, .int y209), (0, .ref (ad 10 0)), (3, .int x3), (4, .int x4), (5, .int x5)] dX4_plans_249 rfl (by decide) rfl ?_
        obtain ⟨y250, ey250⟩ : ∃ z : Int32, z = x3 + 1 := ⟨_, rfl⟩
        have h := h y250 ey250
        refine v_iinc (v := y250) X [(3, .int y250), (2, .int y249), (1, .int y209), (0, .ref (ad 10 0)), (4, .int x4), (5, .int x5)] dX4_plans_250 3 rfl (by rw [ey250]; rfl) (by decide) rfl ?_
        refine v_goto X 109 dX4_plans_253 (by decide) ?_
        refine v_sub [3, 2, 1, 0] rfl ?_
        exact hB109 _ _ _ _ h
      · have h := h.2 hc224
        refine v_aload_n X dX4_plans_227 rfl 1 rfl ?_
        refine v_get (v := .ref (ad 10 14)) X f_X4_47 oo10 kk10 dX4_plans_228 rfl ?_
        refine v_iload X dX4_plans_231 4 rfl ?_
        obtain ⟨hb, h⟩ := h
        refine v_iald (o := 10) (k := 13) (n := 6) X oo10 kk10 rfl rfl rfl hb dX4_plans_233 ?_
        refine v_aload_n X dX4_plans_234 rfl 1 rfl ?_
        refine v_get (v := .ref (ad 10 15)) X f_X4_50 oo10 kk10 dX4_plans_235 rfl ?_
        refine v_iload X dX4_plans_238 4 rfl ?_
        obtain ⟨hb, h⟩ := h
        refine v_iald (o := 10) (k := 14) (n := 6) X oo10 kk10 rfl rfl rfl hb dX4_plans_240 ?_
        refine v_iadd X dX4_plans_241 ?_
        refine v_goto X 248 dX4_plans_242 (by decide) ?_
        refine v_iadd X dX4_plans_248 ?_
        refine v_topi (fun y249 ey249 => ?_)
        have h := h y249 ey249
        refine v_istore_n X [(2, .int y249), (1, .int y209), (0, .ref (ad 10 0)), (3, .int x3), (4, .int x4), (5, .int x5)] dX4_plans_249 rfl (by decide) rfl ?_
        obtain ⟨y250, ey250⟩ : ∃ z : Int32, z = x3 + 1 := ⟨_, rfl⟩
        have h := h y250 ey250
        refine v_iinc (v := y250) X [(3, .int y250), (2, .int y249), (1, .int y209), (0, .ref (ad 10 0)), (4, .int x4), (5, .int x5)] dX4_plans_250 3 rfl (by rw [ey250]; rfl) (by decide) rfl ?_
        refine v_goto X 109 dX4_plans_253 (by decide) ?_
        refine v_sub [3, 2, 1, 0] rfl ?_
        exact hB109 _ _ _ _ h
    · have h := h.2 hc136
      refine v_iload_n X dX4_plans_139 rfl 1 rfl ?_
      refine v_iload X dX4_plans_140 5 rfl ?_
      refine v_ishr X dX4_plans_142 ?_
      refine v_iconst (v := 1) X dX4_plans_143 (by decide) ?_
      refine v_iand X dX4_plans_144 ?_
      refine v_if_ne X 152 dX4_plans_145 (by decide) (fun hc145 => ?_) (fun hc145 => ?_)
      · have h := h.1 hc145
        refine v_iconst (v := 0) X dX4_plans_152 (by decide) ?_
        exact t_X4_plans_153 X hr hlk hB109 (fun x4 x5 hq => by obtain ⟨n', hlt, hq⟩ := hq; exact ih n' hlt x4 x5 hq) h
      · have h := h.2 hc145
        refine v_iconst (v := 1) X dX4_plans_148 (by decide) ?_
        refine v_goto X 153 dX4_plans_149 (by decide) ?_
        exact t_X4_plans_153 X hr hlk hB109 (fun x4 x5 hq => by obtain ⟨n', hlt, hq⟩ := hq; exact ih n' hlt x4 x5 hq) h
def w_X4_plans_109 (K : Int32 → St → Prop) (S : St) (x1 : Int32) (x2 : Int32) (x3 : Int32) : Prop := ∃ I : Nat → St → Int32 → Int32 → Int32 → Prop, (∃ n : Nat, I n S x1 x2 x3) ∧ ∀ (n : Nat) (S : St) (x1 : Int32) (x2 : Int32) (x3 : Int32), I n S x1 x2 x3 → ((((S 10 0 67) ≤ x3) → (K x2 S)) ∧ ((¬ (S 10 0 67) ≤ x3) → (w_X4_plans_127 K (fun (S : St) (x1 : Int32) (x2 : Int32) (x3 : Int32) => ∃ n' : Nat, n' < n ∧ I n' S x1 x2 x3) S x1 x2 x3 (-4) 0)))
set_option maxHeartbeats 4000000 in
set_option maxRecDepth 100000 in
theorem t_X4_plans_109 {p : Program} {l : Launch} {e : Env} {s : State} {m : MethodId} {args : Array Value} {below : List Frame} {meth : Method} {c : Code} {D : va_G} {cA : Nat → ClassId} {ad : Nat → Nat → Nat} {A : Nat → Prop} {K : Int32 → St → Prop} {S : St} {x1 : Int32} {x2 : Int32} {x3 : Int32} (X : Cx p rm_X4_plans m c cX4_plans 7 s args RX4 0 0 D cA ad A) (hr : meth.sig.returnType = (some .int)) (hlk : meth.locks = false) (h : w_X4_plans_109 K S x1 x2 x3) : VV p l e rm_X4_plans s m args below meth c 0 0 (MQ below (Qi D cA ad A K) args s 0 0 A) D cA ad A 7 S 109 [(0, .ref (ad 10 0)), (1, .int x1), (2, .int x2), (3, .int x3)] [] := by
  obtain ⟨I, ⟨n, hI⟩, hbody⟩ := h
  suffices key : ∀ (n : Nat) (S : St) (x1 : Int32) (x2 : Int32) (x3 : Int32), I n S x1 x2 x3 → VV p l e rm_X4_plans s m args below meth c 0 0 (MQ below (Qi D cA ad A K) args s 0 0 A) D cA ad A 7 S 109 [(0, .ref (ad 10 0)), (1, .int x1), (2, .int x2), (3, .int x3)] [] from key n S x1 x2 x3 hI
  clear hI
  intro n
  induction n using Nat.strongRecOn with
  | ind n ih =>
    intro S x1 x2 x3 hI
    have h := hbody n S x1 x2 x3 hI
    clear hI
    refine v_iload_n X dX4_plans_109 rfl 3 rfl ?_
    refine v_aload_n X dX4_plans_110 rfl 0 rfl ?_
    refine v_get (v := .ref (ad 10 1)) X f_X4_7 oo10 kk10 dX4_plans_111 rfl ?_
    refine v_bipush (v := 67) X dX4_plans_114 (by decide) ?_
    refine v_iald (o := 10) (k := 0) (n := 111) X oo10 kk10 rfl rfl (j := 67) (by decide) (by unfold vp_in; decide) dX4_plans_116 ?_
    refine v_icmp_ge X 256 dX4_plans_117 (by decide) (fun hc117 => ?_) (fun hc117 => ?_)
    · have h := h.1 hc117
      refine v_iload_n X dX4_plans_256 rfl 2 rfl ?_
      exact v_iret X hr hlk dX4_plans_257 h
    · have h := h.2 hc117
      refine v_bipush (v := (-4)) X dX4_plans_120 (by decide) ?_
      refine v_istore X [(4, .int (-4)), (0, .ref (ad 10 0)), (1, .int x1), (2, .int x2), (3, .int x3)] dX4_plans_122 (by decide) rfl ?_
      refine v_iconst (v := 0) X dX4_plans_124 (by decide) ?_
      refine v_istore X [(5, .int 0), (4, .int (-4)), (0, .ref (ad 10 0)), (1, .int x1), (2, .int x2), (3, .int x3)] dX4_plans_125 (by decide) rfl ?_
      refine v_sub [2, 3, 4, 5, 1, 0] rfl ?_
      exact t_X4_plans_127 X hr hlk (fun S x1 x2 x3 hq => by obtain ⟨n', hlt, hq⟩ := hq; exact ih n' hlt S x1 x2 x3 hq) h
def w_X4_plans_61 (K : Int32 → St → Prop) (S : St) (x1 : Int32) : Prop := ∃ I : Nat → St → Int32 → Prop, (∃ n : Nat, I n S x1) ∧ ∀ (n : Nat) (S : St) (x1 : Int32), I n S x1 → (((5 ≤ x1) → (∀ S95 : St, S95 = up3 S 10 15 0 0 → (∀ S100 : St, S100 = up3 S95 10 16 0 0 → (w_X4_plans_109 K S100 0 0 0)))) ∧ ((¬ 5 ≤ x1) → ((vp_in x1 5) ∧ (∀ S72 : St, S72 = up3 S 10 6 x1.toNatClampNeg 0 → ((vp_in x1 5) ∧ (∀ S79 : St, S79 = up3 S72 10 7 x1.toNatClampNeg (-1) → ((vp_in x1 5) ∧ (∀ S86 : St, S86 = up3 S79 10 8 x1.toNatClampNeg 0 → (∀ y87 : Int32, y87 = x1 + 1 → (∃ n' : Nat, n' < n ∧ I n' S86 y87))))))))))
set_option maxHeartbeats 4000000 in
set_option maxRecDepth 100000 in
theorem t_X4_plans_61 {p : Program} {l : Launch} {e : Env} {s : State} {m : MethodId} {args : Array Value} {below : List Frame} {meth : Method} {c : Code} {D : va_G} {cA : Nat → ClassId} {ad : Nat → Nat → Nat} {A : Nat → Prop} {K : Int32 → St → Prop} {S : St} {x1 : Int32} (X : Cx p rm_X4_plans m c cX4_plans 7 s args RX4 0 0 D cA ad A) (hr : meth.sig.returnType = (some .int)) (hlk : meth.locks = false) (h : w_X4_plans_61 K S x1) : VV p l e rm_X4_plans s m args below meth c 0 0 (MQ below (Qi D cA ad A K) args s 0 0 A) D cA ad A 7 S 61 [(0, .ref (ad 10 0)), (1, .int x1)] [] := by
  obtain ⟨I, ⟨n, hI⟩, hbody⟩ := h
  suffices key : ∀ (n : Nat) (S : St) (x1 : Int32), I n S x1 → VV p l e rm_X4_plans s m args below meth c 0 0 (MQ below (Qi D cA ad A K) args s 0 0 A) D cA ad A 7 S 61 [(0, .ref (ad 10 0)), (1, .int x1)] [] from key n S x1 hI
  clear hI
  intro n
  induction n using Nat.strongRecOn with
  | ind n ih =>
    intro S x1 hI
    have h := hbody n S x1 hI
    clear hI
    refine v_iload_n X dX4_plans_61 rfl 1 rfl ?_
    refine v_iconst (v := 5) X dX4_plans_62 (by decide) ?_
    refine v_icmp_ge X 93 dX4_plans_63 (by decide) (fun hc63 => ?_) (fun hc63 => ?_)
    · have h := h.1 hc63
      refine v_aload_n X dX4_plans_93 rfl 0 rfl ?_
      refine v_iconst (v := 0) X dX4_plans_94 (by decide) ?_
      refine v_put (o := 10) X f_X4_105 oo10 kk10 rfl dX4_plans_95 ?_
      refine v_st (fun S95 eS95 => ?_)
      have h := h S95 eS95
      refine v_aload_n X dX4_plans_98 rfl 0 rfl ?_
      refine v_iconst (v := 0) X dX4_plans_99 (by decide) ?_
      refine v_put (o := 10) X f_X4_122 oo10 kk10 rfl dX4_plans_100 ?_
      refine v_st (fun S100 eS100 => ?_)
      have h := h S100 eS100
      refine v_iconst (v := 0) X dX4_plans_103 (by decide) ?_
      refine v_istore_n X [(1, .int 0), (0, .ref (ad 10 0))] dX4_plans_104 rfl (by decide) rfl ?_
      refine v_iconst (v := 0) X dX4_plans_105 (by decide) ?_
      refine v_istore_n X [(2, .int 0), (1, .int 0), (0, .ref (ad 10 0))] dX4_plans_106 rfl (by decide) rfl ?_
      refine v_iconst (v := 0) X dX4_plans_107 (by decide) ?_
      refine v_istore_n X [(3, .int 0), (2, .int 0), (1, .int 0), (0, .ref (ad 10 0))] dX4_plans_108 rfl (by decide) rfl ?_
      refine v_sub [3, 2, 1, 0] rfl ?_
      exact t_X4_plans_109 X hr hlk h
    · have h := h.2 hc63
      refine v_aload_n X dX4_plans_66 rfl 0 rfl ?_
      refine v_get (v := .ref (ad 10 7)) X f_X4_25 oo10 kk10 dX4_plans_67 rfl ?_
      refine v_iload_n X dX4_plans_70 rfl 1 rfl ?_
      refine v_iconst (v := 0) X dX4_plans_71 (by decide) ?_
      obtain ⟨hb, h⟩ := h
      refine v_iast (o := 10) (k := 6) (n := 5) X oo10 kk10 rfl rfl rfl hb dX4_plans_72 ?_
      refine v_st (fun S72 eS72 => ?_)
      have h := h S72 eS72
      refine v_aload_n X dX4_plans_73 rfl 0 rfl ?_
      refine v_get (v := .ref (ad 10 8)) X f_X4_28 oo10 kk10 dX4_plans_74 rfl ?_
      refine v_iload_n X dX4_plans_77 rfl 1 rfl ?_
      refine v_iconst (v := (-1)) X dX4_plans_78 (by decide) ?_
      obtain ⟨hb, h⟩ := h
      refine v_iast (o := 10) (k := 7) (n := 5) X oo10 kk10 rfl rfl rfl hb dX4_plans_79 ?_
      refine v_st (fun S79 eS79 => ?_)
      have h := h S79 eS79
      refine v_aload_n X dX4_plans_80 rfl 0 rfl ?_
      refine v_get (v := .ref (ad 10 9)) X f_X4_31 oo10 kk10 dX4_plans_81 rfl ?_
      refine v_iload_n X dX4_plans_84 rfl 1 rfl ?_
      refine v_iconst (v := 0) X dX4_plans_85 (by decide) ?_
      obtain ⟨hb, h⟩ := h
      refine v_iast (o := 10) (k := 8) (n := 5) X oo10 kk10 rfl rfl rfl hb dX4_plans_86 ?_
      refine v_st (fun S86 eS86 => ?_)
      have h := h S86 eS86
      obtain ⟨y87, ey87⟩ : ∃ z : Int32, z = x1 + 1 := ⟨_, rfl⟩
      have h := h y87 ey87
      refine v_iinc (v := y87) X [(1, .int y87), (0, .ref (ad 10 0))] dX4_plans_87 1 rfl (by rw [ey87]; rfl) (by decide) rfl ?_
      refine v_goto X 61 dX4_plans_90 (by decide) ?_
      obtain ⟨n', hlt, h⟩ := h
      refine v_sub [1, 0] rfl ?_
      exact ih n' hlt _ _ h
def w_X4_plans_41 (K : Int32 → St → Prop) (S : St) (x1 : Int32) : Prop := ∃ I : Nat → St → Int32 → Prop, (∃ n : Nat, I n S x1) ∧ ∀ (n : Nat) (S : St) (x1 : Int32), I n S x1 → (((3 ≤ x1) → (w_X4_plans_61 K S 0)) ∧ ((¬ 3 ≤ x1) → ((vp_in x1 3) ∧ (∀ S52 : St, S52 = up3 S 10 5 x1.toNatClampNeg 0 → (∀ y53 : Int32, y53 = x1 + 1 → (∃ n' : Nat, n' < n ∧ I n' S52 y53))))))
set_option maxHeartbeats 4000000 in
set_option maxRecDepth 100000 in
theorem t_X4_plans_41 {p : Program} {l : Launch} {e : Env} {s : State} {m : MethodId} {args : Array Value} {below : List Frame} {meth : Method} {c : Code} {D : va_G} {cA : Nat → ClassId} {ad : Nat → Nat → Nat} {A : Nat → Prop} {K : Int32 → St → Prop} {S : St} {x1 : Int32} (X : Cx p rm_X4_plans m c cX4_plans 7 s args RX4 0 0 D cA ad A) (hr : meth.sig.returnType = (some .int)) (hlk : meth.locks = false) (h : w_X4_plans_41 K S x1) : VV p l e rm_X4_plans s m args below meth c 0 0 (MQ below (Qi D cA ad A K) args s 0 0 A) D cA ad A 7 S 41 [(0, .ref (ad 10 0)), (1, .int x1)] [] := by
  obtain ⟨I, ⟨n, hI⟩, hbody⟩ := h
  suffices key : ∀ (n : Nat) (S : St) (x1 : Int32), I n S x1 → VV p l e rm_X4_plans s m args below meth c 0 0 (MQ below (Qi D cA ad A K) args s 0 0 A) D cA ad A 7 S 41 [(0, .ref (ad 10 0)), (1, .int x1)] [] from key n S x1 hI
  clear hI
  intro n
  induction n using Nat.strongRecOn with
  | ind n ih =>
    intro S x1 hI
    have h := hbody n S x1 hI
    clear hI
    refine v_iload_n X dX4_plans_41 rfl 1 rfl ?_
    refine v_iconst (v := 3) X dX4_plans_42 (by decide) ?_
    refine v_icmp_ge X 59 dX4_plans_43 (by decide) (fun hc43 => ?_) (fun hc43 => ?_)
    · have h := h.1 hc43
      refine v_iconst (v := 0) X dX4_plans_59 (by decide) ?_
      refine v_istore_n X [(1, .int 0), (0, .ref (ad 10 0))] dX4_plans_60 rfl (by decide) rfl ?_
      refine v_sub [1, 0] rfl ?_
      exact t_X4_plans_61 X hr hlk h
    · have h := h.2 hc43
      refine v_aload_n X dX4_plans_46 rfl 0 rfl ?_
      refine v_get (v := .ref (ad 10 6)) X f_X4_22 oo10 kk10 dX4_plans_47 rfl ?_
      refine v_iload_n X dX4_plans_50 rfl 1 rfl ?_
      refine v_iconst (v := 0) X dX4_plans_51 (by decide) ?_
      obtain ⟨hb, h⟩ := h
      refine v_iast (o := 10) (k := 5) (n := 3) X oo10 kk10 rfl rfl rfl hb dX4_plans_52 ?_
      refine v_st (fun S52 eS52 => ?_)
      have h := h S52 eS52
      obtain ⟨y53, ey53⟩ : ∃ z : Int32, z = x1 + 1 := ⟨_, rfl⟩
      have h := h y53 ey53
      refine v_iinc (v := y53) X [(1, .int y53), (0, .ref (ad 10 0))] dX4_plans_53 1 rfl (by rw [ey53]; rfl) (by decide) rfl ?_
      refine v_goto X 41 dX4_plans_56 (by decide) ?_
      obtain ⟨n', hlt, h⟩ := h
      refine v_sub [1, 0] rfl ?_
      exact ih n' hlt _ _ h
def w_X4_plans_2 (K : Int32 → St → Prop) (S : St) (x1 : Int32) : Prop := ∃ I : Nat → St → Int32 → Prop, (∃ n : Nat, I n S x1) ∧ ∀ (n : Nat) (S : St) (x1 : Int32), I n S x1 → (((24 ≤ x1) → (w_X4_plans_41 K S 0)) ∧ ((¬ 24 ≤ x1) → ((vp_in (52 + (x1 / 6)) 111) ∧ ((vp_in x1 24) ∧ (∀ S25 : St, S25 = up3 S 10 3 x1.toNatClampNeg (S 10 0 (52 + (x1 / 6)).toNatClampNeg) → ((vp_in x1 24) ∧ (∀ S32 : St, S32 = up3 S25 10 4 x1.toNatClampNeg 0 → (∀ y33 : Int32, y33 = x1 + 1 → (∃ n' : Nat, n' < n ∧ I n' S32 y33)))))))))
set_option maxHeartbeats 4000000 in
set_option maxRecDepth 100000 in
theorem t_X4_plans_2 {p : Program} {l : Launch} {e : Env} {s : State} {m : MethodId} {args : Array Value} {below : List Frame} {meth : Method} {c : Code} {D : va_G} {cA : Nat → ClassId} {ad : Nat → Nat → Nat} {A : Nat → Prop} {K : Int32 → St → Prop} {S : St} {x1 : Int32} (X : Cx p rm_X4_plans m c cX4_plans 7 s args RX4 0 0 D cA ad A) (hr : meth.sig.returnType = (some .int)) (hlk : meth.locks = false) (h : w_X4_plans_2 K S x1) : VV p l e rm_X4_plans s m args below meth c 0 0 (MQ below (Qi D cA ad A K) args s 0 0 A) D cA ad A 7 S 2 [(0, .ref (ad 10 0)), (1, .int x1)] [] := by
  obtain ⟨I, ⟨n, hI⟩, hbody⟩ := h
  suffices key : ∀ (n : Nat) (S : St) (x1 : Int32), I n S x1 → VV p l e rm_X4_plans s m args below meth c 0 0 (MQ below (Qi D cA ad A K) args s 0 0 A) D cA ad A 7 S 2 [(0, .ref (ad 10 0)), (1, .int x1)] [] from key n S x1 hI
  clear hI
  intro n
  induction n using Nat.strongRecOn with
  | ind n ih =>
    intro S x1 hI
    have h := hbody n S x1 hI
    clear hI
    refine v_iload_n X dX4_plans_2 rfl 1 rfl ?_
    refine v_bipush (v := 24) X dX4_plans_3 (by decide) ?_
    refine v_icmp_ge X 39 dX4_plans_5 (by decide) (fun hc5 => ?_) (fun hc5 => ?_)
    · have h := h.1 hc5
      refine v_iconst (v := 0) X dX4_plans_39 (by decide) ?_
      refine v_istore_n X [(1, .int 0), (0, .ref (ad 10 0))] dX4_plans_40 rfl (by decide) rfl ?_
      refine v_sub [1, 0] rfl ?_
      exact t_X4_plans_41 X hr hlk h
    · have h := h.2 hc5
      refine v_aload_n X dX4_plans_8 rfl 0 rfl ?_
      refine v_get (v := .ref (ad 10 4)) X f_X4_16 oo10 kk10 dX4_plans_9 rfl ?_
      refine v_iload_n X dX4_plans_12 rfl 1 rfl ?_
      refine v_aload_n X dX4_plans_13 rfl 0 rfl ?_
      refine v_get (v := .ref (ad 10 1)) X f_X4_7 oo10 kk10 dX4_plans_14 rfl ?_
      refine v_bipush (v := 52) X dX4_plans_17 (by decide) ?_
      refine v_iload_n X dX4_plans_19 rfl 1 rfl ?_
      refine v_bipush (v := 6) X dX4_plans_20 (by decide) ?_
      refine v_idiv X dX4_plans_22 (by decide) ?_
      refine v_iadd X dX4_plans_23 ?_
      obtain ⟨hb, h⟩ := h
      refine v_iald (o := 10) (k := 0) (n := 111) X oo10 kk10 rfl rfl rfl hb dX4_plans_24 ?_
      obtain ⟨hb, h⟩ := h
      refine v_iast (o := 10) (k := 3) (n := 24) X oo10 kk10 rfl rfl rfl hb dX4_plans_25 ?_
      refine v_st (fun S25 eS25 => ?_)
      have h := h S25 eS25
      refine v_aload_n X dX4_plans_26 rfl 0 rfl ?_
      refine v_get (v := .ref (ad 10 5)) X f_X4_19 oo10 kk10 dX4_plans_27 rfl ?_
      refine v_iload_n X dX4_plans_30 rfl 1 rfl ?_
      refine v_iconst (v := 0) X dX4_plans_31 (by decide) ?_
      obtain ⟨hb, h⟩ := h
      refine v_iast (o := 10) (k := 4) (n := 24) X oo10 kk10 rfl rfl rfl hb dX4_plans_32 ?_
      refine v_st (fun S32 eS32 => ?_)
      have h := h S32 eS32
      obtain ⟨y33, ey33⟩ : ∃ z : Int32, z = x1 + 1 := ⟨_, rfl⟩
      have h := h y33 ey33
      refine v_iinc (v := y33) X [(1, .int y33), (0, .ref (ad 10 0))] dX4_plans_33 1 rfl (by rw [ey33]; rfl) (by decide) rfl ?_
      refine v_goto X 2 dX4_plans_36 (by decide) ?_
      obtain ⟨n', hlt, h⟩ := h
      refine v_sub [1, 0] rfl ?_
      exact ih n' hlt _ _ h
def w_X4_plans (S : St) (K : Int32 → St → Prop) : Prop := w_X4_plans_2 K S 0
set_option maxHeartbeats 4000000 in
set_option maxRecDepth 100000 in
theorem c_X4_plans (l : Launch) {D : va_G} {cA : Nat → ClassId} {ad : Nat → Nat → Nat} {A : Nat → Prop} (S : St) (K : Int32 → St → Prop) (h : w_X4_plans S K) : MT l yX4_plans cX4_plans 7 (some .int) 4 101 [.ref (ad 10 0)] D cA ad A S (Qi D cA ad A K) := by
  refine MT.ofV (by decide) (Nat.le_of_ble_eq_true rfl) ?_
  intro p e s m args below meth c X hr hlk
  have X : Cx p rm_X4_plans m c cX4_plans 7 s args RX4 0 0 D cA ad A := X
  refine v_lv [(0, .ref (ad 10 0))] rfl ?_
  unfold w_X4_plans at h
  refine v_iconst (v := 0) X dX4_plans_0 (by decide) ?_
  refine v_istore_n X [(1, .int 0), (0, .ref (ad 10 0))] dX4_plans_1 rfl (by decide) rfl ?_
  refine v_sub [1, 0] rfl ?_
  exact t_X4_plans_2 X hr hlk h
abbrev rm_X4_startOf : Room := { frames := 5, cells := 0, slots := 0, locals := 127 }
def w_X4_startOf (S : St) (x1 : Int32) (x2 : Int32) (K : Int32 → St → Prop) : Prop := w_X4_isReel S x1 x2 (fun r3 => ((¬ r3 = 0) → (w_X4_plans S (fun r12 S12 => (vp_in x1 6) ∧ ((((S12 10 11 x1.toNatClampNeg) = 0) → (K (-4) S12)) ∧ ((¬ (S12 10 11 x1.toNatClampNeg) = 0) → ((vp_in ((6 * x1) + x2) 36) ∧ (K (S12 10 9 ((6 * x1) + x2).toNatClampNeg) S12))))))) ∧ ((r3 = 0) → (K (-1) S)))
set_option maxHeartbeats 4000000 in
set_option maxRecDepth 100000 in
theorem c_X4_startOf (l : Launch) {D : va_G} {cA : Nat → ClassId} {ad : Nat → Nat → Nat} {A : Nat → Prop} (S : St) (x1 : Int32) (x2 : Int32) (K : Int32 → St → Prop) (h : w_X4_startOf S x1 x2 K) : MT l yX4_startOf cX4_startOf 3 (some .int) 5 127 [.ref (ad 10 0), .int x1, .int x2] D cA ad A S (Qi D cA ad A K) := by
  refine MT.ofV (by decide) (Nat.le_of_ble_eq_true rfl) ?_
  intro p e s m args below meth c X hr hlk
  have X : Cx p rm_X4_startOf m c cX4_startOf 3 s args RX4 0 0 D cA ad A := X
  refine v_lv [(0, .ref (ad 10 0)), (1, .int x1), (2, .int x2)] rfl ?_
  unfold w_X4_startOf at h
  refine v_aload_n X dX4_startOf_0 rfl 0 rfl ?_
  refine v_iload_n X dX4_startOf_1 rfl 1 rfl ?_
  refine v_iload_n X dX4_startOf_2 rfl 2 rfl ?_
  refine v_callVz (o := 10) (ci := 4) (As := [.int x1, .int x2]) (rest := []) X (c_X4_isReel l S x1 x2 _ h) mw_X4_isReel mv_X4_99 oo10 kk10 ⟨Nat.le_of_ble_eq_true rfl, Nat.le_of_ble_eq_true rfl⟩ rfl (Nat.le_of_ble_eq_true rfl) rfl dX4_startOf_3 (fun r3 S' hq hz3 => ?_)
  obtain ⟨hq1, h⟩ := hq
  rw [hq1]
  clear hq1
  refine v_if_ne X 11 dX4_startOf_6 (by decide) (fun hc6 => ?_) (fun hc6 => ?_)
  · have h := h.1 hc6
    refine v_aload_n X dX4_startOf_11 rfl 0 rfl ?_
    refine v_callVi (o := 10) (ci := 4) (As := []) (rest := []) X (c_X4_plans l S _ h) mw_X4_plans mv_X4_132 oo10 kk10 ⟨Nat.le_of_ble_eq_true rfl, Nat.le_of_ble_eq_true rfl⟩ rfl (Nat.le_of_ble_eq_true rfl) rfl dX4_startOf_12 (fun r12 S12 h => ?_)
    refine v_pop X dX4_startOf_15 rfl ?_
    refine v_aload_n X dX4_startOf_16 rfl 0 rfl ?_
    refine v_get (v := .ref (ad 10 12)) X f_X4_40 oo10 kk10 dX4_startOf_17 rfl ?_
    refine v_iload_n X dX4_startOf_20 rfl 1 rfl ?_
    obtain ⟨hb, h⟩ := h
    refine v_zald (o := 10) (k := 11) (n := 6) X oo10 kk10 rfl rfl rfl hb dX4_startOf_21 ?_
    refine v_if_eq X 39 dX4_startOf_22 (by decide) (fun hc22 => ?_) (fun hc22 => ?_)
    · have h := h.1 hc22
      refine v_bipush (v := (-4)) X dX4_startOf_39 (by decide) ?_
      exact v_iret X hr hlk dX4_startOf_41 h
    · have h := h.2 hc22
      refine v_aload_n X dX4_startOf_25 rfl 0 rfl ?_
      refine v_get (v := .ref (ad 10 10)) X f_X4_34 oo10 kk10 dX4_startOf_26 rfl ?_
      refine v_bipush (v := 6) X dX4_startOf_29 (by decide) ?_
      refine v_iload_n X dX4_startOf_31 rfl 1 rfl ?_
      refine v_imul X dX4_startOf_32 ?_
      refine v_iload_n X dX4_startOf_33 rfl 2 rfl ?_
      refine v_iadd X dX4_startOf_34 ?_
      obtain ⟨hb, h⟩ := h
      refine v_iald (o := 10) (k := 9) (n := 36) X oo10 kk10 rfl rfl rfl hb dX4_startOf_35 ?_
      refine v_goto X 41 dX4_startOf_36 (by decide) ?_
      exact v_iret X hr hlk dX4_startOf_41 h
  · have h := h.2 hc6
    refine v_iconst (v := (-1)) X dX4_startOf_9 (by decide) ?_
    exact v_iret X hr hlk dX4_startOf_10 h
abbrev rm_X4_machineOf : Room := { frames := 5, cells := 0, slots := 0, locals := 127 }
def w_X4_machineOf (S : St) (x1 : Int32) (x2 : Int32) (K : Int32 → St → Prop) : Prop := w_X4_isReel S x1 x2 (fun r3 => ((¬ r3 = 0) → (w_X4_plans S (fun r12 S12 => (vp_in x1 6) ∧ ((((S12 10 11 x1.toNatClampNeg) = 0) → (K (-4) S12)) ∧ ((¬ (S12 10 11 x1.toNatClampNeg) = 0) → ((vp_in ((6 * x1) + x2) 36) ∧ (K (S12 10 10 ((6 * x1) + x2).toNatClampNeg) S12))))))) ∧ ((r3 = 0) → (K (-1) S)))
set_option maxHeartbeats 4000000 in
set_option maxRecDepth 100000 in
theorem c_X4_machineOf (l : Launch) {D : va_G} {cA : Nat → ClassId} {ad : Nat → Nat → Nat} {A : Nat → Prop} (S : St) (x1 : Int32) (x2 : Int32) (K : Int32 → St → Prop) (h : w_X4_machineOf S x1 x2 K) : MT l yX4_machineOf cX4_machineOf 3 (some .int) 5 127 [.ref (ad 10 0), .int x1, .int x2] D cA ad A S (Qi D cA ad A K) := by
  refine MT.ofV (by decide) (Nat.le_of_ble_eq_true rfl) ?_
  intro p e s m args below meth c X hr hlk
  have X : Cx p rm_X4_machineOf m c cX4_machineOf 3 s args RX4 0 0 D cA ad A := X
  refine v_lv [(0, .ref (ad 10 0)), (1, .int x1), (2, .int x2)] rfl ?_
  unfold w_X4_machineOf at h
  refine v_aload_n X dX4_machineOf_0 rfl 0 rfl ?_
  refine v_iload_n X dX4_machineOf_1 rfl 1 rfl ?_
  refine v_iload_n X dX4_machineOf_2 rfl 2 rfl ?_
  refine v_callVz (o := 10) (ci := 4) (As := [.int x1, .int x2]) (rest := []) X (c_X4_isReel l S x1 x2 _ h) mw_X4_isReel mv_X4_99 oo10 kk10 ⟨Nat.le_of_ble_eq_true rfl, Nat.le_of_ble_eq_true rfl⟩ rfl (Nat.le_of_ble_eq_true rfl) rfl dX4_machineOf_3 (fun r3 S' hq hz3 => ?_)
  obtain ⟨hq1, h⟩ := hq
  rw [hq1]
  clear hq1
  refine v_if_ne X 11 dX4_machineOf_6 (by decide) (fun hc6 => ?_) (fun hc6 => ?_)
  · have h := h.1 hc6
    refine v_aload_n X dX4_machineOf_11 rfl 0 rfl ?_
    refine v_callVi (o := 10) (ci := 4) (As := []) (rest := []) X (c_X4_plans l S _ h) mw_X4_plans mv_X4_132 oo10 kk10 ⟨Nat.le_of_ble_eq_true rfl, Nat.le_of_ble_eq_true rfl⟩ rfl (Nat.le_of_ble_eq_true rfl) rfl dX4_machineOf_12 (fun r12 S12 h => ?_)
    refine v_pop X dX4_machineOf_15 rfl ?_
    refine v_aload_n X dX4_machineOf_16 rfl 0 rfl ?_
    refine v_get (v := .ref (ad 10 12)) X f_X4_40 oo10 kk10 dX4_machineOf_17 rfl ?_
    refine v_iload_n X dX4_machineOf_20 rfl 1 rfl ?_
    obtain ⟨hb, h⟩ := h
    refine v_zald (o := 10) (k := 11) (n := 6) X oo10 kk10 rfl rfl rfl hb dX4_machineOf_21 ?_
    refine v_if_eq X 39 dX4_machineOf_22 (by decide) (fun hc22 => ?_) (fun hc22 => ?_)
    · have h := h.1 hc22
      refine v_bipush (v := (-4)) X dX4_machineOf_39 (by decide) ?_
      exact v_iret X hr hlk dX4_machineOf_41 h
    · have h := h.2 hc22
      refine v_aload_n X dX4_machineOf_25 rfl 0 rfl ?_
      refine v_get (v := .ref (ad 10 11)) X f_X4_37 oo10 kk10 dX4_machineOf_26 rfl ?_
      refine v_bipush (v := 6) X dX4_machineOf_29 (by decide) ?_
      refine v_iload_n X dX4_machineOf_31 rfl 1 rfl ?_
      refine v_imul X dX4_machineOf_32 ?_
      refine v_iload_n X dX4_machineOf_33 rfl 2 rfl ?_
      refine v_iadd X dX4_machineOf_34 ?_
      obtain ⟨hb, h⟩ := h
      refine v_iald (o := 10) (k := 10) (n := 36) X oo10 kk10 rfl rfl rfl hb dX4_machineOf_35 ?_
      refine v_goto X 41 dX4_machineOf_36 (by decide) ?_
      exact v_iret X hr hlk dX4_machineOf_41 h
  · have h := h.2 hc6
    refine v_iconst (v := (-1)) X dX4_machineOf_9 (by decide) ?_
    exact v_iret X hr hlk dX4_machineOf_10 h
abbrev rm_X4_endOf : Room := { frames := 5, cells := 0, slots := 0, locals := 127 }
def w_X4_endOf (S : St) (x1 : Int32) (K : Int32 → St → Prop) : Prop := w_X4_isShow S x1 (fun r2 => ((¬ r2 = 0) → (w_X4_plans S (fun r11 S11 => (vp_in x1 6) ∧ ((((S11 10 11 x1.toNatClampNeg) = 0) → (K (-4) S11)) ∧ ((¬ (S11 10 11 x1.toNatClampNeg) = 0) → ((vp_in x1 6) ∧ (K (S11 10 12 x1.toNatClampNeg) S11))))))) ∧ ((r2 = 0) → (K (-1) S)))
set_option maxHeartbeats 4000000 in
set_option maxRecDepth 100000 in
theorem c_X4_endOf (l : Launch) {D : va_G} {cA : Nat → ClassId} {ad : Nat → Nat → Nat} {A : Nat → Prop} (S : St) (x1 : Int32) (K : Int32 → St → Prop) (h : w_X4_endOf S x1 K) : MT l yX4_endOf cX4_endOf 2 (some .int) 5 127 [.ref (ad 10 0), .int x1] D cA ad A S (Qi D cA ad A K) := by
  refine MT.ofV (by decide) (Nat.le_of_ble_eq_true rfl) ?_
  intro p e s m args below meth c X hr hlk
  have X : Cx p rm_X4_endOf m c cX4_endOf 2 s args RX4 0 0 D cA ad A := X
  refine v_lv [(0, .ref (ad 10 0)), (1, .int x1)] rfl ?_
  unfold w_X4_endOf at h
  refine v_aload_n X dX4_endOf_0 rfl 0 rfl ?_
  refine v_iload_n X dX4_endOf_1 rfl 1 rfl ?_
  refine v_callVz (o := 10) (ci := 4) (As := [.int x1]) (rest := []) X (c_X4_isShow l S x1 _ h) mw_X4_isShow mv_X4_92 oo10 kk10 ⟨Nat.le_of_ble_eq_true rfl, Nat.le_of_ble_eq_true rfl⟩ rfl (Nat.le_of_ble_eq_true rfl) rfl dX4_endOf_2 (fun r2 S' hq hz2 => ?_)
  obtain ⟨hq1, h⟩ := hq
  rw [hq1]
  clear hq1
  refine v_if_ne X 10 dX4_endOf_5 (by decide) (fun hc5 => ?_) (fun hc5 => ?_)
  · have h := h.1 hc5
    refine v_aload_n X dX4_endOf_10 rfl 0 rfl ?_
    refine v_callVi (o := 10) (ci := 4) (As := []) (rest := []) X (c_X4_plans l S _ h) mw_X4_plans mv_X4_132 oo10 kk10 ⟨Nat.le_of_ble_eq_true rfl, Nat.le_of_ble_eq_true rfl⟩ rfl (Nat.le_of_ble_eq_true rfl) rfl dX4_endOf_11 (fun r11 S11 h => ?_)
    refine v_pop X dX4_endOf_14 rfl ?_
    refine v_aload_n X dX4_endOf_15 rfl 0 rfl ?_
    refine v_get (v := .ref (ad 10 12)) X f_X4_40 oo10 kk10 dX4_endOf_16 rfl ?_
    refine v_iload_n X dX4_endOf_19 rfl 1 rfl ?_
    obtain ⟨hb, h⟩ := h
    refine v_zald (o := 10) (k := 11) (n := 6) X oo10 kk10 rfl rfl rfl hb dX4_endOf_20 ?_
    refine v_if_eq X 33 dX4_endOf_21 (by decide) (fun hc21 => ?_) (fun hc21 => ?_)
    · have h := h.1 hc21
      refine v_bipush (v := (-4)) X dX4_endOf_33 (by decide) ?_
      exact v_iret X hr hlk dX4_endOf_35 h
    · have h := h.2 hc21
      refine v_aload_n X dX4_endOf_24 rfl 0 rfl ?_
      refine v_get (v := .ref (ad 10 13)) X f_X4_44 oo10 kk10 dX4_endOf_25 rfl ?_
      refine v_iload_n X dX4_endOf_28 rfl 1 rfl ?_
      obtain ⟨hb, h⟩ := h
      refine v_iald (o := 10) (k := 12) (n := 6) X oo10 kk10 rfl rfl rfl hb dX4_endOf_29 ?_
      refine v_goto X 35 dX4_endOf_30 (by decide) ?_
      exact v_iret X hr hlk dX4_endOf_35 h
  · have h := h.2 hc5
    refine v_iconst (v := (-1)) X dX4_endOf_8 (by decide) ?_
    exact v_iret X hr hlk dX4_endOf_9 h
abbrev rm_X4_delayOf : Room := { frames := 5, cells := 0, slots := 0, locals := 127 }
def w_X4_delayOf (S : St) (x1 : Int32) (K : Int32 → St → Prop) : Prop := w_X4_isShow S x1 (fun r2 => ((¬ r2 = 0) → (w_X4_plans S (fun r11 S11 => (vp_in x1 6) ∧ (K (S11 10 13 x1.toNatClampNeg) S11)))) ∧ ((r2 = 0) → (K (-1) S)))
set_option maxHeartbeats 4000000 in
set_option maxRecDepth 100000 in
theorem c_X4_delayOf (l : Launch) {D : va_G} {cA : Nat → ClassId} {ad : Nat → Nat → Nat} {A : Nat → Prop} (S : St) (x1 : Int32) (K : Int32 → St → Prop) (h : w_X4_delayOf S x1 K) : MT l yX4_delayOf cX4_delayOf 2 (some .int) 5 127 [.ref (ad 10 0), .int x1] D cA ad A S (Qi D cA ad A K) := by
  refine MT.ofV (by decide) (Nat.le_of_ble_eq_true rfl) ?_
  intro p e s m args below meth c X hr hlk
  have X : Cx p rm_X4_delayOf m c cX4_delayOf 2 s args RX4 0 0 D cA ad A := X
  refine v_lv [(0, .ref (ad 10 0)), (1, .int x1)] rfl ?_
  unfold w_X4_delayOf at h
  refine v_aload_n X dX4_delayOf_0 rfl 0 rfl ?_
  refine v_iload_n X dX4_delayOf_1 rfl 1 rfl ?_
  refine v_callVz (o := 10) (ci := 4) (As := [.int x1]) (rest := []) X (c_X4_isShow l S x1 _ h) mw_X4_isShow mv_X4_92 oo10 kk10 ⟨Nat.le_of_ble_eq_true rfl, Nat.le_of_ble_eq_true rfl⟩ rfl (Nat.le_of_ble_eq_true rfl) rfl dX4_delayOf_2 (fun r2 S' hq hz2 => ?_)
  obtain ⟨hq1, h⟩ := hq
  rw [hq1]
  clear hq1
  refine v_if_ne X 10 dX4_delayOf_5 (by decide) (fun hc5 => ?_) (fun hc5 => ?_)
  · have h := h.1 hc5
    refine v_aload_n X dX4_delayOf_10 rfl 0 rfl ?_
    refine v_callVi (o := 10) (ci := 4) (As := []) (rest := []) X (c_X4_plans l S _ h) mw_X4_plans mv_X4_132 oo10 kk10 ⟨Nat.le_of_ble_eq_true rfl, Nat.le_of_ble_eq_true rfl⟩ rfl (Nat.le_of_ble_eq_true rfl) rfl dX4_delayOf_11 (fun r11 S11 h => ?_)
    refine v_pop X dX4_delayOf_14 rfl ?_
    refine v_aload_n X dX4_delayOf_15 rfl 0 rfl ?_
    refine v_get (v := .ref (ad 10 14)) X f_X4_47 oo10 kk10 dX4_delayOf_16 rfl ?_
    refine v_iload_n X dX4_delayOf_19 rfl 1 rfl ?_
    obtain ⟨hb, h⟩ := h
    refine v_iald (o := 10) (k := 13) (n := 6) X oo10 kk10 rfl rfl rfl hb dX4_delayOf_20 ?_
    exact v_iret X hr hlk dX4_delayOf_21 h
  · have h := h.2 hc5
    refine v_iconst (v := (-1)) X dX4_delayOf_8 (by decide) ?_
    exact v_iret X hr hlk dX4_delayOf_9 h
abbrev rm_X4_gapOf : Room := { frames := 5, cells := 0, slots := 0, locals := 127 }
def w_X4_gapOf (S : St) (x1 : Int32) (K : Int32 → St → Prop) : Prop := w_X4_isShow S x1 (fun r2 => ((¬ r2 = 0) → (w_X4_plans S (fun r11 S11 => (vp_in x1 6) ∧ (K (S11 10 14 x1.toNatClampNeg) S11)))) ∧ ((r2 = 0) → (K (-1) S)))
set_option maxHeartbeats 4000000 in
set_option maxRecDepth 100000 in
theorem c_X4_gapOf (l : Launch) {D : va_G} {cA : Nat → ClassId} {ad : Nat → Nat → Nat} {A : Nat → Prop} (S : St) (x1 : Int32) (K : Int32 → St → Prop) (h : w_X4_gapOf S x1 K) : MT l yX4_gapOf cX4_gapOf 2 (some .int) 5 127 [.ref (ad 10 0), .int x1] D cA ad A S (Qi D cA ad A K) := by
  refine MT.ofV (by decide) (Nat.le_of_ble_eq_true rfl) ?_
  intro p e s m args below meth c X hr hlk
  have X : Cx p rm_X4_gapOf m c cX4_gapOf 2 s args RX4 0 0 D cA ad A := X
  refine v_lv [(0, .ref (ad 10 0)), (1, .int x1)] rfl ?_
  unfold w_X4_gapOf at h
  refine v_aload_n X dX4_gapOf_0 rfl 0 rfl ?_
  refine v_iload_n X dX4_gapOf_1 rfl 1 rfl ?_
  refine v_callVz (o := 10) (ci := 4) (As := [.int x1]) (rest := []) X (c_X4_isShow l S x1 _ h) mw_X4_isShow mv_X4_92 oo10 kk10 ⟨Nat.le_of_ble_eq_true rfl, Nat.le_of_ble_eq_true rfl⟩ rfl (Nat.le_of_ble_eq_true rfl) rfl dX4_gapOf_2 (fun r2 S' hq hz2 => ?_)
  obtain ⟨hq1, h⟩ := hq
  rw [hq1]
  clear hq1
  refine v_if_ne X 10 dX4_gapOf_5 (by decide) (fun hc5 => ?_) (fun hc5 => ?_)
  · have h := h.1 hc5
    refine v_aload_n X dX4_gapOf_10 rfl 0 rfl ?_
    refine v_callVi (o := 10) (ci := 4) (As := []) (rest := []) X (c_X4_plans l S _ h) mw_X4_plans mv_X4_132 oo10 kk10 ⟨Nat.le_of_ble_eq_true rfl, Nat.le_of_ble_eq_true rfl⟩ rfl (Nat.le_of_ble_eq_true rfl) rfl dX4_gapOf_11 (fun r11 S11 h => ?_)
    refine v_pop X dX4_gapOf_14 rfl ?_
    refine v_aload_n X dX4_gapOf_15 rfl 0 rfl ?_
    refine v_get (v := .ref (ad 10 15)) X f_X4_50 oo10 kk10 dX4_gapOf_16 rfl ?_
    refine v_iload_n X dX4_gapOf_19 rfl 1 rfl ?_
    obtain ⟨hb, h⟩ := h
    refine v_iald (o := 10) (k := 14) (n := 6) X oo10 kk10 rfl rfl rfl hb dX4_gapOf_20 ?_
    exact v_iret X hr hlk dX4_gapOf_21 h
  · have h := h.2 hc5
    refine v_iconst (v := (-1)) X dX4_gapOf_8 (by decide) ?_
    exact v_iret X hr hlk dX4_gapOf_9 h
abbrev rm_X4_loss : Room := { frames := 5, cells := 0, slots := 0, locals := 127 }
def w_X4_loss (S : St) (K : Int32 → St → Prop) : Prop := w_X4_plans S (fun r1 S1 => K r1 S1)
set_option maxHeartbeats 4000000 in
set_option maxRecDepth 100000 in
theorem c_X4_loss (l : Launch) {D : va_G} {cA : Nat → ClassId} {ad : Nat → Nat → Nat} {A : Nat → Prop} (S : St) (K : Int32 → St → Prop) (h : w_X4_loss S K) : MT l yX4_loss cX4_loss 1 (some .int) 5 127 [.ref (ad 10 0)] D cA ad A S (Qi D cA ad A K) := by
  refine MT.ofV (by decide) (Nat.le_of_ble_eq_true rfl) ?_
  intro p e s m args below meth c X hr hlk
  have X : Cx p rm_X4_loss m c cX4_loss 1 s args RX4 0 0 D cA ad A := X
  refine v_lv [(0, .ref (ad 10 0))] rfl ?_
  unfold w_X4_loss at h
  refine v_aload_n X dX4_loss_0 rfl 0 rfl ?_
  refine v_callVi (o := 10) (ci := 4) (As := []) (rest := []) X (c_X4_plans l S _ h) mw_X4_plans mv_X4_132 oo10 kk10 ⟨Nat.le_of_ble_eq_true rfl, Nat.le_of_ble_eq_true rfl⟩ rfl (Nat.le_of_ble_eq_true rfl) rfl dX4_loss_1 (fun r1 S1 h => ?_)
  exact v_iret X hr hlk dX4_loss_4 h
abbrev rm_X4_carriedReels : Room := { frames := 5, cells := 0, slots := 0, locals := 127 }
def w_X4_carriedReels (S : St) (K : Int32 → St → Prop) : Prop := w_X4_plans S (fun r1 S1 => K (S1 10 15 0) S1)
set_option maxHeartbeats 4000000 in
set_option maxRecDepth 100000 in
theorem c_X4_carriedReels (l : Launch) {D : va_G} {cA : Nat → ClassId} {ad : Nat → Nat → Nat} {A : Nat → Prop} (S : St) (K : Int32 → St → Prop) (h : w_X4_carriedReels S K) : MT l yX4_carriedReels cX4_carriedReels 1 (some .int) 5 127 [.ref (ad 10 0)] D cA ad A S (Qi D cA ad A K) := by
  refine MT.ofV (by decide) (Nat.le_of_ble_eq_true rfl) ?_
  intro p e s m args below meth c X hr hlk
  have X : Cx p rm_X4_carriedReels m c cX4_carriedReels 1 s args RX4 0 0 D cA ad A := X
  refine v_lv [(0, .ref (ad 10 0))] rfl ?_
  unfold w_X4_carriedReels at h
  refine v_aload_n X dX4_carriedReels_0 rfl 0 rfl ?_
  refine v_callVi (o := 10) (ci := 4) (As := []) (rest := []) X (c_X4_plans l S _ h) mw_X4_plans mv_X4_132 oo10 kk10 ⟨Nat.le_of_ble_eq_true rfl, Nat.le_of_ble_eq_true rfl⟩ rfl (Nat.le_of_ble_eq_true rfl) rfl dX4_carriedReels_1 (fun r1 S1 h => ?_)
  refine v_pop X dX4_carriedReels_4 rfl ?_
  refine v_aload_n X dX4_carriedReels_5 rfl 0 rfl ?_
  refine v_get (v := .int (S1 10 15 0)) X f_X4_105 oo10 kk10 dX4_carriedReels_6 rfl ?_
  exact v_iret X hr hlk dX4_carriedReels_9 h
abbrev rm_X4_plateChanges : Room := { frames := 5, cells := 0, slots := 0, locals := 127 }
def w_X4_plateChanges (S : St) (K : Int32 → St → Prop) : Prop := w_X4_plans S (fun r1 S1 => K (S1 10 16 0) S1)
set_option maxHeartbeats 4000000 in
set_option maxRecDepth 100000 in
theorem c_X4_plateChanges (l : Launch) {D : va_G} {cA : Nat → ClassId} {ad : Nat → Nat → Nat} {A : Nat → Prop} (S : St) (K : Int32 → St → Prop) (h : w_X4_plateChanges S K) : MT l yX4_plateChanges cX4_plateChanges 1 (some .int) 5 127 [.ref (ad 10 0)] D cA ad A S (Qi D cA ad A K) := by
  refine MT.ofV (by decide) (Nat.le_of_ble_eq_true rfl) ?_
  intro p e s m args below meth c X hr hlk
  have X : Cx p rm_X4_plateChanges m c cX4_plateChanges 1 s args RX4 0 0 D cA ad A := X
  refine v_lv [(0, .ref (ad 10 0))] rfl ?_
  unfold w_X4_plateChanges at h
  refine v_aload_n X dX4_plateChanges_0 rfl 0 rfl ?_
  refine v_callVi (o := 10) (ci := 4) (As := []) (rest := []) X (c_X4_plans l S _ h) mw_X4_plans mv_X4_132 oo10 kk10 ⟨Nat.le_of_ble_eq_true rfl, Nat.le_of_ble_eq_true rfl⟩ rfl (Nat.le_of_ble_eq_true rfl) rfl dX4_plateChanges_1 (fun r1 S1 h => ?_)
  refine v_pop X dX4_plateChanges_4 rfl ?_
  refine v_aload_n X dX4_plateChanges_5 rfl 0 rfl ?_
  refine v_get (v := .int (S1 10 16 0)) X f_X4_122 oo10 kk10 dX4_plateChanges_6 rfl ?_
  exact v_iret X hr hlk dX4_plateChanges_9 h
abbrev rm_X4_machineTime : Room := { frames := 5, cells := 0, slots := 0, locals := 127 }
def w_X4_machineTime (S : St) (x1 : Int32) (K : Int32 → St → Prop) : Prop := w_X4_isMachine S x1 (fun r2 => ((¬ r2 = 0) → (w_X4_plans S (fun r11 S11 => (vp_in x1 5) ∧ (K (S11 10 8 x1.toNatClampNeg) S11)))) ∧ ((r2 = 0) → (K (-1) S)))
set_option maxHeartbeats 4000000 in
set_option maxRecDepth 100000 in
theorem c_X4_machineTime (l : Launch) {D : va_G} {cA : Nat → ClassId} {ad : Nat → Nat → Nat} {A : Nat → Prop} (S : St) (x1 : Int32) (K : Int32 → St → Prop) (h : w_X4_machineTime S x1 K) : MT l yX4_machineTime cX4_machineTime 2 (some .int) 5 127 [.ref (ad 10 0), .int x1] D cA ad A S (Qi D cA ad A K) := by
  refine MT.ofV (by decide) (Nat.le_of_ble_eq_true rfl) ?_
  intro p e s m args below meth c X hr hlk
  have X : Cx p rm_X4_machineTime m c cX4_machineTime 2 s args RX4 0 0 D cA ad A := X
  refine v_lv [(0, .ref (ad 10 0)), (1, .int x1)] rfl ?_
  unfold w_X4_machineTime at h
  refine v_aload_n X dX4_machineTime_0 rfl 0 rfl ?_
  refine v_iload_n X dX4_machineTime_1 rfl 1 rfl ?_
  refine v_callVz (o := 10) (ci := 4) (As := [.int x1]) (rest := []) X (c_X4_isMachine l S x1 _ h) mw_X4_isMachine mv_X4_82 oo10 kk10 ⟨Nat.le_of_ble_eq_true rfl, Nat.le_of_ble_eq_true rfl⟩ rfl (Nat.le_of_ble_eq_true rfl) rfl dX4_machineTime_2 (fun r2 S' hq hz2 => ?_)
  obtain ⟨hq1, h⟩ := hq
  rw [hq1]
  clear hq1
  refine v_if_ne X 10 dX4_machineTime_5 (by decide) (fun hc5 => ?_) (fun hc5 => ?_)
  · have h := h.1 hc5
    refine v_aload_n X dX4_machineTime_10 rfl 0 rfl ?_
    refine v_callVi (o := 10) (ci := 4) (As := []) (rest := []) X (c_X4_plans l S _ h) mw_X4_plans mv_X4_132 oo10 kk10 ⟨Nat.le_of_ble_eq_true rfl, Nat.le_of_ble_eq_true rfl⟩ rfl (Nat.le_of_ble_eq_true rfl) rfl dX4_machineTime_11 (fun r11 S11 h => ?_)
    refine v_pop X dX4_machineTime_14 rfl ?_
    refine v_aload_n X dX4_machineTime_15 rfl 0 rfl ?_
    refine v_get (v := .ref (ad 10 9)) X f_X4_31 oo10 kk10 dX4_machineTime_16 rfl ?_
    refine v_iload_n X dX4_machineTime_19 rfl 1 rfl ?_
    obtain ⟨hb, h⟩ := h
    refine v_iald (o := 10) (k := 8) (n := 5) X oo10 kk10 rfl rfl rfl hb dX4_machineTime_20 ?_
    exact v_iret X hr hlk dX4_machineTime_21 h
  · have h := h.2 hc5
    refine v_iconst (v := (-1)) X dX4_machineTime_8 (by decide) ?_
    exact v_iret X hr hlk dX4_machineTime_9 h
abbrev rm_X4_setsAside : Room := { frames := 0, cells := 0, slots := 0, locals := 0 }
def w_X4_setsAside_2 (K : St → Prop) (S : St) (x1 : Int32) : Prop := ∃ I : Nat → St → Int32 → Prop, (∃ n : Nat, I n S x1) ∧ ∀ (n : Nat) (S : St) (x1 : Int32), I n S x1 → (((111 ≤ x1) → (K S)) ∧ ((¬ 111 ≤ x1) → ((vp_in x1 111) ∧ ((vp_in x1 111) ∧ (∀ S19 : St, S19 = up3 S 10 17 x1.toNatClampNeg (S 10 0 x1.toNatClampNeg) → (∀ y20 : Int32, y20 = x1 + 1 → (∃ n' : Nat, n' < n ∧ I n' S19 y20)))))))
set_option maxHeartbeats 4000000 in
set_option maxRecDepth 100000 in
theorem t_X4_setsAside_2 {p : Program} {l : Launch} {e : Env} {s : State} {m : MethodId} {args : Array Value} {below : List Frame} {meth : Method} {c : Code} {D : va_G} {cA : Nat → ClassId} {ad : Nat → Nat → Nat} {A : Nat → Prop} {K : St → Prop} {S : St} {x1 : Int32} (X : Cx p rm_X4_setsAside m c cX4_setsAside 2 s args RX4 0 0 D cA ad A) (hr : meth.sig.returnType = none) (hlk : meth.locks = false) (h : w_X4_setsAside_2 K S x1) : VV p l e rm_X4_setsAside s m args below meth c 0 0 (MQ below (Qv D cA ad A K) args s 0 0 A) D cA ad A 2 S 2 [(0, .ref (ad 10 0)), (1, .int x1)] [] := by
  obtain ⟨I, ⟨n, hI⟩, hbody⟩ := h
  suffices key : ∀ (n : Nat) (S : St) (x1 : Int32), I n S x1 → VV p l e rm_X4_setsAside s m args below meth c 0 0 (MQ below (Qv D cA ad A K) args s 0 0 A) D cA ad A 2 S 2 [(0, .ref (ad 10 0)), (1, .int x1)] [] from key n S x1 hI
  clear hI
  intro n
  induction n using Nat.strongRecOn with
  | ind n ih =>
    intro S x1 hI
    have h := hbody n S x1 hI
    clear hI
    refine v_iload_n X dX4_setsAside_2 rfl 1 rfl ?_
    refine v_bipush (v := 111) X dX4_setsAside_3 (by decide) ?_
    refine v_icmp_ge X 26 dX4_setsAside_5 (by decide) (fun hc5 => ?_) (fun hc5 => ?_)
    · have h := h.1 hc5
      exact v_vret X hr hlk dX4_setsAside_26 h
    · have h := h.2 hc5
      refine v_aload_n X dX4_setsAside_8 rfl 0 rfl ?_
      refine v_get (v := .ref (ad 10 18)) X f_X4_53 oo10 kk10 dX4_setsAside_9 rfl ?_
      refine v_iload_n X dX4_setsAside_12 rfl 1 rfl ?_
      refine v_aload_n X dX4_setsAside_13 rfl 0 rfl ?_
      refine v_get (v := .ref (ad 10 1)) X f_X4_7 oo10 kk10 dX4_setsAside_14 rfl ?_
      refine v_iload_n X dX4_setsAside_17 rfl 1 rfl ?_
      obtain ⟨hb, h⟩ := h
      refine v_iald (o := 10) (k := 0) (n := 111) X oo10 kk10 rfl rfl rfl hb dX4_setsAside_18 ?_
      obtain ⟨hb, h⟩ := h
      refine v_iast (o := 10) (k := 17) (n := 111) X oo10 kk10 rfl rfl rfl hb dX4_setsAside_19 ?_
      refine v_st (fun S19 eS19 => ?_)
      have h := h S19 eS19
      obtain ⟨y20, ey20⟩ : ∃ z : Int32, z = x1 + 1 := ⟨_, rfl⟩
      have h := h y20 ey20
      refine v_iinc (v := y20) X [(1, .int y20), (0, .ref (ad 10 0))] dX4_setsAside_20 1 rfl (by rw [ey20]; rfl) (by decide) rfl ?_
      refine v_goto X 2 dX4_setsAside_23 (by decide) ?_
      obtain ⟨n', hlt, h⟩ := h
      refine v_sub [1, 0] rfl ?_
      exact ih n' hlt _ _ h
def w_X4_setsAside (S : St) (K : St → Prop) : Prop := w_X4_setsAside_2 K S 0
set_option maxHeartbeats 4000000 in
set_option maxRecDepth 100000 in
theorem c_X4_setsAside (l : Launch) {D : va_G} {cA : Nat → ClassId} {ad : Nat → Nat → Nat} {A : Nat → Prop} (S : St) (K : St → Prop) (h : w_X4_setsAside S K) : MT l yX4_setsAside cX4_setsAside 2 none 0 0 [.ref (ad 10 0)] D cA ad A S (Qv D cA ad A K) := by
  refine MT.ofV (by decide) (Nat.le_of_ble_eq_true rfl) ?_
  intro p e s m args below meth c X hr hlk
  have X : Cx p rm_X4_setsAside m c cX4_setsAside 2 s args RX4 0 0 D cA ad A := X
  refine v_lv [(0, .ref (ad 10 0))] rfl ?_
  unfold w_X4_setsAside at h
  refine v_iconst (v := 0) X dX4_setsAside_0 (by decide) ?_
  refine v_istore_n X [(1, .int 0), (0, .ref (ad 10 0))] dX4_setsAside_1 rfl (by decide) rfl ?_
  refine v_sub [1, 0] rfl ?_
  exact t_X4_setsAside_2 X hr hlk h
abbrev rm_X4_takesBack : Room := { frames := 0, cells := 0, slots := 0, locals := 0 }
def w_X4_takesBack_2 (K : St → Prop) (S : St) (x1 : Int32) : Prop := ∃ I : Nat → St → Int32 → Prop, (∃ n : Nat, I n S x1) ∧ ∀ (n : Nat) (S : St) (x1 : Int32), I n S x1 → (((111 ≤ x1) → (K S)) ∧ ((¬ 111 ≤ x1) → ((vp_in x1 111) ∧ ((vp_in x1 111) ∧ (∀ S19 : St, S19 = up3 S 10 0 x1.toNatClampNeg (S 10 17 x1.toNatClampNeg) → (∀ y20 : Int32, y20 = x1 + 1 → (∃ n' : Nat, n' < n ∧ I n' S19 y20)))))))
set_option maxHeartbeats 4000000 in
set_option maxRecDepth 100000 in
theorem t_X4_takesBack_2 {p : Program} {l : Launch} {e : Env} {s : State} {m : MethodId} {args : Array Value} {below : List Frame} {meth : Method} {c : Code} {D : va_G} {cA : Nat → ClassId} {ad : Nat → Nat → Nat} {A : Nat → Prop} {K : St → Prop} {S : St} {x1 : Int32} (X : Cx p rm_X4_takesBack m c cX4_takesBack 2 s args RX4 0 0 D cA ad A) (hr : meth.sig.returnType = none) (hlk : meth.locks = false) (h : w_X4_takesBack_2 K S x1) : VV p l e rm_X4_takesBack s m args below meth c 0 0 (MQ below (Qv D cA ad A K) args s 0 0 A) D cA ad A 2 S 2 [(0, .ref (ad 10 0)), (1, .int x1)] [] := by
  obtain ⟨I, ⟨n, hI⟩, hbody⟩ := h
  suffices key : ∀ (n : Nat) (S : St) (x1 : Int32), I n S x1 → VV p l e rm_X4_takesBack s m args below meth c 0 0 (MQ below (Qv D cA ad A K) args s 0 0 A) D cA ad A 2 S 2 [(0, .ref (ad 10 0)), (1, .int x1)] [] from key n S x1 hI
  clear hI
  intro n
  induction n using Nat.strongRecOn with
  | ind n ih =>
    intro S x1 hI
    have h := hbody n S x1 hI
    clear hI
    refine v_iload_n X dX4_takesBack_2 rfl 1 rfl ?_
    refine v_bipush (v := 111) X dX4_takesBack_3 (by decide) ?_
    refine v_icmp_ge X 26 dX4_takesBack_5 (by decide) (fun hc5 => ?_) (fun hc5 => ?_)
    · have h := h.1 hc5
      exact v_vret X hr hlk dX4_takesBack_26 h
    · have h := h.2 hc5
      refine v_aload_n X dX4_takesBack_8 rfl 0 rfl ?_
      refine v_get (v := .ref (ad 10 1)) X f_X4_7 oo10 kk10 dX4_takesBack_9 rfl ?_
      refine v_iload_n X dX4_takesBack_12 rfl 1 rfl ?_
      refine v_aload_n X dX4_takesBack_13 rfl 0 rfl ?_
      refine v_get (v := .ref (ad 10 18)) X f_X4_53 oo10 kk10 dX4_takesBack_14 rfl ?_
      refine v_iload_n X dX4_takesBack_17 rfl 1 rfl ?_
      obtain ⟨hb, h⟩ := h
      refine v_iald (o := 10) (k := 17) (n := 111) X oo10 kk10 rfl rfl rfl hb dX4_takesBack_18 ?_
      obtain ⟨hb, h⟩ := h
      refine v_iast (o := 10) (k := 0) (n := 111) X oo10 kk10 rfl rfl rfl hb dX4_takesBack_19 ?_
      refine v_st (fun S19 eS19 => ?_)
      have h := h S19 eS19
      obtain ⟨y20, ey20⟩ : ∃ z : Int32, z = x1 + 1 := ⟨_, rfl⟩
      have h := h y20 ey20
      refine v_iinc (v := y20) X [(1, .int y20), (0, .ref (ad 10 0))] dX4_takesBack_20 1 rfl (by rw [ey20]; rfl) (by decide) rfl ?_
      refine v_goto X 2 dX4_takesBack_23 (by decide) ?_
      obtain ⟨n', hlt, h⟩ := h
      refine v_sub [1, 0] rfl ?_
      exact ih n' hlt _ _ h
def w_X4_takesBack (S : St) (K : St → Prop) : Prop := w_X4_takesBack_2 K S 0
set_option maxHeartbeats 4000000 in
set_option maxRecDepth 100000 in
theorem c_X4_takesBack (l : Launch) {D : va_G} {cA : Nat → ClassId} {ad : Nat → Nat → Nat} {A : Nat → Prop} (S : St) (K : St → Prop) (h : w_X4_takesBack S K) : MT l yX4_takesBack cX4_takesBack 2 none 0 0 [.ref (ad 10 0)] D cA ad A S (Qv D cA ad A K) := by
  refine MT.ofV (by decide) (Nat.le_of_ble_eq_true rfl) ?_
  intro p e s m args below meth c X hr hlk
  have X : Cx p rm_X4_takesBack m c cX4_takesBack 2 s args RX4 0 0 D cA ad A := X
  refine v_lv [(0, .ref (ad 10 0))] rfl ?_
  unfold w_X4_takesBack at h
  refine v_iconst (v := 0) X dX4_takesBack_0 (by decide) ?_
  refine v_istore_n X [(1, .int 0), (0, .ref (ad 10 0))] dX4_takesBack_1 rfl (by decide) rfl ?_
  refine v_sub [1, 0] rfl ?_
  exact t_X4_takesBack_2 X hr hlk h
abbrev rm_X4_leastShift : Room := { frames := 5, cells := 0, slots := 0, locals := 127 }
def w_X4_leastShift_87 (K : Int32 → St → Prop) (S : St) (x2 : Int32) : Prop := w_X4_takesBack S (fun S88 => K x2 S88)
set_option maxHeartbeats 4000000 in
set_option maxRecDepth 100000 in
theorem t_X4_leastShift_87 {p : Program} {l : Launch} {e : Env} {s : State} {m : MethodId} {args : Array Value} {below : List Frame} {meth : Method} {c : Code} {D : va_G} {cA : Nat → ClassId} {ad : Nat → Nat → Nat} {A : Nat → Prop} {K : Int32 → St → Prop} {S : St} {x2 : Int32} (X : Cx p rm_X4_leastShift m c cX4_leastShift 4 s args RX4 0 0 D cA ad A) (hr : meth.sig.returnType = (some .int)) (hlk : meth.locks = false) (h : w_X4_leastShift_87 K S x2) : VV p l e rm_X4_leastShift s m args below meth c 0 0 (MQ below (Qi D cA ad A K) args s 0 0 A) D cA ad A 4 S 87 [(0, .ref (ad 10 0)), (2, .int x2)] [] := by
  unfold w_X4_leastShift_87 at h
  refine v_aload_n X dX4_leastShift_87 rfl 0 rfl ?_
  refine v_callVv (o := 10) (ci := 4) (As := []) (rest := []) X (c_X4_takesBack l S _ h) mw_X4_takesBack mv_X4_139 oo10 kk10 ⟨Nat.le_of_ble_eq_true rfl, Nat.le_of_ble_eq_true rfl⟩ rfl (Nat.le_of_ble_eq_true rfl) rfl dX4_leastShift_88 (fun S88 h => ?_)
  refine v_iload_n X dX4_leastShift_91 rfl 1 rfl ?_
  exact v_iret X hr hlk dX4_leastShift_92 h
def w_X4_leastShift_19 (K : Int32 → St → Prop) (S : St) (x1 : Int32) (x2 : Int32) (x3 : Int32) : Prop := ∃ I : Nat → St → Int32 → Int32 → Prop, (∃ n : Nat, I n S x2 x3) ∧ ∀ (n : Nat) (S : St) (x2 : Int32) (x3 : Int32), I n S x2 x3 → (((180 < x3) → (w_X4_leastShift_87 K S x2)) ∧ ((¬ 180 < x3) → (((0 ≤ x2) → (w_X4_leastShift_87 K S x2)) ∧ ((¬ 0 ≤ x2) → ((vp_in (80 + x1) 111) ∧ (((1439 < ((S 10 17 (80 + x1).toNatClampNeg) + x3)) → (w_X4_leastShift_87 K S x2)) ∧ ((¬ 1439 < ((S 10 17 (80 + x1).toNatClampNeg) + x3)) → ((vp_in (80 + x1) 111) ∧ ((vp_in (80 + x1) 111) ∧ (∀ S66 : St, S66 = up3 S 10 0 ((80 + x1).toNatClampNeg) ((S 10 17 (80 + x1).toNatClampNeg) + x3) → (w_X4_plans S66 (fun r68 S68 => ((¬ r68 = 0) → (∀ y81 : Int32, y81 = x3 + 1 → (∃ n' : Nat, n' < n ∧ I n' S68 (-4) y81))) ∧ ((r68 = 0) → (∀ y81 : Int32, y81 = x3 + 1 → (∃ n' : Nat, n' < n ∧ I n' S68 x3 y81)))))))))))))))
set_option maxHeartbeats 4000000 in
set_option maxRecDepth 100000 in
theorem t_X4_leastShift_19 {p : Program} {l : Launch} {e : Env} {s : State} {m : MethodId} {args : Array Value} {below : List Frame} {meth : Method} {c : Code} {D : va_G} {cA : Nat → ClassId} {ad : Nat → Nat → Nat} {A : Nat → Prop} {K : Int32 → St → Prop} {S : St} {x1 : Int32} {x2 : Int32} {x3 : Int32} (X : Cx p rm_X4_leastShift m c cX4_leastShift 4 s args RX4 0 0 D cA ad A) (hr : meth.sig.returnType = (some .int)) (hlk : meth.locks = false) (h : w_X4_leastShift_19 K S x1 x2 x3) : VV p l e rm_X4_leastShift s m args below meth c 0 0 (MQ below (Qi D cA ad A K) args s 0 0 A) D cA ad A 4 S 19 [(0, .ref (ad 10 0)), (1, .int x1), (2, .int x2), (3, .int x3)] [] := by
  obtain ⟨I, ⟨n, hI⟩, hbody⟩ := h
  suffices key : ∀ (n : Nat) (S : St) (x2 : Int32) (x3 : Int32), I n S x2 x3 → VV p l e rm_X4_leastShift s m args below meth c 0 0 (MQ below (Qi D cA ad A K) args s 0 0 A) D cA ad A 4 S 19 [(0, .ref (ad 10 0)), (1, .int x1), (2, .int x2), (3, .int x3)] [] from key n S x2 x3 hI
  clear hI
  intro n
  induction n using Nat.strongRecOn with
  | ind n ih =>
    intro S x2 x3 hI
    have h := hbody n S x2 x3 hI
    clear hI
    refine v_iload_n X dX4_leastShift_19 rfl 3 rfl ?_
    refine v_sipush (v := 180) X dX4_leastShift_20 (by decide) ?_
    refine v_icmp_gt X 87 dX4_leastShift_23 (by decide) (fun hc23 => ?_) (fun hc23 => ?_)
    · have h := h.1 hc23
      refine v_sub [0, 2] rfl ?_
      exact t_X4_leastShift_87 X hr hlk h
    · have h := h.2 hc23
      refine v_iload_n X dX4_leastShift_26 rfl 2 rfl ?_
      refine v_if_ge X 87 dX4_leastShift_27 (by decide) (fun hc27 => ?_) (fun hc27 => ?_)
      · have h := h.1 hc27
        refine v_sub [0, 2] rfl ?_
        exact t_X4_leastShift_87 X hr hlk h
      · have h := h.2 hc27
        refine v_aload_n X dX4_leastShift_30 rfl 0 rfl ?_
        refine v_get (v := .ref (ad 10 18)) X f_X4_53 oo10 kk10 dX4_leastShift_31 rfl ?_
        refine v_bipush (v := 80) X dX4_leastShift_34 (by decide) ?_
        refine v_iload_n X dX4_leastShift_36 rfl 1 rfl ?_
        refine v_iadd X dX4_leastShift_37 ?_
        obtain ⟨hb, h⟩ := h
        refine v_iald (o := 10) (k := 17) (n := 111) X oo10 kk10 rfl rfl rfl hb dX4_leastShift_38 ?_
        refine v_iload_n X dX4_leastShift_39 rfl 3 rfl ?_
        refine v_iadd X dX4_leastShift_40 ?_
        refine v_sipush (v := 1439) X dX4_leastShift_41 (by decide) ?_
        refine v_icmp_gt X 87 dX4_leastShift_44 (by decide) (fun hc44 => ?_) (fun hc44 => ?_)
        · have h := h.1 hc44
          refine v_sub [0, 2] rfl ?_
          exact t_X4_leastShift_87 X hr hlk h
        · have h := h.2 hc44
          refine v_aload_n X dX4_leastShift_47 rfl 0 rfl ?_
          refine v_get (v := .ref (ad 10 1)) X f_X4_7 oo10 kk10 dX4_leastShift_48 rfl ?_
          refine v_bipush (v := 80) X dX4_leastShift_51 (by decide) ?_
          refine v_iload_n X dX4_leastShift_53 rfl 1 rfl ?_
          refine v_iadd X dX4_leastShift_54 ?_
          refine v_aload_n X dX4_leastShift_55 rfl 0 rfl ?_
          refine v_get (v := .ref (ad 10 18)) X f_X4_53 oo10 kk10 dX4_leastShift_56 rfl ?_
          refine v_bipush (v := 80) X dX4_leastShift_59 (by decide) ?_
          refine v_iload_n X dX4_leastShift_61 rfl 1 rfl ?_
          refine v_iadd X dX4_leastShift_62 ?_
          obtain ⟨hb, h⟩ := h
          refine v_iald (o := 10) (k := 17) (n := 111) X oo10 kk10 rfl rfl rfl hb dX4_leastShift_63 ?_
          refine v_iload_n X dX4_leastShift_64 rfl 3 rfl ?_
          refine v_iadd X dX4_leastShift_65 ?_
          obtain ⟨hb, h⟩ := h
          refine v_iast (o := 10) (k := 0) (n := 111) X oo10 kk10 rfl rfl rfl hb dX4_leastShift_66 ?_
          refine v_st (fun S66 eS66 => ?_)
          have h := h S66 eS66
          refine v_aload_n X dX4_leastShift_67 rfl 0 rfl ?_
          refine v_callVi (o := 10) (ci := 4) (As := []) (rest := []) X (c_X4_plans l S66 _ h) mw_X4_plans mv_X4_132 oo10 kk10 ⟨Nat.le_of_ble_eq_true rfl, Nat.le_of_ble_eq_true rfl⟩ rfl (Nat.le_of_ble_eq_true rfl) rfl dX4_leastShift_68 (fun r68 S68 h => ?_)
          refine v_if_ne X 78 dX4_leastShift_71 (by decide) (fun hc71 => ?_) (fun hc71 => ?_)
          · have h := h.1 hc71
            refine v_bipush (v := (-4)) X dX4_leastShift_78 (by decide) ?_
            refine v_istore_n X [(2, .int (-4)), (0, .ref (ad 10 0)), (1, .int x1), (3, .int x3)] dX4_leastShift_80 rfl (by decide) rfl ?_
            obtain ⟨y81, ey81⟩ : ∃ z : Int32, z = x3 + 1 := ⟨_, rfl⟩
            have h := h y81 ey81
            refine v_iinc (v := y81) X [(3, .int y81), (2, .int (-4)), (0, .ref (ad 10 0)), (1, .int x1)] dX4_leastShift_81 3 rfl (by rw [ey81]; rfl) (by decide) rfl ?_
            refine v_goto X 19 dX4_leastShift_84 (by decide) ?_
            obtain ⟨n', hlt, h⟩ := h
            refine v_sub [2, 3, 1, 0] rfl ?_
            exact ih n' hlt _ _ _ h
          · have h := h.2 hc71
            refine v_iload_n X dX4_leastShift_74 rfl 3 rfl ?_
            refine v_goto X 80 dX4_leastShift_75 (by decide) ?_
            refine v_istore_n X [(2, .int x3), (0, .ref (ad 10 0)), (1, .int x1), (3, .int x3)] dX4_leastShift_80 rfl (by decide) rfl ?_
            obtain ⟨y81, ey81⟩ : ∃ z : Int32, z = x3 + 1 := ⟨_, rfl⟩
            have h := h y81 ey81
            refine v_iinc (v := y81) X [(3, .int y81), (2, .int x3), (0, .ref (ad 10 0)), (1, .int x1)] dX4_leastShift_81 3 rfl (by rw [ey81]; rfl) (by decide) rfl ?_
            refine v_goto X 19 dX4_leastShift_84 (by decide) ?_
            obtain ⟨n', hlt, h⟩ := h
            refine v_sub [2, 3, 1, 0] rfl ?_
            exact ih n' hlt _ _ _ h
def w_X4_leastShift (S : St) (x1 : Int32) (K : Int32 → St → Prop) : Prop := w_X4_isShow S x1 (fun r2 => ((¬ r2 = 0) → (w_X4_setsAside S (fun S11 => w_X4_leastShift_19 K S11 x1 (-4) 0))) ∧ ((r2 = 0) → (K (-1) S)))
set_option maxHeartbeats 4000000 in
set_option maxRecDepth 100000 in
theorem c_X4_leastShift (l : Launch) {D : va_G} {cA : Nat → ClassId} {ad : Nat → Nat → Nat} {A : Nat → Prop} (S : St) (x1 : Int32) (K : Int32 → St → Prop) (h : w_X4_leastShift S x1 K) : MT l yX4_leastShift cX4_leastShift 4 (some .int) 5 127 [.ref (ad 10 0), .int x1] D cA ad A S (Qi D cA ad A K) := by
  refine MT.ofV (by decide) (Nat.le_of_ble_eq_true rfl) ?_
  intro p e s m args below meth c X hr hlk
  have X : Cx p rm_X4_leastShift m c cX4_leastShift 4 s args RX4 0 0 D cA ad A := X
  refine v_lv [(0, .ref (ad 10 0)), (1, .int x1)] rfl ?_
  unfold w_X4_leastShift at h
  refine v_aload_n X dX4_leastShift_0 rfl 0 rfl ?_
  refine v_iload_n X dX4_leastShift_1 rfl 1 rfl ?_
  refine v_callVz (o := 10) (ci := 4) (As := [.int x1]) (rest := []) X (c_X4_isShow l S x1 _ h) mw_X4_isShow mv_X4_92 oo10 kk10 ⟨Nat.le_of_ble_eq_true rfl, Nat.le_of_ble_eq_true rfl⟩ rfl (Nat.le_of_ble_eq_true rfl) rfl dX4_leastShift_2 (fun r2 S' hq hz2 => ?_)
  obtain ⟨hq1, h⟩ := hq
  rw [hq1]
  clear hq1
  refine v_if_ne X 10 dX4_leastShift_5 (by decide) (fun hc5 => ?_) (fun hc5 => ?_)
  · have h := h.1 hc5
    refine v_aload_n X dX4_leastShift_10 rfl 0 rfl ?_
    refine v_callVv (o := 10) (ci := 4) (As := []) (rest := []) X (c_X4_setsAside l S _ h) mw_X4_setsAside mv_X4_136 oo10 kk10 ⟨Nat.le_of_ble_eq_true rfl, Nat.le_of_ble_eq_true rfl⟩ rfl (Nat.le_of_ble_eq_true rfl) rfl dX4_leastShift_11 (fun S11 h => ?_)
    refine v_bipush (v := (-4)) X dX4_leastShift_14 (by decide) ?_
    refine v_istore_n X [(2, .int (-4)), (0, .ref (ad 10 0)), (1, .int x1)] dX4_leastShift_16 rfl (by decide) rfl ?_
    refine v_iconst (v := 0) X dX4_leastShift_17 (by decide) ?_
    refine v_istore_n X [(3, .int 0), (2, .int (-4)), (0, .ref (ad 10 0)), (1, .int x1)] dX4_leastShift_18 rfl (by decide) rfl ?_
    refine v_sub [2, 3, 1, 0] rfl ?_
    exact t_X4_leastShift_19 X hr hlk h
  · have h := h.2 hc5
    refine v_iconst (v := (-1)) X dX4_leastShift_8 (by decide) ?_
    exact v_iret X hr hlk dX4_leastShift_9 h
abbrev rm_X4_removalGain : Room := { frames := 5, cells := 0, slots := 0, locals := 127 }
def w_X4_removalGain (S : St) (x1 : Int32) (K : Int32 → St → Prop) : Prop := w_X4_isShow S x1 (fun r2 => ((¬ r2 = 0) → (w_X4_plans S (fun r12 S12 => w_X4_setsAside S12 (fun S17 => w_X4_goes S17 x1 (fun S22 => w_X4_plans S22 (fun r26 S26 => w_X4_takesBack S26 (fun S31 => K (r12 - r26) S31))))))) ∧ ((r2 = 0) → (K (-1000000) S)))
set_option maxHeartbeats 4000000 in
set_option maxRecDepth 100000 in
theorem c_X4_removalGain (l : Launch) {D : va_G} {cA : Nat → ClassId} {ad : Nat → Nat → Nat} {A : Nat → Prop} (S : St) (x1 : Int32) (K : Int32 → St → Prop) (h : w_X4_removalGain S x1 K) : MT l yX4_removalGain cX4_removalGain 4 (some .int) 5 127 [.ref (ad 10 0), .int x1] D cA ad A S (Qi D cA ad A K) := by
  refine MT.ofV (by decide) (Nat.le_of_ble_eq_true rfl) ?_
  intro p e s m args below meth c X hr hlk
  have X : Cx p rm_X4_removalGain m c cX4_removalGain 4 s args RX4 0 0 D cA ad A := X
  refine v_lv [(0, .ref (ad 10 0)), (1, .int x1)] rfl ?_
  unfold w_X4_removalGain at h
  refine v_aload_n X dX4_removalGain_0 rfl 0 rfl ?_
  refine v_iload_n X dX4_removalGain_1 rfl 1 rfl ?_
  refine v_callVz (o := 10) (ci := 4) (As := [.int x1]) (rest := []) X (c_X4_isShow l S x1 _ h) mw_X4_isShow mv_X4_92 oo10 kk10 ⟨Nat.le_of_ble_eq_true rfl, Nat.le_of_ble_eq_true rfl⟩ rfl (Nat.le_of_ble_eq_true rfl) rfl dX4_removalGain_2 (fun r2 S' hq hz2 => ?_)
  obtain ⟨hq1, h⟩ := hq
  rw [hq1]
  clear hq1
  refine v_if_ne X 11 dX4_removalGain_5 (by decide) (fun hc5 => ?_) (fun hc5 => ?_)
  · have h := h.1 hc5
    refine v_aload_n X dX4_removalGain_11 rfl 0 rfl ?_
    refine v_callVi (o := 10) (ci := 4) (As := []) (rest := []) X (c_X4_plans l S _ h) mw_X4_plans mv_X4_132 oo10 kk10 ⟨Nat.le_of_ble_eq_true rfl, Nat.le_of_ble_eq_true rfl⟩ rfl (Nat.le_of_ble_eq_true rfl) rfl dX4_removalGain_12 (fun r12 S12 h => ?_)
    refine v_istore_n X [(2, .int r12), (0, .ref (ad 10 0)), (1, .int x1)] dX4_removalGain_15 rfl (by decide) rfl ?_
    refine v_aload_n X dX4_removalGain_16 rfl 1 rfl ?_
    refine v_callVv (o := 10) (ci := 4) (As := []) (rest := []) X (c_X4_setsAside l S12 _ h) mw_X4_setsAside mv_X4_136 oo10 kk10 ⟨Nat.le_of_ble_eq_true rfl, Nat.le_of_ble_eq_true rfl⟩ rfl (Nat.le_of_ble_eq_true rfl) rfl dX4_removalGain_17 (fun S17 h => ?_)
    refine v_aload_n X dX4_removalGain_20 rfl 1 rfl ?_
    refine v_iload_n X dX4_removalGain_21 rfl 2 rfl ?_
    refine v_callVv (o := 10) (ci := 4) (As := [.int x1]) (rest := []) X (c_X4_goes l S17 x1 _ h) mw_X4_goes mv_X4_95 oo10 kk10 ⟨Nat.le_of_ble_eq_true rfl, Nat.le_of_ble_eq_true rfl⟩ rfl (Nat.le_of_ble_eq_true rfl) rfl dX4_removalGain_22 (fun S22 h => ?_)
    refine v_aload_n X dX4_removalGain_25 rfl 1 rfl ?_
    refine v_callVi (o := 10) (ci := 4) (As := []) (rest := []) X (c_X4_plans l S22 _ h) mw_X4_plans mv_X4_132 oo10 kk10 ⟨Nat.le_of_ble_eq_true rfl, Nat.le_of_ble_eq_true rfl⟩ rfl (Nat.le_of_ble_eq_true rfl) rfl dX4_removalGain_26 (fun r26 S26 h => ?_)
    refine v_istore_n X [(3, .int r26), (2, .int r12), (0, .ref (ad 10 0)), (1, .int x1)] dX4_removalGain_29 rfl (by decide) rfl ?_
    refine v_aload_n X dX4_removalGain_30 rfl 2 rfl ?_
    refine v_callVv (o := 10) (ci := 4) (As := []) (rest := []) X (c_X4_takesBack l S26 _ h) mw_X4_takesBack mv_X4_139 oo10 kk10 ⟨Nat.le_of_ble_eq_true rfl, Nat.le_of_ble_eq_true rfl⟩ rfl (Nat.le_of_ble_eq_true rfl) rfl dX4_removalGain_31 (fun S31 h => ?_)
    refine v_iload_n X dX4_removalGain_34 rfl 1 rfl ?_
    refine v_iload_n X dX4_removalGain_35 rfl 0 rfl ?_
    refine v_isub X dX4_removalGain_36 ?_
    exact v_iret X hr hlk dX4_removalGain_37 h
  · have h := h.2 hc5
    refine v_ldc (v := (-1000000)) X dX4_removalGain_8 k_X4_142 ?_
    exact v_iret X hr hlk dX4_removalGain_10 h
abbrev rm_X4_bestHomes : Room := { frames := 5, cells := 0, slots := 0, locals := 127 }
def w_X4_bestHomes_19 (K : Int32 → St → Prop) (B10 : St → Int32 → Int32 → Int32 → Prop) (S : St) (x1 : Int32) (x2 : Int32) (x3 : Int32) (x4 : Int32) : Prop := ∃ I : Nat → St → Int32 → Prop, (∃ n : Nat, I n S x4) ∧ ∀ (n : Nat) (S : St) (x4 : Int32), I n S x4 → (((4 ≤ x4) → (w_X4_plans S (fun r48 S48 => ((x3 = 0) → (∀ y68 : Int32, y68 = x3 + 1 → (B10 S48 x3 r48 y68))) ∧ ((¬ x3 = 0) → (((x2 ≤ r48) → (∀ y68 : Int32, y68 = x3 + 1 → (B10 S48 x1 x2 y68))) ∧ ((¬ x2 ≤ r48) → (∀ y68 : Int32, y68 = x3 + 1 → (B10 S48 x3 r48 y68)))))))) ∧ ((¬ 4 ≤ x4) → ((vp_in (52 + x4) 111) ∧ (∀ S40 : St, S40 = up3 S 10 0 ((52 + x4).toNatClampNeg) ((x3 >>> (x4 &&& 31)) &&& 1) → (∀ y41 : Int32, y41 = x4 + 1 → (∃ n' : Nat, n' < n ∧ I n' S40 y41))))))
set_option maxHeartbeats 4000000 in
set_option maxRecDepth 100000 in
theorem t_X4_bestHomes_19 {p : Program} {l : Launch} {e : Env} {s : State} {m : MethodId} {args : Array Value} {below : List Frame} {meth : Method} {c : Code} {D : va_G} {cA : Nat → ClassId} {ad : Nat → Nat → Nat} {A : Nat → Prop} {K : Int32 → St → Prop} {B10 : St → Int32 → Int32 → Int32 → Prop} {S : St} {x1 : Int32} {x2 : Int32} {x3 : Int32} {x4 : Int32} (X : Cx p rm_X4_bestHomes m c cX4_bestHomes 5 s args RX4 0 0 D cA ad A) (hr : meth.sig.returnType = (some .int)) (hlk : meth.locks = false) (hB10 : ∀ (S1 : St) (x1 : Int32) (x2 : Int32) (x3 : Int32), B10 S1 x1 x2 x3 → VV p l e rm_X4_bestHomes s m args below meth c 0 0 (MQ below (Qi D cA ad A K) args s 0 0 A) D cA ad A 5 S1 10 [(0, .ref (ad 10 0)), (1, .int x1), (2, .int x2), (3, .int x3)] []) (h : w_X4_bestHomes_19 K B10 S x1 x2 x3 x4) : VV p l e rm_X4_bestHomes s m args below meth c 0 0 (MQ below (Qi D cA ad A K) args s 0 0 A) D cA ad A 5 S 19 [(0, .ref (ad 10 0)), (1, .int x1), (2, .int x2), (3, .int x3), (4, .int x4)] [] := by
  obtain ⟨I, ⟨n, hI⟩, hbody⟩ := h
  suffices key : ∀ (n : Nat) (S : St) (x4 : Int32), I n S x4 → VV p l e rm_X4_bestHomes s m args below meth c 0 0 (MQ below (Qi D cA ad A K) args s 0 0 A) D cA ad A 5 S 19 [(0, .ref (ad 10 0)), (1, .int x1), (2, .int x2), (3, .int x3), (4, .int x4)] [] from key n S x4 hI
  clear hI
  intro n
  induction n using Nat.strongRecOn with
  | ind n ih =>
    intro S x4 hI
    have h := hbody n S x4 hI
    clear hI
    refine v_iload X dX4_bestHomes_19 4 rfl ?_
    refine v_iconst (v := 4) X dX4_bestHomes_21 (by decide) ?_
    refine v_icmp_ge X 47 dX4_bestHomes_22 (by decide) (fun hc22 => ?_) (fun hc22 => ?_)
    · have h := h.1 hc22
      refine v_aload_n X dX4_bestHomes_47 rfl 0 rfl ?_
      refine v_callVi (o := 10) (ci := 4) (As := []) (rest := []) X (c_X4_plans l S _ h) mw_X4_plans mv_X4_132 oo10 kk10 ⟨Nat.le_of_ble_eq_true rfl, Nat.le_of_ble_eq_true rfl⟩ rfl (Nat.le_of_ble_eq_true rfl) rfl dX4_bestHomes_48 (fun r48 S48 h => ?_)
      refine v_istore X [(4, .int r48), (0, .ref (ad 10 0)), (1, .int x1), (2, .int x2), (3, .int x3)] dX4_bestHomes_51 (by decide) rfl ?_
      refine v_iload_n X dX4_bestHomes_53 rfl 4 rfl ?_
      refine v_if_eq X 63 dX4_bestHomes_54 (by decide) (fun hc54 => ?_) (fun hc54 => ?_)
      · have h := h.1 hc54
        refine v_iload_n X dX4_bestHomes_63 rfl 4 rfl ?_
        refine v_istore_n X [(1, .int x3), (4, .int r48), (0, .ref (ad 10 0)), (2, .int x2), (3, .int x3)] dX4_bestHomes_64 rfl (by decide) rfl ?_
        refine v_iload X dX4_bestHomes_65 1 rfl ?_
        refine v_istore_n X [(2, .int r48), (1, .int x3), (4, .int r48), (0, .ref (ad 10 0)), (3, .int x3)] dX4_bestHomes_67 rfl (by decide) rfl ?_
        obtain ⟨y68, ey68⟩ : ∃ z : Int32, z = x3 + 1 := ⟨_, rfl⟩
        have h := h y68 ey68
        refine v_iinc (v := y68) X [(3, .int y68), (2, .int r48), (1, .int x3), (4, .int r48), (0, .ref (ad 10 0))] dX4_bestHomes_68 4 rfl (by rw [ey68]; rfl) (by decide) rfl ?_
        refine v_goto X 10 dX4_bestHomes_71 (by decide) ?_
        refine v_sub [4, 2, 1, 0] rfl ?_
        exact hB10 _ _ _ _ h
      · have h := h.2 hc54
        refine v_iload X dX4_bestHomes_57 0 rfl ?_
        refine v_iload_n X dX4_bestHomes_59 rfl 3 rfl ?_
        refine v_icmp_ge X 68 dX4_bestHomes_60 (by decide) (fun hc60 => ?_) (fun hc60 => ?_)
        · have h := h.1 hc60
          obtain ⟨y68, ey68⟩ : ∃ z : Int32, z = x3 + 1 := ⟨_, rfl⟩
          have h := h y68 ey68
          refine v_iinc (v := y68) X [(3, .int y68), (4, .int r48), (0, .ref (ad 10 0)), (1, .int x1), (2, .int x2)] dX4_bestHomes_68 4 rfl (by rw [ey68]; rfl) (by decide) rfl ?_
          refine v_goto X 10 dX4_bestHomes_71 (by decide) ?_
          refine v_sub [2, 3, 4, 0] rfl ?_
          exact hB10 _ _ _ _ h
        · have h := h.2 hc60
          refine v_iload_n X dX4_bestHomes_63 rfl 4 rfl ?_
          refine v_istore_n X [(1, .int x3), (4, .int r48), (0, .ref (ad 10 0)), (2, .int x2), (3, .int x3)] dX4_bestHomes_64 rfl (by decide) rfl ?_
          refine v_iload X dX4_bestHomes_65 1 rfl ?_
          refine v_istore_n X [(2, .int r48), (1, .int x3), (4, .int r48), (0, .ref (ad 10 0)), (3, .int x3)] dX4_bestHomes_67 rfl (by decide) rfl ?_
          obtain ⟨y68, ey68⟩ : ∃ z : Int32, z = x3 + 1 := ⟨_, rfl⟩
          have h := h y68 ey68
          refine v_iinc (v := y68) X [(3, .int y68), (2, .int r48), (1, .int x3), (4, .int r48), (0, .ref (ad 10 0))] dX4_bestHomes_68 4 rfl (by rw [ey68]; rfl) (by decide) rfl ?_
          refine v_goto X 10 dX4_bestHomes_71 (by decide) ?_
          refine v_sub [4, 2, 1, 0] rfl ?_
          exact hB10 _ _ _ _ h
    · have h := h.2 hc22
      refine v_aload_n X dX4_bestHomes_25 rfl 0 rfl ?_
      refine v_get (v := .ref (ad 10 1)) X f_X4_7 oo10 kk10 dX4_bestHomes_26 rfl ?_
      refine v_bipush (v := 52) X dX4_bestHomes_29 (by decide) ?_
      refine v_iload X dX4_bestHomes_31 4 rfl ?_
      refine v_iadd X dX4_bestHomes_33 ?_
      refine v_iload_n X dX4_bestHomes_34 rfl 3 rfl ?_
      refine v_iload X dX4_bestHomes_35 4 rfl ?_
      refine v_ishr X dX4_bestHomes_37 ?_
      refine v_iconst (v := 1) X dX4_bestHomes_38 (by decide) ?_
      refine v_iand X dX4_bestHomes_39 ?_
      obtain ⟨hb, h⟩ := h
      refine v_iast (o := 10) (k := 0) (n := 111) X oo10 kk10 rfl rfl rfl hb dX4_bestHomes_40 ?_
      refine v_st (fun S40 eS40 => ?_)
      have h := h S40 eS40
      obtain ⟨y41, ey41⟩ : ∃ z : Int32, z = x4 + 1 := ⟨_, rfl⟩
      have h := h y41 ey41
      refine v_iinc (v := y41) X [(4, .int y41), (0, .ref (ad 10 0)), (1, .int x1), (2, .int x2), (3, .int x3)] dX4_bestHomes_41 4 rfl (by rw [ey41]; rfl) (by decide) rfl ?_
      refine v_goto X 19 dX4_bestHomes_44 (by decide) ?_
      obtain ⟨n', hlt, h⟩ := h
      refine v_sub [1, 2, 3, 4, 0] rfl ?_
      exact ih n' hlt _ _ h
def w_X4_bestHomes_10 (K : Int32 → St → Prop) (S : St) (x1 : Int32) (x2 : Int32) (x3 : Int32) : Prop := ∃ I : Nat → St → Int32 → Int32 → Int32 → Prop, (∃ n : Nat, I n S x1 x2 x3) ∧ ∀ (n : Nat) (S : St) (x1 : Int32) (x2 : Int32) (x3 : Int32), I n S x1 x2 x3 → (((16 ≤ x3) → (w_X4_takesBack S (fun S75 => K x1 S75))) ∧ ((¬ 16 ≤ x3) → (w_X4_bestHomes_19 K (fun (S : St) (x1 : Int32) (x2 : Int32) (x3 : Int32) => ∃ n' : Nat, n' < n ∧ I n' S x1 x2 x3) S x1 x2 x3 0)))
set_option maxHeartbeats 4000000 in
set_option maxRecDepth 100000 in
theorem t_X4_bestHomes_10 {p : Program} {l : Launch} {e : Env} {s : State} {m : MethodId} {args : Array Value} {below : List Frame} {meth : Method} {c : Code} {D : va_G} {cA : Nat → ClassId} {ad : Nat → Nat → Nat} {A : Nat → Prop} {K : Int32 → St → Prop} {S : St} {x1 : Int32} {x2 : Int32} {x3 : Int32} (X : Cx p rm_X4_bestHomes m c cX4_bestHomes 5 s args RX4 0 0 D cA ad A) (hr : meth.sig.returnType = (some .int)) (hlk : meth.locks = false) (h : w_X4_bestHomes_10 K S x1 x2 x3) : VV p l e rm_X4_bestHomes s m args below meth c 0 0 (MQ below (Qi D cA ad A K) args s 0 0 A) D cA ad A 5 S 10 [(0, .ref (ad 10 0)), (1, .int x1), (2, .int x2), (3, .int x3)] [] := by
  obtain ⟨I, ⟨n, hI⟩, hbody⟩ := h
  suffices key : ∀ (n : Nat) (S : St) (x1 : Int32) (x2 : Int32) (x3 : Int32), I n S x1 x2 x3 → VV p l e rm_X4_bestHomes s m args below meth c 0 0 (MQ below (Qi D cA ad A K) args s 0 0 A) D cA ad A 5 S 10 [(0, .ref (ad 10 0)), (1, .int x1), (2, .int x2), (3, .int x3)] [] from key n S x1 x2 x3 hI
  clear hI
  intro n
  induction n using Nat.strongRecOn with
  | ind n ih =>
    intro S x1 x2 x3 hI
    have h := hbody n S x1 x2 x3 hI
    clear hI
    refine v_iload_n X dX4_bestHomes_10 rfl 3 rfl ?_
    refine v_bipush (v := 16) X dX4_bestHomes_11 (by decide) ?_
    refine v_icmp_ge X 74 dX4_bestHomes_13 (by decide) (fun hc13 => ?_) (fun hc13 => ?_)
    · have h := h.1 hc13
      refine v_aload_n X dX4_bestHomes_74 rfl 0 rfl ?_
      refine v_callVv (o := 10) (ci := 4) (As := []) (rest := []) X (c_X4_takesBack l S _ h) mw_X4_takesBack mv_X4_139 oo10 kk10 ⟨Nat.le_of_ble_eq_true rfl, Nat.le_of_ble_eq_true rfl⟩ rfl (Nat.le_of_ble_eq_true rfl) rfl dX4_bestHomes_75 (fun S75 h => ?_)
      refine v_iload_n X dX4_bestHomes_78 rfl 1 rfl ?_
      exact v_iret X hr hlk dX4_bestHomes_79 h
    · have h := h.2 hc13
      refine v_iconst (v := 0) X dX4_bestHomes_16 (by decide) ?_
      refine v_istore X [(4, .int 0), (0, .ref (ad 10 0)), (1, .int x1), (2, .int x2), (3, .int x3)] dX4_bestHomes_17 (by decide) rfl ?_
      refine v_sub [1, 2, 3, 4, 0] rfl ?_
      exact t_X4_bestHomes_19 X hr hlk (fun S x1 x2 x3 hq => by obtain ⟨n', hlt, hq⟩ := hq; exact ih n' hlt S x1 x2 x3 hq) h
def w_X4_bestHomes (S : St) (K : Int32 → St → Prop) : Prop := w_X4_setsAside S (fun S1 => w_X4_bestHomes_10 K S1 0 0 0)
set_option maxHeartbeats 4000000 in
set_option maxRecDepth 100000 in
theorem c_X4_bestHomes (l : Launch) {D : va_G} {cA : Nat → ClassId} {ad : Nat → Nat → Nat} {A : Nat → Prop} (S : St) (K : Int32 → St → Prop) (h : w_X4_bestHomes S K) : MT l yX4_bestHomes cX4_bestHomes 5 (some .int) 5 127 [.ref (ad 10 0)] D cA ad A S (Qi D cA ad A K) := by
  refine MT.ofV (by decide) (Nat.le_of_ble_eq_true rfl) ?_
  intro p e s m args below meth c X hr hlk
  have X : Cx p rm_X4_bestHomes m c cX4_bestHomes 5 s args RX4 0 0 D cA ad A := X
  refine v_lv [(0, .ref (ad 10 0))] rfl ?_
  unfold w_X4_bestHomes at h
  refine v_aload_n X dX4_bestHomes_0 rfl 0 rfl ?_
  refine v_callVv (o := 10) (ci := 4) (As := []) (rest := []) X (c_X4_setsAside l S _ h) mw_X4_setsAside mv_X4_136 oo10 kk10 ⟨Nat.le_of_ble_eq_true rfl, Nat.le_of_ble_eq_true rfl⟩ rfl (Nat.le_of_ble_eq_true rfl) rfl dX4_bestHomes_1 (fun S1 h => ?_)
  refine v_iconst (v := 0) X dX4_bestHomes_4 (by decide) ?_
  refine v_istore_n X [(1, .int 0), (0, .ref (ad 10 0))] dX4_bestHomes_5 rfl (by decide) rfl ?_
  refine v_iconst (v := 0) X dX4_bestHomes_6 (by decide) ?_
  refine v_istore_n X [(2, .int 0), (1, .int 0), (0, .ref (ad 10 0))] dX4_bestHomes_7 rfl (by decide) rfl ?_
  refine v_iconst (v := 0) X dX4_bestHomes_8 (by decide) ?_
  refine v_istore_n X [(3, .int 0), (2, .int 0), (1, .int 0), (0, .ref (ad 10 0))] dX4_bestHomes_9 rfl (by decide) rfl ?_
  refine v_sub [3, 2, 1, 0] rfl ?_
  exact t_X4_bestHomes_10 X hr hlk h
abbrev rm_X4_missingMachines : Room := { frames := 5, cells := 0, slots := 0, locals := 127 }
def w_X4_missingMachines_91 (K : Int32 → St → Prop) (S : St) (x2 : Int32) : Prop := w_X4_takesBack S (fun S92 => K x2 S92)
set_option maxHeartbeats 4000000 in
set_option maxRecDepth 100000 in
theorem t_X4_missingMachines_91 {p : Program} {l : Launch} {e : Env} {s : State} {m : MethodId} {args : Array Value} {below : List Frame} {meth : Method} {c : Code} {D : va_G} {cA : Nat → ClassId} {ad : Nat → Nat → Nat} {A : Nat → Prop} {K : Int32 → St → Prop} {S : St} {x2 : Int32} (X : Cx p rm_X4_missingMachines m c cX4_missingMachines 4 s args RX4 0 0 D cA ad A) (hr : meth.sig.returnType = (some .int)) (hlk : meth.locks = false) (h : w_X4_missingMachines_91 K S x2) : VV p l e rm_X4_missingMachines s m args below meth c 0 0 (MQ below (Qi D cA ad A K) args s 0 0 A) D cA ad A 4 S 91 [(0, .ref (ad 10 0)), (2, .int x2)] [] := by
  unfold w_X4_missingMachines_91 at h
  refine v_aload_n X dX4_missingMachines_91 rfl 0 rfl ?_
  refine v_callVv (o := 10) (ci := 4) (As := []) (rest := []) X (c_X4_takesBack l S _ h) mw_X4_takesBack mv_X4_139 oo10 kk10 ⟨Nat.le_of_ble_eq_true rfl, Nat.le_of_ble_eq_true rfl⟩ rfl (Nat.le_of_ble_eq_true rfl) rfl dX4_missingMachines_92 (fun S92 h => ?_)
  refine v_iload_n X dX4_missingMachines_95 rfl 1 rfl ?_
  exact v_iret X hr hlk dX4_missingMachines_96 h
def w_X4_missingMachines_74 (K : Int32 → St → Prop) (B18 : St → Int32 → Int32 → Prop) (S : St) (x1 : Int32) (x2 : Int32) (x3 : Int32) : Prop := ∀ S84 : St, S84 = up3 S 10 0 56 ((S 10 0 56) + 1) → (∀ y85 : Int32, y85 = x3 + 1 → (B18 S84 x2 y85))
set_option maxHeartbeats 4000000 in
set_option maxRecDepth 100000 in
theorem t_X4_missingMachines_74 {p : Program} {l : Launch} {e : Env} {s : State} {m : MethodId} {args : Array Value} {below : List Frame} {meth : Method} {c : Code} {D : va_G} {cA : Nat → ClassId} {ad : Nat → Nat → Nat} {A : Nat → Prop} {K : Int32 → St → Prop} {B18 : St → Int32 → Int32 → Prop} {S : St} {x1 : Int32} {x2 : Int32} {x3 : Int32} (X : Cx p rm_X4_missingMachines m c cX4_missingMachines 4 s args RX4 0 0 D cA ad A) (hr : meth.sig.returnType = (some .int)) (hlk : meth.locks = false) (hB18 : ∀ (S1 : St) (x2 : Int32) (x3 : Int32), B18 S1 x2 x3 → VV p l e rm_X4_missingMachines s m args below meth c 0 0 (MQ below (Qi D cA ad A K) args s 0 0 A) D cA ad A 4 S1 18 [(0, .ref (ad 10 0)), (1, .int x1), (2, .int x2), (3, .int x3)] []) (h : w_X4_missingMachines_74 K B18 S x1 x2 x3) : VV p l e rm_X4_missingMachines s m args below meth c 0 0 (MQ below (Qi D cA ad A K) args s 0 0 A) D cA ad A 4 S 74 [(0, .ref (ad 10 0)), (1, .int x1), (2, .int x2), (3, .int x3)] [] := by
  unfold w_X4_missingMachines_74 at h
  refine v_aload_n X dX4_missingMachines_74 rfl 0 rfl ?_
  refine v_get (v := .ref (ad 10 1)) X f_X4_7 oo10 kk10 dX4_missingMachines_75 rfl ?_
  refine v_bipush (v := 56) X dX4_missingMachines_78 (by decide) ?_
  refine v_dup2 X dX4_missingMachines_80 rfl rfl ?_
  refine v_iald (o := 10) (k := 0) (n := 111) X oo10 kk10 rfl rfl (j := 56) (by decide) (by unfold vp_in; decide) dX4_missingMachines_81 ?_
  refine v_iconst (v := 1) X dX4_missingMachines_82 (by decide) ?_
  refine v_iadd X dX4_missingMachines_83 ?_
  refine v_iast (o := 10) (k := 0) (n := 111) X oo10 kk10 rfl rfl (j := 56) (by decide) (by unfold vp_in; decide) dX4_missingMachines_84 ?_
  refine v_st (fun S84 eS84 => ?_)
  have h := h S84 eS84
  obtain ⟨y85, ey85⟩ : ∃ z : Int32, z = x3 + 1 := ⟨_, rfl⟩
  have h := h y85 ey85
  refine v_iinc (v := y85) X [(3, .int y85), (0, .ref (ad 10 0)), (1, .int x1), (2, .int x2)] dX4_missingMachines_85 3 rfl (by rw [ey85]; rfl) (by decide) rfl ?_
  refine v_goto X 18 dX4_missingMachines_88 (by decide) ?_
  refine v_sub [1, 2, 3, 0] rfl ?_
  exact hB18 _ _ _ h
def w_X4_missingMachines_46 (K : Int32 → St → Prop) (B18 : St → Int32 → Int32 → Prop) (S : St) (x1 : Int32) (x3 : Int32) (t0 : Int32) : Prop := ((5 ≤ (S 10 0 56)) → (w_X4_missingMachines_74 K B18 S x1 t0 x3)) ∧ ((¬ 5 ≤ (S 10 0 56)) → ((vp_in (57 + (S 10 0 56)) 111) ∧ (∀ S73 : St, S73 = up3 S 10 0 ((57 + (S 10 0 56)).toNatClampNeg) x1 → (w_X4_missingMachines_74 K B18 S73 x1 t0 x3))))
set_option maxHeartbeats 4000000 in
set_option maxRecDepth 100000 in
theorem t_X4_missingMachines_46 {p : Program} {l : Launch} {e : Env} {s : State} {m : MethodId} {args : Array Value} {below : List Frame} {meth : Method} {c : Code} {D : va_G} {cA : Nat → ClassId} {ad : Nat → Nat → Nat} {A : Nat → Prop} {K : Int32 → St → Prop} {B18 : St → Int32 → Int32 → Prop} {S : St} {x1 : Int32} {x3 : Int32} {t0 : Int32} (X : Cx p rm_X4_missingMachines m c cX4_missingMachines 4 s args RX4 0 0 D cA ad A) (hr : meth.sig.returnType = (some .int)) (hlk : meth.locks = false) (hB18 : ∀ (S1 : St) (x2 : Int32) (x3 : Int32), B18 S1 x2 x3 → VV p l e rm_X4_missingMachines s m args below meth c 0 0 (MQ below (Qi D cA ad A K) args s 0 0 A) D cA ad A 4 S1 18 [(0, .ref (ad 10 0)), (1, .int x1), (2, .int x2), (3, .int x3)] []) (h : w_X4_missingMachines_46 K B18 S x1 x3 t0) : VV p l e rm_X4_missingMachines s m args below meth c 0 0 (MQ below (Qi D cA ad A K) args s 0 0 A) D cA ad A 4 S 46 [(0, .ref (ad 10 0)), (1, .int x1), (3, .int x3)] [.int t0] := by
  unfold w_X4_missingMachines_46 at h
  refine v_istore_n X [(2, .int t0), (0, .ref (ad 10 0)), (1, .int x1), (3, .int x3)] dX4_missingMachines_46 rfl (by decide) rfl ?_
  refine v_aload_n X dX4_missingMachines_47 rfl 1 rfl ?_
  refine v_get (v := .ref (ad 10 1)) X f_X4_7 oo10 kk10 dX4_missingMachines_48 rfl ?_
  refine v_bipush (v := 56) X dX4_missingMachines_51 (by decide) ?_
  refine v_iald (o := 10) (k := 0) (n := 111) X oo10 kk10 rfl rfl (j := 56) (by decide) (by unfold vp_in; decide) dX4_missingMachines_53 ?_
  refine v_iconst (v := 5) X dX4_missingMachines_54 (by decide) ?_
  refine v_icmp_ge X 74 dX4_missingMachines_55 (by decide) (fun hc55 => ?_) (fun hc55 => ?_)
  · have h := h.1 hc55
    refine v_sub [1, 2, 0, 3] rfl ?_
    exact t_X4_missingMachines_74 X hr hlk hB18 h
  · have h := h.2 hc55
    refine v_aload_n X dX4_missingMachines_58 rfl 1 rfl ?_
    refine v_get (v := .ref (ad 10 1)) X f_X4_7 oo10 kk10 dX4_missingMachines_59 rfl ?_
    refine v_bipush (v := 57) X dX4_missingMachines_62 (by decide) ?_
    refine v_aload_n X dX4_missingMachines_64 rfl 1 rfl ?_
    refine v_get (v := .ref (ad 10 1)) X f_X4_7 oo10 kk10 dX4_missingMachines_65 rfl ?_
    refine v_bipush (v := 56) X dX4_missingMachines_68 (by decide) ?_
    refine v_iald (o := 10) (k := 0) (n := 111) X oo10 kk10 rfl rfl (j := 56) (by decide) (by unfold vp_in; decide) dX4_missingMachines_70 ?_
    refine v_iadd X dX4_missingMachines_71 ?_
    refine v_iload_n X dX4_missingMachines_72 rfl 2 rfl ?_
    obtain ⟨hb, h⟩ := h
    refine v_iast (o := 10) (k := 0) (n := 111) X oo10 kk10 rfl rfl rfl hb dX4_missingMachines_73 ?_
    refine v_st (fun S73 eS73 => ?_)
    have h := h S73 eS73
    refine v_sub [1, 2, 0, 3] rfl ?_
    exact t_X4_missingMachines_74 X hr hlk hB18 h
def w_X4_missingMachines_18 (K : Int32 → St → Prop) (S : St) (x1 : Int32) (x2 : Int32) (x3 : Int32) : Prop := ∃ I : Nat → St → Int32 → Int32 → Prop, (∃ n : Nat, I n S x2 x3) ∧ ∀ (n : Nat) (S : St) (x2 : Int32) (x3 : Int32), I n S x2 x3 → (((0 ≤ x2) → (w_X4_missingMachines_91 K S x2)) ∧ ((¬ 0 ≤ x2) → (((5 < (S 10 0 56)) → (w_X4_missingMachines_91 K S x2)) ∧ ((¬ 5 < (S 10 0 56)) → (w_X4_plans S (fun r34 S34 => ((¬ r34 = 0) → (w_X4_missingMachines_46 K (fun (S : St) (x2 : Int32) (x3 : Int32) => ∃ n' : Nat, n' < n ∧ I n' S x2 x3) S34 x1 x3 (-4))) ∧ ((r34 = 0) → (w_X4_missingMachines_46 K (fun (S : St) (x2 : Int32) (x3 : Int32) => ∃ n' : Nat, n' < n ∧ I n' S x2 x3) S34 x1 x3 x3))))))))
set_option maxHeartbeats 4000000 in
set_option maxRecDepth 100000 in
theorem t_X4_missingMachines_18 {p : Program} {l : Launch} {e : Env} {s : State} {m : MethodId} {args : Array Value} {below : List Frame} {meth : Method} {c : Code} {D : va_G} {cA : Nat → ClassId} {ad : Nat → Nat → Nat} {A : Nat → Prop} {K : Int32 → St → Prop} {S : St} {x1 : Int32} {x2 : Int32} {x3 : Int32} (X : Cx p rm_X4_missingMachines m c cX4_missingMachines 4 s args RX4 0 0 D cA ad A) (hr : meth.sig.returnType = (some .int)) (hlk : meth.locks = false) (h : w_X4_missingMachines_18 K S x1 x2 x3) : VV p l e rm_X4_missingMachines s m args below meth c 0 0 (MQ below (Qi D cA ad A K) args s 0 0 A) D cA ad A 4 S 18 [(0, .ref (ad 10 0)), (1, .int x1), (2, .int x2), (3, .int x3)] [] := by
  obtain ⟨I, ⟨n, hI⟩, hbody⟩ := h
  suffices key : ∀ (n : Nat) (S : St) (x2 : Int32) (x3 : Int32), I n S x2 x3 → VV p l e rm_X4_missingMachines s m args below meth c 0 0 (MQ below (Qi D cA ad A K) args s 0 0 A) D cA ad A 4 S 18 [(0, .ref (ad 10 0)), (1, .int x1), (2, .int x2), (3, .int x3)] [] from key n S x2 x3 hI
  clear hI
  intro n
  induction n using Nat.strongRecOn with
  | ind n ih =>
    intro S x2 x3 hI
    have h := hbody n S x2 x3 hI
    clear hI
    refine v_iload_n X dX4_missingMachines_18 rfl 2 rfl ?_
    refine v_if_ge X 91 dX4_missingMachines_19 (by decide) (fun hc19 => ?_) (fun hc19 => ?_)
    · have h := h.1 hc19
      refine v_sub [0, 2] rfl ?_
      exact t_X4_missingMachines_91 X hr hlk h
    · have h := h.2 hc19
      refine v_aload_n X dX4_missingMachines_22 rfl 0 rfl ?_
      refine v_get (v := .ref (ad 10 1)) X f_X4_7 oo10 kk10 dX4_missingMachines_23 rfl ?_
      refine v_bipush (v := 56) X dX4_missingMachines_26 (by decide) ?_
      refine v_iald (o := 10) (k := 0) (n := 111) X oo10 kk10 rfl rfl (j := 56) (by decide) (by unfold vp_in; decide) dX4_missingMachines_28 ?_
      refine v_iconst (v := 5) X dX4_missingMachines_29 (by decide) ?_
      refine v_icmp_gt X 91 dX4_missingMachines_30 (by decide) (fun hc30 => ?_) (fun hc30 => ?_)
      · have h := h.1 hc30
        refine v_sub [0, 2] rfl ?_
        exact t_X4_missingMachines_91 X hr hlk h
      · have h := h.2 hc30
        refine v_aload_n X dX4_missingMachines_33 rfl 0 rfl ?_
        refine v_callVi (o := 10) (ci := 4) (As := []) (rest := []) X (c_X4_plans l S _ h) mw_X4_plans mv_X4_132 oo10 kk10 ⟨Nat.le_of_ble_eq_true rfl, Nat.le_of_ble_eq_true rfl⟩ rfl (Nat.le_of_ble_eq_true rfl) rfl dX4_missingMachines_34 (fun r34 S34 h => ?_)
        refine v_if_ne X 44 dX4_missingMachines_37 (by decide) (fun hc37 => ?_) (fun hc37 => ?_)
        · have h := h.1 hc37
          refine v_bipush (v := (-4)) X dX4_missingMachines_44 (by decide) ?_
          refine v_sub [0, 1, 3] rfl ?_
          exact t_X4_missingMachines_46 X hr hlk (fun S x2 x3 hq => by obtain ⟨n', hlt, hq⟩ := hq; exact ih n' hlt S x2 x3 hq) h
        · have h := h.2 hc37
          refine v_iload_n X dX4_missingMachines_40 rfl 3 rfl ?_
          refine v_goto X 46 dX4_missingMachines_41 (by decide) ?_
          refine v_sub [0, 1, 3] rfl ?_
          exact t_X4_missingMachines_46 X hr hlk (fun S x2 x3 hq => by obtain ⟨n', hlt, hq⟩ := hq; exact ih n' hlt S x2 x3 hq) h
def w_X4_missingMachines (S : St) (x1 : Int32) (K : Int32 → St → Prop) : Prop := w_X4_isHouse S x1 (fun r1 => ((¬ r1 = 0) → (w_X4_setsAside S (fun S10 => w_X4_missingMachines_18 K S10 x1 (-4) 0))) ∧ ((r1 = 0) → (K (-1) S)))
set_option maxHeartbeats 4000000 in
set_option maxRecDepth 100000 in
theorem c_X4_missingMachines (l : Launch) {D : va_G} {cA : Nat → ClassId} {ad : Nat → Nat → Nat} {A : Nat → Prop} (S : St) (x1 : Int32) (K : Int32 → St → Prop) (h : w_X4_missingMachines S x1 K) : MT l yX4_missingMachines cX4_missingMachines 4 (some .int) 5 127 [.ref (ad 10 0), .int x1] D cA ad A S (Qi D cA ad A K) := by
  refine MT.ofV (by decide) (Nat.le_of_ble_eq_true rfl) ?_
  intro p e s m args below meth c X hr hlk
  have X : Cx p rm_X4_missingMachines m c cX4_missingMachines 4 s args RX4 0 0 D cA ad A := X
  refine v_lv [(0, .ref (ad 10 0)), (1, .int x1)] rfl ?_
  unfold w_X4_missingMachines at h
  refine v_iload_n X dX4_missingMachines_0 rfl 1 rfl ?_
  refine v_callSz (As := [.int x1]) (rest := []) X (c_X4_isHouse l S x1 _ h) mw_X4_isHouse ms_X4_79 ⟨Nat.le_of_ble_eq_true rfl, Nat.le_of_ble_eq_true rfl⟩ rfl (Nat.le_of_ble_eq_true rfl) rfl dX4_missingMachines_1 (fun r1 S' hq hz1 => ?_)
  obtain ⟨hq1, h⟩ := hq
  rw [hq1]
  clear hq1
  refine v_if_ne X 9 dX4_missingMachines_4 (by decide) (fun hc4 => ?_) (fun hc4 => ?_)
  · have h := h.1 hc4
    refine v_aload_n X dX4_missingMachines_9 rfl 0 rfl ?_
    refine v_callVv (o := 10) (ci := 4) (As := []) (rest := []) X (c_X4_setsAside l S _ h) mw_X4_setsAside mv_X4_136 oo10 kk10 ⟨Nat.le_of_ble_eq_true rfl, Nat.le_of_ble_eq_true rfl⟩ rfl (Nat.le_of_ble_eq_true rfl) rfl dX4_missingMachines_10 (fun S10 h => ?_)
    refine v_bipush (v := (-4)) X dX4_missingMachines_13 (by decide) ?_
    refine v_istore_n X [(2, .int (-4)), (0, .ref (ad 10 0)), (1, .int x1)] dX4_missingMachines_15 rfl (by decide) rfl ?_
    refine v_iconst (v := 0) X dX4_missingMachines_16 (by decide) ?_
    refine v_istore_n X [(3, .int 0), (2, .int (-4)), (0, .ref (ad 10 0)), (1, .int x1)] dX4_missingMachines_17 rfl (by decide) rfl ?_
    refine v_sub [2, 3, 1, 0] rfl ?_
    exact t_X4_missingMachines_18 X hr hlk h
  · have h := h.2 hc4
    refine v_iconst (v := (-1)) X dX4_missingMachines_7 (by decide) ?_
    exact v_iret X hr hlk dX4_missingMachines_8 h
