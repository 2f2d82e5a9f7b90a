abbrev rm_X1_forgetOldest : Room := { frames := 0, cells := 0, slots := 0, locals := 0 }
def w_X1_forgetOldest_9 (z1 : Nat) (K : St → Prop) (S : St) (x2 : Int32) : Prop := ∃ I : Nat → St → Int32 → Prop, (∃ n : Nat, I n S x2) ∧ ∀ (n : Nat) (S : St) (x2 : Int32), I n S x2 → (((5 ≤ x2) → (∀ S40 : St, S40 = up3 S 7 0 4 (nI z1) → (∀ S48 : St, S48 = up3 S40 7 1 0 ((S40 7 1 0) - 1) → (K S48)))) ∧ ((¬ 5 ≤ x2) → ((vp_in x2 5) ∧ (∀ d26 : Nat, d26 = (S 7 0 x2.toNatClampNeg).toNatClampNeg → ((d26 < 7) ∧ ((vp_in (x2 - 1) 5) ∧ (∀ S27 : St, S27 = up3 S 7 0 ((x2 - 1).toNatClampNeg) (nI d26) → (∀ y28 : Int32, y28 = x2 + 1 → (∃ n' : Nat, n' < n ∧ I n' S27 y28)))))))))
set_option maxHeartbeats 4000000 in
set_option maxRecDepth 100000 in
theorem t_X1_forgetOldest_9 {p : Program} {l : Launch} {e : Env} {s : State} {m : MethodId} {args : Array Value} {below : List Frame} {meth : Method} {c : Code} {D : va_G} {cA : Nat → ClassId} {ad : Nat → Nat → Nat} {A : Nat → Prop} (z1 : Nat) (hz1 : z1 < 7) {K : St → Prop} {S : St} {x2 : Int32} (X : Cx p rm_X1_forgetOldest m c cX1_forgetOldest 3 s args RX1 0 0 D cA ad A) (hr : meth.sig.returnType = none) (hlk : meth.locks = false) (h : w_X1_forgetOldest_9 z1 K S x2) : VV p l e rm_X1_forgetOldest s m args below meth c 0 0 (MQ below (Qv D cA ad A K) args s 0 0 A) D cA ad A 3 S 9 [(0, .ref (ad 7 0)), (1, .ref (ad z1 0)), (2, .int x2)] [] := by
  have hz1_11 : z1 < 11 := by omega
  have hz1_k : kd z1 = 0 := kd_day hz1
  obtain ⟨I, ⟨n, hI⟩, hbody⟩ := h
  suffices key : ∀ (n : Nat) (S : St) (x2 : Int32), I n S x2 → VV p l e rm_X1_forgetOldest s m args below meth c 0 0 (MQ below (Qv D cA ad A K) args s 0 0 A) D cA ad A 3 S 9 [(0, .ref (ad 7 0)), (1, .ref (ad z1 0)), (2, .int x2)] [] from key n S x2 hI
  clear hI
  intro n
  induction n using Nat.strongRecOn with
  | ind n ih =>
    intro S x2 hI
    have h := hbody n S x2 hI
    clear hI
    refine v_iload_n X dX1_forgetOldest_9 rfl 2 rfl ?_
    refine v_iconst (v := 5) X dX1_forgetOldest_10 (by decide) ?_
    refine v_icmp_ge X 34 dX1_forgetOldest_11 (by decide) (fun hc11 => ?_) (fun hc11 => ?_)
    · have h := h.1 hc11
      refine v_aload_n X dX1_forgetOldest_34 rfl 0 rfl ?_
      refine v_get (v := .ref (ad 7 1)) X f_X1_11 oo7 kk7 dX1_forgetOldest_35 rfl ?_
      refine v_iconst (v := 4) X dX1_forgetOldest_38 (by decide) ?_
      refine v_aload_n X dX1_forgetOldest_39 rfl 1 rfl ?_
      refine v_aast (o := 7) (k := 0) (n := 5) X oo7 kk7 rfl rfl hz1 (j := 4) (by decide) (by unfold vp_in; decide) dX1_forgetOldest_40 ?_
      refine v_st (fun S40 eS40 => ?_)
      have h := h S40 eS40
      refine v_aload_n X dX1_forgetOldest_41 rfl 0 rfl ?_
      refine v_dup X dX1_forgetOldest_42 rfl ?_
      refine v_get (v := .int (S40 7 1 0)) X f_X1_17 oo7 kk7 dX1_forgetOldest_43 rfl ?_
      refine v_iconst (v := 1) X dX1_forgetOldest_46 (by decide) ?_
      refine v_isub X dX1_forgetOldest_47 ?_
      refine v_put (o := 7) X f_X1_17 oo7 kk7 rfl dX1_forgetOldest_48 ?_
      refine v_st (fun S48 eS48 => ?_)
      have h := h S48 eS48
      exact v_vret X hr hlk dX1_forgetOldest_51 h
    · have h := h.2 hc11
      refine v_aload_n X dX1_forgetOldest_14 rfl 0 rfl ?_
      refine v_get (v := .ref (ad 7 1)) X f_X1_11 oo7 kk7 dX1_forgetOldest_15 rfl ?_
      refine v_iload_n X dX1_forgetOldest_18 rfl 2 rfl ?_
      refine v_iconst (v := 1) X dX1_forgetOldest_19 (by decide) ?_
      refine v_isub X dX1_forgetOldest_20 ?_
      refine v_aload_n X dX1_forgetOldest_21 rfl 0 rfl ?_
      refine v_get (v := .ref (ad 7 1)) X f_X1_11 oo7 kk7 dX1_forgetOldest_22 rfl ?_
      refine v_iload_n X dX1_forgetOldest_25 rfl 2 rfl ?_
      obtain ⟨hb, h⟩ := h
      obtain ⟨d26, ed26⟩ : ∃ z : Nat, z = (S 7 0 x2.toNatClampNeg).toNatClampNeg := ⟨_, rfl⟩
      obtain ⟨hd26, h⟩ := h d26 ed26
      have hd26_11 : d26 < 11 := by omega
      have hd26_k : kd d26 = 0 := kd_day hd26
      refine v_aald (o := 7) (k := 0) (n := 5) X oo7 kk7 rfl rfl rfl hb ed26 dX1_forgetOldest_26 ?_
      obtain ⟨hb, h⟩ := h
      refine v_aast (o := 7) (k := 0) (n := 5) X oo7 kk7 rfl rfl hd26 rfl hb dX1_forgetOldest_27 ?_
      refine v_st (fun S27 eS27 => ?_)
      have h := h S27 eS27
      obtain ⟨y28, ey28⟩ : ∃ z : Int32, z = x2 + 1 := ⟨_, rfl⟩
      have h := h y28 ey28
      refine v_iinc (v := y28) X [(2, .int y28), (0, .ref (ad 7 0)), (1, .ref (ad z1 0))] dX1_forgetOldest_28 2 rfl (by rw [ey28]; rfl) (by decide) rfl ?_
      refine v_goto X 9 dX1_forgetOldest_31 (by decide) ?_
      obtain ⟨n', hlt, h⟩ := h
      refine v_sub [1, 2, 0] rfl ?_
      exact ih n' hlt _ _ h
def w_X1_forgetOldest (S : St) (K : St → Prop) : Prop := ∀ d5 : Nat, d5 = (S 7 0 0).toNatClampNeg → ((d5 < 7) ∧ (w_X1_forgetOldest_9 d5 K S 1))
set_option maxHeartbeats 4000000 in
set_option maxRecDepth 100000 in
theorem c_X1_forgetOldest (l : Launch) {D : va_G} {cA : Nat → ClassId} {ad : Nat → Nat → Nat} {A : Nat → Prop} (S : St) (K : St → Prop) (h : w_X1_forgetOldest S K) : MT l yX1_forgetOldest cX1_forgetOldest 3 none 0 0 [.ref (ad 7 0)] D cA ad A S (Qv D cA ad A K) := by
  refine MT.ofV (by decide) (Nat.le_of_ble_eq_true rfl) ?_
  intro p e s m args below meth c X hr hlk
  have X : Cx p rm_X1_forgetOldest m c cX1_forgetOldest 3 s args RX1 0 0 D cA ad A := X
  refine v_lv [(0, .ref (ad 7 0))] rfl ?_
  unfold w_X1_forgetOldest at h
  refine v_aload_n X dX1_forgetOldest_0 rfl 0 rfl ?_
  refine v_get (v := .ref (ad 7 1)) X f_X1_11 oo7 kk7 dX1_forgetOldest_1 rfl ?_
  refine v_iconst (v := 0) X dX1_forgetOldest_4 (by decide) ?_
  obtain ⟨d5, ed5⟩ : ∃ z : Nat, z = (S 7 0 0).toNatClampNeg := ⟨_, rfl⟩
  obtain ⟨hd5, h⟩ := h d5 ed5
  have hd5_11 : d5 < 11 := by omega
  have hd5_k : kd d5 = 0 := kd_day hd5
  refine v_aald (o := 7) (k := 0) (n := 5) X oo7 kk7 rfl rfl (j := 0) (by decide) (by unfold vp_in; decide) ed5 dX1_forgetOldest_5 ?_
  refine v_astore_n X [(1, .ref (ad d5 0)), (0, .ref (ad 7 0))] dX1_forgetOldest_6 rfl (by decide) rfl ?_
  refine v_iconst (v := 1) X dX1_forgetOldest_7 (by decide) ?_
  refine v_istore_n X [(2, .int 1), (1, .ref (ad d5 0)), (0, .ref (ad 7 0))] dX1_forgetOldest_8 rfl (by decide) rfl ?_
  refine v_sub [2, 1, 0] rfl ?_
  exact t_X1_forgetOldest_9 d5 hd5 X hr hlk h
abbrev rm_X1_remember : Room := { frames := 2, cells := 0, slots := 0, locals := 47 }
def w_X1_remember_12 (o1 : Nat) (K : St → Prop) (S : St) : Prop := (vp_in (S 7 1 0) 5) ∧ (∀ d20 : Nat, d20 = (S 7 0 (S 7 1 0).toNatClampNeg).toNatClampNeg → ((d20 < 7) ∧ (w_X0_copyFrom d20 o1 S (fun S22 => ∀ S32 : St, S32 = up3 S22 7 1 0 ((S22 7 1 0) + 1) → (K S32)))))
set_option maxHeartbeats 4000000 in
set_option maxRecDepth 100000 in
theorem t_X1_remember_12 {p : Program} {l : Launch} {e : Env} {s : State} {m : MethodId} {args : Array Value} {below : List Frame} {meth : Method} {c : Code} {D : va_G} {cA : Nat → ClassId} {ad : Nat → Nat → Nat} {A : Nat → Prop} (o1 : Nat) (ho1 : o1 < 7) {K : St → Prop} {S : St} (X : Cx p rm_X1_remember m c cX1_remember 2 s args RX1 0 0 D cA ad A) (hr : meth.sig.returnType = none) (hlk : meth.locks = false) (h : w_X1_remember_12 o1 K S) : VV p l e rm_X1_remember s m args below meth c 0 0 (MQ below (Qv D cA ad A K) args s 0 0 A) D cA ad A 2 S 12 [(0, .ref (ad 7 0)), (1, .ref (ad o1 0))] [] := by
  unfold w_X1_remember_12 at h
  have ho1_11 : o1 < 11 := by omega
  have ho1_k : kd o1 = 0 := kd_day ho1
  refine v_aload_n X dX1_remember_12 rfl 0 rfl ?_
  refine v_get (v := .ref (ad 7 1)) X f_X1_11 oo7 kk7 dX1_remember_13 rfl ?_
  refine v_aload_n X dX1_remember_16 rfl 0 rfl ?_
  refine v_get (v := .int (S 7 1 0)) X f_X1_17 oo7 kk7 dX1_remember_17 rfl ?_
  obtain ⟨hb, h⟩ := h
  obtain ⟨d20, ed20⟩ : ∃ z : Nat, z = (S 7 0 (S 7 1 0).toNatClampNeg).toNatClampNeg := ⟨_, rfl⟩
  obtain ⟨hd20, h⟩ := h d20 ed20
  have hd20_11 : d20 < 11 := by omega
  have hd20_k : kd d20 = 0 := kd_day hd20
  refine v_aald (o := 7) (k := 0) (n := 5) X oo7 kk7 rfl rfl rfl hb ed20 dX1_remember_20 ?_
  refine v_aload_n X dX1_remember_21 rfl 1 rfl ?_
  refine v_callVv (o := d20) (ci := 0) (As := [.ref (ad o1 0)]) (rest := []) X (c_X0_copyFrom l d20 hd20 o1 ho1 S _ h) mw_X0_copyFrom mv_X1_25 hd20_11 hd20_k ⟨Nat.le_of_ble_eq_true rfl, Nat.le_of_ble_eq_true rfl⟩ rfl (Nat.le_of_ble_eq_true rfl) rfl dX1_remember_22 (fun S22 h => ?_)
  refine v_aload_n X dX1_remember_25 rfl 0 rfl ?_
  refine v_dup X dX1_remember_26 rfl ?_
  refine v_get (v := .int (S22 7 1 0)) X f_X1_17 oo7 kk7 dX1_remember_27 rfl ?_
  refine v_iconst (v := 1) X dX1_remember_30 (by decide) ?_
  refine v_iadd X dX1_remember_31 ?_
  refine v_put (o := 7) X f_X1_17 oo7 kk7 rfl dX1_remember_32 ?_
  refine v_st (fun S32 eS32 => ?_)
  have h := h S32 eS32
  exact v_vret X hr hlk dX1_remember_35 h
def w_X1_remember (o1 : Nat) (S : St) (K : St → Prop) : Prop := ((¬ (S 7 1 0) = 5) → (w_X1_remember_12 o1 K S )) ∧ (((S 7 1 0) = 5) → (w_X1_forgetOldest S (fun S9 => w_X1_remember_12 o1 K S9 )))
set_option maxHeartbeats 4000000 in
set_option maxRecDepth 100000 in
theorem c_X1_remember (l : Launch) {D : va_G} {cA : Nat → ClassId} {ad : Nat → Nat → Nat} {A : Nat → Prop} (o1 : Nat) (ho1 : o1 < 7) (S : St) (K : St → Prop) (h : w_X1_remember o1 S K) : MT l yX1_remember cX1_remember 2 none 2 47 [.ref (ad 7 0), .ref (ad o1 0)] D cA ad A S (Qv D cA ad A K) := by
  refine MT.ofV (by decide) (Nat.le_of_ble_eq_true rfl) ?_
  intro p e s m args below meth c X hr hlk
  have X : Cx p rm_X1_remember m c cX1_remember 2 s args RX1 0 0 D cA ad A := X
  refine v_lv [(0, .ref (ad 7 0)), (1, .ref (ad o1 0))] rfl ?_
  unfold w_X1_remember at h
  have ho1_11 : o1 < 11 := by omega
  have ho1_k : kd o1 = 0 := kd_day ho1
  refine v_aload_n X dX1_remember_0 rfl 0 rfl ?_
  refine v_get (v := .int (S 7 1 0)) X f_X1_17 oo7 kk7 dX1_remember_1 rfl ?_
  refine v_iconst (v := 5) X dX1_remember_4 (by decide) ?_
  refine v_icmp_ne X 12 dX1_remember_5 (by decide) (fun hc5 => ?_) (fun hc5 => ?_)
  · have h := h.1 hc5
    exact t_X1_remember_12 o1 ho1 X hr hlk h
  · have h := h.2 hc5
    refine v_aload_n X dX1_remember_8 rfl 0 rfl ?_
    refine v_callVv (o := 7) (ci := 1) (As := []) (rest := []) X (c_X1_forgetOldest l S _ h) mw_X1_forgetOldest mv_X1_22 oo7 kk7 ⟨Nat.le_of_ble_eq_true rfl, Nat.le_of_ble_eq_true rfl⟩ rfl (Nat.le_of_ble_eq_true rfl) rfl dX1_remember_9 (fun S9 h => ?_)
    exact t_X1_remember_12 o1 ho1 X hr hlk h
abbrev rm_X2_bringHome : Room := { frames := 1, cells := 0, slots := 0, locals := 21 }
def w_X2_bringHome_2 (K : St → Prop) (S : St) (x1 : Int32) (x2 : Int32) (x3 : Int32) : Prop := ∃ I : Nat → St → Int32 → Prop, (∃ n : Nat, I n S x3) ∧ ∀ (n : Nat) (S : St) (x3 : Int32), I n S x3 → (((6 ≤ x3) → (K S)) ∧ ((¬ 6 ≤ x3) → (w_X3_reelPlace S x1 x3 (fun r10 => (vp_in r10 24) ∧ (∀ S22 : St, S22 = up3 S 8 11 r10.toNatClampNeg x2 → ((vp_in r10 24) ∧ (∀ S30 : St, S30 = up3 S22 8 12 r10.toNatClampNeg 0 → (∀ y31 : Int32, y31 = x3 + 1 → (∃ n' : Nat, n' < n ∧ I n' S30 y31)))))))))
set_option maxHeartbeats 4000000 in
set_option maxRecDepth 100000 in
theorem t_X2_bringHome_2 {p : Program} {l : Launch} {e : Env} {s : State} {m : MethodId} {args : Array Value} {below : List Frame} {meth : Method} {c : Code} {D : va_G} {cA : Nat → ClassId} {ad : Nat → Nat → Nat} {A : Nat → Prop} {K : St → Prop} {S : St} {x1 : Int32} {x2 : Int32} {x3 : Int32} (X : Cx p rm_X2_bringHome m c cX2_bringHome 5 s args RX2 0 0 D cA ad A) (hr : meth.sig.returnType = none) (hlk : meth.locks = false) (h : w_X2_bringHome_2 K S x1 x2 x3) : VV p l e rm_X2_bringHome s m args below meth c 0 0 (MQ below (Qv D cA ad A K) args s 0 0 A) D cA ad A 5 S 2 [(0, .ref (ad 8 0)), (1, .int x1), (2, .int x2), (3, .int x3)] [] := by
  obtain ⟨I, ⟨n, hI⟩, hbody⟩ := h
  suffices key : ∀ (n : Nat) (S : St) (x3 : Int32), I n S x3 → VV p l e rm_X2_bringHome s m args below meth c 0 0 (MQ below (Qv D cA ad A K) args s 0 0 A) D cA ad A 5 S 2 [(0, .ref (ad 8 0)), (1, .int x1), (2, .int x2), (3, .int x3)] [] from key n S x3 hI
  clear hI
  intro n
  induction n using Nat.strongRecOn with
  | ind n ih =>
    intro S x3 hI
    have h := hbody n S x3 hI
    clear hI
    refine v_iload_n X dX2_bringHome_2 rfl 3 rfl ?_
    refine v_bipush (v := 6) X dX2_bringHome_3 (by decide) ?_
    refine v_icmp_ge X 37 dX2_bringHome_5 (by decide) (fun hc5 => ?_) (fun hc5 => ?_)
    · have h := h.1 hc5
      exact v_vret X hr hlk dX2_bringHome_37 h
    · have h := h.2 hc5
      refine v_iload_n X dX2_bringHome_8 rfl 1 rfl ?_
      refine v_iload_n X dX2_bringHome_9 rfl 3 rfl ?_
      refine v_callSN (As := [.int x1, .int x3]) (rest := []) X (c_X3_reelPlace l S x1 x3 _ h) mw_X3_reelPlace st_reelPlace X.2.1.2.2.1 ⟨Nat.le_of_ble_eq_true rfl, Nat.le_of_ble_eq_true rfl⟩ rfl (Nat.le_of_ble_eq_true rfl) rfl dX2_bringHome_10 (fun r10 S' hq => ?_)
      obtain ⟨hq1, h⟩ := hq
      rw [hq1]
      clear hq1
      refine v_istore X [(4, .int r10), (0, .ref (ad 8 0)), (1, .int x1), (2, .int x2), (3, .int x3)] dX2_bringHome_13 (by decide) rfl ?_
      refine v_aload_n X dX2_bringHome_15 rfl 1 rfl ?_
      refine v_get (v := .ref (ad 8 12)) X f_X2_47 oo8 kk8 dX2_bringHome_16 rfl ?_
      refine v_iload X dX2_bringHome_19 0 rfl ?_
      refine v_iload_n X dX2_bringHome_21 rfl 3 rfl ?_
      obtain ⟨hb, h⟩ := h
      refine v_iast (o := 8) (k := 11) (n := 24) X oo8 kk8 rfl rfl rfl hb dX2_bringHome_22 ?_
      refine v_st (fun S22 eS22 => ?_)
      have h := h S22 eS22
      refine v_aload_n X dX2_bringHome_23 rfl 1 rfl ?_
      refine v_get (v := .ref (ad 8 13)) X f_X2_50 oo8 kk8 dX2_bringHome_24 rfl ?_
      refine v_iload X dX2_bringHome_27 0 rfl ?_
      refine v_iconst (v := 0) X dX2_bringHome_29 (by decide) ?_
      obtain ⟨hb, h⟩ := h
      refine v_iast (o := 8) (k := 12) (n := 24) X oo8 kk8 rfl rfl rfl hb dX2_bringHome_30 ?_
      refine v_st (fun S30 eS30 => ?_)
      have h := h S30 eS30
      obtain ⟨y31, ey31⟩ : ∃ z : Int32, z = x3 + 1 := ⟨_, rfl⟩
      have h := h y31 ey31
      refine v_iinc (v := y31) X [(3, .int y31), (4, .int r10), (0, .ref (ad 8 0)), (1, .int x1), (2, .int x2)] dX2_bringHome_31 4 rfl (by rw [ey31]; rfl) (by decide) rfl ?_
      refine v_goto X 2 dX2_bringHome_34 (by decide) ?_
      obtain ⟨n', hlt, h⟩ := h
      refine v_sub [2, 3, 4, 0] rfl ?_
      exact ih n' hlt _ _ h
def w_X2_bringHome (S : St) (x1 : Int32) (x2 : Int32) (K : St → Prop) : Prop := w_X2_bringHome_2 K S x1 x2 0
set_option maxHeartbeats 4000000 in
set_option maxRecDepth 100000 in
theorem c_X2_bringHome (l : Launch) {D : va_G} {cA : Nat → ClassId} {ad : Nat → Nat → Nat} {A : Nat → Prop} (S : St) (x1 : Int32) (x2 : Int32) (K : St → Prop) (h : w_X2_bringHome S x1 x2 K) : MT l yX2_bringHome cX2_bringHome 5 none 1 21 [.ref (ad 8 0), .int x1, .int x2] D cA ad A S (Qv D cA ad A K) := by
  refine MT.ofV (by decide) (Nat.le_of_ble_eq_true rfl) ?_
  intro p e s m args below meth c X hr hlk
  have X : Cx p rm_X2_bringHome m c cX2_bringHome 5 s args RX2 0 0 D cA ad A := X
  refine v_lv [(0, .ref (ad 8 0)), (1, .int x1), (2, .int x2)] rfl ?_
  unfold w_X2_bringHome at h
  refine v_iconst (v := 0) X dX2_bringHome_0 (by decide) ?_
  refine v_istore_n X [(3, .int 0), (0, .ref (ad 8 0)), (1, .int x1), (2, .int x2)] dX2_bringHome_1 rfl (by decide) rfl ?_
  refine v_sub [1, 2, 3, 0] rfl ?_
  exact t_X2_bringHome_2 X hr hlk h
abbrev rm_X2_sortShows : Room := { frames := 0, cells := 0, slots := 0, locals := 0 }
def w_X2_sortShows_12 (o1 : Nat) (K : St → Prop) (B2 : St → Int32 → Prop) (S : St) (x2 : Int32) (x3 : Int32) : Prop := ∃ I : Nat → St → Int32 → Prop, (∃ n : Nat, I n S x3) ∧ ∀ (n : Nat) (S : St) (x3 : Int32), I n S x3 → (((x3 ≤ 0) → ((vp_in x3 6) ∧ (∀ S64 : St, S64 = up3 S 8 10 x3.toNatClampNeg x2 → (∀ y65 : Int32, y65 = x2 + 1 → (B2 S64 y65))))) ∧ ((¬ x3 ≤ 0) → ((vp_in (x3 - 1) 6) ∧ ((vp_in (S 8 10 (x3 - 1).toNatClampNeg) 6) ∧ ((vp_in x2 6) ∧ ((((S o1 11 (S 8 10 (x3 - 1).toNatClampNeg).toNatClampNeg) ≤ (S o1 11 x2.toNatClampNeg)) → ((vp_in x3 6) ∧ (∀ S64 : St, S64 = up3 S 8 10 x3.toNatClampNeg x2 → (∀ y65 : Int32, y65 = x2 + 1 → (B2 S64 y65))))) ∧ ((¬ (S o1 11 (S 8 10 (x3 - 1).toNatClampNeg).toNatClampNeg) ≤ (S o1 11 x2.toNatClampNeg)) → ((vp_in (x3 - 1) 6) ∧ ((vp_in x3 6) ∧ (∀ S51 : St, S51 = up3 S 8 10 x3.toNatClampNeg (S 8 10 (x3 - 1).toNatClampNeg) → (∀ y52 : Int32, y52 = x3 + (-1) → (∃ n' : Nat, n' < n ∧ I n' S51 y52))))))))))))
set_option maxHeartbeats 4000000 in
set_option maxRecDepth 100000 in
theorem t_X2_sortShows_12 {p : Program} {l : Launch} {e : Env} {s : State} {m : MethodId} {args : Array Value} {below : List Frame} {meth : Method} {c : Code} {D : va_G} {cA : Nat → ClassId} {ad : Nat → Nat → Nat} {A : Nat → Prop} (o1 : Nat) (ho1 : o1 < 7) {K : St → Prop} {B2 : St → Int32 → Prop} {S : St} {x2 : Int32} {x3 : Int32} (X : Cx p rm_X2_sortShows m c cX2_sortShows 4 s args RX2 0 0 D cA ad A) (hr : meth.sig.returnType = none) (hlk : meth.locks = false) (hB2 : ∀ (S1 : St) (x2 : Int32), B2 S1 x2 → VV p l e rm_X2_sortShows s m args below meth c 0 0 (MQ below (Qv D cA ad A K) args s 0 0 A) D cA ad A 4 S1 2 [(0, .ref (ad 8 0)), (1, .ref (ad o1 0)), (2, .int x2)] []) (h : w_X2_sortShows_12 o1 K B2 S x2 x3) : VV p l e rm_X2_sortShows s m args below meth c 0 0 (MQ below (Qv D cA ad A K) args s 0 0 A) D cA ad A 4 S 12 [(0, .ref (ad 8 0)), (1, .ref (ad o1 0)), (2, .int x2), (3, .int x3)] [] := by
  have ho1_11 : o1 < 11 := by omega
  have ho1_k : kd o1 = 0 := kd_day ho1
  obtain ⟨I, ⟨n, hI⟩, hbody⟩ := h
  suffices key : ∀ (n : Nat) (S : St) (x3 : Int32), I n S x3 → VV p l e rm_X2_sortShows s m args below meth c 0 0 (MQ below (Qv D cA ad A K) args s 0 0 A) D cA ad A 4 S 12 [(0, .ref (ad 8 0)), (1, .ref (ad o1 0)), (2, .int x2), (3, .int x3)] [] from key n S x3 hI
  clear hI
  intro n
  induction n using Nat.strongRecOn with
  | ind n ih =>
    intro S x3 hI
    have h := hbody n S x3 hI
    clear hI
    refine v_iload_n X dX2_sortShows_12 rfl 3 rfl ?_
    refine v_if_le X 58 dX2_sortShows_13 (by decide) (fun hc13 => ?_) (fun hc13 => ?_)
    · have h := h.1 hc13
      refine v_aload_n X dX2_sortShows_58 rfl 0 rfl ?_
      refine v_get (v := .ref (ad 8 11)) X f_X2_44 oo8 kk8 dX2_sortShows_59 rfl ?_
      refine v_iload_n X dX2_sortShows_62 rfl 3 rfl ?_
      refine v_iload_n X dX2_sortShows_63 rfl 2 rfl ?_
      obtain ⟨hb, h⟩ := h
      refine v_iast (o := 8) (k := 10) (n := 6) X oo8 kk8 rfl rfl rfl hb dX2_sortShows_64 ?_
      refine v_st (fun S64 eS64 => ?_)
      have h := h S64 eS64
      obtain ⟨y65, ey65⟩ : ∃ z : Int32, z = x2 + 1 := ⟨_, rfl⟩
      have h := h y65 ey65
      refine v_iinc (v := y65) X [(2, .int y65), (0, .ref (ad 8 0)), (1, .ref (ad o1 0)), (3, .int x3)] dX2_sortShows_65 2 rfl (by rw [ey65]; rfl) (by decide) rfl ?_
      refine v_goto X 2 dX2_sortShows_68 (by decide) ?_
      refine v_sub [1, 2, 0] rfl ?_
      exact hB2 _ _ h
    · have h := h.2 hc13
      refine v_aload_n X dX2_sortShows_16 rfl 1 rfl ?_
      refine v_get (v := .ref (ad o1 12)) X f_X2_92 ho1_11 ho1_k dX2_sortShows_17 rfl ?_
      refine v_aload_n X dX2_sortShows_20 rfl 0 rfl ?_
      refine v_get (v := .ref (ad 8 11)) X f_X2_44 oo8 kk8 dX2_sortShows_21 rfl ?_
      refine v_iload_n X dX2_sortShows_24 rfl 3 rfl ?_
      refine v_iconst (v := 1) X dX2_sortShows_25 (by decide) ?_
      refine v_isub X dX2_sortShows_26 ?_
      obtain ⟨hb, h⟩ := h
      refine v_iald (o := 8) (k := 10) (n := 6) X oo8 kk8 rfl rfl rfl hb dX2_sortShows_27 ?_
      obtain ⟨hb, h⟩ := h
      refine v_iald (o := o1) (k := 11) (n := 6) X ho1_11 ho1_k rfl rfl rfl hb dX2_sortShows_28 ?_
      refine v_aload_n X dX2_sortShows_29 rfl 1 rfl ?_
      refine v_get (v := .ref (ad o1 12)) X f_X2_92 ho1_11 ho1_k dX2_sortShows_30 rfl ?_
      refine v_iload_n X dX2_sortShows_33 rfl 2 rfl ?_
      obtain ⟨hb, h⟩ := h
      refine v_iald (o := o1) (k := 11) (n := 6) X ho1_11 ho1_k rfl rfl rfl hb dX2_sortShows_34 ?_
      refine v_icmp_le X 58 dX2_sortShows_35 (by decide) (fun hc35 => ?_) (fun hc35 => ?_)
      · have h := h.1 hc35
        refine v_aload_n X dX2_sortShows_58 rfl 0 rfl ?_
        refine v_get (v := .ref (ad 8 11)) X f_X2_44 oo8 kk8 dX2_sortShows_59 rfl ?_
        refine v_iload_n X dX2_sortShows_62 rfl 3 rfl ?_
        refine v_iload_n X dX2_sortShows_63 rfl 2 rfl ?_
        obtain ⟨hb, h⟩ := h
        refine v_iast (o := 8) (k := 10) (n := 6) X oo8 kk8 rfl rfl rfl hb dX2_sortShows_64 ?_
        refine v_st (fun S64 eS64 => ?_)
        have h := h S64 eS64
        obtain ⟨y65, ey65⟩ : ∃ z : Int32, z = x2 + 1 := ⟨_, rfl⟩
        have h := h y65 ey65
        refine v_iinc (v := y65) X [(2, .int y65), (0, .ref (ad 8 0)), (1, .ref (ad o1 0)), (3, .int x3)] dX2_sortShows_65 2 rfl (by rw [ey65]; rfl) (by decide) rfl ?_
        refine v_goto X 2 dX2_sortShows_68 (by decide) ?_
        refine v_sub [1, 2, 0] rfl ?_
        exact hB2 _ _ h
      · have h := h.2 hc35
        refine v_aload_n X dX2_sortShows_38 rfl 0 rfl ?_
        refine v_get (v := .ref (ad 8 11)) X f_X2_44 oo8 kk8 dX2_sortShows_39 rfl ?_
        refine v_iload_n X dX2_sortShows_42 rfl 3 rfl ?_
        refine v_aload_n X dX2_sortShows_43 rfl 0 rfl ?_
        refine v_get (v := .ref (ad 8 11)) X f_X2_44 oo8 kk8 dX2_sortShows_44 rfl ?_
        refine v_iload_n X dX2_sortShows_47 rfl 3 rfl ?_
        refine v_iconst (v := 1) X dX2_sortShows_48 (by decide) ?_
        refine v_isub X dX2_sortShows_49 ?_
        obtain ⟨hb, h⟩ := h
        refine v_iald (o := 8) (k := 10) (n := 6) X oo8 kk8 rfl rfl rfl hb dX2_sortShows_50 ?_
        obtain ⟨hb, h⟩ := h
        refine v_iast (o := 8) (k := 10) (n := 6) X oo8 kk8 rfl rfl rfl hb dX2_sortShows_51 ?_
        refine v_st (fun S51 eS51 => ?_)
        have h := h S51 eS51
        obtain ⟨y52, ey52⟩ : ∃ z : Int32, z = x3 + (-1) := ⟨_, rfl⟩
        have h := h y52 ey52
        refine v_iinc (v := y52) X [(3, .int y52), (0, .ref (ad 8 0)), (1, .ref (ad o1 0)), (2, .int x2)] dX2_sortShows_52 3 rfl (by rw [ey52]; rfl) (by decide) rfl ?_
        refine v_goto X 12 dX2_sortShows_55 (by decide) ?_
        obtain ⟨n', hlt, h⟩ := h
        refine v_sub [1, 2, 3, 0] rfl ?_
        exact ih n' hlt _ _ h
def w_X2_sortShows_2 (o1 : Nat) (K : St → Prop) (S : St) (x2 : Int32) : Prop := ∃ I : Nat → St → Int32 → Prop, (∃ n : Nat, I n S x2) ∧ ∀ (n : Nat) (S : St) (x2 : Int32), I n S x2 → ((((S o1 8 0) ≤ x2) → (K S)) ∧ ((¬ (S o1 8 0) ≤ x2) → (w_X2_sortShows_12 o1 K (fun (S : St) (x2 : Int32) => ∃ n' : Nat, n' < n ∧ I n' S x2) S x2 x2)))
set_option maxHeartbeats 4000000 in
set_option maxRecDepth 100000 in
theorem t_X2_sortShows_2 {p : Program} {l : Launch} {e : Env} {s : State} {m : MethodId} {args : Array Value} {below : List Frame} {meth : Method} {c : Code} {D : va_G} {cA : Nat → ClassId} {ad : Nat → Nat → Nat} {A : Nat → Prop} (o1 : Nat) (ho1 : o1 < 7) {K : St → Prop} {S : St} {x2 : Int32} (X : Cx p rm_X2_sortShows m c cX2_sortShows 4 s args RX2 0 0 D cA ad A) (hr : meth.sig.returnType = none) (hlk : meth.locks = false) (h : w_X2_sortShows_2 o1 K S x2) : VV p l e rm_X2_sortShows s m args below meth c 0 0 (MQ below (Qv D cA ad A K) args s 0 0 A) D cA ad A 4 S 2 [(0, .ref (ad 8 0)), (1, .ref (ad o1 0)), (2, .int x2)] [] := by
  have ho1_11 : o1 < 11 := by omega
  have ho1_k : kd o1 = 0 := kd_day ho1
  obtain ⟨I, ⟨n, hI⟩, hbody⟩ := h
  suffices key : ∀ (n : Nat) (S : St) (x2 : Int32), I n S x2 → VV p l e rm_X2_sortShows s m args below meth c 0 0 (MQ below (Qv D cA ad A K) args s 0 0 A) D cA ad A 4 S 2 [(0, .ref (ad 8 0)), (1, .ref (ad o1 0)), (2, .int x2)] [] from key n S x2 hI
  clear hI
  intro n
  induction n using Nat.strongRecOn with
  | ind n ih =>
    intro S x2 hI
    have h := hbody n S x2 hI
    clear hI
    refine v_iload_n X dX2_sortShows_2 rfl 2 rfl ?_
    refine v_aload_n X dX2_sortShows_3 rfl 1 rfl ?_
    refine v_get (v := .int (S o1 8 0)) X f_X2_66 ho1_11 ho1_k dX2_sortShows_4 rfl ?_
    refine v_icmp_ge X 71 dX2_sortShows_7 (by decide) (fun hc7 => ?_) (fun hc7 => ?_)
    · have h := h.1 hc7
      exact v_vret X hr hlk dX2_sortShows_71 h
    · have h := h.2 hc7
      refine v_iload_n X dX2_sortShows_10 rfl 2 rfl ?_
      refine v_istore_n X [(3, .int x2), (0, .ref (ad 8 0)), (1, .ref (ad o1 0)), (2, .int x2)] dX2_sortShows_11 rfl (by decide) rfl ?_
      refine v_sub [1, 2, 3, 0] rfl ?_
      exact t_X2_sortShows_12 o1 ho1 X hr hlk (fun S x2 hq => by obtain ⟨n', hlt, hq⟩ := hq; exact ih n' hlt S x2 hq) h
def w_X2_sortShows (o1 : Nat) (S : St) (K : St → Prop) : Prop := w_X2_sortShows_2 o1 K S 0
set_option maxHeartbeats 4000000 in
set_option maxRecDepth 100000 in
theorem c_X2_sortShows (l : Launch) {D : va_G} {cA : Nat → ClassId} {ad : Nat → Nat → Nat} {A : Nat → Prop} (o1 : Nat) (ho1 : o1 < 7) (S : St) (K : St → Prop) (h : w_X2_sortShows o1 S K) : MT l yX2_sortShows cX2_sortShows 4 none 0 0 [.ref (ad 8 0), .ref (ad o1 0)] D cA ad A S (Qv D cA ad A K) := by
  refine MT.ofV (by decide) (Nat.le_of_ble_eq_true rfl) ?_
  intro p e s m args below meth c X hr hlk
  have X : Cx p rm_X2_sortShows m c cX2_sortShows 4 s args RX2 0 0 D cA ad A := X
  refine v_lv [(0, .ref (ad 8 0)), (1, .ref (ad o1 0))] rfl ?_
  unfold w_X2_sortShows at h
  have ho1_11 : o1 < 11 := by omega
  have ho1_k : kd o1 = 0 := kd_day ho1
  refine v_iconst (v := 0) X dX2_sortShows_0 (by decide) ?_
  refine v_istore_n X [(2, .int 0), (0, .ref (ad 8 0)), (1, .ref (ad o1 0))] dX2_sortShows_1 rfl (by decide) rfl ?_
  refine v_sub [1, 2, 0] rfl ?_
  exact t_X2_sortShows_2 o1 ho1 X hr hlk h
abbrev rm_X2_open : Room := { frames := 2, cells := 0, slots := 0, locals := 45 }
def w_X2_open_71 (o1 : Nat) (K : St → Prop) (S : St) (x2 : Int32) : Prop := ∃ I : Nat → St → Int32 → Prop, (∃ n : Nat, I n S x2) ∧ ∀ (n : Nat) (S : St) (x2 : Int32), I n S x2 → (((4 ≤ x2) → (w_X2_sortShows o1 S (fun S95 => K S95))) ∧ ((¬ 4 ≤ x2) → ((vp_in x2 4) ∧ (w_X2_bringHome S x2 (S o1 3 x2.toNatClampNeg) (fun S84 => ∀ y87 : Int32, y87 = x2 + 1 → (∃ n' : Nat, n' < n ∧ I n' S84 y87))))))
set_option maxHeartbeats 4000000 in
set_option maxRecDepth 100000 in
theorem t_X2_open_71 {p : Program} {l : Launch} {e : Env} {s : State} {m : MethodId} {args : Array Value} {below : List Frame} {meth : Method} {c : Code} {D : va_G} {cA : Nat → ClassId} {ad : Nat → Nat → Nat} {A : Nat → Prop} (o1 : Nat) (ho1 : o1 < 7) {K : St → Prop} {S : St} {x2 : Int32} (X : Cx p rm_X2_open m c cX2_open 3 s args RX2 0 0 D cA ad A) (hr : meth.sig.returnType = none) (hlk : meth.locks = false) (h : w_X2_open_71 o1 K S x2) : VV p l e rm_X2_open s m args below meth c 0 0 (MQ below (Qv D cA ad A K) args s 0 0 A) D cA ad A 3 S 71 [(0, .ref (ad 8 0)), (1, .ref (ad o1 0)), (2, .int x2)] [] := by
  have ho1_11 : o1 < 11 := by omega
  have ho1_k : kd o1 = 0 := kd_day ho1
  obtain ⟨I, ⟨n, hI⟩, hbody⟩ := h
  suffices key : ∀ (n : Nat) (S : St) (x2 : Int32), I n S x2 → VV p l e rm_X2_open s m args below meth c 0 0 (MQ below (Qv D cA ad A K) args s 0 0 A) D cA ad A 3 S 71 [(0, .ref (ad 8 0)), (1, .ref (ad o1 0)), (2, .int x2)] [] from key n S x2 hI
  clear hI
  intro n
  induction n using Nat.strongRecOn with
  | ind n ih =>
    intro S x2 hI
    have h := hbody n S x2 hI
    clear hI
    refine v_iload_n X dX2_open_71 rfl 2 rfl ?_
    refine v_iconst (v := 4) X dX2_open_72 (by decide) ?_
    refine v_icmp_ge X 93 dX2_open_73 (by decide) (fun hc73 => ?_) (fun hc73 => ?_)
    · have h := h.1 hc73
      refine v_aload_n X dX2_open_93 rfl 0 rfl ?_
      refine v_aload_n X dX2_open_94 rfl 1 rfl ?_
      refine v_callVv (o := 8) (ci := 2) (As := [.ref (ad o1 0)]) (rest := []) X (c_X2_sortShows l o1 ho1 S _ h) mw_X2_sortShows mv_X2_85 oo8 kk8 ⟨Nat.le_of_ble_eq_true rfl, Nat.le_of_ble_eq_true rfl⟩ rfl (Nat.le_of_ble_eq_true rfl) rfl dX2_open_95 (fun S95 h => ?_)
      exact v_vret X hr hlk dX2_open_98 h
    · have h := h.2 hc73
      refine v_aload_n X dX2_open_76 rfl 0 rfl ?_
      refine v_iload_n X dX2_open_77 rfl 2 rfl ?_
      refine v_aload_n X dX2_open_78 rfl 1 rfl ?_
      refine v_get (v := .ref (ad o1 4)) X f_X2_78 ho1_11 ho1_k dX2_open_79 rfl ?_
      refine v_iload_n X dX2_open_82 rfl 2 rfl ?_
      obtain ⟨hb, h⟩ := h
      refine v_iald (o := o1) (k := 3) (n := 4) X ho1_11 ho1_k rfl rfl rfl hb dX2_open_83 ?_
      refine v_callVv (o := 8) (ci := 2) (As := [.int x2, .int (S o1 3 x2.toNatClampNeg)]) (rest := []) X (c_X2_bringHome l S x2 (S o1 3 x2.toNatClampNeg) _ h) mw_X2_bringHome mv_X2_81 oo8 kk8 ⟨Nat.le_of_ble_eq_true rfl, Nat.le_of_ble_eq_true rfl⟩ rfl (Nat.le_of_ble_eq_true rfl) rfl dX2_open_84 (fun S84 h => ?_)
      obtain ⟨y87, ey87⟩ : ∃ z : Int32, z = x2 + 1 := ⟨_, rfl⟩
      have h := h y87 ey87
      refine v_iinc (v := y87) X [(2, .int y87), (0, .ref (ad 8 0)), (1, .ref (ad o1 0))] dX2_open_87 2 rfl (by rw [ey87]; rfl) (by decide) rfl ?_
      refine v_goto X 71 dX2_open_90 (by decide) ?_
      obtain ⟨n', hlt, h⟩ := h
      refine v_sub [1, 2, 0] rfl ?_
      exact ih n' hlt _ _ h
def w_X2_open_37 (o1 : Nat) (K : St → Prop) (S : St) (x2 : Int32) : Prop := ∃ I : Nat → St → Int32 → Prop, (∃ n : Nat, I n S x2) ∧ ∀ (n : Nat) (S : St) (x2 : Int32), I n S x2 → (((5 ≤ x2) → (w_X2_open_71 o1 K S 0)) ∧ ((¬ 5 ≤ x2) → ((vp_in x2 5) ∧ (∀ S48 : St, S48 = up3 S 8 14 x2.toNatClampNeg 0 → ((vp_in x2 5) ∧ (∀ S55 : St, S55 = up3 S48 8 15 x2.toNatClampNeg (-1) → ((vp_in x2 5) ∧ (∀ S62 : St, S62 = up3 S55 8 6 x2.toNatClampNeg 0 → (∀ y63 : Int32, y63 = x2 + 1 → (∃ n' : Nat, n' < n ∧ I n' S62 y63))))))))))
set_option maxHeartbeats 4000000 in
set_option maxRecDepth 100000 in
theorem t_X2_open_37 {p : Program} {l : Launch} {e : Env} {s : State} {m : MethodId} {args : Array Value} {below : List Frame} {meth : Method} {c : Code} {D : va_G} {cA : Nat → ClassId} {ad : Nat → Nat → Nat} {A : Nat → Prop} (o1 : Nat) (ho1 : o1 < 7) {K : St → Prop} {S : St} {x2 : Int32} (X : Cx p rm_X2_open m c cX2_open 3 s args RX2 0 0 D cA ad A) (hr : meth.sig.returnType = none) (hlk : meth.locks = false) (h : w_X2_open_37 o1 K S x2) : VV p l e rm_X2_open s m args below meth c 0 0 (MQ below (Qv D cA ad A K) args s 0 0 A) D cA ad A 3 S 37 [(0, .ref (ad 8 0)), (1, .ref (ad o1 0)), (2, .int x2)] [] := by
  have ho1_11 : o1 < 11 := by omega
  have ho1_k : kd o1 = 0 := kd_day ho1
  obtain ⟨I, ⟨n, hI⟩, hbody⟩ := h
  suffices key : ∀ (n : Nat) (S : St) (x2 : Int32), I n S x2 → VV p l e rm_X2_open s m args below meth c 0 0 (MQ below (Qv D cA ad A K) args s 0 0 A) D cA ad A 3 S 37 [(0, .ref (ad 8 0)), (1, .ref (ad o1 0)), (2, .int x2)] [] from key n S x2 hI
  clear hI
  intro n
  induction n using Nat.strongRecOn with
  | ind n ih =>
    intro S x2 hI
    have h := hbody n S x2 hI
    clear hI
    refine v_iload_n X dX2_open_37 rfl 2 rfl ?_
    refine v_iconst (v := 5) X dX2_open_38 (by decide) ?_
    refine v_icmp_ge X 69 dX2_open_39 (by decide) (fun hc39 => ?_) (fun hc39 => ?_)
    · have h := h.1 hc39
      refine v_iconst (v := 0) X dX2_open_69 (by decide) ?_
      refine v_istore_n X [(2, .int 0), (0, .ref (ad 8 0)), (1, .ref (ad o1 0))] dX2_open_70 rfl (by decide) rfl ?_
      refine v_sub [1, 2, 0] rfl ?_
      exact t_X2_open_71 o1 ho1 X hr hlk h
    · have h := h.2 hc39
      refine v_aload_n X dX2_open_42 rfl 0 rfl ?_
      refine v_get (v := .ref (ad 8 15)) X f_X2_56 oo8 kk8 dX2_open_43 rfl ?_
      refine v_iload_n X dX2_open_46 rfl 2 rfl ?_
      refine v_iconst (v := 0) X dX2_open_47 (by decide) ?_
      obtain ⟨hb, h⟩ := h
      refine v_iast (o := 8) (k := 14) (n := 5) X oo8 kk8 rfl rfl rfl hb dX2_open_48 ?_
      refine v_st (fun S48 eS48 => ?_)
      have h := h S48 eS48
      refine v_aload_n X dX2_open_49 rfl 0 rfl ?_
      refine v_get (v := .ref (ad 8 16)) X f_X2_59 oo8 kk8 dX2_open_50 rfl ?_
      refine v_iload_n X dX2_open_53 rfl 2 rfl ?_
      refine v_iconst (v := (-1)) X dX2_open_54 (by decide) ?_
      obtain ⟨hb, h⟩ := h
      refine v_iast (o := 8) (k := 15) (n := 5) X oo8 kk8 rfl rfl rfl hb dX2_open_55 ?_
      refine v_st (fun S55 eS55 => ?_)
      have h := h S55 eS55
      refine v_aload_n X dX2_open_56 rfl 0 rfl ?_
      refine v_get (v := .ref (ad 8 7)) X f_X2_31 oo8 kk8 dX2_open_57 rfl ?_
      refine v_iload_n X dX2_open_60 rfl 2 rfl ?_
      refine v_iconst (v := 0) X dX2_open_61 (by decide) ?_
      obtain ⟨hb, h⟩ := h
      refine v_iast (o := 8) (k := 6) (n := 5) X oo8 kk8 rfl rfl rfl hb dX2_open_62 ?_
      refine v_st (fun S62 eS62 => ?_)
      have h := h S62 eS62
      obtain ⟨y63, ey63⟩ : ∃ z : Int32, z = x2 + 1 := ⟨_, rfl⟩
      have h := h y63 ey63
      refine v_iinc (v := y63) X [(2, .int y63), (0, .ref (ad 8 0)), (1, .ref (ad o1 0))] dX2_open_63 2 rfl (by rw [ey63]; rfl) (by decide) rfl ?_
      refine v_goto X 37 dX2_open_66 (by decide) ?_
      obtain ⟨n', hlt, h⟩ := h
      refine v_sub [1, 2, 0] rfl ?_
      exact ih n' hlt _ _ h
def w_X2_open_17 (o1 : Nat) (K : St → Prop) (S : St) (x2 : Int32) : Prop := ∃ I : Nat → St → Int32 → Prop, (∃ n : Nat, I n S x2) ∧ ∀ (n : Nat) (S : St) (x2 : Int32), I n S x2 → (((3 ≤ x2) → (w_X2_open_37 o1 K S 0)) ∧ ((¬ 3 ≤ x2) → ((vp_in x2 3) ∧ (∀ S28 : St, S28 = up3 S 8 13 x2.toNatClampNeg 0 → (∀ y29 : Int32, y29 = x2 + 1 → (∃ n' : Nat, n' < n ∧ I n' S28 y29))))))
set_option maxHeartbeats 4000000 in
set_option maxRecDepth 100000 in
theorem t_X2_open_17 {p : Program} {l : Launch} {e : Env} {s : State} {m : MethodId} {args : Array Value} {below : List Frame} {meth : Method} {c : Code} {D : va_G} {cA : Nat → ClassId} {ad : Nat → Nat → Nat} {A : Nat → Prop} (o1 : Nat) (ho1 : o1 < 7) {K : St → Prop} {S : St} {x2 : Int32} (X : Cx p rm_X2_open m c cX2_open 3 s args RX2 0 0 D cA ad A) (hr : meth.sig.returnType = none) (hlk : meth.locks = false) (h : w_X2_open_17 o1 K S x2) : VV p l e rm_X2_open s m args below meth c 0 0 (MQ below (Qv D cA ad A K) args s 0 0 A) D cA ad A 3 S 17 [(0, .ref (ad 8 0)), (1, .ref (ad o1 0)), (2, .int x2)] [] := by
  have ho1_11 : o1 < 11 := by omega
  have ho1_k : kd o1 = 0 := kd_day ho1
  obtain ⟨I, ⟨n, hI⟩, hbody⟩ := h
  suffices key : ∀ (n : Nat) (S : St) (x2 : Int32), I n S x2 → VV p l e rm_X2_open s m args below meth c 0 0 (MQ below (Qv D cA ad A K) args s 0 0 A) D cA ad A 3 S 17 [(0, .ref (ad 8 0)), (1, .ref (ad o1 0)), (2, .int x2)] [] from key n S x2 hI
  clear hI
  intro n
  induction n using Nat.strongRecOn with
  | ind n ih =>
    intro S x2 hI
    have h := hbody n S x2 hI
    clear hI
    refine v_iload_n X dX2_open_17 rfl 2 rfl ?_
    refine v_iconst (v := 3) X dX2_open_18 (by decide) ?_
    refine v_icmp_ge X 35 dX2_open_19 (by decide) (fun hc19 => ?_) (fun hc19 => ?_)
    · have h := h.1 hc19
      refine v_iconst (v := 0) X dX2_open_35 (by decide) ?_
      refine v_istore_n X [(2, .int 0), (0, .ref (ad 8 0)), (1, .ref (ad o1 0))] dX2_open_36 rfl (by decide) rfl ?_
      refine v_sub [1, 2, 0] rfl ?_
      exact t_X2_open_37 o1 ho1 X hr hlk h
    · have h := h.2 hc19
      refine v_aload_n X dX2_open_22 rfl 0 rfl ?_
      refine v_get (v := .ref (ad 8 14)) X f_X2_53 oo8 kk8 dX2_open_23 rfl ?_
      refine v_iload_n X dX2_open_26 rfl 2 rfl ?_
      refine v_iconst (v := 0) X dX2_open_27 (by decide) ?_
      obtain ⟨hb, h⟩ := h
      refine v_iast (o := 8) (k := 13) (n := 3) X oo8 kk8 rfl rfl rfl hb dX2_open_28 ?_
      refine v_st (fun S28 eS28 => ?_)
      have h := h S28 eS28
      obtain ⟨y29, ey29⟩ : ∃ z : Int32, z = x2 + 1 := ⟨_, rfl⟩
      have h := h y29 ey29
      refine v_iinc (v := y29) X [(2, .int y29), (0, .ref (ad 8 0)), (1, .ref (ad o1 0))] dX2_open_29 2 rfl (by rw [ey29]; rfl) (by decide) rfl ?_
      refine v_goto X 17 dX2_open_32 (by decide) ?_
      obtain ⟨n', hlt, h⟩ := h
      refine v_sub [1, 2, 0] rfl ?_
      exact ih n' hlt _ _ h
def w_X2_open (o1 : Nat) (S : St) (K : St → Prop) : Prop := ∀ S2 : St, S2 = up3 S 8 7 0 0 → (∀ S7 : St, S7 = up3 S2 8 8 0 0 → (∀ S12 : St, S12 = up3 S7 8 9 0 0 → (w_X2_open_17 o1 K S12 0)))
set_option maxHeartbeats 4000000 in
set_option maxRecDepth 100000 in
theorem c_X2_open (l : Launch) {D : va_G} {cA : Nat → ClassId} {ad : Nat → Nat → Nat} {A : Nat → Prop} (o1 : Nat) (ho1 : o1 < 7) (S : St) (K : St → Prop) (h : w_X2_open o1 S K) : MT l yX2_open cX2_open 3 none 2 45 [.ref (ad 8 0), .ref (ad o1 0)] D cA ad A S (Qv D cA ad A K) := by
  refine MT.ofV (by decide) (Nat.le_of_ble_eq_true rfl) ?_
  intro p e s m args below meth c X hr hlk
  have X : Cx p rm_X2_open m c cX2_open 3 s args RX2 0 0 D cA ad A := X
  refine v_lv [(0, .ref (ad 8 0)), (1, .ref (ad o1 0))] rfl ?_
  unfold w_X2_open at h
  have ho1_11 : o1 < 11 := by omega
  have ho1_k : kd o1 = 0 := kd_day ho1
  refine v_aload_n X dX2_open_0 rfl 0 rfl ?_
  refine v_iconst (v := 0) X dX2_open_1 (by decide) ?_
  refine v_put (o := 8) X f_X2_34 oo8 kk8 rfl dX2_open_2 ?_
  refine v_st (fun S2 eS2 => ?_)
  have h := h S2 eS2
  refine v_aload_n X dX2_open_5 rfl 0 rfl ?_
  refine v_iconst (v := 0) X dX2_open_6 (by decide) ?_
  refine v_put (o := 8) X f_X2_38 oo8 kk8 rfl dX2_open_7 ?_
  refine v_st (fun S7 eS7 => ?_)
  have h := h S7 eS7
  refine v_aload_n X dX2_open_10 rfl 0 rfl ?_
  refine v_iconst (v := 0) X dX2_open_11 (by decide) ?_
  refine v_put (o := 8) X f_X2_41 oo8 kk8 rfl dX2_open_12 ?_
  refine v_st (fun S12 eS12 => ?_)
  have h := h S12 eS12
  refine v_iconst (v := 0) X dX2_open_15 (by decide) ?_
  refine v_istore_n X [(2, .int 0), (0, .ref (ad 8 0)), (1, .ref (ad o1 0))] dX2_open_16 rfl (by decide) rfl ?_
  refine v_sub [1, 2, 0] rfl ?_
  exact t_X2_open_17 o1 ho1 X hr hlk h
abbrev rm_X2_soonestCarrier : Room := { frames := 1, cells := 0, slots := 0, locals := 21 }
def w_X2_soonestCarrier_5 (o1 : Nat) (K : Int32 → Prop) (S : St) (x2 : Int32) (x3 : Int32) (x4 : Int32) : Prop := ∃ I : Nat → Int32 → Int32 → Prop, (∃ n : Nat, I n x3 x4) ∧ ∀ (n : Nat) (x3 : Int32) (x4 : Int32), I n x3 x4 → ((((S o1 6 0) ≤ x4) → (K x3)) ∧ ((¬ (S o1 6 0) ≤ x4) → ((vp_in x4 3) ∧ ((vp_in x3 3) ∧ ((((if (S 8 13 x3.toNatClampNeg) < x2 then x2 else (S 8 13 x3.toNatClampNeg)) ≤ (if (S 8 13 x4.toNatClampNeg) < x2 then x2 else (S 8 13 x4.toNatClampNeg))) → (∀ y41 : Int32, y41 = x4 + 1 → (∃ n' : Nat, n' < n ∧ I n' x3 y41))) ∧ ((¬ (if (S 8 13 x3.toNatClampNeg) < x2 then x2 else (S 8 13 x3.toNatClampNeg)) ≤ (if (S 8 13 x4.toNatClampNeg) < x2 then x2 else (S 8 13 x4.toNatClampNeg))) → (∀ y41 : Int32, y41 = x4 + 1 → (∃ n' : Nat, n' < n ∧ I n' x4 y41))))))))
set_option maxHeartbeats 4000000 in
set_option maxRecDepth 100000 in
theorem t_X2_soonestCarrier_5 {p : Program} {l : Launch} {e : Env} {s : State} {m : MethodId} {args : Array Value} {below : List Frame} {meth : Method} {c : Code} {D : va_G} {cA : Nat → ClassId} {ad : Nat → Nat → Nat} {A : Nat → Prop} (o1 : Nat) (ho1 : o1 < 7) {K : Int32 → Prop} {S : St} {x2 : Int32} {x3 : Int32} {x4 : Int32} (X : Cx p rm_X2_soonestCarrier m c cX2_soonestCarrier 5 s args RX2 0 0 D cA ad A) (hr : meth.sig.returnType = (some .int)) (hlk : meth.locks = false) (h : w_X2_soonestCarrier_5 o1 K S x2 x3 x4) : VV p l e rm_X2_soonestCarrier s m args below meth c 0 0 (MQ below (Qi D cA ad A (fun r S' => S' = S ∧ K r)) args s 0 0 A) D cA ad A 5 S 5 [(0, .ref (ad 8 0)), (1, .ref (ad o1 0)), (2, .int x2), (3, .int x3), (4, .int x4)] [] := by
  have ho1_11 : o1 < 11 := by omega
  have ho1_k : kd o1 = 0 := kd_day ho1
  obtain ⟨I, ⟨n, hI⟩, hbody⟩ := h
  suffices key : ∀ (n : Nat) (x3 : Int32) (x4 : Int32), I n x3 x4 → VV p l e rm_X2_soonestCarrier s m args below meth c 0 0 (MQ below (Qi D cA ad A (fun r S' => S' = S ∧ K r)) args s 0 0 A) D cA ad A 5 S 5 [(0, .ref (ad 8 0)), (1, .ref (ad o1 0)), (2, .int x2), (3, .int x3), (4, .int x4)] [] from key n x3 x4 hI
  clear hI
  intro n
  induction n using Nat.strongRecOn with
  | ind n ih =>
    intro x3 x4 hI
    have h := hbody n x3 x4 hI
    clear hI
    refine v_iload X dX2_soonestCarrier_5 4 rfl ?_
    refine v_aload_n X dX2_soonestCarrier_7 rfl 1 rfl ?_
    refine v_get (v := .int (S o1 6 0)) X f_X2_147 ho1_11 ho1_k dX2_soonestCarrier_8 rfl ?_
    refine v_icmp_ge X 47 dX2_soonestCarrier_11 (by decide) (fun hc11 => ?_) (fun hc11 => ?_)
    · have h := h.1 hc11
      refine v_iload_n X dX2_soonestCarrier_47 rfl 3 rfl ?_
      exact v_iret X hr hlk dX2_soonestCarrier_48 ⟨rfl, h⟩
    · have h := h.2 hc11
      refine v_aload_n X dX2_soonestCarrier_14 rfl 0 rfl ?_
      refine v_get (v := .ref (ad 8 14)) X f_X2_53 oo8 kk8 dX2_soonestCarrier_15 rfl ?_
      refine v_iload X dX2_soonestCarrier_18 4 rfl ?_
      obtain ⟨hb, h⟩ := h
      refine v_iald (o := 8) (k := 13) (n := 3) X oo8 kk8 rfl rfl rfl hb dX2_soonestCarrier_20 ?_
      refine v_iload_n X dX2_soonestCarrier_21 rfl 2 rfl ?_
      refine v_mmax X ms_X2_142 mmax_s mmath_i mmax_c (Nat.le_of_ble_eq_true rfl) (Nat.le_of_ble_eq_true rfl) dX2_soonestCarrier_22 ?_
      refine v_aload_n X dX2_soonestCarrier_25 rfl 0 rfl ?_
      refine v_get (v := .ref (ad 8 14)) X f_X2_53 oo8 kk8 dX2_soonestCarrier_26 rfl ?_
      refine v_iload_n X dX2_soonestCarrier_29 rfl 3 rfl ?_
      obtain ⟨hb, h⟩ := h
      refine v_iald (o := 8) (k := 13) (n := 3) X oo8 kk8 rfl rfl rfl hb dX2_soonestCarrier_30 ?_
      refine v_iload_n X dX2_soonestCarrier_31 rfl 2 rfl ?_
      refine v_mmax X ms_X2_142 mmax_s mmath_i mmax_c (Nat.le_of_ble_eq_true rfl) (Nat.le_of_ble_eq_true rfl) dX2_soonestCarrier_32 ?_
      refine v_icmp_ge X 41 dX2_soonestCarrier_35 (by decide) (fun hc35 => ?_) (fun hc35 => ?_)
      · have h := h.1 hc35
        obtain ⟨y41, ey41⟩ : ∃ z : Int32, z = x4 + 1 := ⟨_, rfl⟩
        have h := h y41 ey41
        refine v_iinc (v := y41) X [(4, .int y41), (0, .ref (ad 8 0)), (1, .ref (ad o1 0)), (2, .int x2), (3, .int x3)] dX2_soonestCarrier_41 4 rfl (by rw [ey41]; rfl) (by decide) rfl ?_
        refine v_goto X 5 dX2_soonestCarrier_44 (by decide) ?_
        obtain ⟨n', hlt, h⟩ := h
        refine v_sub [1, 2, 3, 4, 0] rfl ?_
        exact ih n' hlt _ _ h
      · have h := h.2 hc35
        refine v_iload X dX2_soonestCarrier_38 4 rfl ?_
        refine v_istore_n X [(3, .int x4), (0, .ref (ad 8 0)), (1, .ref (ad o1 0)), (2, .int x2), (4, .int x4)] dX2_soonestCarrier_40 rfl (by decide) rfl ?_
        obtain ⟨y41, ey41⟩ : ∃ z : Int32, z = x4 + 1 := ⟨_, rfl⟩
        have h := h y41 ey41
        refine v_iinc (v := y41) X [(4, .int y41), (3, .int x4), (0, .ref (ad 8 0)), (1, .ref (ad o1 0)), (2, .int x2)] dX2_soonestCarrier_41 4 rfl (by rw [ey41]; rfl) (by decide) rfl ?_
        refine v_goto X 5 dX2_soonestCarrier_44 (by decide) ?_
        obtain ⟨n', hlt, h⟩ := h
        refine v_sub [2, 3, 4, 1, 0] rfl ?_
        exact ih n' hlt _ _ h
def w_X2_soonestCarrier (o1 : Nat) (S : St) (x2 : Int32) (K : Int32 → Prop) : Prop := w_X2_soonestCarrier_5 o1 K S x2 0 1
set_option maxHeartbeats 4000000 in
set_option maxRecDepth 100000 in
theorem c_X2_soonestCarrier (l : Launch) {D : va_G} {cA : Nat → ClassId} {ad : Nat → Nat → Nat} {A : Nat → Prop} (o1 : Nat) (ho1 : o1 < 7) (S : St) (x2 : Int32) (K : Int32 → Prop) (h : w_X2_soonestCarrier o1 S x2 K) : MT l yX2_soonestCarrier cX2_soonestCarrier 5 (some .int) 1 21 [.ref (ad 8 0), .ref (ad o1 0), .int x2] D cA ad A S (Qi D cA ad A (fun r S' => S' = S ∧ K r)) := by
  refine MT.ofV (by decide) (Nat.le_of_ble_eq_true rfl) ?_
  intro p e s m args below meth c X hr hlk
  have X : Cx p rm_X2_soonestCarrier m c cX2_soonestCarrier 5 s args RX2 0 0 D cA ad A := X
  refine v_lv [(0, .ref (ad 8 0)), (1, .ref (ad o1 0)), (2, .int x2)] rfl ?_
  unfold w_X2_soonestCarrier at h
  have ho1_11 : o1 < 11 := by omega
  have ho1_k : kd o1 = 0 := kd_day ho1
  refine v_iconst (v := 0) X dX2_soonestCarrier_0 (by decide) ?_
  refine v_istore_n X [(3, .int 0), (0, .ref (ad 8 0)), (1, .ref (ad o1 0)), (2, .int x2)] dX2_soonestCarrier_1 rfl (by decide) rfl ?_
  refine v_iconst (v := 1) X dX2_soonestCarrier_2 (by decide) ?_
  refine v_istore X [(4, .int 1), (3, .int 0), (0, .ref (ad 8 0)), (1, .ref (ad o1 0)), (2, .int x2)] dX2_soonestCarrier_3 (by decide) rfl ?_
  refine v_sub [2, 3, 4, 1, 0] rfl ?_
  exact t_X2_soonestCarrier_5 o1 ho1 X hr hlk h
abbrev rm_X2_bring : Room := { frames := 2, cells := 0, slots := 0, locals := 45 }
def w_X2_bring (o1 : Nat) (S : St) (x2 : Int32) (x3 : Int32) (K : Int32 → St → Prop) : Prop := (vp_in x2 24) ∧ (((¬ (S 8 11 x2.toNatClampNeg) = x3) → ((vp_in x2 24) ∧ (w_X2_soonestCarrier o1 S (S 8 12 x2.toNatClampNeg) (fun r25 => (vp_in r25 3) ∧ ((vp_in x2 24) ∧ (∀ y53 : Int32, y53 = ((if (S 8 13 r25.toNatClampNeg) < (S 8 12 x2.toNatClampNeg) then (S 8 12 x2.toNatClampNeg) else (S 8 13 r25.toNatClampNeg)) + (S o1 7 3)) → ((vp_in r25 3) ∧ (∀ S70 : St, S70 = up3 S 8 13 r25.toNatClampNeg (y53 + (S o1 7 3)) → ((vp_in x2 24) ∧ (∀ S77 : St, S77 = up3 S70 8 11 x2.toNatClampNeg x3 → (∀ S85 : St, S85 = up3 S77 8 7 0 ((S77 8 7 0) + 1) → (K y53 S85)))))))))))) ∧ (((S 8 11 x2.toNatClampNeg) = x3) → ((vp_in x2 24) ∧ (K (S 8 12 x2.toNatClampNeg) S))))
set_option maxHeartbeats 4000000 in
set_option maxRecDepth 100000 in
theorem c_X2_bring (l : Launch) {D : va_G} {cA : Nat → ClassId} {ad : Nat → Nat → Nat} {A : Nat → Prop} (o1 : Nat) (ho1 : o1 < 7) (S : St) (x2 : Int32) (x3 : Int32) (K : Int32 → St → Prop) (h : w_X2_bring o1 S x2 x3 K) : MT l yX2_bring cX2_bring 6 (some .int) 2 45 [.ref (ad 8 0), .ref (ad o1 0), .int x2, .int x3] D cA ad A S (Qi D cA ad A K) := by
  refine MT.ofV (by decide) (Nat.le_of_ble_eq_true rfl) ?_
  intro p e s m args below meth c X hr hlk
  have X : Cx p rm_X2_bring m c cX2_bring 6 s args RX2 0 0 D cA ad A := X
  refine v_lv [(0, .ref (ad 8 0)), (1, .ref (ad o1 0)), (2, .int x2), (3, .int x3)] rfl ?_
  unfold w_X2_bring at h
  have ho1_11 : o1 < 11 := by omega
  have ho1_k : kd o1 = 0 := kd_day ho1
  refine v_aload_n X dX2_bring_0 rfl 0 rfl ?_
  refine v_get (v := .ref (ad 8 12)) X f_X2_47 oo8 kk8 dX2_bring_1 rfl ?_
  refine v_iload_n X dX2_bring_4 rfl 2 rfl ?_
  obtain ⟨hb, h⟩ := h
  refine v_iald (o := 8) (k := 11) (n := 24) X oo8 kk8 rfl rfl rfl hb dX2_bring_5 ?_
  refine v_iload_n X dX2_bring_6 rfl 3 rfl ?_
  refine v_icmp_ne X 17 dX2_bring_7 (by decide) (fun hc7 => ?_) (fun hc7 => ?_)
  · have h := h.1 hc7
    refine v_aload_n X dX2_bring_17 rfl 0 rfl ?_
    refine v_aload_n X dX2_bring_18 rfl 1 rfl ?_
    refine v_aload_n X dX2_bring_19 rfl 0 rfl ?_
    refine v_get (v := .ref (ad 8 13)) X f_X2_50 oo8 kk8 dX2_bring_20 rfl ?_
    refine v_iload_n X dX2_bring_23 rfl 2 rfl ?_
    obtain ⟨hb, h⟩ := h
    refine v_iald (o := 8) (k := 12) (n := 24) X oo8 kk8 rfl rfl rfl hb dX2_bring_24 ?_
    refine v_callVi (o := 8) (ci := 2) (As := [.ref (ad o1 0), .int (S 8 12 x2.toNatClampNeg)]) (rest := []) X (c_X2_soonestCarrier l o1 ho1 S (S 8 12 x2.toNatClampNeg) _ h) mw_X2_soonestCarrier mv_X2_138 oo8 kk8 ⟨Nat.le_of_ble_eq_true rfl, Nat.le_of_ble_eq_true rfl⟩ rfl (Nat.le_of_ble_eq_true rfl) rfl dX2_bring_25 (fun r25 S' hq => ?_)
    obtain ⟨hq1, h⟩ := hq
    rw [hq1]
    clear hq1
    refine v_istore X [(4, .int r25), (0, .ref (ad 8 0)), (1, .ref (ad o1 0)), (2, .int x2), (3, .int x3)] dX2_bring_28 (by decide) rfl ?_
    refine v_aload_n X dX2_bring_30 rfl 1 rfl ?_
    refine v_get (v := .ref (ad 8 14)) X f_X2_53 oo8 kk8 dX2_bring_31 rfl ?_
    refine v_iload X dX2_bring_34 0 rfl ?_
    obtain ⟨hb, h⟩ := h
    refine v_iald (o := 8) (k := 13) (n := 3) X oo8 kk8 rfl rfl rfl hb dX2_bring_36 ?_
    refine v_aload_n X dX2_bring_37 rfl 1 rfl ?_
    refine v_get (v := .ref (ad 8 13)) X f_X2_50 oo8 kk8 dX2_bring_38 rfl ?_
    refine v_iload_n X dX2_bring_41 rfl 3 rfl ?_
    obtain ⟨hb, h⟩ := h
    refine v_iald (o := 8) (k := 12) (n := 24) X oo8 kk8 rfl rfl rfl hb dX2_bring_42 ?_
    refine v_mmax X ms_X2_142 mmax_s mmath_i mmax_c (Nat.le_of_ble_eq_true rfl) (Nat.le_of_ble_eq_true rfl) dX2_bring_43 ?_
    refine v_aload_n X dX2_bring_46 rfl 2 rfl ?_
    refine v_get (v := .ref (ad o1 8)) X f_X2_135 ho1_11 ho1_k dX2_bring_47 rfl ?_
    refine v_iconst (v := 3) X dX2_bring_50 (by decide) ?_
    refine v_iald (o := o1) (k := 7) (n := 4) X ho1_11 ho1_k rfl rfl (j := 3) (by decide) (by unfold vp_in; decide) dX2_bring_51 ?_
    refine v_iadd X dX2_bring_52 ?_
    refine v_topi (fun y53 ey53 => ?_)
    have h := h y53 ey53
    refine v_istore X [(5, .int y53), (4, .int r25), (0, .ref (ad 8 0)), (1, .ref (ad o1 0)), (2, .int x2), (3, .int x3)] dX2_bring_53 (by decide) rfl ?_
    refine v_aload_n X dX2_bring_55 rfl 2 rfl ?_
    refine v_get (v := .ref (ad 8 14)) X f_X2_53 oo8 kk8 dX2_bring_56 rfl ?_
    refine v_iload X dX2_bring_59 1 rfl ?_
    refine v_iload X dX2_bring_61 0 rfl ?_
    refine v_aload_n X dX2_bring_63 rfl 3 rfl ?_
    refine v_get (v := .ref (ad o1 8)) X f_X2_135 ho1_11 ho1_k dX2_bring_64 rfl ?_
    refine v_iconst (v := 3) X dX2_bring_67 (by decide) ?_
    refine v_iald (o := o1) (k := 7) (n := 4) X ho1_11 ho1_k rfl rfl (j := 3) (by decide) (by unfold vp_in; decide) dX2_bring_68 ?_
    refine v_iadd X dX2_bring_69 ?_
    obtain ⟨hb, h⟩ := h
    refine v_iast (o := 8) (k := 13) (n := 3) X oo8 kk8 rfl rfl rfl hb dX2_bring_70 ?_
    refine v_st (fun S70 eS70 => ?_)
    have h := h S70 eS70
    refine v_aload_n X dX2_bring_71 rfl 2 rfl ?_
    refine v_get (v := .ref (ad 8 12)) X f_X2_47 oo8 kk8 dX2_bring_72 rfl ?_
    refine v_iload_n X dX2_bring_75 rfl 4 rfl ?_
    refine v_iload_n X dX2_bring_76 rfl 5 rfl ?_
    obtain ⟨hb, h⟩ := h
    refine v_iast (o := 8) (k := 11) (n := 24) X oo8 kk8 rfl rfl rfl hb dX2_bring_77 ?_
    refine v_st (fun S77 eS77 => ?_)
    have h := h S77 eS77
    refine v_aload_n X dX2_bring_78 rfl 2 rfl ?_
    refine v_dup X dX2_bring_79 rfl ?_
    refine v_get (v := .int (S77 8 7 0)) X f_X2_34 oo8 kk8 dX2_bring_80 rfl ?_
    refine v_iconst (v := 1) X dX2_bring_83 (by decide) ?_
    refine v_iadd X dX2_bring_84 ?_
    refine v_put (o := 8) X f_X2_34 oo8 kk8 rfl dX2_bring_85 ?_
    refine v_st (fun S85 eS85 => ?_)
    have h := h S85 eS85
    refine v_iload X dX2_bring_88 0 rfl ?_
    exact v_iret X hr hlk dX2_bring_90 h
  · have h := h.2 hc7
    refine v_aload_n X dX2_bring_10 rfl 0 rfl ?_
    refine v_get (v := .ref (ad 8 13)) X f_X2_50 oo8 kk8 dX2_bring_11 rfl ?_
    refine v_iload_n X dX2_bring_14 rfl 2 rfl ?_
    obtain ⟨hb, h⟩ := h
    refine v_iald (o := 8) (k := 12) (n := 24) X oo8 kk8 rfl rfl rfl hb dX2_bring_15 ?_
    exact v_iret X hr hlk dX2_bring_16 h
abbrev rm_X2_needsPlate : Room := { frames := 0, cells := 0, slots := 0, locals := 0 }
def w_X2_needsPlate (S : St) (x1 : Int32) (x2 : Int32) (K : Int32 → Prop) : Prop := (vp_in x1 5) ∧ ((((S 8 15 x1.toNatClampNeg) = (-1)) → (K 0)) ∧ ((¬ (S 8 15 x1.toNatClampNeg) = (-1)) → ((vp_in x1 5) ∧ ((((S 8 15 x1.toNatClampNeg) = x2) → (K 0)) ∧ ((¬ (S 8 15 x1.toNatClampNeg) = x2) → (K 1))))))
set_option maxHeartbeats 4000000 in
set_option maxRecDepth 100000 in
theorem c_X2_needsPlate (l : Launch) {D : va_G} {cA : Nat → ClassId} {ad : Nat → Nat → Nat} {A : Nat → Prop} (S : St) (x1 : Int32) (x2 : Int32) (K : Int32 → Prop) (h : w_X2_needsPlate S x1 x2 K) : MT l yX2_needsPlate cX2_needsPlate 3 (some .boolean) 0 0 [.ref (ad 8 0), .int x1, .int x2] D cA ad A S (Qz D cA ad A (fun r S' => S' = S ∧ K r)) := by
  refine MT.ofV (by decide) (Nat.le_of_ble_eq_true rfl) ?_
  intro p e s m args below meth c X hr hlk
  have X : Cx p rm_X2_needsPlate m c cX2_needsPlate 3 s args RX2 0 0 D cA ad A := X
  refine v_lv [(0, .ref (ad 8 0)), (1, .int x1), (2, .int x2)] rfl ?_
  unfold w_X2_needsPlate at h
  refine v_aload_n X dX2_needsPlate_0 rfl 0 rfl ?_
  refine v_get (v := .ref (ad 8 16)) X f_X2_59 oo8 kk8 dX2_needsPlate_1 rfl ?_
  refine v_iload_n X dX2_needsPlate_4 rfl 1 rfl ?_
  obtain ⟨hb, h⟩ := h
  refine v_iald (o := 8) (k := 15) (n := 5) X oo8 kk8 rfl rfl rfl hb dX2_needsPlate_5 ?_
  refine v_iconst (v := (-1)) X dX2_needsPlate_6 (by decide) ?_
  refine v_icmp_eq X 24 dX2_needsPlate_7 (by decide) (fun hc7 => ?_) (fun hc7 => ?_)
  · have h := h.1 hc7
    refine v_iconst (v := 0) X dX2_needsPlate_24 (by decide) ?_
    exact v_zret X hr hlk dX2_needsPlate_25 (by first | exact Or.inl rfl | exact Or.inr rfl) ⟨rfl, h⟩
  · have h := h.2 hc7
    refine v_aload_n X dX2_needsPlate_10 rfl 0 rfl ?_
    refine v_get (v := .ref (ad 8 16)) X f_X2_59 oo8 kk8 dX2_needsPlate_11 rfl ?_
    refine v_iload_n X dX2_needsPlate_14 rfl 1 rfl ?_
    obtain ⟨hb, h⟩ := h
    refine v_iald (o := 8) (k := 15) (n := 5) X oo8 kk8 rfl rfl rfl hb dX2_needsPlate_15 ?_
    refine v_iload_n X dX2_needsPlate_16 rfl 2 rfl ?_
    refine v_icmp_eq X 24 dX2_needsPlate_17 (by decide) (fun hc17 => ?_) (fun hc17 => ?_)
    · have h := h.1 hc17
      refine v_iconst (v := 0) X dX2_needsPlate_24 (by decide) ?_
      exact v_zret X hr hlk dX2_needsPlate_25 (by first | exact Or.inl rfl | exact Or.inr rfl) ⟨rfl, h⟩
    · have h := h.2 hc17
      refine v_iconst (v := 1) X dX2_needsPlate_20 (by decide) ?_
      refine v_goto X 25 dX2_needsPlate_21 (by decide) ?_
      exact v_zret X hr hlk dX2_needsPlate_25 (by first | exact Or.inl rfl | exact Or.inr rfl) ⟨rfl, h⟩
abbrev rm_X2_startOn : Room := { frames := 1, cells := 0, slots := 0, locals := 22 }
def w_X2_startOn_28 (o1 : Nat) (K : Int32 → Prop) (S : St) (x4 : Int32) (x5 : Int32) (x6 : Int32) : Prop := K (if x5 < ((if x4 < x6 then x6 else x4) + (S o1 7 0)) then ((if x4 < x6 then x6 else x4) + (S o1 7 0)) else x5)
set_option maxHeartbeats 4000000 in
set_option maxRecDepth 100000 in
theorem t_X2_startOn_28 {p : Program} {l : Launch} {e : Env} {s : State} {m : MethodId} {args : Array Value} {below : List Frame} {meth : Method} {c : Code} {D : va_G} {cA : Nat → ClassId} {ad : Nat → Nat → Nat} {A : Nat → Prop} (o1 : Nat) (ho1 : o1 < 7) {K : Int32 → Prop} {S : St} {x4 : Int32} {x5 : Int32} {x6 : Int32} (X : Cx p rm_X2_startOn m c cX2_startOn 7 s args RX2 0 0 D cA ad A) (hr : meth.sig.returnType = (some .int)) (hlk : meth.locks = false) (h : w_X2_startOn_28 o1 K S x4 x5 x6) : VV p l e rm_X2_startOn s m args below meth c 0 0 (MQ below (Qi D cA ad A (fun r S' => S' = S ∧ K r)) args s 0 0 A) D cA ad A 7 S 28 [(1, .ref (ad o1 0)), (4, .int x4), (5, .int x5), (6, .int x6)] [] := by
  unfold w_X2_startOn_28 at h
  have ho1_11 : o1 < 11 := by omega
  have ho1_k : kd o1 = 0 := kd_day ho1
  refine v_iload X dX2_startOn_28 2 rfl ?_
  refine v_iload X dX2_startOn_30 1 rfl ?_
  refine v_iload X dX2_startOn_32 3 rfl ?_
  refine v_mmax X ms_X2_142 mmax_s mmath_i mmax_c (Nat.le_of_ble_eq_true rfl) (Nat.le_of_ble_eq_true rfl) dX2_startOn_34 ?_
  refine v_aload_n X dX2_startOn_37 rfl 0 rfl ?_
  refine v_get (v := .ref (ad o1 8)) X f_X2_135 ho1_11 ho1_k dX2_startOn_38 rfl ?_
  refine v_iconst (v := 0) X dX2_startOn_41 (by decide) ?_
  refine v_iald (o := o1) (k := 7) (n := 4) X ho1_11 ho1_k rfl rfl (j := 0) (by decide) (by unfold vp_in; decide) dX2_startOn_42 ?_
  refine v_iadd X dX2_startOn_43 ?_
  refine v_mmax X ms_X2_142 mmax_s mmath_i mmax_c (Nat.le_of_ble_eq_true rfl) (Nat.le_of_ble_eq_true rfl) dX2_startOn_44 ?_
  exact v_iret X hr hlk dX2_startOn_47 ⟨rfl, h⟩
def w_X2_startOn (o1 : Nat) (S : St) (x2 : Int32) (x3 : Int32) (x4 : Int32) (x5 : Int32) (K : Int32 → Prop) : Prop := (vp_in x2 5) ∧ (∀ y6 : Int32, y6 = (S 8 14 x2.toNatClampNeg) → (w_X2_needsPlate S x2 x3 (fun r11 => ((r11 = 0) → (w_X2_startOn_28 o1 K S x4 x5 y6)) ∧ ((¬ r11 = 0) → (∀ y26 : Int32, y26 = (y6 + (S o1 7 1)) → (w_X2_startOn_28 o1 K S x4 x5 y26))))))
set_option maxHeartbeats 4000000 in
set_option maxRecDepth 100000 in
theorem c_X2_startOn (l : Launch) {D : va_G} {cA : Nat → ClassId} {ad : Nat → Nat → Nat} {A : Nat → Prop} (o1 : Nat) (ho1 : o1 < 7) (S : St) (x2 : Int32) (x3 : Int32) (x4 : Int32) (x5 : Int32) (K : Int32 → Prop) (h : w_X2_startOn o1 S x2 x3 x4 x5 K) : MT l yX2_startOn cX2_startOn 7 (some .int) 1 22 [.ref (ad 8 0), .ref (ad o1 0), .int x2, .int x3, .int x4, .int x5] D cA ad A S (Qi D cA ad A (fun r S' => S' = S ∧ K r)) := by
  refine MT.ofV (by decide) (Nat.le_of_ble_eq_true rfl) ?_
  intro p e s m args below meth c X hr hlk
  have X : Cx p rm_X2_startOn m c cX2_startOn 7 s args RX2 0 0 D cA ad A := X
  refine v_lv [(0, .ref (ad 8 0)), (1, .ref (ad o1 0)), (2, .int x2), (3, .int x3), (4, .int x4), (5, .int x5)] rfl ?_
  unfold w_X2_startOn at h
  have ho1_11 : o1 < 11 := by omega
  have ho1_k : kd o1 = 0 := kd_day ho1
  refine v_aload_n X dX2_startOn_0 rfl 0 rfl ?_
  refine v_get (v := .ref (ad 8 15)) X f_X2_56 oo8 kk8 dX2_startOn_1 rfl ?_
  refine v_iload_n X dX2_startOn_4 rfl 2 rfl ?_
  obtain ⟨hb, h⟩ := h
  refine v_iald (o := 8) (k := 14) (n := 5) X oo8 kk8 rfl rfl rfl hb dX2_startOn_5 ?_
  refine v_topi (fun y6 ey6 => ?_)
  have h := h y6 ey6
  refine v_istore X [(6, .int y6), (0, .ref (ad 8 0)), (1, .ref (ad o1 0)), (2, .int x2), (3, .int x3), (4, .int x4), (5, .int x5)] dX2_startOn_6 (by decide) rfl ?_
  refine v_aload_n X dX2_startOn_8 rfl 1 rfl ?_
  refine v_iload_n X dX2_startOn_9 rfl 3 rfl ?_
  refine v_iload_n X dX2_startOn_10 rfl 4 rfl ?_
  refine v_callVz (o := 8) (ci := 2) (As := [.int x2, .int x3]) (rest := []) X (c_X2_needsPlate l S x2 x3 _ h) mw_X2_needsPlate mv_X2_131 oo8 kk8 ⟨Nat.le_of_ble_eq_true rfl, Nat.le_of_ble_eq_true rfl⟩ rfl (Nat.le_of_ble_eq_true rfl) rfl dX2_startOn_11 (fun r11 S' hq hz11 => ?_)
  obtain ⟨hq1, h⟩ := hq
  rw [hq1]
  clear hq1
  refine v_if_eq X 28 dX2_startOn_14 (by decide) (fun hc14 => ?_) (fun hc14 => ?_)
  · have h := h.1 hc14
    refine v_sub [2, 5, 6, 0] rfl ?_
    exact t_X2_startOn_28 o1 ho1 X hr hlk h
  · have h := h.2 hc14
    refine v_iload X dX2_startOn_17 0 rfl ?_
    refine v_aload_n X dX2_startOn_19 rfl 2 rfl ?_
    refine v_get (v := .ref (ad o1 8)) X f_X2_135 ho1_11 ho1_k dX2_startOn_20 rfl ?_
    refine v_iconst (v := 1) X dX2_startOn_23 (by decide) ?_
    refine v_iald (o := o1) (k := 7) (n := 4) X ho1_11 ho1_k rfl rfl (j := 1) (by decide) (by unfold vp_in; decide) dX2_startOn_24 ?_
    refine v_iadd X dX2_startOn_25 ?_
    refine v_topi (fun y26 ey26 => ?_)
    have h := h y26 ey26
    refine v_istore X [(6, .int y26), (0, .ref (ad 8 0)), (1, .ref (ad o1 0)), (2, .int x2), (3, .int x3), (4, .int x4), (5, .int x5)] dX2_startOn_26 (by decide) rfl ?_
    refine v_sub [2, 5, 6, 0] rfl ?_
    exact t_X2_startOn_28 o1 ho1 X hr hlk h
abbrev rm_X2_soonestMachine : Room := { frames := 2, cells := 0, slots := 0, locals := 48 }
def w_X2_soonestMachine_32 (o1 : Nat) (K : Int32 → Prop) (S : St) (x2 : Int32) (x3 : Int32) (x4 : Int32) (x6 : Int32) (x7 : Int32) (x8 : Int32) (x9 : Int32) : Prop := ∃ I : Nat → Int32 → Int32 → Int32 → Prop, (∃ n : Nat, I n x7 x8 x9) ∧ ∀ (n : Nat) (x7 : Int32) (x8 : Int32) (x9 : Int32), I n x7 x8 x9 → ((((S o1 4 0) ≤ x9) → (K x7)) ∧ ((¬ (S o1 4 0) ≤ x9) → ((vp_in x9 5) ∧ (((¬ (S o1 5 x9.toNatClampNeg) = x6) → (∀ y81 : Int32, y81 = x9 + 1 → (∃ n' : Nat, n' < n ∧ I n' x7 x8 y81))) ∧ (((S o1 5 x9.toNatClampNeg) = x6) → (w_X2_startOn o1 S x9 x2 x3 x4 (fun r61 => ((x8 ≤ r61) → (∀ y81 : Int32, y81 = x9 + 1 → (∃ n' : Nat, n' < n ∧ I n' x7 x8 y81))) ∧ ((¬ x8 ≤ r61) → (∀ y81 : Int32, y81 = x9 + 1 → (∃ n' : Nat, n' < n ∧ I n' x9 r61 y81))))))))))
set_option maxHeartbeats 4000000 in
set_option maxRecDepth 100000 in
theorem t_X2_soonestMachine_32 {p : Program} {l : Launch} {e : Env} {s : State} {m : MethodId} {args : Array Value} {below : List Frame} {meth : Method} {c : Code} {D : va_G} {cA : Nat → ClassId} {ad : Nat → Nat → Nat} {A : Nat → Prop} (o1 : Nat) (ho1 : o1 < 7) {K : Int32 → Prop} {S : St} {x2 : Int32} {x3 : Int32} {x4 : Int32} {x6 : Int32} {x7 : Int32} {x8 : Int32} {x9 : Int32} (X : Cx p rm_X2_soonestMachine m c cX2_soonestMachine 11 s args RX2 0 0 D cA ad A) (hr : meth.sig.returnType = (some .int)) (hlk : meth.locks = false) (h : w_X2_soonestMachine_32 o1 K S x2 x3 x4 x6 x7 x8 x9) : VV p l e rm_X2_soonestMachine s m args below meth c 0 0 (MQ below (Qi D cA ad A (fun r S' => S' = S ∧ K r)) args s 0 0 A) D cA ad A 11 S 32 [(0, .ref (ad 8 0)), (1, .ref (ad o1 0)), (2, .int x2), (3, .int x3), (4, .int x4), (6, .int x6), (7, .int x7), (8, .int x8), (9, .int x9)] [] := by
  have ho1_11 : o1 < 11 := by omega
  have ho1_k : kd o1 = 0 := kd_day ho1
  obtain ⟨I, ⟨n, hI⟩, hbody⟩ := h
  suffices key : ∀ (n : Nat) (x7 : Int32) (x8 : Int32) (x9 : Int32), I n x7 x8 x9 → VV p l e rm_X2_soonestMachine s m args below meth c 0 0 (MQ below (Qi D cA ad A (fun r S' => S' = S ∧ K r)) args s 0 0 A) D cA ad A 11 S 32 [(0, .ref (ad 8 0)), (1, .ref (ad o1 0)), (2, .int x2), (3, .int x3), (4, .int x4), (6, .int x6), (7, .int x7), (8, .int x8), (9, .int x9)] [] from key n x7 x8 x9 hI
  clear hI
  intro n
  induction n using Nat.strongRecOn with
  | ind n ih =>
    intro x7 x8 x9 hI
    have h := hbody n x7 x8 x9 hI
    clear hI
    refine v_iload X dX2_soonestMachine_32 8 rfl ?_
    refine v_aload_n X dX2_soonestMachine_34 rfl 1 rfl ?_
    refine v_get (v := .int (S o1 4 0)) X f_X2_153 ho1_11 ho1_k dX2_soonestMachine_35 rfl ?_
    refine v_icmp_ge X 87 dX2_soonestMachine_38 (by decide) (fun hc38 => ?_) (fun hc38 => ?_)
    · have h := h.1 hc38
      refine v_iload X dX2_soonestMachine_87 6 rfl ?_
      exact v_iret X hr hlk dX2_soonestMachine_89 ⟨rfl, h⟩
    · have h := h.2 hc38
      refine v_aload_n X dX2_soonestMachine_41 rfl 1 rfl ?_
      refine v_get (v := .ref (ad o1 6)) X f_X2_150 ho1_11 ho1_k dX2_soonestMachine_42 rfl ?_
      refine v_iload X dX2_soonestMachine_45 8 rfl ?_
      obtain ⟨hb, h⟩ := h
      refine v_iald (o := o1) (k := 5) (n := 5) X ho1_11 ho1_k rfl rfl rfl hb dX2_soonestMachine_47 ?_
      refine v_iload X dX2_soonestMachine_48 5 rfl ?_
      refine v_icmp_ne X 81 dX2_soonestMachine_50 (by decide) (fun hc50 => ?_) (fun hc50 => ?_)
      · have h := h.1 hc50
        obtain ⟨y81, ey81⟩ : ∃ z : Int32, z = x9 + 1 := ⟨_, rfl⟩
        have h := h y81 ey81
        refine v_iinc (v := y81) X [(9, .int y81), (0, .ref (ad 8 0)), (1, .ref (ad o1 0)), (2, .int x2), (3, .int x3), (4, .int x4), (6, .int x6), (7, .int x7), (8, .int x8)] dX2_soonestMachine_81 8 rfl (by rw [ey81]; rfl) (by decide) rfl ?_
        refine v_goto X 32 dX2_soonestMachine_84 (by decide) ?_
        obtain ⟨n', hlt, h⟩ := h
        refine v_sub [1, 2, 3, 4, 5, 6, 7, 8, 0] rfl ?_
        exact ih n' hlt _ _ _ h
      · have h := h.2 hc50
        refine v_aload_n X dX2_soonestMachine_53 rfl 0 rfl ?_
        refine v_aload_n X dX2_soonestMachine_54 rfl 1 rfl ?_
        refine v_iload X dX2_soonestMachine_55 8 rfl ?_
        refine v_iload_n X dX2_soonestMachine_57 rfl 2 rfl ?_
        refine v_iload_n X dX2_soonestMachine_58 rfl 3 rfl ?_
        refine v_iload X dX2_soonestMachine_59 4 rfl ?_
        refine v_callVi (o := 8) (ci := 2) (As := [.ref (ad o1 0), .int x9, .int x2, .int x3, .int x4]) (rest := []) X (c_X2_startOn l o1 ho1 S x9 x2 x3 x4 _ h) mw_X2_startOn mv_X2_122 oo8 kk8 ⟨Nat.le_of_ble_eq_true rfl, Nat.le_of_ble_eq_true rfl⟩ rfl (Nat.le_of_ble_eq_true rfl) rfl dX2_soonestMachine_61 (fun r61 S' hq => ?_)
        obtain ⟨hq1, h⟩ := hq
        rw [hq1]
        clear hq1
        refine v_istore X [(10, .int r61), (0, .ref (ad 8 0)), (1, .ref (ad o1 0)), (2, .int x2), (3, .int x3), (4, .int x4), (6, .int x6), (7, .int x7), (8, .int x8), (9, .int x9)] dX2_soonestMachine_64 (by decide) rfl ?_
        refine v_iload X dX2_soonestMachine_66 0 rfl ?_
        refine v_iload X dX2_soonestMachine_68 8 rfl ?_
        refine v_icmp_ge X 81 dX2_soonestMachine_70 (by decide) (fun hc70 => ?_) (fun hc70 => ?_)
        · have h := h.1 hc70
          obtain ⟨y81, ey81⟩ : ∃ z : Int32, z = x9 + 1 := ⟨_, rfl⟩
          have h := h y81 ey81
          refine v_iinc (v := y81) X [(9, .int y81), (10, .int r61), (0, .ref (ad 8 0)), (1, .ref (ad o1 0)), (2, .int x2), (3, .int x3), (4, .int x4), (6, .int x6), (7, .int x7), (8, .int x8)] dX2_soonestMachine_81 9 rfl (by rw [ey81]; rfl) (by decide) rfl ?_
          refine v_goto X 32 dX2_soonestMachine_84 (by decide) ?_
          obtain ⟨n', hlt, h⟩ := h
          refine v_sub [2, 3, 4, 5, 6, 7, 8, 9, 0] rfl ?_
          exact ih n' hlt _ _ _ h
        · have h := h.2 hc70
          refine v_iload X dX2_soonestMachine_73 9 rfl ?_
          refine v_istore X [(7, .int x9), (10, .int r61), (0, .ref (ad 8 0)), (1, .ref (ad o1 0)), (2, .int x2), (3, .int x3), (4, .int x4), (6, .int x6), (8, .int x8), (9, .int x9)] dX2_soonestMachine_75 (by decide) rfl ?_
          refine v_iload X dX2_soonestMachine_77 1 rfl ?_
          refine v_istore X [(8, .int r61), (7, .int x9), (10, .int r61), (0, .ref (ad 8 0)), (1, .ref (ad o1 0)), (2, .int x2), (3, .int x3), (4, .int x4), (6, .int x6), (9, .int x9)] dX2_soonestMachine_79 (by decide) rfl ?_
          obtain ⟨y81, ey81⟩ : ∃ z : Int32, z = x9 + 1 := ⟨_, rfl⟩
          have h := h y81 ey81
          refine v_iinc (v := y81) X [(9, .int y81), (8, .int r61), (7, .int x9), (10, .int r61), (0, .ref (ad 8 0)), (1, .ref (ad o1 0)), (2, .int x2), (3, .int x3), (4, .int x4), (6, .int x6)] dX2_soonestMachine_81 9 rfl (by rw [ey81]; rfl) (by decide) rfl ?_
          refine v_goto X 32 dX2_soonestMachine_84 (by decide) ?_
          obtain ⟨n', hlt, h⟩ := h
          refine v_sub [4, 5, 6, 7, 8, 9, 2, 1, 0] rfl ?_
          exact ih n' hlt _ _ _ h
def w_X2_soonestMachine (o1 : Nat) (S : St) (x2 : Int32) (x3 : Int32) (x4 : Int32) (x5 : Int32) (K : Int32 → Prop) : Prop := (vp_in x5 5) ∧ (∀ y7 : Int32, y7 = (S o1 5 x5.toNatClampNeg) → (w_X2_startOn o1 S x5 x2 x3 x4 (fun r21 => ∀ y30 : Int32, y30 = (x5 + 1) → (w_X2_soonestMachine_32 o1 K S x2 x3 x4 y7 x5 r21 y30))))
set_option maxHeartbeats 4000000 in
set_option maxRecDepth 100000 in
theorem c_X2_soonestMachine (l : Launch) {D : va_G} {cA : Nat → ClassId} {ad : Nat → Nat → Nat} {A : Nat → Prop} (o1 : Nat) (ho1 : o1 < 7) (S : St) (x2 : Int32) (x3 : Int32) (x4 : Int32) (x5 : Int32) (K : Int32 → Prop) (h : w_X2_soonestMachine o1 S x2 x3 x4 x5 K) : MT l yX2_soonestMachine cX2_soonestMachine 11 (some .int) 2 48 [.ref (ad 8 0), .ref (ad o1 0), .int x2, .int x3, .int x4, .int x5] D cA ad A S (Qi D cA ad A (fun r S' => S' = S ∧ K r)) := by
  refine MT.ofV (by decide) (Nat.le_of_ble_eq_true rfl) ?_
  intro p e s m args below meth c X hr hlk
  have X : Cx p rm_X2_soonestMachine m c cX2_soonestMachine 11 s args RX2 0 0 D cA ad A := X
  refine v_lv [(0, .ref (ad 8 0)), (1, .ref (ad o1 0)), (2, .int x2), (3, .int x3), (4, .int x4), (5, .int x5)] rfl ?_
  unfold w_X2_soonestMachine at h
  have ho1_11 : o1 < 11 := by omega
  have ho1_k : kd o1 = 0 := kd_day ho1
  refine v_aload_n X dX2_soonestMachine_0 rfl 1 rfl ?_
  refine v_get (v := .ref (ad o1 6)) X f_X2_150 ho1_11 ho1_k dX2_soonestMachine_1 rfl ?_
  refine v_iload X dX2_soonestMachine_4 5 rfl ?_
  obtain ⟨hb, h⟩ := h
  refine v_iald (o := o1) (k := 5) (n := 5) X ho1_11 ho1_k rfl rfl rfl hb dX2_soonestMachine_6 ?_
  refine v_topi (fun y7 ey7 => ?_)
  have h := h y7 ey7
  refine v_istore X [(6, .int y7), (0, .ref (ad 8 0)), (1, .ref (ad o1 0)), (2, .int x2), (3, .int x3), (4, .int x4), (5, .int x5)] dX2_soonestMachine_7 (by decide) rfl ?_
  refine v_iload X dX2_soonestMachine_9 6 rfl ?_
  refine v_istore X [(7, .int x5), (6, .int y7), (0, .ref (ad 8 0)), (1, .ref (ad o1 0)), (2, .int x2), (3, .int x3), (4, .int x4), (5, .int x5)] dX2_soonestMachine_11 (by decide) rfl ?_
  refine v_aload_n X dX2_soonestMachine_13 rfl 2 rfl ?_
  refine v_aload_n X dX2_soonestMachine_14 rfl 3 rfl ?_
  refine v_iload X dX2_soonestMachine_15 0 rfl ?_
  refine v_iload_n X dX2_soonestMachine_17 rfl 4 rfl ?_
  refine v_iload_n X dX2_soonestMachine_18 rfl 5 rfl ?_
  refine v_iload X dX2_soonestMachine_19 6 rfl ?_
  refine v_callVi (o := 8) (ci := 2) (As := [.ref (ad o1 0), .int x5, .int x2, .int x3, .int x4]) (rest := []) X (c_X2_startOn l o1 ho1 S x5 x2 x3 x4 _ h) mw_X2_startOn mv_X2_122 oo8 kk8 ⟨Nat.le_of_ble_eq_true rfl, Nat.le_of_ble_eq_true rfl⟩ rfl (Nat.le_of_ble_eq_true rfl) rfl dX2_soonestMachine_21 (fun r21 S' hq => ?_)
  obtain ⟨hq1, h⟩ := hq
  rw [hq1]
  clear hq1
  refine v_istore X [(8, .int r21), (7, .int x5), (6, .int y7), (0, .ref (ad 8 0)), (1, .ref (ad o1 0)), (2, .int x2), (3, .int x3), (4, .int x4), (5, .int x5)] dX2_soonestMachine_24 (by decide) rfl ?_
  refine v_iload X dX2_soonestMachine_26 8 rfl ?_
  refine v_iconst (v := 1) X dX2_soonestMachine_28 (by decide) ?_
  refine v_iadd X dX2_soonestMachine_29 ?_
  refine v_topi (fun y30 ey30 => ?_)
  have h := h y30 ey30
  refine v_istore X [(9, .int y30), (8, .int r21), (7, .int x5), (6, .int y7), (0, .ref (ad 8 0)), (1, .ref (ad o1 0)), (2, .int x2), (3, .int x3), (4, .int x4), (5, .int x5)] dX2_soonestMachine_30 (by decide) rfl ?_
  refine v_sub [4, 5, 6, 7, 8, 3, 2, 1, 0] rfl ?_
  exact t_X2_soonestMachine_32 o1 ho1 X hr hlk h
abbrev rm_X2_planReel : Room := { frames := 3, cells := 0, slots := 0, locals := 78 }
def w_X2_planReel_130 (o1 : Nat) (K : Int32 → St → Prop) (S : St) (x6 : Int32) (x7 : Int32) (x9 : Int32) (x10 : Int32) (x11 : Int32) : Prop := (vp_in x9 5) ∧ ((vp_in x9 5) ∧ (∀ S144 : St, S144 = up3 S 8 6 x9.toNatClampNeg ((S 8 6 x9.toNatClampNeg) + (x11 - x10)) → ((vp_in x9 5) ∧ (∀ S153 : St, S153 = up3 S144 8 14 x9.toNatClampNeg x11 → ((vp_in x9 5) ∧ (∀ S162 : St, S162 = up3 S153 8 15 x9.toNatClampNeg x7 → ((vp_in x6 24) ∧ (∀ S178 : St, S178 = up3 S162 8 12 x6.toNatClampNeg (x11 + (S162 o1 7 2)) → (K x11 S178)))))))))
set_option maxHeartbeats 4000000 in
set_option maxRecDepth 100000 in
theorem t_X2_planReel_130 {p : Program} {l : Launch} {e : Env} {s : State} {m : MethodId} {args : Array Value} {below : List Frame} {meth : Method} {c : Code} {D : va_G} {cA : Nat → ClassId} {ad : Nat → Nat → Nat} {A : Nat → Prop} (o1 : Nat) (ho1 : o1 < 7) {K : Int32 → St → Prop} {S : St} {x6 : Int32} {x7 : Int32} {x9 : Int32} {x10 : Int32} {x11 : Int32} (X : Cx p rm_X2_planReel m c cX2_planReel 12 s args RX2 0 0 D cA ad A) (hr : meth.sig.returnType = (some .int)) (hlk : meth.locks = false) (h : w_X2_planReel_130 o1 K S x6 x7 x9 x10 x11) : VV p l e rm_X2_planReel s m args below meth c 0 0 (MQ below (Qi D cA ad A K) args s 0 0 A) D cA ad A 12 S 130 [(0, .ref (ad 8 0)), (1, .ref (ad o1 0)), (6, .int x6), (7, .int x7), (9, .int x9), (10, .int x10), (11, .int x11)] [] := by
  unfold w_X2_planReel_130 at h
  have ho1_11 : o1 < 11 := by omega
  have ho1_k : kd o1 = 0 := kd_day ho1
  refine v_aload_n X dX2_planReel_130 rfl 0 rfl ?_
  refine v_get (v := .ref (ad 8 7)) X f_X2_31 oo8 kk8 dX2_planReel_131 rfl ?_
  refine v_iload X dX2_planReel_134 4 rfl ?_
  refine v_dup2 X dX2_planReel_136 rfl rfl ?_
  obtain ⟨hb, h⟩ := h
  refine v_iald (o := 8) (k := 6) (n := 5) X oo8 kk8 rfl rfl rfl hb dX2_planReel_137 ?_
  refine v_iload X dX2_planReel_138 6 rfl ?_
  refine v_iload X dX2_planReel_140 5 rfl ?_
  refine v_isub X dX2_planReel_142 ?_
  refine v_iadd X dX2_planReel_143 ?_
  obtain ⟨hb, h⟩ := h
  refine v_iast (o := 8) (k := 6) (n := 5) X oo8 kk8 rfl rfl rfl hb dX2_planReel_144 ?_
  refine v_st (fun S144 eS144 => ?_)
  have h := h S144 eS144
  refine v_aload_n X dX2_planReel_145 rfl 0 rfl ?_
  refine v_get (v := .ref (ad 8 15)) X f_X2_56 oo8 kk8 dX2_planReel_146 rfl ?_
  refine v_iload X dX2_planReel_149 4 rfl ?_
  refine v_iload X dX2_planReel_151 6 rfl ?_
  obtain ⟨hb, h⟩ := h
  refine v_iast (o := 8) (k := 14) (n := 5) X oo8 kk8 rfl rfl rfl hb dX2_planReel_153 ?_
  refine v_st (fun S153 eS153 => ?_)
  have h := h S153 eS153
  refine v_aload_n X dX2_planReel_154 rfl 0 rfl ?_
  refine v_get (v := .ref (ad 8 16)) X f_X2_59 oo8 kk8 dX2_planReel_155 rfl ?_
  refine v_iload X dX2_planReel_158 4 rfl ?_
  refine v_iload X dX2_planReel_160 3 rfl ?_
  obtain ⟨hb, h⟩ := h
  refine v_iast (o := 8) (k := 15) (n := 5) X oo8 kk8 rfl rfl rfl hb dX2_planReel_162 ?_
  refine v_st (fun S162 eS162 => ?_)
  have h := h S162 eS162
  refine v_aload_n X dX2_planReel_163 rfl 0 rfl ?_
  refine v_get (v := .ref (ad 8 13)) X f_X2_50 oo8 kk8 dX2_planReel_164 rfl ?_
  refine v_iload X dX2_planReel_167 2 rfl ?_
  refine v_iload X dX2_planReel_169 6 rfl ?_
  refine v_aload_n X dX2_planReel_171 rfl 1 rfl ?_
  refine v_get (v := .ref (ad o1 8)) X f_X2_135 ho1_11 ho1_k dX2_planReel_172 rfl ?_
  refine v_iconst (v := 2) X dX2_planReel_175 (by decide) ?_
  refine v_iald (o := o1) (k := 7) (n := 4) X ho1_11 ho1_k rfl rfl (j := 2) (by decide) (by unfold vp_in; decide) dX2_planReel_176 ?_
  refine v_iadd X dX2_planReel_177 ?_
  obtain ⟨hb, h⟩ := h
  refine v_iast (o := 8) (k := 12) (n := 24) X oo8 kk8 rfl rfl rfl hb dX2_planReel_178 ?_
  refine v_st (fun S178 eS178 => ?_)
  have h := h S178 eS178
  refine v_iload X dX2_planReel_179 6 rfl ?_
  exact v_iret X hr hlk dX2_planReel_181 h
def w_X2_planReel (o1 : Nat) (S : St) (x2 : Int32) (x3 : Int32) (x4 : Int32) (x5 : Int32) (K : Int32 → St → Prop) : Prop := (vp_in x2 6) ∧ (w_X3_reelPlace S (S o1 10 x2.toNatClampNeg) x3 (fun r7 => (vp_in r7 24) ∧ (∀ y19 : Int32, y19 = (S o1 2 r7.toNatClampNeg) → ((vp_in x2 6) ∧ (w_X2_bring o1 S r7 (S o1 9 x2.toNatClampNeg) (fun r31 S31 => w_X2_soonestMachine o1 S31 y19 r31 x4 x5 (fun r46 => w_X2_startOn o1 S31 r46 y19 r31 x4 (fun r61 => (vp_in r7 24) ∧ (w_X0_repairTime o1 S31 x2 x3 (fun r79 => ∀ y83 : Int32, y83 = ((r61 + (S31 o1 1 r7.toNatClampNeg)) + r79) → (w_X3_reelPlace S31 x2 x3 (fun r91 => (vp_in r91 36) ∧ (∀ S96 : St, S96 = up3 S31 8 1 r91.toNatClampNeg r61 → (w_X3_reelPlace S96 x2 x3 (fun r103 => (vp_in r103 36) ∧ (∀ S108 : St, S108 = up3 S96 8 2 r103.toNatClampNeg r46 → (w_X2_needsPlate S108 r46 y19 (fun r114 => ((r114 = 0) → (w_X2_planReel_130 o1 K S108 r7 y19 r46 r61 y83)) ∧ ((¬ r114 = 0) → (∀ S127 : St, S127 = up3 S108 8 8 0 ((S108 8 8 0) + 1) → (w_X2_planReel_130 o1 K S127 r7 y19 r46 r61 y83)))))))))))))))))))))
set_option maxHeartbeats 4000000 in
set_option maxRecDepth 100000 in
theorem c_X2_planReel (l : Launch) {D : va_G} {cA : Nat → ClassId} {ad : Nat → Nat → Nat} {A : Nat → Prop} (o1 : Nat) (ho1 : o1 < 7) (S : St) (x2 : Int32) (x3 : Int32) (x4 : Int32) (x5 : Int32) (K : Int32 → St → Prop) (h : w_X2_planReel o1 S x2 x3 x4 x5 K) : MT l yX2_planReel cX2_planReel 12 (some .int) 3 78 [.ref (ad 8 0), .ref (ad o1 0), .int x2, .int x3, .int x4, .int x5] D cA ad A S (Qi D cA ad A K) := by
  refine MT.ofV (by decide) (Nat.le_of_ble_eq_true rfl) ?_
  intro p e s m args below meth c X hr hlk
  have X : Cx p rm_X2_planReel m c cX2_planReel 12 s args RX2 0 0 D cA ad A := X
  refine v_lv [(0, .ref (ad 8 0)), (1, .ref (ad o1 0)), (2, .int x2), (3, .int x3), (4, .int x4), (5, .int x5)] rfl ?_
  unfold w_X2_planReel at h
  have ho1_11 : o1 < 11 := by omega
  have ho1_k : kd o1 = 0 := kd_day ho1
  refine v_aload_n X dX2_planReel_0 rfl 1 rfl ?_
  refine v_get (v := .ref (ad o1 11)) X f_X2_105 ho1_11 ho1_k dX2_planReel_1 rfl ?_
  refine v_iload_n X dX2_planReel_4 rfl 2 rfl ?_
  obtain ⟨hb, h⟩ := h
  refine v_iald (o := o1) (k := 10) (n := 6) X ho1_11 ho1_k rfl rfl rfl hb dX2_planReel_5 ?_
  refine v_iload_n X dX2_planReel_6 rfl 3 rfl ?_
  refine v_callSN (As := [.int (S o1 10 x2.toNatClampNeg), .int x3]) (rest := []) X (c_X3_reelPlace l S (S o1 10 x2.toNatClampNeg) x3 _ h) mw_X3_reelPlace st_reelPlace X.2.1.2.2.1 ⟨Nat.le_of_ble_eq_true rfl, Nat.le_of_ble_eq_true rfl⟩ rfl (Nat.le_of_ble_eq_true rfl) rfl dX2_planReel_7 (fun r7 S' hq => ?_)
  obtain ⟨hq1, h⟩ := hq
  rw [hq1]
  clear hq1
  refine v_istore X [(6, .int r7), (0, .ref (ad 8 0)), (1, .ref (ad o1 0)), (2, .int x2), (3, .int x3), (4, .int x4), (5, .int x5)] dX2_planReel_10 (by decide) rfl ?_
  refine v_aload_n X dX2_planReel_12 rfl 2 rfl ?_
  refine v_get (v := .ref (ad o1 3)) X f_X2_112 ho1_11 ho1_k dX2_planReel_13 rfl ?_
  refine v_iload X dX2_planReel_16 0 rfl ?_
  obtain ⟨hb, h⟩ := h
  refine v_iald (o := o1) (k := 2) (n := 24) X ho1_11 ho1_k rfl rfl rfl hb dX2_planReel_18 ?_
  refine v_topi (fun y19 ey19 => ?_)
  have h := h y19 ey19
  refine v_istore X [(7, .int y19), (6, .int r7), (0, .ref (ad 8 0)), (1, .ref (ad o1 0)), (2, .int x2), (3, .int x3), (4, .int x4), (5, .int x5)] dX2_planReel_19 (by decide) rfl ?_
  refine v_aload_n X dX2_planReel_21 rfl 2 rfl ?_
  refine v_aload_n X dX2_planReel_22 rfl 3 rfl ?_
  refine v_iload X dX2_planReel_23 1 rfl ?_
  refine v_aload_n X dX2_planReel_25 rfl 3 rfl ?_
  refine v_get (v := .ref (ad o1 10)) X f_X2_95 ho1_11 ho1_k dX2_planReel_26 rfl ?_
  refine v_iload_n X dX2_planReel_29 rfl 4 rfl ?_
  obtain ⟨hb, h⟩ := h
  refine v_iald (o := o1) (k := 9) (n := 6) X ho1_11 ho1_k rfl rfl rfl hb dX2_planReel_30 ?_
  refine v_callVi (o := 8) (ci := 2) (As := [.ref (ad o1 0), .int r7, .int (S o1 9 x2.toNatClampNeg)]) (rest := []) X (c_X2_bring l o1 ho1 S r7 (S o1 9 x2.toNatClampNeg) _ h) mw_X2_bring mv_X2_115 oo8 kk8 ⟨Nat.le_of_ble_eq_true rfl, Nat.le_of_ble_eq_true rfl⟩ rfl (Nat.le_of_ble_eq_true rfl) rfl dX2_planReel_31 (fun r31 S31 h => ?_)
  refine v_istore X [(8, .int r31), (7, .int y19), (6, .int r7), (0, .ref (ad 8 0)), (1, .ref (ad o1 0)), (2, .int x2), (3, .int x3), (4, .int x4), (5, .int x5)] dX2_planReel_34 (by decide) rfl ?_
  refine v_aload_n X dX2_planReel_36 rfl 3 rfl ?_
  refine v_aload_n X dX2_planReel_37 rfl 4 rfl ?_
  refine v_iload X dX2_planReel_38 1 rfl ?_
  refine v_iload X dX2_planReel_40 0 rfl ?_
  refine v_iload X dX2_planReel_42 7 rfl ?_
  refine v_iload X dX2_planReel_44 8 rfl ?_
  refine v_callVi (o := 8) (ci := 2) (As := [.ref (ad o1 0), .int y19, .int r31, .int x4, .int x5]) (rest := []) X (c_X2_soonestMachine l o1 ho1 S31 y19 r31 x4 x5 _ h) mw_X2_soonestMachine mv_X2_119 oo8 kk8 ⟨Nat.le_of_ble_eq_true rfl, Nat.le_of_ble_eq_true rfl⟩ rfl (Nat.le_of_ble_eq_true rfl) rfl dX2_planReel_46 (fun r46 S' hq => ?_)
  obtain ⟨hq1, h⟩ := hq
  rw [hq1]
  clear hq1
  refine v_istore X [(9, .int r46), (8, .int r31), (7, .int y19), (6, .int r7), (0, .ref (ad 8 0)), (1, .ref (ad o1 0)), (2, .int x2), (3, .int x3), (4, .int x4), (5, .int x5)] dX2_planReel_49 (by decide) rfl ?_
  refine v_aload_n X dX2_planReel_51 rfl 4 rfl ?_
  refine v_aload_n X dX2_planReel_52 rfl 5 rfl ?_
  refine v_iload X dX2_planReel_53 0 rfl ?_
  refine v_iload X dX2_planReel_55 2 rfl ?_
  refine v_iload X dX2_planReel_57 1 rfl ?_
  refine v_iload X dX2_planReel_59 8 rfl ?_
  refine v_callVi (o := 8) (ci := 2) (As := [.ref (ad o1 0), .int r46, .int y19, .int r31, .int x4]) (rest := []) X (c_X2_startOn l o1 ho1 S31 r46 y19 r31 x4 _ h) mw_X2_startOn mv_X2_122 oo8 kk8 ⟨Nat.le_of_ble_eq_true rfl, Nat.le_of_ble_eq_true rfl⟩ rfl (Nat.le_of_ble_eq_true rfl) rfl dX2_planReel_61 (fun r61 S' hq => ?_)
  obtain ⟨hq1, h⟩ := hq
  rw [hq1]
  clear hq1
  refine v_istore X [(10, .int r61), (9, .int r46), (8, .int r31), (7, .int y19), (6, .int r7), (0, .ref (ad 8 0)), (1, .ref (ad o1 0)), (2, .int x2), (3, .int x3), (4, .int x4), (5, .int x5)] dX2_planReel_64 (by decide) rfl ?_
  refine v_iload X dX2_planReel_66 0 rfl ?_
  refine v_aload_n X dX2_planReel_68 rfl 6 rfl ?_
  refine v_get (v := .ref (ad o1 2)) X f_X2_125 ho1_11 ho1_k dX2_planReel_69 rfl ?_
  refine v_iload X dX2_planReel_72 4 rfl ?_
  obtain ⟨hb, h⟩ := h
  refine v_iald (o := o1) (k := 1) (n := 24) X ho1_11 ho1_k rfl rfl rfl hb dX2_planReel_74 ?_
  refine v_iadd X dX2_planReel_75 ?_
  refine v_aload_n X dX2_planReel_76 rfl 6 rfl ?_
  refine v_iload_n X dX2_planReel_77 rfl 7 rfl ?_
  refine v_iload_n X dX2_planReel_78 rfl 8 rfl ?_
  refine v_callVi (o := o1) (ci := 0) (As := [.int x2, .int x3]) (rest := [.int (r61 + (S31 o1 1 r7.toNatClampNeg))]) X (c_X0_repairTime l o1 ho1 S31 x2 x3 _ h) mw_X0_repairTime mv_X2_128 ho1_11 ho1_k ⟨Nat.le_of_ble_eq_true rfl, Nat.le_of_ble_eq_true rfl⟩ rfl (Nat.le_of_ble_eq_true rfl) rfl dX2_planReel_79 (fun r79 S' hq => ?_)
  obtain ⟨hq1, h⟩ := hq
  rw [hq1]
  clear hq1
  refine v_iadd X dX2_planReel_82 ?_
  refine v_topi (fun y83 ey83 => ?_)
  have h := h y83 ey83
  refine v_istore X [(11, .int y83), (10, .int r61), (9, .int r46), (8, .int r31), (7, .int y19), (6, .int r7), (0, .ref (ad 8 0)), (1, .ref (ad o1 0)), (2, .int x2), (3, .int x3), (4, .int x4), (5, .int x5)] dX2_planReel_83 (by decide) rfl ?_
  refine v_aload_n X dX2_planReel_85 rfl 6 rfl ?_
  refine v_get (v := .ref (ad 8 2)) X f_X2_15 oo8 kk8 dX2_planReel_86 rfl ?_
  refine v_iload_n X dX2_planReel_89 rfl 8 rfl ?_
  refine v_iload_n X dX2_planReel_90 rfl 9 rfl ?_
  refine v_callSN (As := [.int x2, .int x3]) (rest := [.ref (ad 8 2)]) X (c_X3_reelPlace l S31 x2 x3 _ h) mw_X3_reelPlace st_reelPlace X.2.1.2.2.1 ⟨Nat.le_of_ble_eq_true rfl, Nat.le_of_ble_eq_true rfl⟩ rfl (Nat.le_of_ble_eq_true rfl) rfl dX2_planReel_91 (fun r91 S' hq => ?_)
  obtain ⟨hq1, h⟩ := hq
  rw [hq1]
  clear hq1
  refine v_iload X dX2_planReel_94 1 rfl ?_
  obtain ⟨hb, h⟩ := h
  refine v_iast (o := 8) (k := 1) (n := 36) X oo8 kk8 rfl rfl rfl hb dX2_planReel_96 ?_
  refine v_st (fun S96 eS96 => ?_)
  have h := h S96 eS96
  refine v_aload_n X dX2_planReel_97 rfl 6 rfl ?_
  refine v_get (v := .ref (ad 8 3)) X f_X2_19 oo8 kk8 dX2_planReel_98 rfl ?_
  refine v_iload_n X dX2_planReel_101 rfl 8 rfl ?_
  refine v_iload_n X dX2_planReel_102 rfl 9 rfl ?_
  refine v_callSN (As := [.int x2, .int x3]) (rest := [.ref (ad 8 3)]) X (c_X3_reelPlace l S96 x2 x3 _ h) mw_X3_reelPlace st_reelPlace X.2.1.2.2.1 ⟨Nat.le_of_ble_eq_true rfl, Nat.le_of_ble_eq_true rfl⟩ rfl (Nat.le_of_ble_eq_true rfl) rfl dX2_planReel_103 (fun r103 S' hq => ?_)
  obtain ⟨hq1, h⟩ := hq
  rw [hq1]
  clear hq1
  refine v_iload X dX2_planReel_106 2 rfl ?_
  obtain ⟨hb, h⟩ := h
  refine v_iast (o := 8) (k := 2) (n := 36) X oo8 kk8 rfl rfl rfl hb dX2_planReel_108 ?_
  refine v_st (fun S108 eS108 => ?_)
  have h := h S108 eS108
  refine v_aload_n X dX2_planReel_109 rfl 6 rfl ?_
  refine v_iload X dX2_planReel_110 2 rfl ?_
  refine v_iload X dX2_planReel_112 4 rfl ?_
  refine v_callVz (o := 8) (ci := 2) (As := [.int r46, .int y19]) (rest := []) X (c_X2_needsPlate l S108 r46 y19 _ h) mw_X2_needsPlate mv_X2_131 oo8 kk8 ⟨Nat.le_of_ble_eq_true rfl, Nat.le_of_ble_eq_true rfl⟩ rfl (Nat.le_of_ble_eq_true rfl) rfl dX2_planReel_114 (fun r114 S' hq hz114 => ?_)
  obtain ⟨hq1, h⟩ := hq
  rw [hq1]
  clear hq1
  refine v_if_eq X 130 dX2_planReel_117 (by decide) (fun hc117 => ?_) (fun hc117 => ?_)
  · have h := h.1 hc117
    refine v_sub [6, 7, 5, 4, 2, 1, 0] rfl ?_
    exact t_X2_planReel_130 o1 ho1 X hr hlk h
  · have h := h.2 hc117
    refine v_aload_n X dX2_planReel_120 rfl 6 rfl ?_
    refine v_dup X dX2_planReel_121 rfl ?_
    refine v_get (v := .int (S108 8 8 0)) X f_X2_38 oo8 kk8 dX2_planReel_122 rfl ?_
    refine v_iconst (v := 1) X dX2_planReel_125 (by decide) ?_
    refine v_iadd X dX2_planReel_126 ?_
    refine v_put (o := 8) X f_X2_38 oo8 kk8 rfl dX2_planReel_127 ?_
    refine v_st (fun S127 eS127 => ?_)
    have h := h S127 eS127
    refine v_sub [6, 7, 5, 4, 2, 1, 0] rfl ?_
    exact t_X2_planReel_130 o1 ho1 X hr hlk h
abbrev rm_X2_planShow : Room := { frames := 4, cells := 0, slots := 0, locals := 109 }
def w_X2_planShow_83 (o1 : Nat) (K : St → Prop) (S : St) (x2 : Int32) (x3 : Int32) (x4 : Int32) (x5 : Int32) (x6 : Int32) : Prop := ∃ I : Nat → St → Int32 → Int32 → Prop, (∃ n : Nat, I n S x4 x6) ∧ ∀ (n : Nat) (S : St) (x4 : Int32) (x6 : Int32), I n S x4 x6 → (((x5 ≤ x6) → ((vp_in x2 6) ∧ (∀ S163 : St, S163 = up3 S 8 3 x2.toNatClampNeg x4 → ((vp_in x2 6) ∧ ((vp_in x2 6) ∧ (∀ S183 : St, S183 = up3 S163 8 9 0 ((S163 8 9 0) + ((S163 8 4 x2.toNatClampNeg) + (S163 8 5 x2.toNatClampNeg))) → (K S183))))))) ∧ ((¬ x5 ≤ x6) → (w_X2_planReel o1 S x2 x6 x4 x3 (fun r98 S98 => w_X3_reelPlace S98 x2 x6 (fun r110 => (vp_in r110 36) ∧ (∀ y117 : Int32, y117 = ((S98 8 1 r110.toNatClampNeg) - x4) → (((¬ x6 = 0) → ((vp_in x2 6) ∧ ((vp_in x2 6) ∧ (∀ S145 : St, S145 = up3 S98 8 5 x2.toNatClampNeg ((S98 8 5 x2.toNatClampNeg) + y117) → (∀ y150 : Int32, y150 = x6 + 1 → (∃ n' : Nat, n' < n ∧ I n' S145 r98 y150)))))) ∧ ((x6 = 0) → ((vp_in x2 6) ∧ (∀ S131 : St, S131 = up3 S98 8 4 x2.toNatClampNeg y117 → (∀ y150 : Int32, y150 = x6 + 1 → (∃ n' : Nat, n' < n ∧ I n' S131 r98 y150))))))))))))
set_option maxHeartbeats 4000000 in
set_option maxRecDepth 100000 in
theorem t_X2_planShow_83 {p : Program} {l : Launch} {e : Env} {s : State} {m : MethodId} {args : Array Value} {below : List Frame} {meth : Method} {c : Code} {D : va_G} {cA : Nat → ClassId} {ad : Nat → Nat → Nat} {A : Nat → Prop} (o1 : Nat) (ho1 : o1 < 7) {K : St → Prop} {S : St} {x2 : Int32} {x3 : Int32} {x4 : Int32} {x5 : Int32} {x6 : Int32} (X : Cx p rm_X2_planShow m c cX2_planShow 9 s args RX2 0 0 D cA ad A) (hr : meth.sig.returnType = none) (hlk : meth.locks = false) (h : w_X2_planShow_83 o1 K S x2 x3 x4 x5 x6) : VV p l e rm_X2_planShow s m args below meth c 0 0 (MQ below (Qv D cA ad A K) args s 0 0 A) D cA ad A 9 S 83 [(0, .ref (ad 8 0)), (1, .ref (ad o1 0)), (2, .int x2), (3, .int x3), (4, .int x4), (5, .int x5), (6, .int x6)] [] := by
  have ho1_11 : o1 < 11 := by omega
  have ho1_k : kd o1 = 0 := kd_day ho1
  obtain ⟨I, ⟨n, hI⟩, hbody⟩ := h
  suffices key : ∀ (n : Nat) (S : St) (x4 : Int32) (x6 : Int32), I n S x4 x6 → VV p l e rm_X2_planShow s m args below meth c 0 0 (MQ below (Qv D cA ad A K) args s 0 0 A) D cA ad A 9 S 83 [(0, .ref (ad 8 0)), (1, .ref (ad o1 0)), (2, .int x2), (3, .int x3), (4, .int x4), (5, .int x5), (6, .int x6)] [] from key n S x4 x6 hI
  clear hI
  intro n
  induction n using Nat.strongRecOn with
  | ind n ih =>
    intro S x4 x6 hI
    have h := hbody n S x4 x6 hI
    clear hI
    refine v_iload X dX2_planShow_83 6 rfl ?_
    refine v_iload X dX2_planShow_85 5 rfl ?_
    refine v_icmp_ge X 156 dX2_planShow_87 (by decide) (fun hc87 => ?_) (fun hc87 => ?_)
    · have h := h.1 hc87
      refine v_aload_n X dX2_planShow_156 rfl 0 rfl ?_
      refine v_get (v := .ref (ad 8 4)) X f_X2_22 oo8 kk8 dX2_planShow_157 rfl ?_
      refine v_iload_n X dX2_planShow_160 rfl 2 rfl ?_
      refine v_iload X dX2_planShow_161 4 rfl ?_
      obtain ⟨hb, h⟩ := h
      refine v_iast (o := 8) (k := 3) (n := 6) X oo8 kk8 rfl rfl rfl hb dX2_planShow_163 ?_
      refine v_st (fun S163 eS163 => ?_)
      have h := h S163 eS163
      refine v_aload_n X dX2_planShow_164 rfl 0 rfl ?_
      refine v_dup X dX2_planShow_165 rfl ?_
      refine v_get (v := .int (S163 8 9 0)) X f_X2_41 oo8 kk8 dX2_planShow_166 rfl ?_
      refine v_aload_n X dX2_planShow_169 rfl 0 rfl ?_
      refine v_get (v := .ref (ad 8 5)) X f_X2_25 oo8 kk8 dX2_planShow_170 rfl ?_
      refine v_iload_n X dX2_planShow_173 rfl 2 rfl ?_
      obtain ⟨hb, h⟩ := h
      refine v_iald (o := 8) (k := 4) (n := 6) X oo8 kk8 rfl rfl rfl hb dX2_planShow_174 ?_
      refine v_aload_n X dX2_planShow_175 rfl 0 rfl ?_
      refine v_get (v := .ref (ad 8 6)) X f_X2_28 oo8 kk8 dX2_planShow_176 rfl ?_
      refine v_iload_n X dX2_planShow_179 rfl 2 rfl ?_
      obtain ⟨hb, h⟩ := h
      refine v_iald (o := 8) (k := 5) (n := 6) X oo8 kk8 rfl rfl rfl hb dX2_planShow_180 ?_
      refine v_iadd X dX2_planShow_181 ?_
      refine v_iadd X dX2_planShow_182 ?_
      refine v_put (o := 8) X f_X2_41 oo8 kk8 rfl dX2_planShow_183 ?_
      refine v_st (fun S183 eS183 => ?_)
      have h := h S183 eS183
      exact v_vret X hr hlk dX2_planShow_186 h
    · have h := h.2 hc87
      refine v_aload_n X dX2_planShow_90 rfl 0 rfl ?_
      refine v_aload_n X dX2_planShow_91 rfl 1 rfl ?_
      refine v_iload_n X dX2_planShow_92 rfl 2 rfl ?_
      refine v_iload X dX2_planShow_93 6 rfl ?_
      refine v_iload X dX2_planShow_95 4 rfl ?_
      refine v_iload_n X dX2_planShow_97 rfl 3 rfl ?_
      refine v_callVi (o := 8) (ci := 2) (As := [.ref (ad o1 0), .int x2, .int x6, .int x4, .int x3]) (rest := []) X (c_X2_planReel l o1 ho1 S x2 x6 x4 x3 _ h) mw_X2_planReel mv_X2_108 oo8 kk8 ⟨Nat.le_of_ble_eq_true rfl, Nat.le_of_ble_eq_true rfl⟩ rfl (Nat.le_of_ble_eq_true rfl) rfl dX2_planShow_98 (fun r98 S98 h => ?_)
      refine v_istore X [(7, .int r98), (0, .ref (ad 8 0)), (1, .ref (ad o1 0)), (2, .int x2), (3, .int x3), (4, .int x4), (5, .int x5), (6, .int x6)] dX2_planShow_101 (by decide) rfl ?_
      refine v_aload_n X dX2_planShow_103 rfl 1 rfl ?_
      refine v_get (v := .ref (ad 8 2)) X f_X2_15 oo8 kk8 dX2_planShow_104 rfl ?_
      refine v_iload_n X dX2_planShow_107 rfl 3 rfl ?_
      refine v_iload X dX2_planShow_108 7 rfl ?_
      refine v_callSN (As := [.int x2, .int x6]) (rest := [.ref (ad 8 2)]) X (c_X3_reelPlace l S98 x2 x6 _ h) mw_X3_reelPlace st_reelPlace X.2.1.2.2.1 ⟨Nat.le_of_ble_eq_true rfl, Nat.le_of_ble_eq_true rfl⟩ rfl (Nat.le_of_ble_eq_true rfl) rfl dX2_planShow_110 (fun r110 S' hq => ?_)
      obtain ⟨hq1, h⟩ := hq
      rw [hq1]
      clear hq1
      obtain ⟨hb, h⟩ := h
      refine v_iald (o := 8) (k := 1) (n := 36) X oo8 kk8 rfl rfl rfl hb dX2_planShow_113 ?_
      refine v_iload X dX2_planShow_114 5 rfl ?_
      refine v_isub X dX2_planShow_116 ?_
      refine v_topi (fun y117 ey117 => ?_)
      have h := h y117 ey117
      refine v_istore X [(8, .int y117), (7, .int r98), (0, .ref (ad 8 0)), (1, .ref (ad o1 0)), (2, .int x2), (3, .int x3), (4, .int x4), (5, .int x5), (6, .int x6)] dX2_planShow_117 (by decide) rfl ?_
      refine v_iload X dX2_planShow_119 8 rfl ?_
      refine v_if_ne X 135 dX2_planShow_121 (by decide) (fun hc121 => ?_) (fun hc121 => ?_)
      · have h := h.1 hc121
        refine v_aload_n X dX2_planShow_135 rfl 2 rfl ?_
        refine v_get (v := .ref (ad 8 6)) X f_X2_28 oo8 kk8 dX2_planShow_136 rfl ?_
        refine v_iload_n X dX2_planShow_139 rfl 4 rfl ?_
        refine v_dup2 X dX2_planShow_140 rfl rfl ?_
        obtain ⟨hb, h⟩ := h
        refine v_iald (o := 8) (k := 5) (n := 6) X oo8 kk8 rfl rfl rfl hb dX2_planShow_141 ?_
        refine v_iload X dX2_planShow_142 0 rfl ?_
        refine v_iadd X dX2_planShow_144 ?_
        obtain ⟨hb, h⟩ := h
        refine v_iast (o := 8) (k := 5) (n := 6) X oo8 kk8 rfl rfl rfl hb dX2_planShow_145 ?_
        refine v_st (fun S145 eS145 => ?_)
        have h := h S145 eS145
        refine v_iload X dX2_planShow_146 1 rfl ?_
        refine v_istore X [(4, .int r98), (8, .int y117), (7, .int r98), (0, .ref (ad 8 0)), (1, .ref (ad o1 0)), (2, .int x2), (3, .int x3), (5, .int x5), (6, .int x6)] dX2_planShow_148 (by decide) rfl ?_
        obtain ⟨y150, ey150⟩ : ∃ z : Int32, z = x6 + 1 := ⟨_, rfl⟩
        have h := h y150 ey150
        refine v_iinc (v := y150) X [(6, .int y150), (4, .int r98), (8, .int y117), (7, .int r98), (0, .ref (ad 8 0)), (1, .ref (ad o1 0)), (2, .int x2), (3, .int x3), (5, .int x5)] dX2_planShow_150 8 rfl (by rw [ey150]; rfl) (by decide) rfl ?_
        refine v_goto X 83 dX2_planShow_153 (by decide) ?_
        obtain ⟨n', hlt, h⟩ := h
        refine v_sub [4, 5, 6, 7, 1, 8, 0] rfl ?_
        exact ih n' hlt _ _ _ h
      · have h := h.2 hc121
        refine v_aload_n X dX2_planShow_124 rfl 2 rfl ?_
        refine v_get (v := .ref (ad 8 5)) X f_X2_25 oo8 kk8 dX2_planShow_125 rfl ?_
        refine v_iload_n X dX2_planShow_128 rfl 4 rfl ?_
        refine v_iload X dX2_planShow_129 0 rfl ?_
        obtain ⟨hb, h⟩ := h
        refine v_iast (o := 8) (k := 4) (n := 6) X oo8 kk8 rfl rfl rfl hb dX2_planShow_131 ?_
        refine v_st (fun S131 eS131 => ?_)
        have h := h S131 eS131
        refine v_goto X 146 dX2_planShow_132 (by decide) ?_
        refine v_iload X dX2_planShow_146 1 rfl ?_
        refine v_istore X [(4, .int r98), (8, .int y117), (7, .int r98), (0, .ref (ad 8 0)), (1, .ref (ad o1 0)), (2, .int x2), (3, .int x3), (5, .int x5), (6, .int x6)] dX2_planShow_148 (by decide) rfl ?_
        obtain ⟨y150, ey150⟩ : ∃ z : Int32, z = x6 + 1 := ⟨_, rfl⟩
        have h := h y150 ey150
        refine v_iinc (v := y150) X [(6, .int y150), (4, .int r98), (8, .int y117), (7, .int r98), (0, .ref (ad 8 0)), (1, .ref (ad o1 0)), (2, .int x2), (3, .int x3), (5, .int x5)] dX2_planShow_150 8 rfl (by rw [ey150]; rfl) (by decide) rfl ?_
        refine v_goto X 83 dX2_planShow_153 (by decide) ?_
        obtain ⟨n', hlt, h⟩ := h
        refine v_sub [4, 5, 6, 7, 1, 8, 0] rfl ?_
        exact ih n' hlt _ _ _ h
def w_X2_planShow_26 (o1 : Nat) (K : St → Prop) (S : St) (x2 : Int32) (x3 : Int32) (t0 : Int32) (t1 : Int32) : Prop := (zb t0) ∧ ((vp_in t1 6) ∧ (∀ S26 : St, S26 = up3 S 8 0 t1.toNatClampNeg t0 → ((vp_in x2 6) ∧ (∀ S33 : St, S33 = up3 S26 8 4 x2.toNatClampNeg 0 → ((vp_in x2 6) ∧ (∀ S40 : St, S40 = up3 S33 8 5 x2.toNatClampNeg 0 → (((¬ x3 = (-1)) → ((vp_in x2 6) ∧ (∀ y65 : Int32, y65 = (S40 o1 11 x2.toNatClampNeg) → ((vp_in x2 6) ∧ ((vp_in (S40 o1 10 x2.toNatClampNeg) 4) ∧ (∀ y78 : Int32, y78 = (S40 o1 0 (S40 o1 10 x2.toNatClampNeg).toNatClampNeg) → (w_X2_planShow_83 o1 K S40 x2 x3 y65 y78 0))))))) ∧ ((x3 = (-1)) → (∀ S55 : St, S55 = up3 S40 8 9 0 ((S40 8 9 0) + 1000) → (K S55))))))))))
set_option maxHeartbeats 4000000 in
set_option maxRecDepth 100000 in
theorem t_X2_planShow_26 {p : Program} {l : Launch} {e : Env} {s : State} {m : MethodId} {args : Array Value} {below : List Frame} {meth : Method} {c : Code} {D : va_G} {cA : Nat → ClassId} {ad : Nat → Nat → Nat} {A : Nat → Prop} (o1 : Nat) (ho1 : o1 < 7) {K : St → Prop} {S : St} {x2 : Int32} {x3 : Int32} {t0 : Int32} {t1 : Int32} (X : Cx p rm_X2_planShow m c cX2_planShow 9 s args RX2 0 0 D cA ad A) (hr : meth.sig.returnType = none) (hlk : meth.locks = false) (h : w_X2_planShow_26 o1 K S x2 x3 t0 t1) : VV p l e rm_X2_planShow s m args below meth c 0 0 (MQ below (Qv D cA ad A K) args s 0 0 A) D cA ad A 9 S 26 [(0, .ref (ad 8 0)), (1, .ref (ad o1 0)), (2, .int x2), (3, .int x3)] [.int t0, .int t1, .ref (ad 8 1)] := by
  unfold w_X2_planShow_26 at h
  have ho1_11 : o1 < 11 := by omega
  have ho1_k : kd o1 = 0 := kd_day ho1
  obtain ⟨hz, h⟩ := h
  obtain ⟨hb, h⟩ := h
  refine v_zast (o := 8) (k := 0) (n := 6) X oo8 kk8 rfl rfl hz rfl hb dX2_planShow_26 ?_
  refine v_st (fun S26 eS26 => ?_)
  have h := h S26 eS26
  refine v_aload_n X dX2_planShow_27 rfl 0 rfl ?_
  refine v_get (v := .ref (ad 8 5)) X f_X2_25 oo8 kk8 dX2_planShow_28 rfl ?_
  refine v_iload_n X dX2_planShow_31 rfl 2 rfl ?_
  refine v_iconst (v := 0) X dX2_planShow_32 (by decide) ?_
  obtain ⟨hb, h⟩ := h
  refine v_iast (o := 8) (k := 4) (n := 6) X oo8 kk8 rfl rfl rfl hb dX2_planShow_33 ?_
  refine v_st (fun S33 eS33 => ?_)
  have h := h S33 eS33
  refine v_aload_n X dX2_planShow_34 rfl 0 rfl ?_
  refine v_get (v := .ref (ad 8 6)) X f_X2_28 oo8 kk8 dX2_planShow_35 rfl ?_
  refine v_iload_n X dX2_planShow_38 rfl 2 rfl ?_
  refine v_iconst (v := 0) X dX2_planShow_39 (by decide) ?_
  obtain ⟨hb, h⟩ := h
  refine v_iast (o := 8) (k := 5) (n := 6) X oo8 kk8 rfl rfl rfl hb dX2_planShow_40 ?_
  refine v_st (fun S40 eS40 => ?_)
  have h := h S40 eS40
  refine v_iload_n X dX2_planShow_41 rfl 3 rfl ?_
  refine v_iconst (v := (-1)) X dX2_planShow_42 (by decide) ?_
  refine v_icmp_ne X 59 dX2_planShow_43 (by decide) (fun hc43 => ?_) (fun hc43 => ?_)
  · have h := h.1 hc43
    refine v_aload_n X dX2_planShow_59 rfl 1 rfl ?_
    refine v_get (v := .ref (ad o1 12)) X f_X2_92 ho1_11 ho1_k dX2_planShow_60 rfl ?_
    refine v_iload_n X dX2_planShow_63 rfl 2 rfl ?_
    obtain ⟨hb, h⟩ := h
    refine v_iald (o := o1) (k := 11) (n := 6) X ho1_11 ho1_k rfl rfl rfl hb dX2_planShow_64 ?_
    refine v_topi (fun y65 ey65 => ?_)
    have h := h y65 ey65
    refine v_istore X [(4, .int y65), (0, .ref (ad 8 0)), (1, .ref (ad o1 0)), (2, .int x2), (3, .int x3)] dX2_planShow_65 (by decide) rfl ?_
    refine v_aload_n X dX2_planShow_67 rfl 2 rfl ?_
    refine v_get (v := .ref (ad o1 1)) X f_X2_102 ho1_11 ho1_k dX2_planShow_68 rfl ?_
    refine v_aload_n X dX2_planShow_71 rfl 2 rfl ?_
    refine v_get (v := .ref (ad o1 11)) X f_X2_105 ho1_11 ho1_k dX2_planShow_72 rfl ?_
    refine v_iload_n X dX2_planShow_75 rfl 3 rfl ?_
    obtain ⟨hb, h⟩ := h
    refine v_iald (o := o1) (k := 10) (n := 6) X ho1_11 ho1_k rfl rfl rfl hb dX2_planShow_76 ?_
    obtain ⟨hb, h⟩ := h
    refine v_iald (o := o1) (k := 0) (n := 4) X ho1_11 ho1_k rfl rfl rfl hb dX2_planShow_77 ?_
    refine v_topi (fun y78 ey78 => ?_)
    have h := h y78 ey78
    refine v_istore X [(5, .int y78), (4, .int y65), (0, .ref (ad 8 0)), (1, .ref (ad o1 0)), (2, .int x2), (3, .int x3)] dX2_planShow_78 (by decide) rfl ?_
    refine v_iconst (v := 0) X dX2_planShow_80 (by decide) ?_
    refine v_istore X [(6, .int 0), (5, .int y78), (4, .int y65), (0, .ref (ad 8 0)), (1, .ref (ad o1 0)), (2, .int x2), (3, .int x3)] dX2_planShow_81 (by decide) rfl ?_
    refine v_sub [3, 4, 5, 6, 2, 1, 0] rfl ?_
    exact t_X2_planShow_83 o1 ho1 X hr hlk h
  · have h := h.2 hc43
    refine v_aload_n X dX2_planShow_46 rfl 0 rfl ?_
    refine v_dup X dX2_planShow_47 rfl ?_
    refine v_get (v := .int (S40 8 9 0)) X f_X2_41 oo8 kk8 dX2_planShow_48 rfl ?_
    refine v_sipush (v := 1000) X dX2_planShow_51 (by decide) ?_
    refine v_iadd X dX2_planShow_54 ?_
    refine v_put (o := 8) X f_X2_41 oo8 kk8 rfl dX2_planShow_55 ?_
    refine v_st (fun S55 eS55 => ?_)
    have h := h S55 eS55
    exact v_vret X hr hlk dX2_planShow_58 h
def w_X2_planShow (o1 : Nat) (S : St) (x2 : Int32) (K : St → Prop) : Prop := (vp_in x2 6) ∧ (w_X0_firstMachineIn o1 S (S o1 9 x2.toNatClampNeg) (fun r7 => ((r7 = (-1)) → (w_X2_planShow_26 o1 K S x2 r7 0 x2)) ∧ ((¬ r7 = (-1)) → (w_X2_planShow_26 o1 K S x2 r7 1 x2))))
set_option maxHeartbeats 4000000 in
set_option maxRecDepth 100000 in
theorem c_X2_planShow (l : Launch) {D : va_G} {cA : Nat → ClassId} {ad : Nat → Nat → Nat} {A : Nat → Prop} (o1 : Nat) (ho1 : o1 < 7) (S : St) (x2 : Int32) (K : St → Prop) (h : w_X2_planShow o1 S x2 K) : MT l yX2_planShow cX2_planShow 9 none 4 109 [.ref (ad 8 0), .ref (ad o1 0), .int x2] D cA ad A S (Qv D cA ad A K) := by
  refine MT.ofV (by decide) (Nat.le_of_ble_eq_true rfl) ?_
  intro p e s m args below meth c X hr hlk
  have X : Cx p rm_X2_planShow m c cX2_planShow 9 s args RX2 0 0 D cA ad A := X
  refine v_lv [(0, .ref (ad 8 0)), (1, .ref (ad o1 0)), (2, .int x2)] rfl ?_
  unfold w_X2_planShow at h
  have ho1_11 : o1 < 11 := by omega
  have ho1_k : kd o1 = 0 := kd_day ho1
  refine v_aload_n X dX2_planShow_0 rfl 1 rfl ?_
  refine v_aload_n X dX2_planShow_1 rfl 1 rfl ?_
  refine v_get (v := .ref (ad o1 10)) X f_X2_95 ho1_11 ho1_k dX2_planShow_2 rfl ?_
  refine v_iload_n X dX2_planShow_5 rfl 2 rfl ?_
  obtain ⟨hb, h⟩ := h
  refine v_iald (o := o1) (k := 9) (n := 6) X ho1_11 ho1_k rfl rfl rfl hb dX2_planShow_6 ?_
  refine v_callVi (o := o1) (ci := 0) (As := [.int (S o1 9 x2.toNatClampNeg)]) (rest := []) X (c_X0_firstMachineIn l o1 ho1 S (S o1 9 x2.toNatClampNeg) _ h) mw_X0_firstMachineIn mv_X2_98 ho1_11 ho1_k ⟨Nat.le_of_ble_eq_true rfl, Nat.le_of_ble_eq_true rfl⟩ rfl (Nat.le_of_ble_eq_true rfl) rfl dX2_planShow_7 (fun r7 S' hq => ?_)
  obtain ⟨hq1, h⟩ := hq
  rw [hq1]
  clear hq1
  refine v_istore_n X [(3, .int r7), (0, .ref (ad 8 0)), (1, .ref (ad o1 0)), (2, .int x2)] dX2_planShow_10 rfl (by decide) rfl ?_
  refine v_aload_n X dX2_planShow_11 rfl 1 rfl ?_
  refine v_get (v := .ref (ad 8 1)) X f_X2_9 oo8 kk8 dX2_planShow_12 rfl ?_
  refine v_iload_n X dX2_planShow_15 rfl 3 rfl ?_
  refine v_iload_n X dX2_planShow_16 rfl 0 rfl ?_
  refine v_iconst (v := (-1)) X dX2_planShow_17 (by decide) ?_
  refine v_icmp_eq X 25 dX2_planShow_18 (by decide) (fun hc18 => ?_) (fun hc18 => ?_)
  · have h := h.1 hc18
    refine v_iconst (v := 0) X dX2_planShow_25 (by decide) ?_
    refine v_sub [1, 2, 3, 0] rfl ?_
    exact t_X2_planShow_26 o1 ho1 X hr hlk h
  · have h := h.2 hc18
    refine v_iconst (v := 1) X dX2_planShow_21 (by decide) ?_
    refine v_goto X 26 dX2_planShow_22 (by decide) ?_
    refine v_sub [1, 2, 3, 0] rfl ?_
    exact t_X2_planShow_26 o1 ho1 X hr hlk h
abbrev rm_X2_make : Room := { frames := 5, cells := 0, slots := 0, locals := 137 }
def w_X2_make_7 (o1 : Nat) (K : St → Prop) (S : St) (x2 : Int32) : Prop := ∃ I : Nat → St → Int32 → Prop, (∃ n : Nat, I n S x2) ∧ ∀ (n : Nat) (S : St) (x2 : Int32), I n S x2 → ((((S o1 8 0) ≤ x2) → (K S)) ∧ ((¬ (S o1 8 0) ≤ x2) → ((vp_in x2 6) ∧ (w_X2_planShow o1 S (S 8 10 x2.toNatClampNeg) (fun S23 => ∀ y26 : Int32, y26 = x2 + 1 → (∃ n' : Nat, n' < n ∧ I n' S23 y26))))))
set_option maxHeartbeats 4000000 in
set_option maxRecDepth 100000 in
theorem t_X2_make_7 {p : Program} {l : Launch} {e : Env} {s : State} {m : MethodId} {args : Array Value} {below : List Frame} {meth : Method} {c : Code} {D : va_G} {cA : Nat → ClassId} {ad : Nat → Nat → Nat} {A : Nat → Prop} (o1 : Nat) (ho1 : o1 < 7) {K : St → Prop} {S : St} {x2 : Int32} (X : Cx p rm_X2_make m c cX2_make 3 s args RX2 0 0 D cA ad A) (hr : meth.sig.returnType = none) (hlk : meth.locks = false) (h : w_X2_make_7 o1 K S x2) : VV p l e rm_X2_make s m args below meth c 0 0 (MQ below (Qv D cA ad A K) args s 0 0 A) D cA ad A 3 S 7 [(0, .ref (ad 8 0)), (1, .ref (ad o1 0)), (2, .int x2)] [] := by
  have ho1_11 : o1 < 11 := by omega
  have ho1_k : kd o1 = 0 := kd_day ho1
  obtain ⟨I, ⟨n, hI⟩, hbody⟩ := h
  suffices key : ∀ (n : Nat) (S : St) (x2 : Int32), I n S x2 → VV p l e rm_X2_make s m args below meth c 0 0 (MQ below (Qv D cA ad A K) args s 0 0 A) D cA ad A 3 S 7 [(0, .ref (ad 8 0)), (1, .ref (ad o1 0)), (2, .int x2)] [] from key n S x2 hI
  clear hI
  intro n
  induction n using Nat.strongRecOn with
  | ind n ih =>
    intro S x2 hI
    have h := hbody n S x2 hI
    clear hI
    refine v_iload_n X dX2_make_7 rfl 2 rfl ?_
    refine v_aload_n X dX2_make_8 rfl 1 rfl ?_
    refine v_get (v := .int (S o1 8 0)) X f_X2_66 ho1_11 ho1_k dX2_make_9 rfl ?_
    refine v_icmp_ge X 32 dX2_make_12 (by decide) (fun hc12 => ?_) (fun hc12 => ?_)
    · have h := h.1 hc12
      exact v_vret X hr hlk dX2_make_32 h
    · have h := h.2 hc12
      refine v_aload_n X dX2_make_15 rfl 0 rfl ?_
      refine v_aload_n X dX2_make_16 rfl 1 rfl ?_
      refine v_aload_n X dX2_make_17 rfl 0 rfl ?_
      refine v_get (v := .ref (ad 8 11)) X f_X2_44 oo8 kk8 dX2_make_18 rfl ?_
      refine v_iload_n X dX2_make_21 rfl 2 rfl ?_
      obtain ⟨hb, h⟩ := h
      refine v_iald (o := 8) (k := 10) (n := 6) X oo8 kk8 rfl rfl rfl hb dX2_make_22 ?_
      refine v_callVv (o := 8) (ci := 2) (As := [.ref (ad o1 0), .int (S 8 10 x2.toNatClampNeg)]) (rest := []) X (c_X2_planShow l o1 ho1 S (S 8 10 x2.toNatClampNeg) _ h) mw_X2_planShow mv_X2_71 oo8 kk8 ⟨Nat.le_of_ble_eq_true rfl, Nat.le_of_ble_eq_true rfl⟩ rfl (Nat.le_of_ble_eq_true rfl) rfl dX2_make_23 (fun S23 h => ?_)
      obtain ⟨y26, ey26⟩ : ∃ z : Int32, z = x2 + 1 := ⟨_, rfl⟩
      have h := h y26 ey26
      refine v_iinc (v := y26) X [(2, .int y26), (0, .ref (ad 8 0)), (1, .ref (ad o1 0))] dX2_make_26 2 rfl (by rw [ey26]; rfl) (by decide) rfl ?_
      refine v_goto X 7 dX2_make_29 (by decide) ?_
      obtain ⟨n', hlt, h⟩ := h
      refine v_sub [1, 2, 0] rfl ?_
      exact ih n' hlt _ _ h
def w_X2_make (o1 : Nat) (S : St) (K : St → Prop) : Prop := w_X2_open o1 S (fun S2 => w_X2_make_7 o1 K S2 0)
set_option maxHeartbeats 4000000 in
set_option maxRecDepth 100000 in
theorem c_X2_make (l : Launch) {D : va_G} {cA : Nat → ClassId} {ad : Nat → Nat → Nat} {A : Nat → Prop} (o1 : Nat) (ho1 : o1 < 7) (S : St) (K : St → Prop) (h : w_X2_make o1 S K) : MT l yX2_make cX2_make 3 none 5 137 [.ref (ad 8 0), .ref (ad o1 0)] D cA ad A S (Qv D cA ad A K) := by
  refine MT.ofV (by decide) (Nat.le_of_ble_eq_true rfl) ?_
  intro p e s m args below meth c X hr hlk
  have X : Cx p rm_X2_make m c cX2_make 3 s args RX2 0 0 D cA ad A := X
  refine v_lv [(0, .ref (ad 8 0)), (1, .ref (ad o1 0))] rfl ?_
  unfold w_X2_make at h
  have ho1_11 : o1 < 11 := by omega
  have ho1_k : kd o1 = 0 := kd_day ho1
  refine v_aload_n X dX2_make_0 rfl 0 rfl ?_
  refine v_aload_n X dX2_make_1 rfl 1 rfl ?_
  refine v_callVv (o := 8) (ci := 2) (As := [.ref (ad o1 0)]) (rest := []) X (c_X2_open l o1 ho1 S _ h) mw_X2_open mv_X2_62 oo8 kk8 ⟨Nat.le_of_ble_eq_true rfl, Nat.le_of_ble_eq_true rfl⟩ rfl (Nat.le_of_ble_eq_true rfl) rfl dX2_make_2 (fun S2 h => ?_)
  refine v_iconst (v := 0) X dX2_make_5 (by decide) ?_
  refine v_istore_n X [(2, .int 0), (0, .ref (ad 8 0)), (1, .ref (ad o1 0))] dX2_make_6 rfl (by decide) rfl ?_
  refine v_sub [1, 2, 0] rfl ?_
  exact t_X2_make_7 o1 ho1 X hr hlk h
abbrev rm_X2_lossWith : Room := { frames := 6, cells := 0, slots := 0, locals := 159 }
def w_X2_lossWith (o1 : Nat) (S : St) (K : Int32 → St → Prop) : Prop := w_X2_make o1 S (fun S2 => K (S2 8 9 0) S2)
set_option maxHeartbeats 4000000 in
set_option maxRecDepth 100000 in
theorem c_X2_lossWith (l : Launch) {D : va_G} {cA : Nat → ClassId} {ad : Nat → Nat → Nat} {A : Nat → Prop} (o1 : Nat) (ho1 : o1 < 7) (S : St) (K : Int32 → St → Prop) (h : w_X2_lossWith o1 S K) : MT l yX2_lossWith cX2_lossWith 2 (some .int) 6 159 [.ref (ad 8 0), .ref (ad o1 0)] D cA ad A S (Qi D cA ad A K) := by
  refine MT.ofV (by decide) (Nat.le_of_ble_eq_true rfl) ?_
  intro p e s m args below meth c X hr hlk
  have X : Cx p rm_X2_lossWith m c cX2_lossWith 2 s args RX2 0 0 D cA ad A := X
  refine v_lv [(0, .ref (ad 8 0)), (1, .ref (ad o1 0))] rfl ?_
  unfold w_X2_lossWith at h
  have ho1_11 : o1 < 11 := by omega
  have ho1_k : kd o1 = 0 := kd_day ho1
  refine v_aload_n X dX2_lossWith_0 rfl 0 rfl ?_
  refine v_aload_n X dX2_lossWith_1 rfl 1 rfl ?_
  refine v_callVv (o := 8) (ci := 2) (As := [.ref (ad o1 0)]) (rest := []) X (c_X2_make l o1 ho1 S _ h) mw_X2_make mv_X2_75 oo8 kk8 ⟨Nat.le_of_ble_eq_true rfl, Nat.le_of_ble_eq_true rfl⟩ rfl (Nat.le_of_ble_eq_true rfl) rfl dX2_lossWith_2 (fun S2 h => ?_)
  refine v_aload_n X dX2_lossWith_5 rfl 0 rfl ?_
  refine v_get (v := .int (S2 8 9 0)) X f_X2_41 oo8 kk8 dX2_lossWith_6 rfl ?_
  exact v_iret X hr hlk dX2_lossWith_9 h
abbrev rm_X2_isSmooth : Room := { frames := 5, cells := 0, slots := 0, locals := 137 }
def w_X2_isSmooth_39 (o1 : Nat) (K : Int32 → St → Prop) (S : St) : Prop := ((¬ (S 8 9 0) = 0) → (K 0 S)) ∧ (((S 8 9 0) = 0) → (K 1 S))
set_option maxHeartbeats 4000000 in
set_option maxRecDepth 100000 in
theorem t_X2_isSmooth_39 {p : Program} {l : Launch} {e : Env} {s : State} {m : MethodId} {args : Array Value} {below : List Frame} {meth : Method} {c : Code} {D : va_G} {cA : Nat → ClassId} {ad : Nat → Nat → Nat} {A : Nat → Prop} (o1 : Nat) (ho1 : o1 < 7) {K : Int32 → St → Prop} {S : St} (X : Cx p rm_X2_isSmooth m c cX2_isSmooth 3 s args RX2 0 0 D cA ad A) (hr : meth.sig.returnType = (some .boolean)) (hlk : meth.locks = false) (h : w_X2_isSmooth_39 o1 K S) : VV p l e rm_X2_isSmooth s m args below meth c 0 0 (MQ below (Qz D cA ad A K) args s 0 0 A) D cA ad A 3 S 39 [(0, .ref (ad 8 0))] [] := by
  unfold w_X2_isSmooth_39 at h
  have ho1_11 : o1 < 11 := by omega
  have ho1_k : kd o1 = 0 := kd_day ho1
  refine v_aload_n X dX2_isSmooth_39 rfl 0 rfl ?_
  refine v_get (v := .int (S 8 9 0)) X f_X2_41 oo8 kk8 dX2_isSmooth_40 rfl ?_
  refine v_if_ne X 50 dX2_isSmooth_43 (by decide) (fun hc43 => ?_) (fun hc43 => ?_)
  · have h := h.1 hc43
    refine v_iconst (v := 0) X dX2_isSmooth_50 (by decide) ?_
    exact v_zret X hr hlk dX2_isSmooth_51 (by first | exact Or.inl rfl | exact Or.inr rfl) h
  · have h := h.2 hc43
    refine v_iconst (v := 1) X dX2_isSmooth_46 (by decide) ?_
    refine v_goto X 51 dX2_isSmooth_47 (by decide) ?_
    exact v_zret X hr hlk dX2_isSmooth_51 (by first | exact Or.inl rfl | exact Or.inr rfl) h
def w_X2_isSmooth_7 (o1 : Nat) (K : Int32 → St → Prop) (S : St) (x2 : Int32) : Prop := ∃ I : Nat → St → Int32 → Prop, (∃ n : Nat, I n S x2) ∧ ∀ (n : Nat) (S : St) (x2 : Int32), I n S x2 → ((((S o1 8 0) ≤ x2) → (w_X2_isSmooth_39 o1 K S )) ∧ ((¬ (S o1 8 0) ≤ x2) → (((¬ (S 8 9 0) = 0) → (w_X2_isSmooth_39 o1 K S )) ∧ (((S 8 9 0) = 0) → ((vp_in x2 6) ∧ (w_X2_planShow o1 S (S 8 10 x2.toNatClampNeg) (fun S30 => ∀ y33 : Int32, y33 = x2 + 1 → (∃ n' : Nat, n' < n ∧ I n' S30 y33))))))))
set_option maxHeartbeats 4000000 in
set_option maxRecDepth 100000 in
theorem t_X2_isSmooth_7 {p : Program} {l : Launch} {e : Env} {s : State} {m : MethodId} {args : Array Value} {below : List Frame} {meth : Method} {c : Code} {D : va_G} {cA : Nat → ClassId} {ad : Nat → Nat → Nat} {A : Nat → Prop} (o1 : Nat) (ho1 : o1 < 7) {K : Int32 → St → Prop} {S : St} {x2 : Int32} (X : Cx p rm_X2_isSmooth m c cX2_isSmooth 3 s args RX2 0 0 D cA ad A) (hr : meth.sig.returnType = (some .boolean)) (hlk : meth.locks = false) (h : w_X2_isSmooth_7 o1 K S x2) : VV p l e rm_X2_isSmooth s m args below meth c 0 0 (MQ below (Qz D cA ad A K) args s 0 0 A) D cA ad A 3 S 7 [(0, .ref (ad 8 0)), (1, .ref (ad o1 0)), (2, .int x2)] [] := by
  have ho1_11 : o1 < 11 := by omega
  have ho1_k : kd o1 = 0 := kd_day ho1
  obtain ⟨I, ⟨n, hI⟩, hbody⟩ := h
  suffices key : ∀ (n : Nat) (S : St) (x2 : Int32), I n S x2 → VV p l e rm_X2_isSmooth s m args below meth c 0 0 (MQ below (Qz D cA ad A K) args s 0 0 A) D cA ad A 3 S 7 [(0, .ref (ad 8 0)), (1, .ref (ad o1 0)), (2, .int x2)] [] from key n S x2 hI
  clear hI
  intro n
  induction n using Nat.strongRecOn with
  | ind n ih =>
    intro S x2 hI
    have h := hbody n S x2 hI
    clear hI
    refine v_iload_n X dX2_isSmooth_7 rfl 2 rfl ?_
    refine v_aload_n X dX2_isSmooth_8 rfl 1 rfl ?_
    refine v_get (v := .int (S o1 8 0)) X f_X2_66 ho1_11 ho1_k dX2_isSmooth_9 rfl ?_
    refine v_icmp_ge X 39 dX2_isSmooth_12 (by decide) (fun hc12 => ?_) (fun hc12 => ?_)
    · have h := h.1 hc12
      refine v_sub [0] rfl ?_
      exact t_X2_isSmooth_39 o1 ho1 X hr hlk h
    · have h := h.2 hc12
      refine v_aload_n X dX2_isSmooth_15 rfl 0 rfl ?_
      refine v_get (v := .int (S 8 9 0)) X f_X2_41 oo8 kk8 dX2_isSmooth_16 rfl ?_
      refine v_if_ne X 39 dX2_isSmooth_19 (by decide) (fun hc19 => ?_) (fun hc19 => ?_)
      · have h := h.1 hc19
        refine v_sub [0] rfl ?_
        exact t_X2_isSmooth_39 o1 ho1 X hr hlk h
      · have h := h.2 hc19
        refine v_aload_n X dX2_isSmooth_22 rfl 0 rfl ?_
        refine v_aload_n X dX2_isSmooth_23 rfl 1 rfl ?_
        refine v_aload_n X dX2_isSmooth_24 rfl 0 rfl ?_
        refine v_get (v := .ref (ad 8 11)) X f_X2_44 oo8 kk8 dX2_isSmooth_25 rfl ?_
        refine v_iload_n X dX2_isSmooth_28 rfl 2 rfl ?_
        obtain ⟨hb, h⟩ := h
        refine v_iald (o := 8) (k := 10) (n := 6) X oo8 kk8 rfl rfl rfl hb dX2_isSmooth_29 ?_
        refine v_callVv (o := 8) (ci := 2) (As := [.ref (ad o1 0), .int (S 8 10 x2.toNatClampNeg)]) (rest := []) X (c_X2_planShow l o1 ho1 S (S 8 10 x2.toNatClampNeg) _ h) mw_X2_planShow mv_X2_71 oo8 kk8 ⟨Nat.le_of_ble_eq_true rfl, Nat.le_of_ble_eq_true rfl⟩ rfl (Nat.le_of_ble_eq_true rfl) rfl dX2_isSmooth_30 (fun S30 h => ?_)
        obtain ⟨y33, ey33⟩ : ∃ z : Int32, z = x2 + 1 := ⟨_, rfl⟩
        have h := h y33 ey33
        refine v_iinc (v := y33) X [(2, .int y33), (0, .ref (ad 8 0)), (1, .ref (ad o1 0))] dX2_isSmooth_33 2 rfl (by rw [ey33]; rfl) (by decide) rfl ?_
        refine v_goto X 7 dX2_isSmooth_36 (by decide) ?_
        obtain ⟨n', hlt, h⟩ := h
        refine v_sub [1, 2, 0] rfl ?_
        exact ih n' hlt _ _ h
def w_X2_isSmooth (o1 : Nat) (S : St) (K : Int32 → St → Prop) : Prop := w_X2_open o1 S (fun S2 => w_X2_isSmooth_7 o1 K S2 0)
set_option maxHeartbeats 4000000 in
set_option maxRecDepth 100000 in
theorem c_X2_isSmooth (l : Launch) {D : va_G} {cA : Nat → ClassId} {ad : Nat → Nat → Nat} {A : Nat → Prop} (o1 : Nat) (ho1 : o1 < 7) (S : St) (K : Int32 → St → Prop) (h : w_X2_isSmooth o1 S K) : MT l yX2_isSmooth cX2_isSmooth 3 (some .boolean) 5 137 [.ref (ad 8 0), .ref (ad o1 0)] D cA ad A S (Qz D cA ad A K) := by
  refine MT.ofV (by decide) (Nat.le_of_ble_eq_true rfl) ?_
  intro p e s m args below meth c X hr hlk
  have X : Cx p rm_X2_isSmooth m c cX2_isSmooth 3 s args RX2 0 0 D cA ad A := X
  refine v_lv [(0, .ref (ad 8 0)), (1, .ref (ad o1 0))] rfl ?_
  unfold w_X2_isSmooth at h
  have ho1_11 : o1 < 11 := by omega
  have ho1_k : kd o1 = 0 := kd_day ho1
  refine v_aload_n X dX2_isSmooth_0 rfl 0 rfl ?_
  refine v_aload_n X dX2_isSmooth_1 rfl 1 rfl ?_
  refine v_callVv (o := 8) (ci := 2) (As := [.ref (ad o1 0)]) (rest := []) X (c_X2_open l o1 ho1 S _ h) mw_X2_open mv_X2_62 oo8 kk8 ⟨Nat.le_of_ble_eq_true rfl, Nat.le_of_ble_eq_true rfl⟩ rfl (Nat.le_of_ble_eq_true rfl) rfl dX2_isSmooth_2 (fun S2 h => ?_)
  refine v_iconst (v := 0) X dX2_isSmooth_5 (by decide) ?_
  refine v_istore_n X [(2, .int 0), (0, .ref (ad 8 0)), (1, .ref (ad o1 0))] dX2_isSmooth_6 rfl (by decide) rfl ?_
  refine v_sub [1, 2, 0] rfl ?_
  exact t_X2_isSmooth_7 o1 ho1 X hr hlk h
abbrev rm_X1_restore : Room := { frames := 2, cells := 0, slots := 0, locals := 47 }
def w_X1_restore (o1 : Nat) (S : St) (K : St → Prop) : Prop := ∀ S7 : St, S7 = up3 S 7 1 0 ((S 7 1 0) - 1) → ((vp_in (S7 7 1 0) 5) ∧ (∀ d19 : Nat, d19 = (S7 7 0 (S7 7 1 0).toNatClampNeg).toNatClampNeg → ((d19 < 7) ∧ (w_X0_copyFrom o1 d19 S7 (fun S20 => K S20)))))
set_option maxHeartbeats 4000000 in
set_option maxRecDepth 100000 in
theorem c_X1_restore (l : Launch) {D : va_G} {cA : Nat → ClassId} {ad : Nat → Nat → Nat} {A : Nat → Prop} (o1 : Nat) (ho1 : o1 < 7) (S : St) (K : St → Prop) (h : w_X1_restore o1 S K) : MT l yX1_restore cX1_restore 2 none 2 47 [.ref (ad 7 0), .ref (ad o1 0)] D cA ad A S (Qv D cA ad A K) := by
  refine MT.ofV (by decide) (Nat.le_of_ble_eq_true rfl) ?_
  intro p e s m args below meth c X hr hlk
  have X : Cx p rm_X1_restore m c cX1_restore 2 s args RX1 0 0 D cA ad A := X
  refine v_lv [(0, .ref (ad 7 0)), (1, .ref (ad o1 0))] rfl ?_
  unfold w_X1_restore at h
  have ho1_11 : o1 < 11 := by omega
  have ho1_k : kd o1 = 0 := kd_day ho1
  refine v_aload_n X dX1_restore_0 rfl 0 rfl ?_
  refine v_dup X dX1_restore_1 rfl ?_
  refine v_get (v := .int (S 7 1 0)) X f_X1_17 oo7 kk7 dX1_restore_2 rfl ?_
  refine v_iconst (v := 1) X dX1_restore_5 (by decide) ?_
  refine v_isub X dX1_restore_6 ?_
  refine v_put (o := 7) X f_X1_17 oo7 kk7 rfl dX1_restore_7 ?_
  refine v_st (fun S7 eS7 => ?_)
  have h := h S7 eS7
  refine v_aload_n X dX1_restore_10 rfl 1 rfl ?_
  refine v_aload_n X dX1_restore_11 rfl 0 rfl ?_
  refine v_get (v := .ref (ad 7 1)) X f_X1_11 oo7 kk7 dX1_restore_12 rfl ?_
  refine v_aload_n X dX1_restore_15 rfl 0 rfl ?_
  refine v_get (v := .int (S7 7 1 0)) X f_X1_17 oo7 kk7 dX1_restore_16 rfl ?_
  obtain ⟨hb, h⟩ := h
  obtain ⟨d19, ed19⟩ : ∃ z : Nat, z = (S7 7 0 (S7 7 1 0).toNatClampNeg).toNatClampNeg := ⟨_, rfl⟩
  obtain ⟨hd19, h⟩ := h d19 ed19
  have hd19_11 : d19 < 11 := by omega
  have hd19_k : kd d19 = 0 := kd_day hd19
  refine v_aald (o := 7) (k := 0) (n := 5) X oo7 kk7 rfl rfl rfl hb ed19 dX1_restore_19 ?_
  refine v_callVv (o := o1) (ci := 0) (As := [.ref (ad d19 0)]) (rest := []) X (c_X0_copyFrom l o1 ho1 d19 hd19 S7 _ h) mw_X0_copyFrom mv_X1_25 ho1_11 ho1_k ⟨Nat.le_of_ble_eq_true rfl, Nat.le_of_ble_eq_true rfl⟩ rfl (Nat.le_of_ble_eq_true rfl) rfl dX1_restore_20 (fun S20 h => ?_)
  exact v_vret X hr hlk dX1_restore_23 h
