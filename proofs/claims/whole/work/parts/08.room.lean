abbrev rm_X3_addReel : Room := { frames := 3, cells := 0, slots := 0, locals := 68 }
def w_X3_addReel (S : St) (x1 : Int32) (x2 : Int32) (x3 : Int32) (K : Int32 → St → Prop) : Prop := w_X3_isIn S x1 0 3 (fun r3 => ((r3 = 0) → (K (-1) S)) ∧ ((¬ r3 = 0) → (w_X3_isIn S x2 1 30 (fun r13 => ((r13 = 0) → (K (-1) S)) ∧ ((¬ r13 = 0) → (w_X3_isIn S x3 0 2 (fun r22 => ((¬ r22 = 0) → ((vp_in x1 4) ∧ ((((S 0 0 x1.toNatClampNeg) < 6) → (w_X1_remember 0 S (fun S55 => w_X0_appendReel 0 S55 x1 x2 x3 (fun S65 => (vp_in x1 4) ∧ (K (S65 0 0 x1.toNatClampNeg) S65))))) ∧ ((¬ (S 0 0 x1.toNatClampNeg) < 6) → (K (-3) S))))) ∧ ((r22 = 0) → (K (-1) S)))))))))
set_option maxHeartbeats 4000000 in
set_option maxRecDepth 100000 in
theorem c_X3_addReel (l : Launch) {D : va_G} {cA : Nat → ClassId} {ad : Nat → Nat → Nat} {A : Nat → Prop} (S : St) (x1 : Int32) (x2 : Int32) (x3 : Int32) (K : Int32 → St → Prop) (h : w_X3_addReel S x1 x2 x3 K) : MT l yX3_addReel cX3_addReel 4 (some .int) 3 68 [.ref (ad 9 0), .int x1, .int x2, .int x3] D cA ad A S (Qi D cA ad A K) := by
  refine MT.ofV (by decide) (Nat.le_of_ble_eq_true rfl) ?_
  intro p e s m args below meth c X hr hlk
  have X : Cx p rm_X3_addReel m c cX3_addReel 4 s args RX3 0 0 D cA ad A := X
  refine v_lv [(0, .ref (ad 9 0)), (1, .int x1), (2, .int x2), (3, .int x3)] rfl ?_
  unfold w_X3_addReel at h
  refine v_iload_n X dX3_addReel_0 rfl 1 rfl ?_
  refine v_iconst (v := 0) X dX3_addReel_1 (by decide) ?_
  refine v_iconst (v := 3) X dX3_addReel_2 (by decide) ?_
  refine v_callSz (As := [.int x1, .int 0, .int 3]) (rest := []) X (c_X3_isIn l S x1 0 3 _ h) mw_X3_isIn ms_X3_33 ⟨Nat.le_of_ble_eq_true rfl, Nat.le_of_ble_eq_true rfl⟩ rfl (Nat.le_of_ble_eq_true rfl) rfl dX3_addReel_3 (fun r3 S' hq hz3 => ?_)
  obtain ⟨hq1, h⟩ := hq
  rw [hq1]
  clear hq1
  refine v_if_eq X 28 dX3_addReel_6 (by decide) (fun hc6 => ?_) (fun hc6 => ?_)
  · have h := h.1 hc6
    refine v_iconst (v := (-1)) X dX3_addReel_28 (by decide) ?_
    exact v_iret X hr hlk dX3_addReel_29 h
  · have h := h.2 hc6
    refine v_iload_n X dX3_addReel_9 rfl 2 rfl ?_
    refine v_iconst (v := 1) X dX3_addReel_10 (by decide) ?_
    refine v_bipush (v := 30) X dX3_addReel_11 (by decide) ?_
    refine v_callSz (As := [.int x2, .int 1, .int 30]) (rest := []) X (c_X3_isIn l S x2 1 30 _ h) mw_X3_isIn ms_X3_33 ⟨Nat.le_of_ble_eq_true rfl, Nat.le_of_ble_eq_true rfl⟩ rfl (Nat.le_of_ble_eq_true rfl) rfl dX3_addReel_13 (fun r13 S' hq hz13 => ?_)
    obtain ⟨hq1, h⟩ := hq
    rw [hq1]
    clear hq1
    refine v_if_eq X 28 dX3_addReel_16 (by decide) (fun hc16 => ?_) (fun hc16 => ?_)
    · have h := h.1 hc16
      refine v_iconst (v := (-1)) X dX3_addReel_28 (by decide) ?_
      exact v_iret X hr hlk dX3_addReel_29 h
    · have h := h.2 hc16
      refine v_iload_n X dX3_addReel_19 rfl 3 rfl ?_
      refine v_iconst (v := 0) X dX3_addReel_20 (by decide) ?_
      refine v_iconst (v := 2) X dX3_addReel_21 (by decide) ?_
      refine v_callSz (As := [.int x3, .int 0, .int 2]) (rest := []) X (c_X3_isIn l S x3 0 2 _ h) mw_X3_isIn ms_X3_33 ⟨Nat.le_of_ble_eq_true rfl, Nat.le_of_ble_eq_true rfl⟩ rfl (Nat.le_of_ble_eq_true rfl) rfl dX3_addReel_22 (fun r22 S' hq hz22 => ?_)
      obtain ⟨hq1, h⟩ := hq
      rw [hq1]
      clear hq1
      refine v_if_ne X 30 dX3_addReel_25 (by decide) (fun hc25 => ?_) (fun hc25 => ?_)
      · have h := h.1 hc25
        refine v_aload_n X dX3_addReel_30 rfl 0 rfl ?_
        refine v_get (v := .ref (ad 0 0)) X f_X3_10 oo9 kk9 dX3_addReel_31 rfl ?_
        refine v_get (v := .ref (ad 0 1)) X f_X3_37 oo0 kk0 dX3_addReel_34 rfl ?_
        refine v_iload_n X dX3_addReel_37 rfl 1 rfl ?_
        obtain ⟨hb, h⟩ := h
        refine v_iald (o := 0) (k := 0) (n := 4) X oo0 kk0 rfl rfl rfl hb dX3_addReel_38 ?_
        refine v_bipush (v := 6) X dX3_addReel_39 (by decide) ?_
        refine v_icmp_lt X 47 dX3_addReel_41 (by decide) (fun hc41 => ?_) (fun hc41 => ?_)
        · have h := h.1 hc41
          refine v_aload_n X dX3_addReel_47 rfl 0 rfl ?_
          refine v_get (v := .ref (ad 7 0)) X f_X3_22 oo9 kk9 dX3_addReel_48 rfl ?_
          refine v_aload_n X dX3_addReel_51 rfl 0 rfl ?_
          refine v_get (v := .ref (ad 0 0)) X f_X3_10 oo9 kk9 dX3_addReel_52 rfl ?_
          refine v_callVv (o := 7) (ci := 1) (As := [.ref (ad 0 0)]) (rest := []) X (c_X1_remember l 0 (by decide) S _ h) mw_X1_remember mv_X3_41 oo7 kk7 ⟨Nat.le_of_ble_eq_true rfl, Nat.le_of_ble_eq_true rfl⟩ rfl (Nat.le_of_ble_eq_true rfl) rfl dX3_addReel_55 (fun S55 h => ?_)
          refine v_aload_n X dX3_addReel_58 rfl 0 rfl ?_
          refine v_get (v := .ref (ad 0 0)) X f_X3_10 oo9 kk9 dX3_addReel_59 rfl ?_
          refine v_iload_n X dX3_addReel_62 rfl 1 rfl ?_
          refine v_iload_n X dX3_addReel_63 rfl 2 rfl ?_
          refine v_iload_n X dX3_addReel_64 rfl 3 rfl ?_
          refine v_callVv (o := 0) (ci := 0) (As := [.int x1, .int x2, .int x3]) (rest := []) X (c_X0_appendReel l 0 (by decide) S55 x1 x2 x3 _ h) mw_X0_appendReel mv_X3_45 oo0 kk0 ⟨Nat.le_of_ble_eq_true rfl, Nat.le_of_ble_eq_true rfl⟩ rfl (Nat.le_of_ble_eq_true rfl) rfl dX3_addReel_65 (fun S65 h => ?_)
          refine v_aload_n X dX3_addReel_68 rfl 0 rfl ?_
          refine v_get (v := .ref (ad 0 0)) X f_X3_10 oo9 kk9 dX3_addReel_69 rfl ?_
          refine v_get (v := .ref (ad 0 1)) X f_X3_37 oo0 kk0 dX3_addReel_72 rfl ?_
          refine v_iload_n X dX3_addReel_75 rfl 1 rfl ?_
          obtain ⟨hb, h⟩ := h
          refine v_iald (o := 0) (k := 0) (n := 4) X oo0 kk0 rfl rfl rfl hb dX3_addReel_76 ?_
          exact v_iret X hr hlk dX3_addReel_77 h
        · have h := h.2 hc41
          refine v_bipush (v := (-3)) X dX3_addReel_44 (by decide) ?_
          exact v_iret X hr hlk dX3_addReel_46 h
      · have h := h.2 hc25
        refine v_iconst (v := (-1)) X dX3_addReel_28 (by decide) ?_
        exact v_iret X hr hlk dX3_addReel_29 h
abbrev rm_X3_removeReels : Room := { frames := 3, cells := 0, slots := 0, locals := 68 }
def w_X3_removeReels (S : St) (x1 : Int32) (K : Int32 → St → Prop) : Prop := w_X3_isIn S x1 0 3 (fun r3 => ((¬ r3 = 0) → (w_X0_isShown 0 S x1 (fun r16 => ((r16 = 0) → (w_X1_remember 0 S (fun S33 => (vp_in x1 4) ∧ (∀ y45 : Int32, y45 = (S33 0 0 x1.toNatClampNeg) → ((vp_in x1 4) ∧ (∀ S55 : St, S55 = up3 S33 0 0 x1.toNatClampNeg 0 → (K y45 S55))))))) ∧ ((¬ r16 = 0) → (K (-2) S))))) ∧ ((r3 = 0) → (K (-1) S)))
set_option maxHeartbeats 4000000 in
set_option maxRecDepth 100000 in
theorem c_X3_removeReels (l : Launch) {D : va_G} {cA : Nat → ClassId} {ad : Nat → Nat → Nat} {A : Nat → Prop} (S : St) (x1 : Int32) (K : Int32 → St → Prop) (h : w_X3_removeReels S x1 K) : MT l yX3_removeReels cX3_removeReels 3 (some .int) 3 68 [.ref (ad 9 0), .int x1] D cA ad A S (Qi D cA ad A K) := by
  refine MT.ofV (by decide) (Nat.le_of_ble_eq_true rfl) ?_
  intro p e s m args below meth c X hr hlk
  have X : Cx p rm_X3_removeReels m c cX3_removeReels 3 s args RX3 0 0 D cA ad A := X
  refine v_lv [(0, .ref (ad 9 0)), (1, .int x1)] rfl ?_
  unfold w_X3_removeReels at h
  refine v_iload_n X dX3_removeReels_0 rfl 1 rfl ?_
  refine v_iconst (v := 0) X dX3_removeReels_1 (by decide) ?_
  refine v_iconst (v := 3) X dX3_removeReels_2 (by decide) ?_
  refine v_callSz (As := [.int x1, .int 0, .int 3]) (rest := []) X (c_X3_isIn l S x1 0 3 _ h) mw_X3_isIn ms_X3_33 ⟨Nat.le_of_ble_eq_true rfl, Nat.le_of_ble_eq_true rfl⟩ rfl (Nat.le_of_ble_eq_true rfl) rfl dX3_removeReels_3 (fun r3 S' hq hz3 => ?_)
  obtain ⟨hq1, h⟩ := hq
  rw [hq1]
  clear hq1
  refine v_if_ne X 11 dX3_removeReels_6 (by decide) (fun hc6 => ?_) (fun hc6 => ?_)
  · have h := h.1 hc6
    refine v_aload_n X dX3_removeReels_11 rfl 0 rfl ?_
    refine v_get (v := .ref (ad 0 0)) X f_X3_10 oo9 kk9 dX3_removeReels_12 rfl ?_
    refine v_iload_n X dX3_removeReels_15 rfl 1 rfl ?_
    refine v_callVz (o := 0) (ci := 0) (As := [.int x1]) (rest := []) X (c_X0_isShown l 0 (by decide) S x1 _ h) mw_X0_isShown mv_X3_49 oo0 kk0 ⟨Nat.le_of_ble_eq_true rfl, Nat.le_of_ble_eq_true rfl⟩ rfl (Nat.le_of_ble_eq_true rfl) rfl dX3_removeReels_16 (fun r16 S' hq hz16 => ?_)
    obtain ⟨hq1, h⟩ := hq
    rw [hq1]
    clear hq1
    refine v_if_eq X 25 dX3_removeReels_19 (by decide) (fun hc19 => ?_) (fun hc19 => ?_)
    · have h := h.1 hc19
      refine v_aload_n X dX3_removeReels_25 rfl 0 rfl ?_
      refine v_get (v := .ref (ad 7 0)) X f_X3_22 oo9 kk9 dX3_removeReels_26 rfl ?_
      refine v_aload_n X dX3_removeReels_29 rfl 0 rfl ?_
      refine v_get (v := .ref (ad 0 0)) X f_X3_10 oo9 kk9 dX3_removeReels_30 rfl ?_
      refine v_callVv (o := 7) (ci := 1) (As := [.ref (ad 0 0)]) (rest := []) X (c_X1_remember l 0 (by decide) S _ h) mw_X1_remember mv_X3_41 oo7 kk7 ⟨Nat.le_of_ble_eq_true rfl, Nat.le_of_ble_eq_true rfl⟩ rfl (Nat.le_of_ble_eq_true rfl) rfl dX3_removeReels_33 (fun S33 h => ?_)
      refine v_aload_n X dX3_removeReels_36 rfl 0 rfl ?_
      refine v_get (v := .ref (ad 0 0)) X f_X3_10 oo9 kk9 dX3_removeReels_37 rfl ?_
      refine v_get (v := .ref (ad 0 1)) X f_X3_37 oo0 kk0 dX3_removeReels_40 rfl ?_
      refine v_iload_n X dX3_removeReels_43 rfl 1 rfl ?_
      obtain ⟨hb, h⟩ := h
      refine v_iald (o := 0) (k := 0) (n := 4) X oo0 kk0 rfl rfl rfl hb dX3_removeReels_44 ?_
      refine v_topi (fun y45 ey45 => ?_)
      have h := h y45 ey45
      refine v_istore_n X [(2, .int y45), (0, .ref (ad 9 0)), (1, .int x1)] dX3_removeReels_45 rfl (by decide) rfl ?_
      refine v_aload_n X dX3_removeReels_46 rfl 1 rfl ?_
      refine v_get (v := .ref (ad 0 0)) X f_X3_10 oo9 kk9 dX3_removeReels_47 rfl ?_
      refine v_get (v := .ref (ad 0 1)) X f_X3_37 oo0 kk0 dX3_removeReels_50 rfl ?_
      refine v_iload_n X dX3_removeReels_53 rfl 2 rfl ?_
      refine v_iconst (v := 0) X dX3_removeReels_54 (by decide) ?_
      obtain ⟨hb, h⟩ := h
      refine v_iast (o := 0) (k := 0) (n := 4) X oo0 kk0 rfl rfl rfl hb dX3_removeReels_55 ?_
      refine v_st (fun S55 eS55 => ?_)
      have h := h S55 eS55
      refine v_iload_n X dX3_removeReels_56 rfl 0 rfl ?_
      exact v_iret X hr hlk dX3_removeReels_57 h
    · have h := h.2 hc19
      refine v_bipush (v := (-2)) X dX3_removeReels_22 (by decide) ?_
      exact v_iret X hr hlk dX3_removeReels_24 h
  · have h := h.2 hc6
    refine v_iconst (v := (-1)) X dX3_removeReels_9 (by decide) ?_
    exact v_iret X hr hlk dX3_removeReels_10 h
abbrev rm_X3_setHome : Room := { frames := 3, cells := 0, slots := 0, locals := 68 }
def w_X3_setHome (S : St) (x1 : Int32) (x2 : Int32) (K : Int32 → St → Prop) : Prop := w_X3_isIn S x1 0 3 (fun r3 => ((r3 = 0) → (K (-1) S)) ∧ ((¬ r3 = 0) → (w_X3_isIn S x2 0 1 (fun r12 => ((¬ r12 = 0) → (w_X1_remember 0 S (fun S28 => (vp_in x1 4) ∧ (∀ y40 : Int32, y40 = (S28 0 3 x1.toNatClampNeg) → ((vp_in x1 4) ∧ (∀ S50 : St, S50 = up3 S28 0 3 x1.toNatClampNeg x2 → (K y40 S50))))))) ∧ ((r12 = 0) → (K (-1) S))))))
set_option maxHeartbeats 4000000 in
set_option maxRecDepth 100000 in
theorem c_X3_setHome (l : Launch) {D : va_G} {cA : Nat → ClassId} {ad : Nat → Nat → Nat} {A : Nat → Prop} (S : St) (x1 : Int32) (x2 : Int32) (K : Int32 → St → Prop) (h : w_X3_setHome S x1 x2 K) : MT l yX3_setHome cX3_setHome 4 (some .int) 3 68 [.ref (ad 9 0), .int x1, .int x2] D cA ad A S (Qi D cA ad A K) := by
  refine MT.ofV (by decide) (Nat.le_of_ble_eq_true rfl) ?_
  intro p e s m args below meth c X hr hlk
  have X : Cx p rm_X3_setHome m c cX3_setHome 4 s args RX3 0 0 D cA ad A := X
  refine v_lv [(0, .ref (ad 9 0)), (1, .int x1), (2, .int x2)] rfl ?_
  unfold w_X3_setHome at h
  refine v_iload_n X dX3_setHome_0 rfl 1 rfl ?_
  refine v_iconst (v := 0) X dX3_setHome_1 (by decide) ?_
  refine v_iconst (v := 3) X dX3_setHome_2 (by decide) ?_
  refine v_callSz (As := [.int x1, .int 0, .int 3]) (rest := []) X (c_X3_isIn l S x1 0 3 _ h) mw_X3_isIn ms_X3_33 ⟨Nat.le_of_ble_eq_true rfl, Nat.le_of_ble_eq_true rfl⟩ rfl (Nat.le_of_ble_eq_true rfl) rfl dX3_setHome_3 (fun r3 S' hq hz3 => ?_)
  obtain ⟨hq1, h⟩ := hq
  rw [hq1]
  clear hq1
  refine v_if_eq X 18 dX3_setHome_6 (by decide) (fun hc6 => ?_) (fun hc6 => ?_)
  · have h := h.1 hc6
    refine v_iconst (v := (-1)) X dX3_setHome_18 (by decide) ?_
    exact v_iret X hr hlk dX3_setHome_19 h
  · have h := h.2 hc6
    refine v_iload_n X dX3_setHome_9 rfl 2 rfl ?_
    refine v_iconst (v := 0) X dX3_setHome_10 (by decide) ?_
    refine v_iconst (v := 1) X dX3_setHome_11 (by decide) ?_
    refine v_callSz (As := [.int x2, .int 0, .int 1]) (rest := []) X (c_X3_isIn l S x2 0 1 _ h) mw_X3_isIn ms_X3_33 ⟨Nat.le_of_ble_eq_true rfl, Nat.le_of_ble_eq_true rfl⟩ rfl (Nat.le_of_ble_eq_true rfl) rfl dX3_setHome_12 (fun r12 S' hq hz12 => ?_)
    obtain ⟨hq1, h⟩ := hq
    rw [hq1]
    clear hq1
    refine v_if_ne X 20 dX3_setHome_15 (by decide) (fun hc15 => ?_) (fun hc15 => ?_)
    · have h := h.1 hc15
      refine v_aload_n X dX3_setHome_20 rfl 0 rfl ?_
      refine v_get (v := .ref (ad 7 0)) X f_X3_22 oo9 kk9 dX3_setHome_21 rfl ?_
      refine v_aload_n X dX3_setHome_24 rfl 0 rfl ?_
      refine v_get (v := .ref (ad 0 0)) X f_X3_10 oo9 kk9 dX3_setHome_25 rfl ?_
      refine v_callVv (o := 7) (ci := 1) (As := [.ref (ad 0 0)]) (rest := []) X (c_X1_remember l 0 (by decide) S _ h) mw_X1_remember mv_X3_41 oo7 kk7 ⟨Nat.le_of_ble_eq_true rfl, Nat.le_of_ble_eq_true rfl⟩ rfl (Nat.le_of_ble_eq_true rfl) rfl dX3_setHome_28 (fun S28 h => ?_)
      refine v_aload_n X dX3_setHome_31 rfl 0 rfl ?_
      refine v_get (v := .ref (ad 0 0)) X f_X3_10 oo9 kk9 dX3_setHome_32 rfl ?_
      refine v_get (v := .ref (ad 0 4)) X f_X3_53 oo0 kk0 dX3_setHome_35 rfl ?_
      refine v_iload_n X dX3_setHome_38 rfl 1 rfl ?_
      obtain ⟨hb, h⟩ := h
      refine v_iald (o := 0) (k := 3) (n := 4) X oo0 kk0 rfl rfl rfl hb dX3_setHome_39 ?_
      refine v_topi (fun y40 ey40 => ?_)
      have h := h y40 ey40
      refine v_istore_n X [(3, .int y40), (0, .ref (ad 9 0)), (1, .int x1), (2, .int x2)] dX3_setHome_40 rfl (by decide) rfl ?_
      refine v_aload_n X dX3_setHome_41 rfl 1 rfl ?_
      refine v_get (v := .ref (ad 0 0)) X f_X3_10 oo9 kk9 dX3_setHome_42 rfl ?_
      refine v_get (v := .ref (ad 0 4)) X f_X3_53 oo0 kk0 dX3_setHome_45 rfl ?_
      refine v_iload_n X dX3_setHome_48 rfl 2 rfl ?_
      refine v_iload_n X dX3_setHome_49 rfl 3 rfl ?_
      obtain ⟨hb, h⟩ := h
      refine v_iast (o := 0) (k := 3) (n := 4) X oo0 kk0 rfl rfl rfl hb dX3_setHome_50 ?_
      refine v_st (fun S50 eS50 => ?_)
      have h := h S50 eS50
      refine v_iload_n X dX3_setHome_51 rfl 0 rfl ?_
      exact v_iret X hr hlk dX3_setHome_52 h
    · have h := h.2 hc15
      refine v_iconst (v := (-1)) X dX3_setHome_18 (by decide) ?_
      exact v_iret X hr hlk dX3_setHome_19 h
abbrev rm_X3_filmLength : Room := { frames := 2, cells := 0, slots := 0, locals := 44 }
def w_X3_filmLength (S : St) (x1 : Int32) (K : Int32 → Prop) : Prop := w_X3_isIn S x1 0 3 (fun r3 => ((¬ r3 = 0) → (w_X0_sumOfLengths 0 S x1 (fun r16 => K r16))) ∧ ((r3 = 0) → (K (-1))))
set_option maxHeartbeats 4000000 in
set_option maxRecDepth 100000 in
theorem c_X3_filmLength (l : Launch) {D : va_G} {cA : Nat → ClassId} {ad : Nat → Nat → Nat} {A : Nat → Prop} (S : St) (x1 : Int32) (K : Int32 → Prop) (h : w_X3_filmLength S x1 K) : MT l yX3_filmLength cX3_filmLength 2 (some .int) 2 44 [.ref (ad 9 0), .int x1] D cA ad A S (Qi D cA ad A (fun r S' => S' = S ∧ K r)) := by
  refine MT.ofV (by decide) (Nat.le_of_ble_eq_true rfl) ?_
  intro p e s m args below meth c X hr hlk
  have X : Cx p rm_X3_filmLength m c cX3_filmLength 2 s args RX3 0 0 D cA ad A := X
  refine v_lv [(0, .ref (ad 9 0)), (1, .int x1)] rfl ?_
  unfold w_X3_filmLength at h
  refine v_iload_n X dX3_filmLength_0 rfl 1 rfl ?_
  refine v_iconst (v := 0) X dX3_filmLength_1 (by decide) ?_
  refine v_iconst (v := 3) X dX3_filmLength_2 (by decide) ?_
  refine v_callSz (As := [.int x1, .int 0, .int 3]) (rest := []) X (c_X3_isIn l S x1 0 3 _ h) mw_X3_isIn ms_X3_33 ⟨Nat.le_of_ble_eq_true rfl, Nat.le_of_ble_eq_true rfl⟩ rfl (Nat.le_of_ble_eq_true rfl) rfl dX3_filmLength_3 (fun r3 S' hq hz3 => ?_)
  obtain ⟨hq1, h⟩ := hq
  rw [hq1]
  clear hq1
  refine v_if_ne X 11 dX3_filmLength_6 (by decide) (fun hc6 => ?_) (fun hc6 => ?_)
  · have h := h.1 hc6
    refine v_aload_n X dX3_filmLength_11 rfl 0 rfl ?_
    refine v_get (v := .ref (ad 0 0)) X f_X3_10 oo9 kk9 dX3_filmLength_12 rfl ?_
    refine v_iload_n X dX3_filmLength_15 rfl 1 rfl ?_
    refine v_callVi (o := 0) (ci := 0) (As := [.int x1]) (rest := []) X (c_X0_sumOfLengths l 0 (by decide) S x1 _ h) mw_X0_sumOfLengths mv_X3_56 oo0 kk0 ⟨Nat.le_of_ble_eq_true rfl, Nat.le_of_ble_eq_true rfl⟩ rfl (Nat.le_of_ble_eq_true rfl) rfl dX3_filmLength_16 (fun r16 S' hq => ?_)
    obtain ⟨hq1, h⟩ := hq
    rw [hq1]
    clear hq1
    exact v_iret X hr hlk dX3_filmLength_19 ⟨rfl, h⟩
  · have h := h.2 hc6
    refine v_iconst (v := (-1)) X dX3_filmLength_9 (by decide) ?_
    exact v_iret X hr hlk dX3_filmLength_10 ⟨rfl, h⟩
abbrev rm_X3_addMachine : Room := { frames := 3, cells := 0, slots := 0, locals := 68 }
def w_X3_addMachine (S : St) (x1 : Int32) (K : Int32 → St → Prop) : Prop := w_X3_isIn S x1 0 1 (fun r3 => ((¬ r3 = 0) → ((((S 0 4 0) < 5) → (w_X1_remember 0 S (fun S33 => w_X0_appendMachine 0 S33 x1 (fun S41 => K ((S41 0 4 0) - 1) S41)))) ∧ ((¬ (S 0 4 0) < 5) → (K (-3) S)))) ∧ ((r3 = 0) → (K (-1) S)))
set_option maxHeartbeats 4000000 in
set_option maxRecDepth 100000 in
theorem c_X3_addMachine (l : Launch) {D : va_G} {cA : Nat → ClassId} {ad : Nat → Nat → Nat} {A : Nat → Prop} (S : St) (x1 : Int32) (K : Int32 → St → Prop) (h : w_X3_addMachine S x1 K) : MT l yX3_addMachine cX3_addMachine 2 (some .int) 3 68 [.ref (ad 9 0), .int x1] D cA ad A S (Qi D cA ad A K) := by
  refine MT.ofV (by decide) (Nat.le_of_ble_eq_true rfl) ?_
  intro p e s m args below meth c X hr hlk
  have X : Cx p rm_X3_addMachine m c cX3_addMachine 2 s args RX3 0 0 D cA ad A := X
  refine v_lv [(0, .ref (ad 9 0)), (1, .int x1)] rfl ?_
  unfold w_X3_addMachine at h
  refine v_iload_n X dX3_addMachine_0 rfl 1 rfl ?_
  refine v_iconst (v := 0) X dX3_addMachine_1 (by decide) ?_
  refine v_iconst (v := 1) X dX3_addMachine_2 (by decide) ?_
  refine v_callSz (As := [.int x1, .int 0, .int 1]) (rest := []) X (c_X3_isIn l S x1 0 1 _ h) mw_X3_isIn ms_X3_33 ⟨Nat.le_of_ble_eq_true rfl, Nat.le_of_ble_eq_true rfl⟩ rfl (Nat.le_of_ble_eq_true rfl) rfl dX3_addMachine_3 (fun r3 S' hq hz3 => ?_)
  obtain ⟨hq1, h⟩ := hq
  rw [hq1]
  clear hq1
  refine v_if_ne X 11 dX3_addMachine_6 (by decide) (fun hc6 => ?_) (fun hc6 => ?_)
  · have h := h.1 hc6
    refine v_aload_n X dX3_addMachine_11 rfl 0 rfl ?_
    refine v_get (v := .ref (ad 0 0)) X f_X3_10 oo9 kk9 dX3_addMachine_12 rfl ?_
    refine v_get (v := .int (S 0 4 0)) X f_X3_60 oo0 kk0 dX3_addMachine_15 rfl ?_
    refine v_iconst (v := 5) X dX3_addMachine_18 (by decide) ?_
    refine v_icmp_lt X 25 dX3_addMachine_19 (by decide) (fun hc19 => ?_) (fun hc19 => ?_)
    · have h := h.1 hc19
      refine v_aload_n X dX3_addMachine_25 rfl 0 rfl ?_
      refine v_get (v := .ref (ad 7 0)) X f_X3_22 oo9 kk9 dX3_addMachine_26 rfl ?_
      refine v_aload_n X dX3_addMachine_29 rfl 0 rfl ?_
      refine v_get (v := .ref (ad 0 0)) X f_X3_10 oo9 kk9 dX3_addMachine_30 rfl ?_
      refine v_callVv (o := 7) (ci := 1) (As := [.ref (ad 0 0)]) (rest := []) X (c_X1_remember l 0 (by decide) S _ h) mw_X1_remember mv_X3_41 oo7 kk7 ⟨Nat.le_of_ble_eq_true rfl, Nat.le_of_ble_eq_true rfl⟩ rfl (Nat.le_of_ble_eq_true rfl) rfl dX3_addMachine_33 (fun S33 h => ?_)
      refine v_aload_n X dX3_addMachine_36 rfl 0 rfl ?_
      refine v_get (v := .ref (ad 0 0)) X f_X3_10 oo9 kk9 dX3_addMachine_37 rfl ?_
      refine v_iload_n X dX3_addMachine_40 rfl 1 rfl ?_
      refine v_callVv (o := 0) (ci := 0) (As := [.int x1]) (rest := []) X (c_X0_appendMachine l 0 (by decide) S33 x1 _ h) mw_X0_appendMachine mv_X3_64 oo0 kk0 ⟨Nat.le_of_ble_eq_true rfl, Nat.le_of_ble_eq_true rfl⟩ rfl (Nat.le_of_ble_eq_true rfl) rfl dX3_addMachine_41 (fun S41 h => ?_)
      refine v_aload_n X dX3_addMachine_44 rfl 0 rfl ?_
      refine v_get (v := .ref (ad 0 0)) X f_X3_10 oo9 kk9 dX3_addMachine_45 rfl ?_
      refine v_get (v := .int (S41 0 4 0)) X f_X3_60 oo0 kk0 dX3_addMachine_48 rfl ?_
      refine v_iconst (v := 1) X dX3_addMachine_51 (by decide) ?_
      refine v_isub X dX3_addMachine_52 ?_
      exact v_iret X hr hlk dX3_addMachine_53 h
    · have h := h.2 hc19
      refine v_bipush (v := (-3)) X dX3_addMachine_22 (by decide) ?_
      exact v_iret X hr hlk dX3_addMachine_24 h
  · have h := h.2 hc6
    refine v_iconst (v := (-1)) X dX3_addMachine_9 (by decide) ?_
    exact v_iret X hr hlk dX3_addMachine_10 h
abbrev rm_X3_isMachine : Room := { frames := 1, cells := 0, slots := 0, locals := 22 }
def w_X3_isMachine (S : St) (x1 : Int32) (K : Int32 → Prop) : Prop := w_X3_isIn S x1 0 ((S 0 4 0) - 1) (fun r11 => K r11)
set_option maxHeartbeats 4000000 in
set_option maxRecDepth 100000 in
theorem c_X3_isMachine (l : Launch) {D : va_G} {cA : Nat → ClassId} {ad : Nat → Nat → Nat} {A : Nat → Prop} (S : St) (x1 : Int32) (K : Int32 → Prop) (h : w_X3_isMachine S x1 K) : MT l yX3_isMachine cX3_isMachine 2 (some .boolean) 1 22 [.ref (ad 9 0), .int x1] D cA ad A S (Qz D cA ad A (fun r S' => S' = S ∧ K r)) := by
  refine MT.ofV (by decide) (Nat.le_of_ble_eq_true rfl) ?_
  intro p e s m args below meth c X hr hlk
  have X : Cx p rm_X3_isMachine m c cX3_isMachine 2 s args RX3 0 0 D cA ad A := X
  refine v_lv [(0, .ref (ad 9 0)), (1, .int x1)] rfl ?_
  unfold w_X3_isMachine at h
  refine v_iload_n X dX3_isMachine_0 rfl 1 rfl ?_
  refine v_iconst (v := 0) X dX3_isMachine_1 (by decide) ?_
  refine v_aload_n X dX3_isMachine_2 rfl 0 rfl ?_
  refine v_get (v := .ref (ad 0 0)) X f_X3_10 oo9 kk9 dX3_isMachine_3 rfl ?_
  refine v_get (v := .int (S 0 4 0)) X f_X3_60 oo0 kk0 dX3_isMachine_6 rfl ?_
  refine v_iconst (v := 1) X dX3_isMachine_9 (by decide) ?_
  refine v_isub X dX3_isMachine_10 ?_
  refine v_callSz (As := [.int x1, .int 0, .int ((S 0 4 0) - 1)]) (rest := []) X (c_X3_isIn l S x1 0 ((S 0 4 0) - 1) _ h) mw_X3_isIn ms_X3_33 ⟨Nat.le_of_ble_eq_true rfl, Nat.le_of_ble_eq_true rfl⟩ rfl (Nat.le_of_ble_eq_true rfl) rfl dX3_isMachine_11 (fun r11 S' hq hz11 => ?_)
  obtain ⟨hq1, h⟩ := hq
  rw [hq1]
  clear hq1
  exact v_zret X hr hlk dX3_isMachine_14 hz11 ⟨rfl, h⟩
abbrev rm_X3_removeMachine : Room := { frames := 3, cells := 0, slots := 0, locals := 68 }
def w_X3_removeMachine (S : St) (x1 : Int32) (K : Int32 → St → Prop) : Prop := w_X3_isMachine S x1 (fun r2 => ((¬ r2 = 0) → (w_X1_remember 0 S (fun S18 => w_X0_dropMachine 0 S18 x1 (fun S26 => K (S26 0 4 0) S26)))) ∧ ((r2 = 0) → (K (-1) S)))
set_option maxHeartbeats 4000000 in
set_option maxRecDepth 100000 in
theorem c_X3_removeMachine (l : Launch) {D : va_G} {cA : Nat → ClassId} {ad : Nat → Nat → Nat} {A : Nat → Prop} (S : St) (x1 : Int32) (K : Int32 → St → Prop) (h : w_X3_removeMachine S x1 K) : MT l yX3_removeMachine cX3_removeMachine 2 (some .int) 3 68 [.ref (ad 9 0), .int x1] D cA ad A S (Qi D cA ad A K) := by
  refine MT.ofV (by decide) (Nat.le_of_ble_eq_true rfl) ?_
  intro p e s m args below meth c X hr hlk
  have X : Cx p rm_X3_removeMachine m c cX3_removeMachine 2 s args RX3 0 0 D cA ad A := X
  refine v_lv [(0, .ref (ad 9 0)), (1, .int x1)] rfl ?_
  unfold w_X3_removeMachine at h
  refine v_aload_n X dX3_removeMachine_0 rfl 0 rfl ?_
  refine v_iload_n X dX3_removeMachine_1 rfl 1 rfl ?_
  refine v_callVz (o := 9) (ci := 3) (As := [.int x1]) (rest := []) X (c_X3_isMachine l S x1 _ h) mw_X3_isMachine mv_X3_68 oo9 kk9 ⟨Nat.le_of_ble_eq_true rfl, Nat.le_of_ble_eq_true rfl⟩ rfl (Nat.le_of_ble_eq_true rfl) rfl dX3_removeMachine_2 (fun r2 S' hq hz2 => ?_)
  obtain ⟨hq1, h⟩ := hq
  rw [hq1]
  clear hq1
  refine v_if_ne X 10 dX3_removeMachine_5 (by decide) (fun hc5 => ?_) (fun hc5 => ?_)
  · have h := h.1 hc5
    refine v_aload_n X dX3_removeMachine_10 rfl 0 rfl ?_
    refine v_get (v := .ref (ad 7 0)) X f_X3_22 oo9 kk9 dX3_removeMachine_11 rfl ?_
    refine v_aload_n X dX3_removeMachine_14 rfl 0 rfl ?_
    refine v_get (v := .ref (ad 0 0)) X f_X3_10 oo9 kk9 dX3_removeMachine_15 rfl ?_
    refine v_callVv (o := 7) (ci := 1) (As := [.ref (ad 0 0)]) (rest := []) X (c_X1_remember l 0 (by decide) S _ h) mw_X1_remember mv_X3_41 oo7 kk7 ⟨Nat.le_of_ble_eq_true rfl, Nat.le_of_ble_eq_true rfl⟩ rfl (Nat.le_of_ble_eq_true rfl) rfl dX3_removeMachine_18 (fun S18 h => ?_)
    refine v_aload_n X dX3_removeMachine_21 rfl 0 rfl ?_
    refine v_get (v := .ref (ad 0 0)) X f_X3_10 oo9 kk9 dX3_removeMachine_22 rfl ?_
    refine v_iload_n X dX3_removeMachine_25 rfl 1 rfl ?_
    refine v_callVv (o := 0) (ci := 0) (As := [.int x1]) (rest := []) X (c_X0_dropMachine l 0 (by decide) S18 x1 _ h) mw_X0_dropMachine mv_X3_71 oo0 kk0 ⟨Nat.le_of_ble_eq_true rfl, Nat.le_of_ble_eq_true rfl⟩ rfl (Nat.le_of_ble_eq_true rfl) rfl dX3_removeMachine_26 (fun S26 h => ?_)
    refine v_aload_n X dX3_removeMachine_29 rfl 0 rfl ?_
    refine v_get (v := .ref (ad 0 0)) X f_X3_10 oo9 kk9 dX3_removeMachine_30 rfl ?_
    refine v_get (v := .int (S26 0 4 0)) X f_X3_60 oo0 kk0 dX3_removeMachine_33 rfl ?_
    exact v_iret X hr hlk dX3_removeMachine_36 h
  · have h := h.2 hc5
    refine v_iconst (v := (-1)) X dX3_removeMachine_8 (by decide) ?_
    exact v_iret X hr hlk dX3_removeMachine_9 h
abbrev rm_X3_houseOf : Room := { frames := 2, cells := 0, slots := 0, locals := 43 }
def w_X3_houseOf (S : St) (x1 : Int32) (K : Int32 → Prop) : Prop := w_X3_isMachine S x1 (fun r2 => ((¬ r2 = 0) → ((vp_in x1 5) ∧ (K (S 0 5 x1.toNatClampNeg)))) ∧ ((r2 = 0) → (K (-1))))
set_option maxHeartbeats 4000000 in
set_option maxRecDepth 100000 in
theorem c_X3_houseOf (l : Launch) {D : va_G} {cA : Nat → ClassId} {ad : Nat → Nat → Nat} {A : Nat → Prop} (S : St) (x1 : Int32) (K : Int32 → Prop) (h : w_X3_houseOf S x1 K) : MT l yX3_houseOf cX3_houseOf 2 (some .int) 2 43 [.ref (ad 9 0), .int x1] D cA ad A S (Qi D cA ad A (fun r S' => S' = S ∧ K r)) := by
  refine MT.ofV (by decide) (Nat.le_of_ble_eq_true rfl) ?_
  intro p e s m args below meth c X hr hlk
  have X : Cx p rm_X3_houseOf m c cX3_houseOf 2 s args RX3 0 0 D cA ad A := X
  refine v_lv [(0, .ref (ad 9 0)), (1, .int x1)] rfl ?_
  unfold w_X3_houseOf at h
  refine v_aload_n X dX3_houseOf_0 rfl 0 rfl ?_
  refine v_iload_n X dX3_houseOf_1 rfl 1 rfl ?_
  refine v_callVz (o := 9) (ci := 3) (As := [.int x1]) (rest := []) X (c_X3_isMachine l S x1 _ h) mw_X3_isMachine mv_X3_68 oo9 kk9 ⟨Nat.le_of_ble_eq_true rfl, Nat.le_of_ble_eq_true rfl⟩ rfl (Nat.le_of_ble_eq_true rfl) rfl dX3_houseOf_2 (fun r2 S' hq hz2 => ?_)
  obtain ⟨hq1, h⟩ := hq
  rw [hq1]
  clear hq1
  refine v_if_ne X 10 dX3_houseOf_5 (by decide) (fun hc5 => ?_) (fun hc5 => ?_)
  · have h := h.1 hc5
    refine v_aload_n X dX3_houseOf_10 rfl 0 rfl ?_
    refine v_get (v := .ref (ad 0 0)) X f_X3_10 oo9 kk9 dX3_houseOf_11 rfl ?_
    refine v_get (v := .ref (ad 0 6)) X f_X3_74 oo0 kk0 dX3_houseOf_14 rfl ?_
    refine v_iload_n X dX3_houseOf_17 rfl 1 rfl ?_
    obtain ⟨hb, h⟩ := h
    refine v_iald (o := 0) (k := 5) (n := 5) X oo0 kk0 rfl rfl rfl hb dX3_houseOf_18 ?_
    exact v_iret X hr hlk dX3_houseOf_19 ⟨rfl, h⟩
  · have h := h.2 hc5
    refine v_iconst (v := (-1)) X dX3_houseOf_8 (by decide) ?_
    exact v_iret X hr hlk dX3_houseOf_9 ⟨rfl, h⟩
abbrev rm_X3_setCarriers : Room := { frames := 3, cells := 0, slots := 0, locals := 68 }
def w_X3_setCarriers (S : St) (x1 : Int32) (K : Int32 → St → Prop) : Prop := w_X3_isIn S x1 1 3 (fun r3 => ((¬ r3 = 0) → (w_X1_remember 0 S (fun S19 => ∀ y29 : Int32, y29 = (S19 0 6 0) → (∀ S35 : St, S35 = up3 S19 0 6 0 x1 → (K y29 S35))))) ∧ ((r3 = 0) → (K (-1) S)))
set_option maxHeartbeats 4000000 in
set_option maxRecDepth 100000 in
theorem c_X3_setCarriers (l : Launch) {D : va_G} {cA : Nat → ClassId} {ad : Nat → Nat → Nat} {A : Nat → Prop} (S : St) (x1 : Int32) (K : Int32 → St → Prop) (h : w_X3_setCarriers S x1 K) : MT l yX3_setCarriers cX3_setCarriers 3 (some .int) 3 68 [.ref (ad 9 0), .int x1] D cA ad A S (Qi D cA ad A K) := by
  refine MT.ofV (by decide) (Nat.le_of_ble_eq_true rfl) ?_
  intro p e s m args below meth c X hr hlk
  have X : Cx p rm_X3_setCarriers m c cX3_setCarriers 3 s args RX3 0 0 D cA ad A := X
  refine v_lv [(0, .ref (ad 9 0)), (1, .int x1)] rfl ?_
  unfold w_X3_setCarriers at h
  refine v_iload_n X dX3_setCarriers_0 rfl 1 rfl ?_
  refine v_iconst (v := 1) X dX3_setCarriers_1 (by decide) ?_
  refine v_iconst (v := 3) X dX3_setCarriers_2 (by decide) ?_
  refine v_callSz (As := [.int x1, .int 1, .int 3]) (rest := []) X (c_X3_isIn l S x1 1 3 _ h) mw_X3_isIn ms_X3_33 ⟨Nat.le_of_ble_eq_true rfl, Nat.le_of_ble_eq_true rfl⟩ rfl (Nat.le_of_ble_eq_true rfl) rfl dX3_setCarriers_3 (fun r3 S' hq hz3 => ?_)
  obtain ⟨hq1, h⟩ := hq
  rw [hq1]
  clear hq1
  refine v_if_ne X 11 dX3_setCarriers_6 (by decide) (fun hc6 => ?_) (fun hc6 => ?_)
  · have h := h.1 hc6
    refine v_aload_n X dX3_setCarriers_11 rfl 0 rfl ?_
    refine v_get (v := .ref (ad 7 0)) X f_X3_22 oo9 kk9 dX3_setCarriers_12 rfl ?_
    refine v_aload_n X dX3_setCarriers_15 rfl 0 rfl ?_
    refine v_get (v := .ref (ad 0 0)) X f_X3_10 oo9 kk9 dX3_setCarriers_16 rfl ?_
    refine v_callVv (o := 7) (ci := 1) (As := [.ref (ad 0 0)]) (rest := []) X (c_X1_remember l 0 (by decide) S _ h) mw_X1_remember mv_X3_41 oo7 kk7 ⟨Nat.le_of_ble_eq_true rfl, Nat.le_of_ble_eq_true rfl⟩ rfl (Nat.le_of_ble_eq_true rfl) rfl dX3_setCarriers_19 (fun S19 h => ?_)
    refine v_aload_n X dX3_setCarriers_22 rfl 0 rfl ?_
    refine v_get (v := .ref (ad 0 0)) X f_X3_10 oo9 kk9 dX3_setCarriers_23 rfl ?_
    refine v_get (v := .int (S19 0 6 0)) X f_X3_77 oo0 kk0 dX3_setCarriers_26 rfl ?_
    refine v_topi (fun y29 ey29 => ?_)
    have h := h y29 ey29
    refine v_istore_n X [(2, .int y29), (0, .ref (ad 9 0)), (1, .int x1)] dX3_setCarriers_29 rfl (by decide) rfl ?_
    refine v_aload_n X dX3_setCarriers_30 rfl 1 rfl ?_
    refine v_get (v := .ref (ad 0 0)) X f_X3_10 oo9 kk9 dX3_setCarriers_31 rfl ?_
    refine v_iload_n X dX3_setCarriers_34 rfl 2 rfl ?_
    refine v_put (o := 0) X f_X3_77 oo0 kk0 rfl dX3_setCarriers_35 ?_
    refine v_st (fun S35 eS35 => ?_)
    have h := h S35 eS35
    refine v_iload_n X dX3_setCarriers_38 rfl 0 rfl ?_
    exact v_iret X hr hlk dX3_setCarriers_39 h
  · have h := h.2 hc6
    refine v_iconst (v := (-1)) X dX3_setCarriers_9 (by decide) ?_
    exact v_iret X hr hlk dX3_setCarriers_10 h
abbrev rm_X3_setDuration : Room := { frames := 3, cells := 0, slots := 0, locals := 68 }
def w_X3_setDuration (S : St) (x1 : Int32) (x2 : Int32) (K : Int32 → St → Prop) : Prop := w_X3_isIn S x1 0 3 (fun r3 => ((¬ r3 = 0) → ((vp_in x1 4) ∧ ((vp_in x1 4) ∧ (w_X3_isIn S x2 (tLeast x1.toNatClampNeg) (tMost x1.toNatClampNeg) (fun r22 => ((¬ r22 = 0) → (w_X1_remember 0 S (fun S38 => (vp_in x1 4) ∧ (∀ y50 : Int32, y50 = (S38 0 7 x1.toNatClampNeg) → ((vp_in x1 4) ∧ (∀ S60 : St, S60 = up3 S38 0 7 x1.toNatClampNeg x2 → (K y50 S60))))))) ∧ ((r22 = 0) → (K (-1) S))))))) ∧ ((r3 = 0) → (K (-1) S)))
set_option maxHeartbeats 4000000 in
set_option maxRecDepth 100000 in
theorem c_X3_setDuration (l : Launch) {D : va_G} {cA : Nat → ClassId} {ad : Nat → Nat → Nat} {A : Nat → Prop} (S : St) (x1 : Int32) (x2 : Int32) (K : Int32 → St → Prop) (h : w_X3_setDuration S x1 x2 K) : MT l yX3_setDuration cX3_setDuration 4 (some .int) 3 68 [.ref (ad 9 0), .int x1, .int x2] D cA ad A S (Qi D cA ad A K) := by
  refine MT.ofV (by decide) (Nat.le_of_ble_eq_true rfl) ?_
  intro p e s m args below meth c X hr hlk
  have X : Cx p rm_X3_setDuration m c cX3_setDuration 4 s args RX3 0 0 D cA ad A := X
  refine v_lv [(0, .ref (ad 9 0)), (1, .int x1), (2, .int x2)] rfl ?_
  unfold w_X3_setDuration at h
  refine v_iload_n X dX3_setDuration_0 rfl 1 rfl ?_
  refine v_iconst (v := 0) X dX3_setDuration_1 (by decide) ?_
  refine v_iconst (v := 3) X dX3_setDuration_2 (by decide) ?_
  refine v_callSz (As := [.int x1, .int 0, .int 3]) (rest := []) X (c_X3_isIn l S x1 0 3 _ h) mw_X3_isIn ms_X3_33 ⟨Nat.le_of_ble_eq_true rfl, Nat.le_of_ble_eq_true rfl⟩ rfl (Nat.le_of_ble_eq_true rfl) rfl dX3_setDuration_3 (fun r3 S' hq hz3 => ?_)
  obtain ⟨hq1, h⟩ := hq
  rw [hq1]
  clear hq1
  refine v_if_ne X 11 dX3_setDuration_6 (by decide) (fun hc6 => ?_) (fun hc6 => ?_)
  · have h := h.1 hc6
    refine v_iload_n X dX3_setDuration_11 rfl 2 rfl ?_
    refine v_getsL X g_X3_80 dX3_setDuration_12 ?_
    refine v_iload_n X dX3_setDuration_15 rfl 1 rfl ?_
    obtain ⟨hb, h⟩ := h
    refine v_tiL X hb dX3_setDuration_16 ?_
    refine v_getsM X g_X3_83 dX3_setDuration_17 ?_
    refine v_iload_n X dX3_setDuration_20 rfl 1 rfl ?_
    obtain ⟨hb, h⟩ := h
    refine v_tiM X hb dX3_setDuration_21 ?_
    refine v_callSz (As := [.int x2, .int (tLeast x1.toNatClampNeg), .int (tMost x1.toNatClampNeg)]) (rest := []) X (c_X3_isIn l S x2 (tLeast x1.toNatClampNeg) (tMost x1.toNatClampNeg) _ h) mw_X3_isIn ms_X3_33 ⟨Nat.le_of_ble_eq_true rfl, Nat.le_of_ble_eq_true rfl⟩ rfl (Nat.le_of_ble_eq_true rfl) rfl dX3_setDuration_22 (fun r22 S' hq hz22 => ?_)
    obtain ⟨hq1, h⟩ := hq
    rw [hq1]
    clear hq1
    refine v_if_ne X 30 dX3_setDuration_25 (by decide) (fun hc25 => ?_) (fun hc25 => ?_)
    · have h := h.1 hc25
      refine v_aload_n X dX3_setDuration_30 rfl 0 rfl ?_
      refine v_get (v := .ref (ad 7 0)) X f_X3_22 oo9 kk9 dX3_setDuration_31 rfl ?_
      refine v_aload_n X dX3_setDuration_34 rfl 0 rfl ?_
      refine v_get (v := .ref (ad 0 0)) X f_X3_10 oo9 kk9 dX3_setDuration_35 rfl ?_
      refine v_callVv (o := 7) (ci := 1) (As := [.ref (ad 0 0)]) (rest := []) X (c_X1_remember l 0 (by decide) S _ h) mw_X1_remember mv_X3_41 oo7 kk7 ⟨Nat.le_of_ble_eq_true rfl, Nat.le_of_ble_eq_true rfl⟩ rfl (Nat.le_of_ble_eq_true rfl) rfl dX3_setDuration_38 (fun S38 h => ?_)
      refine v_aload_n X dX3_setDuration_41 rfl 0 rfl ?_
      refine v_get (v := .ref (ad 0 0)) X f_X3_10 oo9 kk9 dX3_setDuration_42 rfl ?_
      refine v_get (v := .ref (ad 0 8)) X f_X3_86 oo0 kk0 dX3_setDuration_45 rfl ?_
      refine v_iload_n X dX3_setDuration_48 rfl 1 rfl ?_
      obtain ⟨hb, h⟩ := h
      refine v_iald (o := 0) (k := 7) (n := 4) X oo0 kk0 rfl rfl rfl hb dX3_setDuration_49 ?_
      refine v_topi (fun y50 ey50 => ?_)
      have h := h y50 ey50
      refine v_istore_n X [(3, .int y50), (0, .ref (ad 9 0)), (1, .int x1), (2, .int x2)] dX3_setDuration_50 rfl (by decide) rfl ?_
      refine v_aload_n X dX3_setDuration_51 rfl 1 rfl ?_
      refine v_get (v := .ref (ad 0 0)) X f_X3_10 oo9 kk9 dX3_setDuration_52 rfl ?_
      refine v_get (v := .ref (ad 0 8)) X f_X3_86 oo0 kk0 dX3_setDuration_55 rfl ?_
      refine v_iload_n X dX3_setDuration_58 rfl 2 rfl ?_
      refine v_iload_n X dX3_setDuration_59 rfl 3 rfl ?_
      obtain ⟨hb, h⟩ := h
      refine v_iast (o := 0) (k := 7) (n := 4) X oo0 kk0 rfl rfl rfl hb dX3_setDuration_60 ?_
      refine v_st (fun S60 eS60 => ?_)
      have h := h S60 eS60
      refine v_iload_n X dX3_setDuration_61 rfl 0 rfl ?_
      exact v_iret X hr hlk dX3_setDuration_62 h
    · have h := h.2 hc25
      refine v_iconst (v := (-1)) X dX3_setDuration_28 (by decide) ?_
      exact v_iret X hr hlk dX3_setDuration_29 h
  · have h := h.2 hc6
    refine v_iconst (v := (-1)) X dX3_setDuration_9 (by decide) ?_
    exact v_iret X hr hlk dX3_setDuration_10 h
abbrev rm_X3_addShow : Room := { frames := 3, cells := 0, slots := 0, locals := 68 }
def w_X3_addShow (S : St) (x1 : Int32) (x2 : Int32) (x3 : Int32) (K : Int32 → St → Prop) : Prop := w_X3_isIn S x1 0 1 (fun r3 => ((r3 = 0) → (K (-1) S)) ∧ ((¬ r3 = 0) → (w_X3_isIn S x2 0 3 (fun r12 => ((r12 = 0) → (K (-1) S)) ∧ ((¬ r12 = 0) → (w_X3_isIn S x3 0 1439 (fun r23 => ((¬ r23 = 0) → ((vp_in x2 4) ∧ (((¬ (S 0 0 x2.toNatClampNeg) = 0) → ((((S 0 8 0) < 6) → (w_X1_remember 0 S (fun S69 => w_X0_appendShow 0 S69 x1 x2 x3 (fun S79 => K ((S79 0 8 0) - 1) S79)))) ∧ ((¬ (S 0 8 0) < 6) → (K (-3) S)))) ∧ (((S 0 0 x2.toNatClampNeg) = 0) → (K (-2) S))))) ∧ ((r23 = 0) → (K (-1) S)))))))))
set_option maxHeartbeats 4000000 in
set_option maxRecDepth 100000 in
theorem c_X3_addShow (l : Launch) {D : va_G} {cA : Nat → ClassId} {ad : Nat → Nat → Nat} {A : Nat → Prop} (S : St) (x1 : Int32) (x2 : Int32) (x3 : Int32) (K : Int32 → St → Prop) (h : w_X3_addShow S x1 x2 x3 K) : MT l yX3_addShow cX3_addShow 4 (some .int) 3 68 [.ref (ad 9 0), .int x1, .int x2, .int x3] D cA ad A S (Qi D cA ad A K) := by
  refine MT.ofV (by decide) (Nat.le_of_ble_eq_true rfl) ?_
  intro p e s m args below meth c X hr hlk
  have X : Cx p rm_X3_addShow m c cX3_addShow 4 s args RX3 0 0 D cA ad A := X
  refine v_lv [(0, .ref (ad 9 0)), (1, .int x1), (2, .int x2), (3, .int x3)] rfl ?_
  unfold w_X3_addShow at h
  refine v_iload_n X dX3_addShow_0 rfl 1 rfl ?_
  refine v_iconst (v := 0) X dX3_addShow_1 (by decide) ?_
  refine v_iconst (v := 1) X dX3_addShow_2 (by decide) ?_
  refine v_callSz (As := [.int x1, .int 0, .int 1]) (rest := []) X (c_X3_isIn l S x1 0 1 _ h) mw_X3_isIn ms_X3_33 ⟨Nat.le_of_ble_eq_true rfl, Nat.le_of_ble_eq_true rfl⟩ rfl (Nat.le_of_ble_eq_true rfl) rfl dX3_addShow_3 (fun r3 S' hq hz3 => ?_)
  obtain ⟨hq1, h⟩ := hq
  rw [hq1]
  clear hq1
  refine v_if_eq X 29 dX3_addShow_6 (by decide) (fun hc6 => ?_) (fun hc6 => ?_)
  · have h := h.1 hc6
    refine v_iconst (v := (-1)) X dX3_addShow_29 (by decide) ?_
    exact v_iret X hr hlk dX3_addShow_30 h
  · have h := h.2 hc6
    refine v_iload_n X dX3_addShow_9 rfl 2 rfl ?_
    refine v_iconst (v := 0) X dX3_addShow_10 (by decide) ?_
    refine v_iconst (v := 3) X dX3_addShow_11 (by decide) ?_
    refine v_callSz (As := [.int x2, .int 0, .int 3]) (rest := []) X (c_X3_isIn l S x2 0 3 _ h) mw_X3_isIn ms_X3_33 ⟨Nat.le_of_ble_eq_true rfl, Nat.le_of_ble_eq_true rfl⟩ rfl (Nat.le_of_ble_eq_true rfl) rfl dX3_addShow_12 (fun r12 S' hq hz12 => ?_)
    obtain ⟨hq1, h⟩ := hq
    rw [hq1]
    clear hq1
    refine v_if_eq X 29 dX3_addShow_15 (by decide) (fun hc15 => ?_) (fun hc15 => ?_)
    · have h := h.1 hc15
      refine v_iconst (v := (-1)) X dX3_addShow_29 (by decide) ?_
      exact v_iret X hr hlk dX3_addShow_30 h
    · have h := h.2 hc15
      refine v_iload_n X dX3_addShow_18 rfl 3 rfl ?_
      refine v_iconst (v := 0) X dX3_addShow_19 (by decide) ?_
      refine v_sipush (v := 1439) X dX3_addShow_20 (by decide) ?_
      refine v_callSz (As := [.int x3, .int 0, .int 1439]) (rest := []) X (c_X3_isIn l S x3 0 1439 _ h) mw_X3_isIn ms_X3_33 ⟨Nat.le_of_ble_eq_true rfl, Nat.le_of_ble_eq_true rfl⟩ rfl (Nat.le_of_ble_eq_true rfl) rfl dX3_addShow_23 (fun r23 S' hq hz23 => ?_)
      obtain ⟨hq1, h⟩ := hq
      rw [hq1]
      clear hq1
      refine v_if_ne X 31 dX3_addShow_26 (by decide) (fun hc26 => ?_) (fun hc26 => ?_)
      · have h := h.1 hc26
        refine v_aload_n X dX3_addShow_31 rfl 0 rfl ?_
        refine v_get (v := .ref (ad 0 0)) X f_X3_10 oo9 kk9 dX3_addShow_32 rfl ?_
        refine v_get (v := .ref (ad 0 1)) X f_X3_37 oo0 kk0 dX3_addShow_35 rfl ?_
        refine v_iload_n X dX3_addShow_38 rfl 2 rfl ?_
        obtain ⟨hb, h⟩ := h
        refine v_iald (o := 0) (k := 0) (n := 4) X oo0 kk0 rfl rfl rfl hb dX3_addShow_39 ?_
        refine v_if_ne X 46 dX3_addShow_40 (by decide) (fun hc40 => ?_) (fun hc40 => ?_)
        · have h := h.1 hc40
          refine v_aload_n X dX3_addShow_46 rfl 0 rfl ?_
          refine v_get (v := .ref (ad 0 0)) X f_X3_10 oo9 kk9 dX3_addShow_47 rfl ?_
          refine v_get (v := .int (S 0 8 0)) X f_X3_89 oo0 kk0 dX3_addShow_50 rfl ?_
          refine v_bipush (v := 6) X dX3_addShow_53 (by decide) ?_
          refine v_icmp_lt X 61 dX3_addShow_55 (by decide) (fun hc55 => ?_) (fun hc55 => ?_)
          · have h := h.1 hc55
            refine v_aload_n X dX3_addShow_61 rfl 0 rfl ?_
            refine v_get (v := .ref (ad 7 0)) X f_X3_22 oo9 kk9 dX3_addShow_62 rfl ?_
            refine v_aload_n X dX3_addShow_65 rfl 0 rfl ?_
            refine v_get (v := .ref (ad 0 0)) X f_X3_10 oo9 kk9 dX3_addShow_66 rfl ?_
            refine v_callVv (o := 7) (ci := 1) (As := [.ref (ad 0 0)]) (rest := []) X (c_X1_remember l 0 (by decide) S _ h) mw_X1_remember mv_X3_41 oo7 kk7 ⟨Nat.le_of_ble_eq_true rfl, Nat.le_of_ble_eq_true rfl⟩ rfl (Nat.le_of_ble_eq_true rfl) rfl dX3_addShow_69 (fun S69 h => ?_)
            refine v_aload_n X dX3_addShow_72 rfl 0 rfl ?_
            refine v_get (v := .ref (ad 0 0)) X f_X3_10 oo9 kk9 dX3_addShow_73 rfl ?_
            refine v_iload_n X dX3_addShow_76 rfl 1 rfl ?_
            refine v_iload_n X dX3_addShow_77 rfl 2 rfl ?_
            refine v_iload_n X dX3_addShow_78 rfl 3 rfl ?_
            refine v_callVv (o := 0) (ci := 0) (As := [.int x1, .int x2, .int x3]) (rest := []) X (c_X0_appendShow l 0 (by decide) S69 x1 x2 x3 _ h) mw_X0_appendShow mv_X3_92 oo0 kk0 ⟨Nat.le_of_ble_eq_true rfl, Nat.le_of_ble_eq_true rfl⟩ rfl (Nat.le_of_ble_eq_true rfl) rfl dX3_addShow_79 (fun S79 h => ?_)
            refine v_aload_n X dX3_addShow_82 rfl 0 rfl ?_
            refine v_get (v := .ref (ad 0 0)) X f_X3_10 oo9 kk9 dX3_addShow_83 rfl ?_
            refine v_get (v := .int (S79 0 8 0)) X f_X3_89 oo0 kk0 dX3_addShow_86 rfl ?_
            refine v_iconst (v := 1) X dX3_addShow_89 (by decide) ?_
            refine v_isub X dX3_addShow_90 ?_
            exact v_iret X hr hlk dX3_addShow_91 h
          · have h := h.2 hc55
            refine v_bipush (v := (-3)) X dX3_addShow_58 (by decide) ?_
            exact v_iret X hr hlk dX3_addShow_60 h
        · have h := h.2 hc40
          refine v_bipush (v := (-2)) X dX3_addShow_43 (by decide) ?_
          exact v_iret X hr hlk dX3_addShow_45 h
      · have h := h.2 hc26
        refine v_iconst (v := (-1)) X dX3_addShow_29 (by decide) ?_
        exact v_iret X hr hlk dX3_addShow_30 h
abbrev rm_X3_isShow : Room := { frames := 1, cells := 0, slots := 0, locals := 22 }
def w_X3_isShow (S : St) (x1 : Int32) (K : Int32 → Prop) : Prop := w_X3_isIn S x1 0 ((S 0 8 0) - 1) (fun r11 => K r11)
set_option maxHeartbeats 4000000 in
set_option maxRecDepth 100000 in
theorem c_X3_isShow (l : Launch) {D : va_G} {cA : Nat → ClassId} {ad : Nat → Nat → Nat} {A : Nat → Prop} (S : St) (x1 : Int32) (K : Int32 → Prop) (h : w_X3_isShow S x1 K) : MT l yX3_isShow cX3_isShow 2 (some .boolean) 1 22 [.ref (ad 9 0), .int x1] D cA ad A S (Qz D cA ad A (fun r S' => S' = S ∧ K r)) := by
  refine MT.ofV (by decide) (Nat.le_of_ble_eq_true rfl) ?_
  intro p e s m args below meth c X hr hlk
  have X : Cx p rm_X3_isShow m c cX3_isShow 2 s args RX3 0 0 D cA ad A := X
  refine v_lv [(0, .ref (ad 9 0)), (1, .int x1)] rfl ?_
  unfold w_X3_isShow at h
  refine v_iload_n X dX3_isShow_0 rfl 1 rfl ?_
  refine v_iconst (v := 0) X dX3_isShow_1 (by decide) ?_
  refine v_aload_n X dX3_isShow_2 rfl 0 rfl ?_
  refine v_get (v := .ref (ad 0 0)) X f_X3_10 oo9 kk9 dX3_isShow_3 rfl ?_
  refine v_get (v := .int (S 0 8 0)) X f_X3_89 oo0 kk0 dX3_isShow_6 rfl ?_
  refine v_iconst (v := 1) X dX3_isShow_9 (by decide) ?_
  refine v_isub X dX3_isShow_10 ?_
  refine v_callSz (As := [.int x1, .int 0, .int ((S 0 8 0) - 1)]) (rest := []) X (c_X3_isIn l S x1 0 ((S 0 8 0) - 1) _ h) mw_X3_isIn ms_X3_33 ⟨Nat.le_of_ble_eq_true rfl, Nat.le_of_ble_eq_true rfl⟩ rfl (Nat.le_of_ble_eq_true rfl) rfl dX3_isShow_11 (fun r11 S' hq hz11 => ?_)
  obtain ⟨hq1, h⟩ := hq
  rw [hq1]
  clear hq1
  exact v_zret X hr hlk dX3_isShow_14 hz11 ⟨rfl, h⟩
abbrev rm_X3_removeShow : Room := { frames := 3, cells := 0, slots := 0, locals := 68 }
def w_X3_removeShow (S : St) (x1 : Int32) (K : Int32 → St → Prop) : Prop := w_X3_isShow S x1 (fun r2 => ((¬ r2 = 0) → (w_X1_remember 0 S (fun S18 => w_X0_dropShow 0 S18 x1 (fun S26 => K (S26 0 8 0) S26)))) ∧ ((r2 = 0) → (K (-1) S)))
set_option maxHeartbeats 4000000 in
set_option maxRecDepth 100000 in
theorem c_X3_removeShow (l : Launch) {D : va_G} {cA : Nat → ClassId} {ad : Nat → Nat → Nat} {A : Nat → Prop} (S : St) (x1 : Int32) (K : Int32 → St → Prop) (h : w_X3_removeShow S x1 K) : MT l yX3_removeShow cX3_removeShow 2 (some .int) 3 68 [.ref (ad 9 0), .int x1] D cA ad A S (Qi D cA ad A K) := by
  refine MT.ofV (by decide) (Nat.le_of_ble_eq_true rfl) ?_
  intro p e s m args below meth c X hr hlk
  have X : Cx p rm_X3_removeShow m c cX3_removeShow 2 s args RX3 0 0 D cA ad A := X
  refine v_lv [(0, .ref (ad 9 0)), (1, .int x1)] rfl ?_
  unfold w_X3_removeShow at h
  refine v_aload_n X dX3_removeShow_0 rfl 0 rfl ?_
  refine v_iload_n X dX3_removeShow_1 rfl 1 rfl ?_
  refine v_callVz (o := 9) (ci := 3) (As := [.int x1]) (rest := []) X (c_X3_isShow l S x1 _ h) mw_X3_isShow mv_X3_95 oo9 kk9 ⟨Nat.le_of_ble_eq_true rfl, Nat.le_of_ble_eq_true rfl⟩ rfl (Nat.le_of_ble_eq_true rfl) rfl dX3_removeShow_2 (fun r2 S' hq hz2 => ?_)
  obtain ⟨hq1, h⟩ := hq
  rw [hq1]
  clear hq1
  refine v_if_ne X 10 dX3_removeShow_5 (by decide) (fun hc5 => ?_) (fun hc5 => ?_)
  · have h := h.1 hc5
    refine v_aload_n X dX3_removeShow_10 rfl 0 rfl ?_
    refine v_get (v := .ref (ad 7 0)) X f_X3_22 oo9 kk9 dX3_removeShow_11 rfl ?_
    refine v_aload_n X dX3_removeShow_14 rfl 0 rfl ?_
    refine v_get (v := .ref (ad 0 0)) X f_X3_10 oo9 kk9 dX3_removeShow_15 rfl ?_
    refine v_callVv (o := 7) (ci := 1) (As := [.ref (ad 0 0)]) (rest := []) X (c_X1_remember l 0 (by decide) S _ h) mw_X1_remember mv_X3_41 oo7 kk7 ⟨Nat.le_of_ble_eq_true rfl, Nat.le_of_ble_eq_true rfl⟩ rfl (Nat.le_of_ble_eq_true rfl) rfl dX3_removeShow_18 (fun S18 h => ?_)
    refine v_aload_n X dX3_removeShow_21 rfl 0 rfl ?_
    refine v_get (v := .ref (ad 0 0)) X f_X3_10 oo9 kk9 dX3_removeShow_22 rfl ?_
    refine v_iload_n X dX3_removeShow_25 rfl 1 rfl ?_
    refine v_callVv (o := 0) (ci := 0) (As := [.int x1]) (rest := []) X (c_X0_dropShow l 0 (by decide) S18 x1 _ h) mw_X0_dropShow mv_X3_98 oo0 kk0 ⟨Nat.le_of_ble_eq_true rfl, Nat.le_of_ble_eq_true rfl⟩ rfl (Nat.le_of_ble_eq_true rfl) rfl dX3_removeShow_26 (fun S26 h => ?_)
    refine v_aload_n X dX3_removeShow_29 rfl 0 rfl ?_
    refine v_get (v := .ref (ad 0 0)) X f_X3_10 oo9 kk9 dX3_removeShow_30 rfl ?_
    refine v_get (v := .int (S26 0 8 0)) X f_X3_89 oo0 kk0 dX3_removeShow_33 rfl ?_
    exact v_iret X hr hlk dX3_removeShow_36 h
  · have h := h.2 hc5
    refine v_iconst (v := (-1)) X dX3_removeShow_8 (by decide) ?_
    exact v_iret X hr hlk dX3_removeShow_9 h
abbrev rm_X3_moveShow : Room := { frames := 3, cells := 0, slots := 0, locals := 68 }
def w_X3_moveShow (S : St) (x1 : Int32) (x2 : Int32) (K : Int32 → St → Prop) : Prop := w_X3_isShow S x1 (fun r2 => ((r2 = 0) → (K (-1) S)) ∧ ((¬ r2 = 0) → (w_X3_isIn S x2 0 1439 (fun r13 => ((¬ r13 = 0) → (w_X1_remember 0 S (fun S29 => (vp_in x1 6) ∧ (∀ y41 : Int32, y41 = (S29 0 11 x1.toNatClampNeg) → ((vp_in x1 6) ∧ (∀ S51 : St, S51 = up3 S29 0 11 x1.toNatClampNeg x2 → (K y41 S51))))))) ∧ ((r13 = 0) → (K (-1) S))))))
set_option maxHeartbeats 4000000 in
set_option maxRecDepth 100000 in
theorem c_X3_moveShow (l : Launch) {D : va_G} {cA : Nat → ClassId} {ad : Nat → Nat → Nat} {A : Nat → Prop} (S : St) (x1 : Int32) (x2 : Int32) (K : Int32 → St → Prop) (h : w_X3_moveShow S x1 x2 K) : MT l yX3_moveShow cX3_moveShow 4 (some .int) 3 68 [.ref (ad 9 0), .int x1, .int x2] D cA ad A S (Qi D cA ad A K) := by
  refine MT.ofV (by decide) (Nat.le_of_ble_eq_true rfl) ?_
  intro p e s m args below meth c X hr hlk
  have X : Cx p rm_X3_moveShow m c cX3_moveShow 4 s args RX3 0 0 D cA ad A := X
  refine v_lv [(0, .ref (ad 9 0)), (1, .int x1), (2, .int x2)] rfl ?_
  unfold w_X3_moveShow at h
  refine v_aload_n X dX3_moveShow_0 rfl 0 rfl ?_
  refine v_iload_n X dX3_moveShow_1 rfl 1 rfl ?_
  refine v_callVz (o := 9) (ci := 3) (As := [.int x1]) (rest := []) X (c_X3_isShow l S x1 _ h) mw_X3_isShow mv_X3_95 oo9 kk9 ⟨Nat.le_of_ble_eq_true rfl, Nat.le_of_ble_eq_true rfl⟩ rfl (Nat.le_of_ble_eq_true rfl) rfl dX3_moveShow_2 (fun r2 S' hq hz2 => ?_)
  obtain ⟨hq1, h⟩ := hq
  rw [hq1]
  clear hq1
  refine v_if_eq X 19 dX3_moveShow_5 (by decide) (fun hc5 => ?_) (fun hc5 => ?_)
  · have h := h.1 hc5
    refine v_iconst (v := (-1)) X dX3_moveShow_19 (by decide) ?_
    exact v_iret X hr hlk dX3_moveShow_20 h
  · have h := h.2 hc5
    refine v_iload_n X dX3_moveShow_8 rfl 2 rfl ?_
    refine v_iconst (v := 0) X dX3_moveShow_9 (by decide) ?_
    refine v_sipush (v := 1439) X dX3_moveShow_10 (by decide) ?_
    refine v_callSz (As := [.int x2, .int 0, .int 1439]) (rest := []) X (c_X3_isIn l S x2 0 1439 _ h) mw_X3_isIn ms_X3_33 ⟨Nat.le_of_ble_eq_true rfl, Nat.le_of_ble_eq_true rfl⟩ rfl (Nat.le_of_ble_eq_true rfl) rfl dX3_moveShow_13 (fun r13 S' hq hz13 => ?_)
    obtain ⟨hq1, h⟩ := hq
    rw [hq1]
    clear hq1
    refine v_if_ne X 21 dX3_moveShow_16 (by decide) (fun hc16 => ?_) (fun hc16 => ?_)
    · have h := h.1 hc16
      refine v_aload_n X dX3_moveShow_21 rfl 0 rfl ?_
      refine v_get (v := .ref (ad 7 0)) X f_X3_22 oo9 kk9 dX3_moveShow_22 rfl ?_
      refine v_aload_n X dX3_moveShow_25 rfl 0 rfl ?_
      refine v_get (v := .ref (ad 0 0)) X f_X3_10 oo9 kk9 dX3_moveShow_26 rfl ?_
      refine v_callVv (o := 7) (ci := 1) (As := [.ref (ad 0 0)]) (rest := []) X (c_X1_remember l 0 (by decide) S _ h) mw_X1_remember mv_X3_41 oo7 kk7 ⟨Nat.le_of_ble_eq_true rfl, Nat.le_of_ble_eq_true rfl⟩ rfl (Nat.le_of_ble_eq_true rfl) rfl dX3_moveShow_29 (fun S29 h => ?_)
      refine v_aload_n X dX3_moveShow_32 rfl 0 rfl ?_
      refine v_get (v := .ref (ad 0 0)) X f_X3_10 oo9 kk9 dX3_moveShow_33 rfl ?_
      refine v_get (v := .ref (ad 0 12)) X f_X3_101 oo0 kk0 dX3_moveShow_36 rfl ?_
      refine v_iload_n X dX3_moveShow_39 rfl 1 rfl ?_
      obtain ⟨hb, h⟩ := h
      refine v_iald (o := 0) (k := 11) (n := 6) X oo0 kk0 rfl rfl rfl hb dX3_moveShow_40 ?_
      refine v_topi (fun y41 ey41 => ?_)
      have h := h y41 ey41
      refine v_istore_n X [(3, .int y41), (0, .ref (ad 9 0)), (1, .int x1), (2, .int x2)] dX3_moveShow_41 rfl (by decide) rfl ?_
      refine v_aload_n X dX3_moveShow_42 rfl 1 rfl ?_
      refine v_get (v := .ref (ad 0 0)) X f_X3_10 oo9 kk9 dX3_moveShow_43 rfl ?_
      refine v_get (v := .ref (ad 0 12)) X f_X3_101 oo0 kk0 dX3_moveShow_46 rfl ?_
      refine v_iload_n X dX3_moveShow_49 rfl 2 rfl ?_
      refine v_iload_n X dX3_moveShow_50 rfl 3 rfl ?_
      obtain ⟨hb, h⟩ := h
      refine v_iast (o := 0) (k := 11) (n := 6) X oo0 kk0 rfl rfl rfl hb dX3_moveShow_51 ?_
      refine v_st (fun S51 eS51 => ?_)
      have h := h S51 eS51
      refine v_iload_n X dX3_moveShow_52 rfl 0 rfl ?_
      exact v_iret X hr hlk dX3_moveShow_53 h
    · have h := h.2 hc16
      refine v_iconst (v := (-1)) X dX3_moveShow_19 (by decide) ?_
      exact v_iret X hr hlk dX3_moveShow_20 h
abbrev rm_X3_isReelOfShow : Room := { frames := 2, cells := 0, slots := 0, locals := 43 }
def w_X3_isReelOfShow (S : St) (x1 : Int32) (x2 : Int32) (K : Int32 → Prop) : Prop := w_X3_isShow S x1 (fun r2 => ((r2 = 0) → (K 0)) ∧ ((¬ r2 = 0) → ((vp_in x1 6) ∧ ((vp_in (S 0 10 x1.toNatClampNeg) 4) ∧ (w_X3_isIn S x2 0 ((S 0 0 (S 0 10 x1.toNatClampNeg).toNatClampNeg) - 1) (fun r29 => ((r29 = 0) → (K 0)) ∧ ((¬ r29 = 0) → (K 1))))))))
set_option maxHeartbeats 4000000 in
set_option maxRecDepth 100000 in
theorem c_X3_isReelOfShow (l : Launch) {D : va_G} {cA : Nat → ClassId} {ad : Nat → Nat → Nat} {A : Nat → Prop} (S : St) (x1 : Int32) (x2 : Int32) (K : Int32 → Prop) (h : w_X3_isReelOfShow S x1 x2 K) : MT l yX3_isReelOfShow cX3_isReelOfShow 3 (some .boolean) 2 43 [.ref (ad 9 0), .int x1, .int x2] D cA ad A S (Qz D cA ad A (fun r S' => S' = S ∧ K r)) := by
  refine MT.ofV (by decide) (Nat.le_of_ble_eq_true rfl) ?_
  intro p e s m args below meth c X hr hlk
  have X : Cx p rm_X3_isReelOfShow m c cX3_isReelOfShow 3 s args RX3 0 0 D cA ad A := X
  refine v_lv [(0, .ref (ad 9 0)), (1, .int x1), (2, .int x2)] rfl ?_
  unfold w_X3_isReelOfShow at h
  refine v_aload_n X dX3_isReelOfShow_0 rfl 0 rfl ?_
  refine v_iload_n X dX3_isReelOfShow_1 rfl 1 rfl ?_
  refine v_callVz (o := 9) (ci := 3) (As := [.int x1]) (rest := []) X (c_X3_isShow l S x1 _ h) mw_X3_isShow mv_X3_95 oo9 kk9 ⟨Nat.le_of_ble_eq_true rfl, Nat.le_of_ble_eq_true rfl⟩ rfl (Nat.le_of_ble_eq_true rfl) rfl dX3_isReelOfShow_2 (fun r2 S' hq hz2 => ?_)
  obtain ⟨hq1, h⟩ := hq
  rw [hq1]
  clear hq1
  refine v_if_eq X 39 dX3_isReelOfShow_5 (by decide) (fun hc5 => ?_) (fun hc5 => ?_)
  · have h := h.1 hc5
    refine v_iconst (v := 0) X dX3_isReelOfShow_39 (by decide) ?_
    exact v_zret X hr hlk dX3_isReelOfShow_40 (by first | exact Or.inl rfl | exact Or.inr rfl) ⟨rfl, h⟩
  · have h := h.2 hc5
    refine v_iload_n X dX3_isReelOfShow_8 rfl 2 rfl ?_
    refine v_iconst (v := 0) X dX3_isReelOfShow_9 (by decide) ?_
    refine v_aload_n X dX3_isReelOfShow_10 rfl 0 rfl ?_
    refine v_get (v := .ref (ad 0 0)) X f_X3_10 oo9 kk9 dX3_isReelOfShow_11 rfl ?_
    refine v_get (v := .ref (ad 0 1)) X f_X3_37 oo0 kk0 dX3_isReelOfShow_14 rfl ?_
    refine v_aload_n X dX3_isReelOfShow_17 rfl 0 rfl ?_
    refine v_get (v := .ref (ad 0 0)) X f_X3_10 oo9 kk9 dX3_isReelOfShow_18 rfl ?_
    refine v_get (v := .ref (ad 0 11)) X f_X3_175 oo0 kk0 dX3_isReelOfShow_21 rfl ?_
    refine v_iload_n X dX3_isReelOfShow_24 rfl 1 rfl ?_
    obtain ⟨hb, h⟩ := h
    refine v_iald (o := 0) (k := 10) (n := 6) X oo0 kk0 rfl rfl rfl hb dX3_isReelOfShow_25 ?_
    obtain ⟨hb, h⟩ := h
    refine v_iald (o := 0) (k := 0) (n := 4) X oo0 kk0 rfl rfl rfl hb dX3_isReelOfShow_26 ?_
    refine v_iconst (v := 1) X dX3_isReelOfShow_27 (by decide) ?_
    refine v_isub X dX3_isReelOfShow_28 ?_
    refine v_callSz (As := [.int x2, .int 0, .int ((S 0 0 (S 0 10 x1.toNatClampNeg).toNatClampNeg) - 1)]) (rest := []) X (c_X3_isIn l S x2 0 ((S 0 0 (S 0 10 x1.toNatClampNeg).toNatClampNeg) - 1) _ h) mw_X3_isIn ms_X3_33 ⟨Nat.le_of_ble_eq_true rfl, Nat.le_of_ble_eq_true rfl⟩ rfl (Nat.le_of_ble_eq_true rfl) rfl dX3_isReelOfShow_29 (fun r29 S' hq hz29 => ?_)
    obtain ⟨hq1, h⟩ := hq
    rw [hq1]
    clear hq1
    refine v_if_eq X 39 dX3_isReelOfShow_32 (by decide) (fun hc32 => ?_) (fun hc32 => ?_)
    · have h := h.1 hc32
      refine v_iconst (v := 0) X dX3_isReelOfShow_39 (by decide) ?_
      exact v_zret X hr hlk dX3_isReelOfShow_40 (by first | exact Or.inl rfl | exact Or.inr rfl) ⟨rfl, h⟩
    · have h := h.2 hc32
      refine v_iconst (v := 1) X dX3_isReelOfShow_35 (by decide) ?_
      refine v_goto X 40 dX3_isReelOfShow_36 (by decide) ?_
      exact v_zret X hr hlk dX3_isReelOfShow_40 (by first | exact Or.inl rfl | exact Or.inr rfl) ⟨rfl, h⟩
abbrev rm_X3_addBreak : Room := { frames := 3, cells := 0, slots := 0, locals := 68 }
def w_X3_addBreak (S : St) (x1 : Int32) (x2 : Int32) (x3 : Int32) (K : Int32 → St → Prop) : Prop := w_X3_isReelOfShow S x1 x2 (fun r3 => ((r3 = 0) → (K (-1) S)) ∧ ((¬ r3 = 0) → (w_X3_isIn S x3 1 60 (fun r13 => ((¬ r13 = 0) → ((((S 0 12 0) < 8) → (w_X1_remember 0 S (fun S44 => w_X0_appendBreak 0 S44 x1 x2 x3 (fun S54 => K (S54 0 12 0) S54)))) ∧ ((¬ (S 0 12 0) < 8) → (K (-3) S)))) ∧ ((r13 = 0) → (K (-1) S))))))
set_option maxHeartbeats 4000000 in
set_option maxRecDepth 100000 in
theorem c_X3_addBreak (l : Launch) {D : va_G} {cA : Nat → ClassId} {ad : Nat → Nat → Nat} {A : Nat → Prop} (S : St) (x1 : Int32) (x2 : Int32) (x3 : Int32) (K : Int32 → St → Prop) (h : w_X3_addBreak S x1 x2 x3 K) : MT l yX3_addBreak cX3_addBreak 4 (some .int) 3 68 [.ref (ad 9 0), .int x1, .int x2, .int x3] D cA ad A S (Qi D cA ad A K) := by
  refine MT.ofV (by decide) (Nat.le_of_ble_eq_true rfl) ?_
  intro p e s m args below meth c X hr hlk
  have X : Cx p rm_X3_addBreak m c cX3_addBreak 4 s args RX3 0 0 D cA ad A := X
  refine v_lv [(0, .ref (ad 9 0)), (1, .int x1), (2, .int x2), (3, .int x3)] rfl ?_
  unfold w_X3_addBreak at h
  refine v_aload_n X dX3_addBreak_0 rfl 0 rfl ?_
  refine v_iload_n X dX3_addBreak_1 rfl 1 rfl ?_
  refine v_iload_n X dX3_addBreak_2 rfl 2 rfl ?_
  refine v_callVz (o := 9) (ci := 3) (As := [.int x1, .int x2]) (rest := []) X (c_X3_isReelOfShow l S x1 x2 _ h) mw_X3_isReelOfShow mv_X3_104 oo9 kk9 ⟨Nat.le_of_ble_eq_true rfl, Nat.le_of_ble_eq_true rfl⟩ rfl (Nat.le_of_ble_eq_true rfl) rfl dX3_addBreak_3 (fun r3 S' hq hz3 => ?_)
  obtain ⟨hq1, h⟩ := hq
  rw [hq1]
  clear hq1
  refine v_if_eq X 19 dX3_addBreak_6 (by decide) (fun hc6 => ?_) (fun hc6 => ?_)
  · have h := h.1 hc6
    refine v_iconst (v := (-1)) X dX3_addBreak_19 (by decide) ?_
    exact v_iret X hr hlk dX3_addBreak_20 h
  · have h := h.2 hc6
    refine v_iload_n X dX3_addBreak_9 rfl 3 rfl ?_
    refine v_iconst (v := 1) X dX3_addBreak_10 (by decide) ?_
    refine v_bipush (v := 60) X dX3_addBreak_11 (by decide) ?_
    refine v_callSz (As := [.int x3, .int 1, .int 60]) (rest := []) X (c_X3_isIn l S x3 1 60 _ h) mw_X3_isIn ms_X3_33 ⟨Nat.le_of_ble_eq_true rfl, Nat.le_of_ble_eq_true rfl⟩ rfl (Nat.le_of_ble_eq_true rfl) rfl dX3_addBreak_13 (fun r13 S' hq hz13 => ?_)
    obtain ⟨hq1, h⟩ := hq
    rw [hq1]
    clear hq1
    refine v_if_ne X 21 dX3_addBreak_16 (by decide) (fun hc16 => ?_) (fun hc16 => ?_)
    · have h := h.1 hc16
      refine v_aload_n X dX3_addBreak_21 rfl 0 rfl ?_
      refine v_get (v := .ref (ad 0 0)) X f_X3_10 oo9 kk9 dX3_addBreak_22 rfl ?_
      refine v_get (v := .int (S 0 12 0)) X f_X3_108 oo0 kk0 dX3_addBreak_25 rfl ?_
      refine v_bipush (v := 8) X dX3_addBreak_28 (by decide) ?_
      refine v_icmp_lt X 36 dX3_addBreak_30 (by decide) (fun hc30 => ?_) (fun hc30 => ?_)
      · have h := h.1 hc30
        refine v_aload_n X dX3_addBreak_36 rfl 0 rfl ?_
        refine v_get (v := .ref (ad 7 0)) X f_X3_22 oo9 kk9 dX3_addBreak_37 rfl ?_
        refine v_aload_n X dX3_addBreak_40 rfl 0 rfl ?_
        refine v_get (v := .ref (ad 0 0)) X f_X3_10 oo9 kk9 dX3_addBreak_41 rfl ?_
        refine v_callVv (o := 7) (ci := 1) (As := [.ref (ad 0 0)]) (rest := []) X (c_X1_remember l 0 (by decide) S _ h) mw_X1_remember mv_X3_41 oo7 kk7 ⟨Nat.le_of_ble_eq_true rfl, Nat.le_of_ble_eq_true rfl⟩ rfl (Nat.le_of_ble_eq_true rfl) rfl dX3_addBreak_44 (fun S44 h => ?_)
        refine v_aload_n X dX3_addBreak_47 rfl 0 rfl ?_
        refine v_get (v := .ref (ad 0 0)) X f_X3_10 oo9 kk9 dX3_addBreak_48 rfl ?_
        refine v_iload_n X dX3_addBreak_51 rfl 1 rfl ?_
        refine v_iload_n X dX3_addBreak_52 rfl 2 rfl ?_
        refine v_iload_n X dX3_addBreak_53 rfl 3 rfl ?_
        refine v_callVv (o := 0) (ci := 0) (As := [.int x1, .int x2, .int x3]) (rest := []) X (c_X0_appendBreak l 0 (by decide) S44 x1 x2 x3 _ h) mw_X0_appendBreak mv_X3_111 oo0 kk0 ⟨Nat.le_of_ble_eq_true rfl, Nat.le_of_ble_eq_true rfl⟩ rfl (Nat.le_of_ble_eq_true rfl) rfl dX3_addBreak_54 (fun S54 h => ?_)
        refine v_aload_n X dX3_addBreak_57 rfl 0 rfl ?_
        refine v_get (v := .ref (ad 0 0)) X f_X3_10 oo9 kk9 dX3_addBreak_58 rfl ?_
        refine v_get (v := .int (S54 0 12 0)) X f_X3_108 oo0 kk0 dX3_addBreak_61 rfl ?_
        exact v_iret X hr hlk dX3_addBreak_64 h
      · have h := h.2 hc30
        refine v_bipush (v := (-3)) X dX3_addBreak_33 (by decide) ?_
        exact v_iret X hr hlk dX3_addBreak_35 h
    · have h := h.2 hc16
      refine v_iconst (v := (-1)) X dX3_addBreak_19 (by decide) ?_
      exact v_iret X hr hlk dX3_addBreak_20 h
abbrev rm_X3_clearBreaks : Room := { frames := 3, cells := 0, slots := 0, locals := 68 }
def w_X3_clearBreaks (S : St) (K : Int32 → St → Prop) : Prop := w_X1_remember 0 S (fun S8 => ∀ y18 : Int32, y18 = (S8 0 12 0) → (∀ S24 : St, S24 = up3 S8 0 12 0 0 → (K y18 S24)))
set_option maxHeartbeats 4000000 in
set_option maxRecDepth 100000 in
theorem c_X3_clearBreaks (l : Launch) {D : va_G} {cA : Nat → ClassId} {ad : Nat → Nat → Nat} {A : Nat → Prop} (S : St) (K : Int32 → St → Prop) (h : w_X3_clearBreaks S K) : MT l yX3_clearBreaks cX3_clearBreaks 2 (some .int) 3 68 [.ref (ad 9 0)] D cA ad A S (Qi D cA ad A K) := by
  refine MT.ofV (by decide) (Nat.le_of_ble_eq_true rfl) ?_
  intro p e s m args below meth c X hr hlk
  have X : Cx p rm_X3_clearBreaks m c cX3_clearBreaks 2 s args RX3 0 0 D cA ad A := X
  refine v_lv [(0, .ref (ad 9 0))] rfl ?_
  unfold w_X3_clearBreaks at h
  refine v_aload_n X dX3_clearBreaks_0 rfl 0 rfl ?_
  refine v_get (v := .ref (ad 7 0)) X f_X3_22 oo9 kk9 dX3_clearBreaks_1 rfl ?_
  refine v_aload_n X dX3_clearBreaks_4 rfl 0 rfl ?_
  refine v_get (v := .ref (ad 0 0)) X f_X3_10 oo9 kk9 dX3_clearBreaks_5 rfl ?_
  refine v_callVv (o := 7) (ci := 1) (As := [.ref (ad 0 0)]) (rest := []) X (c_X1_remember l 0 (by decide) S _ h) mw_X1_remember mv_X3_41 oo7 kk7 ⟨Nat.le_of_ble_eq_true rfl, Nat.le_of_ble_eq_true rfl⟩ rfl (Nat.le_of_ble_eq_true rfl) rfl dX3_clearBreaks_8 (fun S8 h => ?_)
  refine v_aload_n X dX3_clearBreaks_11 rfl 0 rfl ?_
  refine v_get (v := .ref (ad 0 0)) X f_X3_10 oo9 kk9 dX3_clearBreaks_12 rfl ?_
  refine v_get (v := .int (S8 0 12 0)) X f_X3_108 oo0 kk0 dX3_clearBreaks_15 rfl ?_
  refine v_topi (fun y18 ey18 => ?_)
  have h := h y18 ey18
  refine v_istore_n X [(1, .int y18), (0, .ref (ad 9 0))] dX3_clearBreaks_18 rfl (by decide) rfl ?_
  refine v_aload_n X dX3_clearBreaks_19 rfl 1 rfl ?_
  refine v_get (v := .ref (ad 0 0)) X f_X3_10 oo9 kk9 dX3_clearBreaks_20 rfl ?_
  refine v_iconst (v := 0) X dX3_clearBreaks_23 (by decide) ?_
  refine v_put (o := 0) X f_X3_108 oo0 kk0 rfl dX3_clearBreaks_24 ?_
  refine v_st (fun S24 eS24 => ?_)
  have h := h S24 eS24
  refine v_iload_n X dX3_clearBreaks_27 rfl 0 rfl ?_
  exact v_iret X hr hlk dX3_clearBreaks_28 h
abbrev rm_X3_startOf : Room := { frames := 6, cells := 0, slots := 0, locals := 159 }
def w_X3_startOf (S : St) (x1 : Int32) (x2 : Int32) (K : Int32 → St → Prop) : Prop := w_X3_isReelOfShow S x1 x2 (fun r3 => ((¬ r3 = 0) → (w_X2_make 0 S (fun S19 => (vp_in x1 6) ∧ ((((S19 8 0 x1.toNatClampNeg) = 0) → (K (-4) S19)) ∧ ((¬ (S19 8 0 x1.toNatClampNeg) = 0) → (w_X3_reelPlace S19 x1 x2 (fun r43 => (vp_in r43 36) ∧ (K (S19 8 1 r43.toNatClampNeg) S19)))))))) ∧ ((r3 = 0) → (K (-1) S)))
set_option maxHeartbeats 4000000 in
set_option maxRecDepth 100000 in
theorem c_X3_startOf (l : Launch) {D : va_G} {cA : Nat → ClassId} {ad : Nat → Nat → Nat} {A : Nat → Prop} (S : St) (x1 : Int32) (x2 : Int32) (K : Int32 → St → Prop) (h : w_X3_startOf S x1 x2 K) : MT l yX3_startOf cX3_startOf 3 (some .int) 6 159 [.ref (ad 9 0), .int x1, .int x2] D cA ad A S (Qi D cA ad A K) := by
  refine MT.ofV (by decide) (Nat.le_of_ble_eq_true rfl) ?_
  intro p e s m args below meth c X hr hlk
  have X : Cx p rm_X3_startOf m c cX3_startOf 3 s args RX3 0 0 D cA ad A := X
  refine v_lv [(0, .ref (ad 9 0)), (1, .int x1), (2, .int x2)] rfl ?_
  unfold w_X3_startOf at h
  refine v_aload_n X dX3_startOf_0 rfl 0 rfl ?_
  refine v_iload_n X dX3_startOf_1 rfl 1 rfl ?_
  refine v_iload_n X dX3_startOf_2 rfl 2 rfl ?_
  refine v_callVz (o := 9) (ci := 3) (As := [.int x1, .int x2]) (rest := []) X (c_X3_isReelOfShow l S x1 x2 _ h) mw_X3_isReelOfShow mv_X3_104 oo9 kk9 ⟨Nat.le_of_ble_eq_true rfl, Nat.le_of_ble_eq_true rfl⟩ rfl (Nat.le_of_ble_eq_true rfl) rfl dX3_startOf_3 (fun r3 S' hq hz3 => ?_)
  obtain ⟨hq1, h⟩ := hq
  rw [hq1]
  clear hq1
  refine v_if_ne X 11 dX3_startOf_6 (by decide) (fun hc6 => ?_) (fun hc6 => ?_)
  · have h := h.1 hc6
    refine v_aload_n X dX3_startOf_11 rfl 0 rfl ?_
    refine v_get (v := .ref (ad 8 0)) X f_X3_29 oo9 kk9 dX3_startOf_12 rfl ?_
    refine v_aload_n X dX3_startOf_15 rfl 0 rfl ?_
    refine v_get (v := .ref (ad 0 0)) X f_X3_10 oo9 kk9 dX3_startOf_16 rfl ?_
    refine v_callVv (o := 8) (ci := 2) (As := [.ref (ad 0 0)]) (rest := []) X (c_X2_make l 0 (by decide) S _ h) mw_X2_make mv_X3_114 oo8 kk8 ⟨Nat.le_of_ble_eq_true rfl, Nat.le_of_ble_eq_true rfl⟩ rfl (Nat.le_of_ble_eq_true rfl) rfl dX3_startOf_19 (fun S19 h => ?_)
    refine v_aload_n X dX3_startOf_22 rfl 0 rfl ?_
    refine v_get (v := .ref (ad 8 0)) X f_X3_29 oo9 kk9 dX3_startOf_23 rfl ?_
    refine v_get (v := .ref (ad 8 1)) X f_X3_117 oo8 kk8 dX3_startOf_26 rfl ?_
    refine v_iload_n X dX3_startOf_29 rfl 1 rfl ?_
    obtain ⟨hb, h⟩ := h
    refine v_zald (o := 8) (k := 0) (n := 6) X oo8 kk8 rfl rfl rfl hb dX3_startOf_30 ?_
    refine v_if_eq X 50 dX3_startOf_31 (by decide) (fun hc31 => ?_) (fun hc31 => ?_)
    · have h := h.1 hc31
      refine v_bipush (v := (-4)) X dX3_startOf_50 (by decide) ?_
      exact v_iret X hr hlk dX3_startOf_52 h
    · have h := h.2 hc31
      refine v_aload_n X dX3_startOf_34 rfl 0 rfl ?_
      refine v_get (v := .ref (ad 8 0)) X f_X3_29 oo9 kk9 dX3_startOf_35 rfl ?_
      refine v_get (v := .ref (ad 8 2)) X f_X3_121 oo8 kk8 dX3_startOf_38 rfl ?_
      refine v_iload_n X dX3_startOf_41 rfl 1 rfl ?_
      refine v_iload_n X dX3_startOf_42 rfl 2 rfl ?_
      refine v_callSi (As := [.int x1, .int x2]) (rest := [.ref (ad 8 2)]) X (c_X3_reelPlace l S19 x1 x2 _ h) mw_X3_reelPlace ms_X3_124 ⟨Nat.le_of_ble_eq_true rfl, Nat.le_of_ble_eq_true rfl⟩ rfl (Nat.le_of_ble_eq_true rfl) rfl dX3_startOf_43 (fun r43 S' hq => ?_)
      obtain ⟨hq1, h⟩ := hq
      rw [hq1]
      clear hq1
      obtain ⟨hb, h⟩ := h
      refine v_iald (o := 8) (k := 1) (n := 36) X oo8 kk8 rfl rfl rfl hb dX3_startOf_46 ?_
      refine v_goto X 52 dX3_startOf_47 (by decide) ?_
      exact v_iret X hr hlk dX3_startOf_52 h
  · have h := h.2 hc6
    refine v_iconst (v := (-1)) X dX3_startOf_9 (by decide) ?_
    exact v_iret X hr hlk dX3_startOf_10 h
abbrev rm_X3_machineOf : Room := { frames := 6, cells := 0, slots := 0, locals := 159 }
def w_X3_machineOf (S : St) (x1 : Int32) (x2 : Int32) (K : Int32 → St → Prop) : Prop := w_X3_isReelOfShow S x1 x2 (fun r3 => ((¬ r3 = 0) → (w_X2_make 0 S (fun S19 => (vp_in x1 6) ∧ ((((S19 8 0 x1.toNatClampNeg) = 0) → (K (-4) S19)) ∧ ((¬ (S19 8 0 x1.toNatClampNeg) = 0) → (w_X3_reelPlace S19 x1 x2 (fun r43 => (vp_in r43 36) ∧ (K (S19 8 2 r43.toNatClampNeg) S19)))))))) ∧ ((r3 = 0) → (K (-1) S)))
set_option maxHeartbeats 4000000 in
set_option maxRecDepth 100000 in
theorem c_X3_machineOf (l : Launch) {D : va_G} {cA : Nat → ClassId} {ad : Nat → Nat → Nat} {A : Nat → Prop} (S : St) (x1 : Int32) (x2 : Int32) (K : Int32 → St → Prop) (h : w_X3_machineOf S x1 x2 K) : MT l yX3_machineOf cX3_machineOf 3 (some .int) 6 159 [.ref (ad 9 0), .int x1, .int x2] D cA ad A S (Qi D cA ad A K) := by
  refine MT.ofV (by decide) (Nat.le_of_ble_eq_true rfl) ?_
  intro p e s m args below meth c X hr hlk
  have X : Cx p rm_X3_machineOf m c cX3_machineOf 3 s args RX3 0 0 D cA ad A := X
  refine v_lv [(0, .ref (ad 9 0)), (1, .int x1), (2, .int x2)] rfl ?_
  unfold w_X3_machineOf at h
  refine v_aload_n X dX3_machineOf_0 rfl 0 rfl ?_
  refine v_iload_n X dX3_machineOf_1 rfl 1 rfl ?_
  refine v_iload_n X dX3_machineOf_2 rfl 2 rfl ?_
  refine v_callVz (o := 9) (ci := 3) (As := [.int x1, .int x2]) (rest := []) X (c_X3_isReelOfShow l S x1 x2 _ h) mw_X3_isReelOfShow mv_X3_104 oo9 kk9 ⟨Nat.le_of_ble_eq_true rfl, Nat.le_of_ble_eq_true rfl⟩ rfl (Nat.le_of_ble_eq_true rfl) rfl dX3_machineOf_3 (fun r3 S' hq hz3 => ?_)
  obtain ⟨hq1, h⟩ := hq
  rw [hq1]
  clear hq1
  refine v_if_ne X 11 dX3_machineOf_6 (by decide) (fun hc6 => ?_) (fun hc6 => ?_)
  · have h := h.1 hc6
    refine v_aload_n X dX3_machineOf_11 rfl 0 rfl ?_
    refine v_get (v := .ref (ad 8 0)) X f_X3_29 oo9 kk9 dX3_machineOf_12 rfl ?_
    refine v_aload_n X dX3_machineOf_15 rfl 0 rfl ?_
    refine v_get (v := .ref (ad 0 0)) X f_X3_10 oo9 kk9 dX3_machineOf_16 rfl ?_
    refine v_callVv (o := 8) (ci := 2) (As := [.ref (ad 0 0)]) (rest := []) X (c_X2_make l 0 (by decide) S _ h) mw_X2_make mv_X3_114 oo8 kk8 ⟨Nat.le_of_ble_eq_true rfl, Nat.le_of_ble_eq_true rfl⟩ rfl (Nat.le_of_ble_eq_true rfl) rfl dX3_machineOf_19 (fun S19 h => ?_)
    refine v_aload_n X dX3_machineOf_22 rfl 0 rfl ?_
    refine v_get (v := .ref (ad 8 0)) X f_X3_29 oo9 kk9 dX3_machineOf_23 rfl ?_
    refine v_get (v := .ref (ad 8 1)) X f_X3_117 oo8 kk8 dX3_machineOf_26 rfl ?_
    refine v_iload_n X dX3_machineOf_29 rfl 1 rfl ?_
    obtain ⟨hb, h⟩ := h
    refine v_zald (o := 8) (k := 0) (n := 6) X oo8 kk8 rfl rfl rfl hb dX3_machineOf_30 ?_
    refine v_if_eq X 50 dX3_machineOf_31 (by decide) (fun hc31 => ?_) (fun hc31 => ?_)
    · have h := h.1 hc31
      refine v_bipush (v := (-4)) X dX3_machineOf_50 (by decide) ?_
      exact v_iret X hr hlk dX3_machineOf_52 h
    · have h := h.2 hc31
      refine v_aload_n X dX3_machineOf_34 rfl 0 rfl ?_
      refine v_get (v := .ref (ad 8 0)) X f_X3_29 oo9 kk9 dX3_machineOf_35 rfl ?_
      refine v_get (v := .ref (ad 8 3)) X f_X3_128 oo8 kk8 dX3_machineOf_38 rfl ?_
      refine v_iload_n X dX3_machineOf_41 rfl 1 rfl ?_
      refine v_iload_n X dX3_machineOf_42 rfl 2 rfl ?_
      refine v_callSi (As := [.int x1, .int x2]) (rest := [.ref (ad 8 3)]) X (c_X3_reelPlace l S19 x1 x2 _ h) mw_X3_reelPlace ms_X3_124 ⟨Nat.le_of_ble_eq_true rfl, Nat.le_of_ble_eq_true rfl⟩ rfl (Nat.le_of_ble_eq_true rfl) rfl dX3_machineOf_43 (fun r43 S' hq => ?_)
      obtain ⟨hq1, h⟩ := hq
      rw [hq1]
      clear hq1
      obtain ⟨hb, h⟩ := h
      refine v_iald (o := 8) (k := 2) (n := 36) X oo8 kk8 rfl rfl rfl hb dX3_machineOf_46 ?_
      refine v_goto X 52 dX3_machineOf_47 (by decide) ?_
      exact v_iret X hr hlk dX3_machineOf_52 h
  · have h := h.2 hc6
    refine v_iconst (v := (-1)) X dX3_machineOf_9 (by decide) ?_
    exact v_iret X hr hlk dX3_machineOf_10 h
abbrev rm_X3_endOf : Room := { frames := 6, cells := 0, slots := 0, locals := 159 }
def w_X3_endOf (S : St) (x1 : Int32) (K : Int32 → St → Prop) : Prop := w_X3_isShow S x1 (fun r2 => ((¬ r2 = 0) → (w_X2_make 0 S (fun S18 => (vp_in x1 6) ∧ ((((S18 8 0 x1.toNatClampNeg) = 0) → (K (-4) S18)) ∧ ((¬ (S18 8 0 x1.toNatClampNeg) = 0) → ((vp_in x1 6) ∧ (K (S18 8 3 x1.toNatClampNeg) S18))))))) ∧ ((r2 = 0) → (K (-1) S)))
set_option maxHeartbeats 4000000 in
set_option maxRecDepth 100000 in
theorem c_X3_endOf (l : Launch) {D : va_G} {cA : Nat → ClassId} {ad : Nat → Nat → Nat} {A : Nat → Prop} (S : St) (x1 : Int32) (K : Int32 → St → Prop) (h : w_X3_endOf S x1 K) : MT l yX3_endOf cX3_endOf 2 (some .int) 6 159 [.ref (ad 9 0), .int x1] D cA ad A S (Qi D cA ad A K) := by
  refine MT.ofV (by decide) (Nat.le_of_ble_eq_true rfl) ?_
  intro p e s m args below meth c X hr hlk
  have X : Cx p rm_X3_endOf m c cX3_endOf 2 s args RX3 0 0 D cA ad A := X
  refine v_lv [(0, .ref (ad 9 0)), (1, .int x1)] rfl ?_
  unfold w_X3_endOf at h
  refine v_aload_n X dX3_endOf_0 rfl 0 rfl ?_
  refine v_iload_n X dX3_endOf_1 rfl 1 rfl ?_
  refine v_callVz (o := 9) (ci := 3) (As := [.int x1]) (rest := []) X (c_X3_isShow l S x1 _ h) mw_X3_isShow mv_X3_95 oo9 kk9 ⟨Nat.le_of_ble_eq_true rfl, Nat.le_of_ble_eq_true rfl⟩ rfl (Nat.le_of_ble_eq_true rfl) rfl dX3_endOf_2 (fun r2 S' hq hz2 => ?_)
  obtain ⟨hq1, h⟩ := hq
  rw [hq1]
  clear hq1
  refine v_if_ne X 10 dX3_endOf_5 (by decide) (fun hc5 => ?_) (fun hc5 => ?_)
  · have h := h.1 hc5
    refine v_aload_n X dX3_endOf_10 rfl 0 rfl ?_
    refine v_get (v := .ref (ad 8 0)) X f_X3_29 oo9 kk9 dX3_endOf_11 rfl ?_
    refine v_aload_n X dX3_endOf_14 rfl 0 rfl ?_
    refine v_get (v := .ref (ad 0 0)) X f_X3_10 oo9 kk9 dX3_endOf_15 rfl ?_
    refine v_callVv (o := 8) (ci := 2) (As := [.ref (ad 0 0)]) (rest := []) X (c_X2_make l 0 (by decide) S _ h) mw_X2_make mv_X3_114 oo8 kk8 ⟨Nat.le_of_ble_eq_true rfl, Nat.le_of_ble_eq_true rfl⟩ rfl (Nat.le_of_ble_eq_true rfl) rfl dX3_endOf_18 (fun S18 h => ?_)
    refine v_aload_n X dX3_endOf_21 rfl 0 rfl ?_
    refine v_get (v := .ref (ad 8 0)) X f_X3_29 oo9 kk9 dX3_endOf_22 rfl ?_
    refine v_get (v := .ref (ad 8 1)) X f_X3_117 oo8 kk8 dX3_endOf_25 rfl ?_
    refine v_iload_n X dX3_endOf_28 rfl 1 rfl ?_
    obtain ⟨hb, h⟩ := h
    refine v_zald (o := 8) (k := 0) (n := 6) X oo8 kk8 rfl rfl rfl hb dX3_endOf_29 ?_
    refine v_if_eq X 45 dX3_endOf_30 (by decide) (fun hc30 => ?_) (fun hc30 => ?_)
    · have h := h.1 hc30
      refine v_bipush (v := (-4)) X dX3_endOf_45 (by decide) ?_
      exact v_iret X hr hlk dX3_endOf_47 h
    · have h := h.2 hc30
      refine v_aload_n X dX3_endOf_33 rfl 0 rfl ?_
      refine v_get (v := .ref (ad 8 0)) X f_X3_29 oo9 kk9 dX3_endOf_34 rfl ?_
      refine v_get (v := .ref (ad 8 4)) X f_X3_131 oo8 kk8 dX3_endOf_37 rfl ?_
      refine v_iload_n X dX3_endOf_40 rfl 1 rfl ?_
      obtain ⟨hb, h⟩ := h
      refine v_iald (o := 8) (k := 3) (n := 6) X oo8 kk8 rfl rfl rfl hb dX3_endOf_41 ?_
      refine v_goto X 47 dX3_endOf_42 (by decide) ?_
      exact v_iret X hr hlk dX3_endOf_47 h
  · have h := h.2 hc5
    refine v_iconst (v := (-1)) X dX3_endOf_8 (by decide) ?_
    exact v_iret X hr hlk dX3_endOf_9 h
abbrev rm_X3_delayOf : Room := { frames := 6, cells := 0, slots := 0, locals := 159 }
def w_X3_delayOf (S : St) (x1 : Int32) (K : Int32 → St → Prop) : Prop := w_X3_isShow S x1 (fun r2 => ((¬ r2 = 0) → (w_X2_make 0 S (fun S18 => (vp_in x1 6) ∧ (K (S18 8 4 x1.toNatClampNeg) S18)))) ∧ ((r2 = 0) → (K (-1) S)))
set_option maxHeartbeats 4000000 in
set_option maxRecDepth 100000 in
theorem c_X3_delayOf (l : Launch) {D : va_G} {cA : Nat → ClassId} {ad : Nat → Nat → Nat} {A : Nat → Prop} (S : St) (x1 : Int32) (K : Int32 → St → Prop) (h : w_X3_delayOf S x1 K) : MT l yX3_delayOf cX3_delayOf 2 (some .int) 6 159 [.ref (ad 9 0), .int x1] D cA ad A S (Qi D cA ad A K) := by
  refine MT.ofV (by decide) (Nat.le_of_ble_eq_true rfl) ?_
  intro p e s m args below meth c X hr hlk
  have X : Cx p rm_X3_delayOf m c cX3_delayOf 2 s args RX3 0 0 D cA ad A := X
  refine v_lv [(0, .ref (ad 9 0)), (1, .int x1)] rfl ?_
  unfold w_X3_delayOf at h
  refine v_aload_n X dX3_delayOf_0 rfl 0 rfl ?_
  refine v_iload_n X dX3_delayOf_1 rfl 1 rfl ?_
  refine v_callVz (o := 9) (ci := 3) (As := [.int x1]) (rest := []) X (c_X3_isShow l S x1 _ h) mw_X3_isShow mv_X3_95 oo9 kk9 ⟨Nat.le_of_ble_eq_true rfl, Nat.le_of_ble_eq_true rfl⟩ rfl (Nat.le_of_ble_eq_true rfl) rfl dX3_delayOf_2 (fun r2 S' hq hz2 => ?_)
  obtain ⟨hq1, h⟩ := hq
  rw [hq1]
  clear hq1
  refine v_if_ne X 10 dX3_delayOf_5 (by decide) (fun hc5 => ?_) (fun hc5 => ?_)
  · have h := h.1 hc5
    refine v_aload_n X dX3_delayOf_10 rfl 0 rfl ?_
    refine v_get (v := .ref (ad 8 0)) X f_X3_29 oo9 kk9 dX3_delayOf_11 rfl ?_
    refine v_aload_n X dX3_delayOf_14 rfl 0 rfl ?_
    refine v_get (v := .ref (ad 0 0)) X f_X3_10 oo9 kk9 dX3_delayOf_15 rfl ?_
    refine v_callVv (o := 8) (ci := 2) (As := [.ref (ad 0 0)]) (rest := []) X (c_X2_make l 0 (by decide) S _ h) mw_X2_make mv_X3_114 oo8 kk8 ⟨Nat.le_of_ble_eq_true rfl, Nat.le_of_ble_eq_true rfl⟩ rfl (Nat.le_of_ble_eq_true rfl) rfl dX3_delayOf_18 (fun S18 h => ?_)
    refine v_aload_n X dX3_delayOf_21 rfl 0 rfl ?_
    refine v_get (v := .ref (ad 8 0)) X f_X3_29 oo9 kk9 dX3_delayOf_22 rfl ?_
    refine v_get (v := .ref (ad 8 5)) X f_X3_134 oo8 kk8 dX3_delayOf_25 rfl ?_
    refine v_iload_n X dX3_delayOf_28 rfl 1 rfl ?_
    obtain ⟨hb, h⟩ := h
    refine v_iald (o := 8) (k := 4) (n := 6) X oo8 kk8 rfl rfl rfl hb dX3_delayOf_29 ?_
    exact v_iret X hr hlk dX3_delayOf_30 h
  · have h := h.2 hc5
    refine v_iconst (v := (-1)) X dX3_delayOf_8 (by decide) ?_
    exact v_iret X hr hlk dX3_delayOf_9 h
abbrev rm_X3_gapOf : Room := { frames := 6, cells := 0, slots := 0, locals := 159 }
def w_X3_gapOf (S : St) (x1 : Int32) (K : Int32 → St → Prop) : Prop := w_X3_isShow S x1 (fun r2 => ((¬ r2 = 0) → (w_X2_make 0 S (fun S18 => (vp_in x1 6) ∧ (K (S18 8 5 x1.toNatClampNeg) S18)))) ∧ ((r2 = 0) → (K (-1) S)))
set_option maxHeartbeats 4000000 in
set_option maxRecDepth 100000 in
theorem c_X3_gapOf (l : Launch) {D : va_G} {cA : Nat → ClassId} {ad : Nat → Nat → Nat} {A : Nat → Prop} (S : St) (x1 : Int32) (K : Int32 → St → Prop) (h : w_X3_gapOf S x1 K) : MT l yX3_gapOf cX3_gapOf 2 (some .int) 6 159 [.ref (ad 9 0), .int x1] D cA ad A S (Qi D cA ad A K) := by
  refine MT.ofV (by decide) (Nat.le_of_ble_eq_true rfl) ?_
  intro p e s m args below meth c X hr hlk
  have X : Cx p rm_X3_gapOf m c cX3_gapOf 2 s args RX3 0 0 D cA ad A := X
  refine v_lv [(0, .ref (ad 9 0)), (1, .int x1)] rfl ?_
  unfold w_X3_gapOf at h
  refine v_aload_n X dX3_gapOf_0 rfl 0 rfl ?_
  refine v_iload_n X dX3_gapOf_1 rfl 1 rfl ?_
  refine v_callVz (o := 9) (ci := 3) (As := [.int x1]) (rest := []) X (c_X3_isShow l S x1 _ h) mw_X3_isShow mv_X3_95 oo9 kk9 ⟨Nat.le_of_ble_eq_true rfl, Nat.le_of_ble_eq_true rfl⟩ rfl (Nat.le_of_ble_eq_true rfl) rfl dX3_gapOf_2 (fun r2 S' hq hz2 => ?_)
  obtain ⟨hq1, h⟩ := hq
  rw [hq1]
  clear hq1
  refine v_if_ne X 10 dX3_gapOf_5 (by decide) (fun hc5 => ?_) (fun hc5 => ?_)
  · have h := h.1 hc5
    refine v_aload_n X dX3_gapOf_10 rfl 0 rfl ?_
    refine v_get (v := .ref (ad 8 0)) X f_X3_29 oo9 kk9 dX3_gapOf_11 rfl ?_
    refine v_aload_n X dX3_gapOf_14 rfl 0 rfl ?_
    refine v_get (v := .ref (ad 0 0)) X f_X3_10 oo9 kk9 dX3_gapOf_15 rfl ?_
    refine v_callVv (o := 8) (ci := 2) (As := [.ref (ad 0 0)]) (rest := []) X (c_X2_make l 0 (by decide) S _ h) mw_X2_make mv_X3_114 oo8 kk8 ⟨Nat.le_of_ble_eq_true rfl, Nat.le_of_ble_eq_true rfl⟩ rfl (Nat.le_of_ble_eq_true rfl) rfl dX3_gapOf_18 (fun S18 h => ?_)
    refine v_aload_n X dX3_gapOf_21 rfl 0 rfl ?_
    refine v_get (v := .ref (ad 8 0)) X f_X3_29 oo9 kk9 dX3_gapOf_22 rfl ?_
    refine v_get (v := .ref (ad 8 6)) X f_X3_137 oo8 kk8 dX3_gapOf_25 rfl ?_
    refine v_iload_n X dX3_gapOf_28 rfl 1 rfl ?_
    obtain ⟨hb, h⟩ := h
    refine v_iald (o := 8) (k := 5) (n := 6) X oo8 kk8 rfl rfl rfl hb dX3_gapOf_29 ?_
    exact v_iret X hr hlk dX3_gapOf_30 h
  · have h := h.2 hc5
    refine v_iconst (v := (-1)) X dX3_gapOf_8 (by decide) ?_
    exact v_iret X hr hlk dX3_gapOf_9 h
abbrev rm_X3_loss : Room := { frames := 7, cells := 0, slots := 0, locals := 180 }
def w_X3_loss (S : St) (K : Int32 → St → Prop) : Prop := w_X2_lossWith 0 S (fun r8 S8 => K r8 S8)
set_option maxHeartbeats 4000000 in
set_option maxRecDepth 100000 in
theorem c_X3_loss (l : Launch) {D : va_G} {cA : Nat → ClassId} {ad : Nat → Nat → Nat} {A : Nat → Prop} (S : St) (K : Int32 → St → Prop) (h : w_X3_loss S K) : MT l yX3_loss cX3_loss 1 (some .int) 7 180 [.ref (ad 9 0)] D cA ad A S (Qi D cA ad A K) := by
  refine MT.ofV (by decide) (Nat.le_of_ble_eq_true rfl) ?_
  intro p e s m args below meth c X hr hlk
  have X : Cx p rm_X3_loss m c cX3_loss 1 s args RX3 0 0 D cA ad A := X
  refine v_lv [(0, .ref (ad 9 0))] rfl ?_
  unfold w_X3_loss at h
  refine v_aload_n X dX3_loss_0 rfl 0 rfl ?_
  refine v_get (v := .ref (ad 8 0)) X f_X3_29 oo9 kk9 dX3_loss_1 rfl ?_
  refine v_aload_n X dX3_loss_4 rfl 0 rfl ?_
  refine v_get (v := .ref (ad 0 0)) X f_X3_10 oo9 kk9 dX3_loss_5 rfl ?_
  refine v_callVi (o := 8) (ci := 2) (As := [.ref (ad 0 0)]) (rest := []) X (c_X2_lossWith l 0 (by decide) S _ h) mw_X2_lossWith mv_X3_140 oo8 kk8 ⟨Nat.le_of_ble_eq_true rfl, Nat.le_of_ble_eq_true rfl⟩ rfl (Nat.le_of_ble_eq_true rfl) rfl dX3_loss_8 (fun r8 S8 h => ?_)
  exact v_iret X hr hlk dX3_loss_11 h
abbrev rm_X3_carriedReels : Room := { frames := 6, cells := 0, slots := 0, locals := 159 }
def w_X3_carriedReels (S : St) (K : Int32 → St → Prop) : Prop := w_X2_make 0 S (fun S8 => K (S8 8 7 0) S8)
set_option maxHeartbeats 4000000 in
set_option maxRecDepth 100000 in
theorem c_X3_carriedReels (l : Launch) {D : va_G} {cA : Nat → ClassId} {ad : Nat → Nat → Nat} {A : Nat → Prop} (S : St) (K : Int32 → St → Prop) (h : w_X3_carriedReels S K) : MT l yX3_carriedReels cX3_carriedReels 1 (some .int) 6 159 [.ref (ad 9 0)] D cA ad A S (Qi D cA ad A K) := by
  refine MT.ofV (by decide) (Nat.le_of_ble_eq_true rfl) ?_
  intro p e s m args below meth c X hr hlk
  have X : Cx p rm_X3_carriedReels m c cX3_carriedReels 1 s args RX3 0 0 D cA ad A := X
  refine v_lv [(0, .ref (ad 9 0))] rfl ?_
  unfold w_X3_carriedReels at h
  refine v_aload_n X dX3_carriedReels_0 rfl 0 rfl ?_
  refine v_get (v := .ref (ad 8 0)) X f_X3_29 oo9 kk9 dX3_carriedReels_1 rfl ?_
  refine v_aload_n X dX3_carriedReels_4 rfl 0 rfl ?_
  refine v_get (v := .ref (ad 0 0)) X f_X3_10 oo9 kk9 dX3_carriedReels_5 rfl ?_
  refine v_callVv (o := 8) (ci := 2) (As := [.ref (ad 0 0)]) (rest := []) X (c_X2_make l 0 (by decide) S _ h) mw_X2_make mv_X3_114 oo8 kk8 ⟨Nat.le_of_ble_eq_true rfl, Nat.le_of_ble_eq_true rfl⟩ rfl (Nat.le_of_ble_eq_true rfl) rfl dX3_carriedReels_8 (fun S8 h => ?_)
  refine v_aload_n X dX3_carriedReels_11 rfl 0 rfl ?_
  refine v_get (v := .ref (ad 8 0)) X f_X3_29 oo9 kk9 dX3_carriedReels_12 rfl ?_
  refine v_get (v := .int (S8 8 7 0)) X f_X3_144 oo8 kk8 dX3_carriedReels_15 rfl ?_
  exact v_iret X hr hlk dX3_carriedReels_18 h
abbrev rm_X3_plateChanges : Room := { frames := 6, cells := 0, slots := 0, locals := 159 }
def w_X3_plateChanges (S : St) (K : Int32 → St → Prop) : Prop := w_X2_make 0 S (fun S8 => K (S8 8 8 0) S8)
set_option maxHeartbeats 4000000 in
set_option maxRecDepth 100000 in
theorem c_X3_plateChanges (l : Launch) {D : va_G} {cA : Nat → ClassId} {ad : Nat → Nat → Nat} {A : Nat → Prop} (S : St) (K : Int32 → St → Prop) (h : w_X3_plateChanges S K) : MT l yX3_plateChanges cX3_plateChanges 1 (some .int) 6 159 [.ref (ad 9 0)] D cA ad A S (Qi D cA ad A K) := by
  refine MT.ofV (by decide) (Nat.le_of_ble_eq_true rfl) ?_
  intro p e s m args below meth c X hr hlk
  have X : Cx p rm_X3_plateChanges m c cX3_plateChanges 1 s args RX3 0 0 D cA ad A := X
  refine v_lv [(0, .ref (ad 9 0))] rfl ?_
  unfold w_X3_plateChanges at h
  refine v_aload_n X dX3_plateChanges_0 rfl 0 rfl ?_
  refine v_get (v := .ref (ad 8 0)) X f_X3_29 oo9 kk9 dX3_plateChanges_1 rfl ?_
  refine v_aload_n X dX3_plateChanges_4 rfl 0 rfl ?_
  refine v_get (v := .ref (ad 0 0)) X f_X3_10 oo9 kk9 dX3_plateChanges_5 rfl ?_
  refine v_callVv (o := 8) (ci := 2) (As := [.ref (ad 0 0)]) (rest := []) X (c_X2_make l 0 (by decide) S _ h) mw_X2_make mv_X3_114 oo8 kk8 ⟨Nat.le_of_ble_eq_true rfl, Nat.le_of_ble_eq_true rfl⟩ rfl (Nat.le_of_ble_eq_true rfl) rfl dX3_plateChanges_8 (fun S8 h => ?_)
  refine v_aload_n X dX3_plateChanges_11 rfl 0 rfl ?_
  refine v_get (v := .ref (ad 8 0)) X f_X3_29 oo9 kk9 dX3_plateChanges_12 rfl ?_
  refine v_get (v := .int (S8 8 8 0)) X f_X3_147 oo8 kk8 dX3_plateChanges_15 rfl ?_
  exact v_iret X hr hlk dX3_plateChanges_18 h
abbrev rm_X3_machineTime : Room := { frames := 6, cells := 0, slots := 0, locals := 159 }
def w_X3_machineTime (S : St) (x1 : Int32) (K : Int32 → St → Prop) : Prop := w_X3_isMachine S x1 (fun r2 => ((¬ r2 = 0) → (w_X2_make 0 S (fun S18 => (vp_in x1 5) ∧ (K (S18 8 6 x1.toNatClampNeg) S18)))) ∧ ((r2 = 0) → (K (-1) S)))
set_option maxHeartbeats 4000000 in
set_option maxRecDepth 100000 in
theorem c_X3_machineTime (l : Launch) {D : va_G} {cA : Nat → ClassId} {ad : Nat → Nat → Nat} {A : Nat → Prop} (S : St) (x1 : Int32) (K : Int32 → St → Prop) (h : w_X3_machineTime S x1 K) : MT l yX3_machineTime cX3_machineTime 2 (some .int) 6 159 [.ref (ad 9 0), .int x1] D cA ad A S (Qi D cA ad A K) := by
  refine MT.ofV (by decide) (Nat.le_of_ble_eq_true rfl) ?_
  intro p e s m args below meth c X hr hlk
  have X : Cx p rm_X3_machineTime m c cX3_machineTime 2 s args RX3 0 0 D cA ad A := X
  refine v_lv [(0, .ref (ad 9 0)), (1, .int x1)] rfl ?_
  unfold w_X3_machineTime at h
  refine v_aload_n X dX3_machineTime_0 rfl 0 rfl ?_
  refine v_iload_n X dX3_machineTime_1 rfl 1 rfl ?_
  refine v_callVz (o := 9) (ci := 3) (As := [.int x1]) (rest := []) X (c_X3_isMachine l S x1 _ h) mw_X3_isMachine mv_X3_68 oo9 kk9 ⟨Nat.le_of_ble_eq_true rfl, Nat.le_of_ble_eq_true rfl⟩ rfl (Nat.le_of_ble_eq_true rfl) rfl dX3_machineTime_2 (fun r2 S' hq hz2 => ?_)
  obtain ⟨hq1, h⟩ := hq
  rw [hq1]
  clear hq1
  refine v_if_ne X 10 dX3_machineTime_5 (by decide) (fun hc5 => ?_) (fun hc5 => ?_)
  · have h := h.1 hc5
    refine v_aload_n X dX3_machineTime_10 rfl 0 rfl ?_
    refine v_get (v := .ref (ad 8 0)) X f_X3_29 oo9 kk9 dX3_machineTime_11 rfl ?_
    refine v_aload_n X dX3_machineTime_14 rfl 0 rfl ?_
    refine v_get (v := .ref (ad 0 0)) X f_X3_10 oo9 kk9 dX3_machineTime_15 rfl ?_
    refine v_callVv (o := 8) (ci := 2) (As := [.ref (ad 0 0)]) (rest := []) X (c_X2_make l 0 (by decide) S _ h) mw_X2_make mv_X3_114 oo8 kk8 ⟨Nat.le_of_ble_eq_true rfl, Nat.le_of_ble_eq_true rfl⟩ rfl (Nat.le_of_ble_eq_true rfl) rfl dX3_machineTime_18 (fun S18 h => ?_)
    refine v_aload_n X dX3_machineTime_21 rfl 0 rfl ?_
    refine v_get (v := .ref (ad 8 0)) X f_X3_29 oo9 kk9 dX3_machineTime_22 rfl ?_
    refine v_get (v := .ref (ad 8 7)) X f_X3_150 oo8 kk8 dX3_machineTime_25 rfl ?_
    refine v_iload_n X dX3_machineTime_28 rfl 1 rfl ?_
    obtain ⟨hb, h⟩ := h
    refine v_iald (o := 8) (k := 6) (n := 5) X oo8 kk8 rfl rfl rfl hb dX3_machineTime_29 ?_
    exact v_iret X hr hlk dX3_machineTime_30 h
  · have h := h.2 hc5
    refine v_iconst (v := (-1)) X dX3_machineTime_8 (by decide) ?_
    exact v_iret X hr hlk dX3_machineTime_9 h
abbrev rm_X3_leastShift : Room := { frames := 6, cells := 0, slots := 0, locals := 159 }
def w_X3_leastShift_43 (K : Int32 → St → Prop) (S : St) (x1 : Int32) (x2 : Int32) (x3 : Int32) : Prop := ∃ I : Nat → St → Int32 → Prop, (∃ n : Nat, I n S x3) ∧ ∀ (n : Nat) (S : St) (x3 : Int32), I n S x3 → (((x2 < x3) → (K (-4) S)) ∧ ((¬ x2 < x3) → ((vp_in x1 6) ∧ ((vp_in x1 6) ∧ (∀ S67 : St, S67 = up3 S 1 11 x1.toNatClampNeg ((S 0 11 x1.toNatClampNeg) + x3) → (w_X2_isSmooth 1 S67 (fun r76 S76 => ((r76 = 0) → (∀ y84 : Int32, y84 = x3 + 1 → (∃ n' : Nat, n' < n ∧ I n' S76 y84))) ∧ ((¬ r76 = 0) → (K x3 S76)))))))))
set_option maxHeartbeats 4000000 in
set_option maxRecDepth 100000 in
theorem t_X3_leastShift_43 {p : Program} {l : Launch} {e : Env} {s : State} {m : MethodId} {args : Array Value} {below : List Frame} {meth : Method} {c : Code} {D : va_G} {cA : Nat → ClassId} {ad : Nat → Nat → Nat} {A : Nat → Prop} {K : Int32 → St → Prop} {S : St} {x1 : Int32} {x2 : Int32} {x3 : Int32} (X : Cx p rm_X3_leastShift m c cX3_leastShift 4 s args RX3 0 0 D cA ad A) (hr : meth.sig.returnType = (some .int)) (hlk : meth.locks = false) (h : w_X3_leastShift_43 K S x1 x2 x3) : VV p l e rm_X3_leastShift s m args below meth c 0 0 (MQ below (Qi D cA ad A K) args s 0 0 A) D cA ad A 4 S 43 [(0, .ref (ad 9 0)), (1, .int x1), (2, .int x2), (3, .int x3)] [] := by
  obtain ⟨I, ⟨n, hI⟩, hbody⟩ := h
  suffices key : ∀ (n : Nat) (S : St) (x3 : Int32), I n S x3 → VV p l e rm_X3_leastShift s m args below meth c 0 0 (MQ below (Qi D cA ad A K) args s 0 0 A) D cA ad A 4 S 43 [(0, .ref (ad 9 0)), (1, .int x1), (2, .int x2), (3, .int x3)] [] from key n S x3 hI
  clear hI
  intro n
  induction n using Nat.strongRecOn with
  | ind n ih =>
    intro S x3 hI
    have h := hbody n S x3 hI
    clear hI
    refine v_iload_n X dX3_leastShift_43 rfl 3 rfl ?_
    refine v_iload_n X dX3_leastShift_44 rfl 2 rfl ?_
    refine v_icmp_gt X 90 dX3_leastShift_45 (by decide) (fun hc45 => ?_) (fun hc45 => ?_)
    · have h := h.1 hc45
      refine v_bipush (v := (-4)) X dX3_leastShift_90 (by decide) ?_
      exact v_iret X hr hlk dX3_leastShift_92 h
    · have h := h.2 hc45
      refine v_aload_n X dX3_leastShift_48 rfl 0 rfl ?_
      refine v_get (v := .ref (ad 1 0)) X f_X3_16 oo9 kk9 dX3_leastShift_49 rfl ?_
      refine v_get (v := .ref (ad 1 12)) X f_X3_101 oo1 kk1 dX3_leastShift_52 rfl ?_
      refine v_iload_n X dX3_leastShift_55 rfl 1 rfl ?_
      refine v_aload_n X dX3_leastShift_56 rfl 0 rfl ?_
      refine v_get (v := .ref (ad 0 0)) X f_X3_10 oo9 kk9 dX3_leastShift_57 rfl ?_
      refine v_get (v := .ref (ad 0 12)) X f_X3_101 oo0 kk0 dX3_leastShift_60 rfl ?_
      refine v_iload_n X dX3_leastShift_63 rfl 1 rfl ?_
      obtain ⟨hb, h⟩ := h
      refine v_iald (o := 0) (k := 11) (n := 6) X oo0 kk0 rfl rfl rfl hb dX3_leastShift_64 ?_
      refine v_iload_n X dX3_leastShift_65 rfl 3 rfl ?_
      refine v_iadd X dX3_leastShift_66 ?_
      obtain ⟨hb, h⟩ := h
      refine v_iast (o := 1) (k := 11) (n := 6) X oo1 kk1 rfl rfl rfl hb dX3_leastShift_67 ?_
      refine v_st (fun S67 eS67 => ?_)
      have h := h S67 eS67
      refine v_aload_n X dX3_leastShift_68 rfl 0 rfl ?_
      refine v_get (v := .ref (ad 8 0)) X f_X3_29 oo9 kk9 dX3_leastShift_69 rfl ?_
      refine v_aload_n X dX3_leastShift_72 rfl 0 rfl ?_
      refine v_get (v := .ref (ad 1 0)) X f_X3_16 oo9 kk9 dX3_leastShift_73 rfl ?_
      refine v_callVz (o := 8) (ci := 2) (As := [.ref (ad 1 0)]) (rest := []) X (c_X2_isSmooth l 1 (by decide) S67 _ h) mw_X2_isSmooth mv_X3_161 oo8 kk8 ⟨Nat.le_of_ble_eq_true rfl, Nat.le_of_ble_eq_true rfl⟩ rfl (Nat.le_of_ble_eq_true rfl) rfl dX3_leastShift_76 (fun r76 S76 h hz76 => ?_)
      refine v_if_eq X 84 dX3_leastShift_79 (by decide) (fun hc79 => ?_) (fun hc79 => ?_)
      · have h := h.1 hc79
        obtain ⟨y84, ey84⟩ : ∃ z : Int32, z = x3 + 1 := ⟨_, rfl⟩
        have h := h y84 ey84
        refine v_iinc (v := y84) X [(3, .int y84), (0, .ref (ad 9 0)), (1, .int x1), (2, .int x2)] dX3_leastShift_84 3 rfl (by rw [ey84]; rfl) (by decide) rfl ?_
        refine v_goto X 43 dX3_leastShift_87 (by decide) ?_
        obtain ⟨n', hlt, h⟩ := h
        refine v_sub [1, 2, 3, 0] rfl ?_
        exact ih n' hlt _ _ h
      · have h := h.2 hc79
        refine v_iload_n X dX3_leastShift_82 rfl 3 rfl ?_
        exact v_iret X hr hlk dX3_leastShift_83 h
def w_X3_leastShift (S : St) (x1 : Int32) (K : Int32 → St → Prop) : Prop := w_X3_isShow S x1 (fun r2 => ((¬ r2 = 0) → (w_X0_copyFrom 1 0 S (fun S18 => (vp_in x1 6) ∧ (∀ y40 : Int32, y40 = (if (1439 - (S18 0 11 x1.toNatClampNeg)) < 180 then (1439 - (S18 0 11 x1.toNatClampNeg)) else 180) → (w_X3_leastShift_43 K S18 x1 y40 0))))) ∧ ((r2 = 0) → (K (-1) S)))
set_option maxHeartbeats 4000000 in
set_option maxRecDepth 100000 in
theorem c_X3_leastShift (l : Launch) {D : va_G} {cA : Nat → ClassId} {ad : Nat → Nat → Nat} {A : Nat → Prop} (S : St) (x1 : Int32) (K : Int32 → St → Prop) (h : w_X3_leastShift S x1 K) : MT l yX3_leastShift cX3_leastShift 4 (some .int) 6 159 [.ref (ad 9 0), .int x1] D cA ad A S (Qi D cA ad A K) := by
  refine MT.ofV (by decide) (Nat.le_of_ble_eq_true rfl) ?_
  intro p e s m args below meth c X hr hlk
  have X : Cx p rm_X3_leastShift m c cX3_leastShift 4 s args RX3 0 0 D cA ad A := X
  refine v_lv [(0, .ref (ad 9 0)), (1, .int x1)] rfl ?_
  unfold w_X3_leastShift at h
  refine v_aload_n X dX3_leastShift_0 rfl 0 rfl ?_
  refine v_iload_n X dX3_leastShift_1 rfl 1 rfl ?_
  refine v_callVz (o := 9) (ci := 3) (As := [.int x1]) (rest := []) X (c_X3_isShow l S x1 _ h) mw_X3_isShow mv_X3_95 oo9 kk9 ⟨Nat.le_of_ble_eq_true rfl, Nat.le_of_ble_eq_true rfl⟩ rfl (Nat.le_of_ble_eq_true rfl) rfl dX3_leastShift_2 (fun r2 S' hq hz2 => ?_)
  obtain ⟨hq1, h⟩ := hq
  rw [hq1]
  clear hq1
  refine v_if_ne X 10 dX3_leastShift_5 (by decide) (fun hc5 => ?_) (fun hc5 => ?_)
  · have h := h.1 hc5
    refine v_aload_n X dX3_leastShift_10 rfl 0 rfl ?_
    refine v_get (v := .ref (ad 1 0)) X f_X3_16 oo9 kk9 dX3_leastShift_11 rfl ?_
    refine v_aload_n X dX3_leastShift_14 rfl 0 rfl ?_
    refine v_get (v := .ref (ad 0 0)) X f_X3_10 oo9 kk9 dX3_leastShift_15 rfl ?_
    refine v_callVv (o := 1) (ci := 0) (As := [.ref (ad 0 0)]) (rest := []) X (c_X0_copyFrom l 1 (by decide) 0 (by decide) S _ h) mw_X0_copyFrom mv_X3_153 oo1 kk1 ⟨Nat.le_of_ble_eq_true rfl, Nat.le_of_ble_eq_true rfl⟩ rfl (Nat.le_of_ble_eq_true rfl) rfl dX3_leastShift_18 (fun S18 h => ?_)
    refine v_sipush (v := 180) X dX3_leastShift_21 (by decide) ?_
    refine v_sipush (v := 1439) X dX3_leastShift_24 (by decide) ?_
    refine v_aload_n X dX3_leastShift_27 rfl 0 rfl ?_
    refine v_get (v := .ref (ad 0 0)) X f_X3_10 oo9 kk9 dX3_leastShift_28 rfl ?_
    refine v_get (v := .ref (ad 0 12)) X f_X3_101 oo0 kk0 dX3_leastShift_31 rfl ?_
    refine v_iload_n X dX3_leastShift_34 rfl 1 rfl ?_
    obtain ⟨hb, h⟩ := h
    refine v_iald (o := 0) (k := 11) (n := 6) X oo0 kk0 rfl rfl rfl hb dX3_leastShift_35 ?_
    refine v_isub X dX3_leastShift_36 ?_
    refine v_mmin X ms_X3_156 mmin_s mmath_i mmin_c (Nat.le_of_ble_eq_true rfl) (Nat.le_of_ble_eq_true rfl) dX3_leastShift_37 ?_
    refine v_topi (fun y40 ey40 => ?_)
    have h := h y40 ey40
    refine v_istore_n X [(2, .int y40), (0, .ref (ad 9 0)), (1, .int x1)] dX3_leastShift_40 rfl (by decide) rfl ?_
    refine v_iconst (v := 0) X dX3_leastShift_41 (by decide) ?_
    refine v_istore_n X [(3, .int 0), (2, .int y40), (0, .ref (ad 9 0)), (1, .int x1)] dX3_leastShift_42 rfl (by decide) rfl ?_
    refine v_sub [2, 3, 1, 0] rfl ?_
    exact t_X3_leastShift_43 X hr hlk h
  · have h := h.2 hc5
    refine v_iconst (v := (-1)) X dX3_leastShift_8 (by decide) ?_
    exact v_iret X hr hlk dX3_leastShift_9 h
abbrev rm_X3_removalGain : Room := { frames := 7, cells := 0, slots := 0, locals := 180 }
def w_X3_removalGain (S : St) (x1 : Int32) (K : Int32 → St → Prop) : Prop := w_X3_isShow S x1 (fun r2 => ((¬ r2 = 0) → (w_X0_copyFrom 1 0 S (fun S19 => w_X0_dropShow 1 S19 x1 (fun S27 => w_X2_lossWith 0 S27 (fun r38 S38 => w_X2_lossWith 1 S38 (fun r49 S49 => K (r38 - r49) S49)))))) ∧ ((r2 = 0) → (K (-1000000) S)))
set_option maxHeartbeats 4000000 in
set_option maxRecDepth 100000 in
theorem c_X3_removalGain (l : Launch) {D : va_G} {cA : Nat → ClassId} {ad : Nat → Nat → Nat} {A : Nat → Prop} (S : St) (x1 : Int32) (K : Int32 → St → Prop) (h : w_X3_removalGain S x1 K) : MT l yX3_removalGain cX3_removalGain 2 (some .int) 7 180 [.ref (ad 9 0), .int x1] D cA ad A S (Qi D cA ad A K) := by
  refine MT.ofV (by decide) (Nat.le_of_ble_eq_true rfl) ?_
  intro p e s m args below meth c X hr hlk
  have X : Cx p rm_X3_removalGain m c cX3_removalGain 2 s args RX3 0 0 D cA ad A := X
  refine v_lv [(0, .ref (ad 9 0)), (1, .int x1)] rfl ?_
  unfold w_X3_removalGain at h
  refine v_aload_n X dX3_removalGain_0 rfl 0 rfl ?_
  refine v_iload_n X dX3_removalGain_1 rfl 1 rfl ?_
  refine v_callVz (o := 9) (ci := 3) (As := [.int x1]) (rest := []) X (c_X3_isShow l S x1 _ h) mw_X3_isShow mv_X3_95 oo9 kk9 ⟨Nat.le_of_ble_eq_true rfl, Nat.le_of_ble_eq_true rfl⟩ rfl (Nat.le_of_ble_eq_true rfl) rfl dX3_removalGain_2 (fun r2 S' hq hz2 => ?_)
  obtain ⟨hq1, h⟩ := hq
  rw [hq1]
  clear hq1
  refine v_if_ne X 11 dX3_removalGain_5 (by decide) (fun hc5 => ?_) (fun hc5 => ?_)
  · have h := h.1 hc5
    refine v_aload_n X dX3_removalGain_11 rfl 0 rfl ?_
    refine v_get (v := .ref (ad 1 0)) X f_X3_16 oo9 kk9 dX3_removalGain_12 rfl ?_
    refine v_aload_n X dX3_removalGain_15 rfl 0 rfl ?_
    refine v_get (v := .ref (ad 0 0)) X f_X3_10 oo9 kk9 dX3_removalGain_16 rfl ?_
    refine v_callVv (o := 1) (ci := 0) (As := [.ref (ad 0 0)]) (rest := []) X (c_X0_copyFrom l 1 (by decide) 0 (by decide) S _ h) mw_X0_copyFrom mv_X3_153 oo1 kk1 ⟨Nat.le_of_ble_eq_true rfl, Nat.le_of_ble_eq_true rfl⟩ rfl (Nat.le_of_ble_eq_true rfl) rfl dX3_removalGain_19 (fun S19 h => ?_)
    refine v_aload_n X dX3_removalGain_22 rfl 0 rfl ?_
    refine v_get (v := .ref (ad 1 0)) X f_X3_16 oo9 kk9 dX3_removalGain_23 rfl ?_
    refine v_iload_n X dX3_removalGain_26 rfl 1 rfl ?_
    refine v_callVv (o := 1) (ci := 0) (As := [.int x1]) (rest := []) X (c_X0_dropShow l 1 (by decide) S19 x1 _ h) mw_X0_dropShow mv_X3_98 oo1 kk1 ⟨Nat.le_of_ble_eq_true rfl, Nat.le_of_ble_eq_true rfl⟩ rfl (Nat.le_of_ble_eq_true rfl) rfl dX3_removalGain_27 (fun S27 h => ?_)
    refine v_aload_n X dX3_removalGain_30 rfl 0 rfl ?_
    refine v_get (v := .ref (ad 8 0)) X f_X3_29 oo9 kk9 dX3_removalGain_31 rfl ?_
    refine v_aload_n X dX3_removalGain_34 rfl 0 rfl ?_
    refine v_get (v := .ref (ad 0 0)) X f_X3_10 oo9 kk9 dX3_removalGain_35 rfl ?_
    refine v_callVi (o := 8) (ci := 2) (As := [.ref (ad 0 0)]) (rest := []) X (c_X2_lossWith l 0 (by decide) S27 _ h) mw_X2_lossWith mv_X3_140 oo8 kk8 ⟨Nat.le_of_ble_eq_true rfl, Nat.le_of_ble_eq_true rfl⟩ rfl (Nat.le_of_ble_eq_true rfl) rfl dX3_removalGain_38 (fun r38 S38 h => ?_)
    refine v_aload_n X dX3_removalGain_41 rfl 0 rfl ?_
    refine v_get (v := .ref (ad 8 0)) X f_X3_29 oo9 kk9 dX3_removalGain_42 rfl ?_
    refine v_aload_n X dX3_removalGain_45 rfl 0 rfl ?_
    refine v_get (v := .ref (ad 1 0)) X f_X3_16 oo9 kk9 dX3_removalGain_46 rfl ?_
    refine v_callVi (o := 8) (ci := 2) (As := [.ref (ad 1 0)]) (rest := [.int r38]) X (c_X2_lossWith l 1 (by decide) S38 _ h) mw_X2_lossWith mv_X3_140 oo8 kk8 ⟨Nat.le_of_ble_eq_true rfl, Nat.le_of_ble_eq_true rfl⟩ rfl (Nat.le_of_ble_eq_true rfl) rfl dX3_removalGain_49 (fun r49 S49 h => ?_)
    refine v_isub X dX3_removalGain_52 ?_
    exact v_iret X hr hlk dX3_removalGain_53 h
  · have h := h.2 hc5
    refine v_ldc (v := (-1000000)) X dX3_removalGain_8 k_X3_165 ?_
    exact v_iret X hr hlk dX3_removalGain_10 h
abbrev rm_X3_bestHomes : Room := { frames := 7, cells := 0, slots := 0, locals := 180 }
def w_X3_bestHomes_35 (K : Int32 → St → Prop) (S : St) (x1 : Int32) (x2 : Int32) (x3 : Int32) : Prop := ∃ I : Nat → St → Int32 → Int32 → Int32 → Prop, (∃ n : Nat, I n S x1 x2 x3) ∧ ∀ (n : Nat) (S : St) (x1 : Int32) (x2 : Int32) (x3 : Int32), I n S x1 x2 x3 → (((16 ≤ x3) → (K x1 S)) ∧ ((¬ 16 ≤ x3) → (w_X0_setHomes 1 S x3 (fun S46 => w_X2_lossWith 1 S46 (fun r57 S57 => ((x2 ≤ r57) → (∀ y73 : Int32, y73 = x3 + 1 → (∃ n' : Nat, n' < n ∧ I n' S57 x1 x2 y73))) ∧ ((¬ x2 ≤ r57) → (∀ y73 : Int32, y73 = x3 + 1 → (∃ n' : Nat, n' < n ∧ I n' S57 x3 r57 y73))))))))
set_option maxHeartbeats 4000000 in
set_option maxRecDepth 100000 in
theorem t_X3_bestHomes_35 {p : Program} {l : Launch} {e : Env} {s : State} {m : MethodId} {args : Array Value} {below : List Frame} {meth : Method} {c : Code} {D : va_G} {cA : Nat → ClassId} {ad : Nat → Nat → Nat} {A : Nat → Prop} {K : Int32 → St → Prop} {S : St} {x1 : Int32} {x2 : Int32} {x3 : Int32} (X : Cx p rm_X3_bestHomes m c cX3_bestHomes 5 s args RX3 0 0 D cA ad A) (hr : meth.sig.returnType = (some .int)) (hlk : meth.locks = false) (h : w_X3_bestHomes_35 K S x1 x2 x3) : VV p l e rm_X3_bestHomes s m args below meth c 0 0 (MQ below (Qi D cA ad A K) args s 0 0 A) D cA ad A 5 S 35 [(0, .ref (ad 9 0)), (1, .int x1), (2, .int x2), (3, .int x3)] [] := by
  obtain ⟨I, ⟨n, hI⟩, hbody⟩ := h
  suffices key : ∀ (n : Nat) (S : St) (x1 : Int32) (x2 : Int32) (x3 : Int32), I n S x1 x2 x3 → VV p l e rm_X3_bestHomes s m args below meth c 0 0 (MQ below (Qi D cA ad A K) args s 0 0 A) D cA ad A 5 S 35 [(0, .ref (ad 9 0)), (1, .int x1), (2, .int x2), (3, .int x3)] [] from key n S x1 x2 x3 hI
  clear hI
  intro n
  induction n using Nat.strongRecOn with
  | ind n ih =>
    intro S x1 x2 x3 hI
    have h := hbody n S x1 x2 x3 hI
    clear hI
    refine v_iload_n X dX3_bestHomes_35 rfl 3 rfl ?_
    refine v_bipush (v := 16) X dX3_bestHomes_36 (by decide) ?_
    refine v_icmp_ge X 79 dX3_bestHomes_38 (by decide) (fun hc38 => ?_) (fun hc38 => ?_)
    · have h := h.1 hc38
      refine v_iload_n X dX3_bestHomes_79 rfl 1 rfl ?_
      exact v_iret X hr hlk dX3_bestHomes_80 h
    · have h := h.2 hc38
      refine v_aload_n X dX3_bestHomes_41 rfl 0 rfl ?_
      refine v_get (v := .ref (ad 1 0)) X f_X3_16 oo9 kk9 dX3_bestHomes_42 rfl ?_
      refine v_iload_n X dX3_bestHomes_45 rfl 3 rfl ?_
      refine v_callVv (o := 1) (ci := 0) (As := [.int x3]) (rest := []) X (c_X0_setHomes l 1 (by decide) S x3 _ h) mw_X0_setHomes mv_X3_166 oo1 kk1 ⟨Nat.le_of_ble_eq_true rfl, Nat.le_of_ble_eq_true rfl⟩ rfl (Nat.le_of_ble_eq_true rfl) rfl dX3_bestHomes_46 (fun S46 h => ?_)
      refine v_aload_n X dX3_bestHomes_49 rfl 0 rfl ?_
      refine v_get (v := .ref (ad 8 0)) X f_X3_29 oo9 kk9 dX3_bestHomes_50 rfl ?_
      refine v_aload_n X dX3_bestHomes_53 rfl 0 rfl ?_
      refine v_get (v := .ref (ad 1 0)) X f_X3_16 oo9 kk9 dX3_bestHomes_54 rfl ?_
      refine v_callVi (o := 8) (ci := 2) (As := [.ref (ad 1 0)]) (rest := []) X (c_X2_lossWith l 1 (by decide) S46 _ h) mw_X2_lossWith mv_X3_140 oo8 kk8 ⟨Nat.le_of_ble_eq_true rfl, Nat.le_of_ble_eq_true rfl⟩ rfl (Nat.le_of_ble_eq_true rfl) rfl dX3_bestHomes_57 (fun r57 S57 h => ?_)
      refine v_istore X [(4, .int r57), (0, .ref (ad 9 0)), (1, .int x1), (2, .int x2), (3, .int x3)] dX3_bestHomes_60 (by decide) rfl ?_
      refine v_iload X dX3_bestHomes_62 0 rfl ?_
      refine v_iload_n X dX3_bestHomes_64 rfl 3 rfl ?_
      refine v_icmp_ge X 73 dX3_bestHomes_65 (by decide) (fun hc65 => ?_) (fun hc65 => ?_)
      · have h := h.1 hc65
        obtain ⟨y73, ey73⟩ : ∃ z : Int32, z = x3 + 1 := ⟨_, rfl⟩
        have h := h y73 ey73
        refine v_iinc (v := y73) X [(3, .int y73), (4, .int r57), (0, .ref (ad 9 0)), (1, .int x1), (2, .int x2)] dX3_bestHomes_73 4 rfl (by rw [ey73]; rfl) (by decide) rfl ?_
        refine v_goto X 35 dX3_bestHomes_76 (by decide) ?_
        obtain ⟨n', hlt, h⟩ := h
        refine v_sub [2, 3, 4, 0] rfl ?_
        exact ih n' hlt _ _ _ _ h
      · have h := h.2 hc65
        refine v_iload_n X dX3_bestHomes_68 rfl 4 rfl ?_
        refine v_istore_n X [(1, .int x3), (4, .int r57), (0, .ref (ad 9 0)), (2, .int x2), (3, .int x3)] dX3_bestHomes_69 rfl (by decide) rfl ?_
        refine v_iload X dX3_bestHomes_70 1 rfl ?_
        refine v_istore_n X [(2, .int r57), (1, .int x3), (4, .int r57), (0, .ref (ad 9 0)), (3, .int x3)] dX3_bestHomes_72 rfl (by decide) rfl ?_
        obtain ⟨y73, ey73⟩ : ∃ z : Int32, z = x3 + 1 := ⟨_, rfl⟩
        have h := h y73 ey73
        refine v_iinc (v := y73) X [(3, .int y73), (2, .int r57), (1, .int x3), (4, .int r57), (0, .ref (ad 9 0))] dX3_bestHomes_73 4 rfl (by rw [ey73]; rfl) (by decide) rfl ?_
        refine v_goto X 35 dX3_bestHomes_76 (by decide) ?_
        obtain ⟨n', hlt, h⟩ := h
        refine v_sub [4, 2, 1, 0] rfl ?_
        exact ih n' hlt _ _ _ _ h
def w_X3_bestHomes (S : St) (K : Int32 → St → Prop) : Prop := w_X0_copyFrom 1 0 S (fun S8 => w_X0_setHomes 1 S8 0 (fun S16 => w_X2_lossWith 1 S16 (fun r29 S29 => w_X3_bestHomes_35 K S29 0 r29 1)))
set_option maxHeartbeats 4000000 in
set_option maxRecDepth 100000 in
theorem c_X3_bestHomes (l : Launch) {D : va_G} {cA : Nat → ClassId} {ad : Nat → Nat → Nat} {A : Nat → Prop} (S : St) (K : Int32 → St → Prop) (h : w_X3_bestHomes S K) : MT l yX3_bestHomes cX3_bestHomes 5 (some .int) 7 180 [.ref (ad 9 0)] D cA ad A S (Qi D cA ad A K) := by
  refine MT.ofV (by decide) (Nat.le_of_ble_eq_true rfl) ?_
  intro p e s m args below meth c X hr hlk
  have X : Cx p rm_X3_bestHomes m c cX3_bestHomes 5 s args RX3 0 0 D cA ad A := X
  refine v_lv [(0, .ref (ad 9 0))] rfl ?_
  unfold w_X3_bestHomes at h
  refine v_aload_n X dX3_bestHomes_0 rfl 0 rfl ?_
  refine v_get (v := .ref (ad 1 0)) X f_X3_16 oo9 kk9 dX3_bestHomes_1 rfl ?_
  refine v_aload_n X dX3_bestHomes_4 rfl 0 rfl ?_
  refine v_get (v := .ref (ad 0 0)) X f_X3_10 oo9 kk9 dX3_bestHomes_5 rfl ?_
  refine v_callVv (o := 1) (ci := 0) (As := [.ref (ad 0 0)]) (rest := []) X (c_X0_copyFrom l 1 (by decide) 0 (by decide) S _ h) mw_X0_copyFrom mv_X3_153 oo1 kk1 ⟨Nat.le_of_ble_eq_true rfl, Nat.le_of_ble_eq_true rfl⟩ rfl (Nat.le_of_ble_eq_true rfl) rfl dX3_bestHomes_8 (fun S8 h => ?_)
  refine v_aload_n X dX3_bestHomes_11 rfl 0 rfl ?_
  refine v_get (v := .ref (ad 1 0)) X f_X3_16 oo9 kk9 dX3_bestHomes_12 rfl ?_
  refine v_iconst (v := 0) X dX3_bestHomes_15 (by decide) ?_
  refine v_callVv (o := 1) (ci := 0) (As := [.int 0]) (rest := []) X (c_X0_setHomes l 1 (by decide) S8 0 _ h) mw_X0_setHomes mv_X3_166 oo1 kk1 ⟨Nat.le_of_ble_eq_true rfl, Nat.le_of_ble_eq_true rfl⟩ rfl (Nat.le_of_ble_eq_true rfl) rfl dX3_bestHomes_16 (fun S16 h => ?_)
  refine v_iconst (v := 0) X dX3_bestHomes_19 (by decide) ?_
  refine v_istore_n X [(1, .int 0), (0, .ref (ad 9 0))] dX3_bestHomes_20 rfl (by decide) rfl ?_
  refine v_aload_n X dX3_bestHomes_21 rfl 1 rfl ?_
  refine v_get (v := .ref (ad 8 0)) X f_X3_29 oo9 kk9 dX3_bestHomes_22 rfl ?_
  refine v_aload_n X dX3_bestHomes_25 rfl 1 rfl ?_
  refine v_get (v := .ref (ad 1 0)) X f_X3_16 oo9 kk9 dX3_bestHomes_26 rfl ?_
  refine v_callVi (o := 8) (ci := 2) (As := [.ref (ad 1 0)]) (rest := []) X (c_X2_lossWith l 1 (by decide) S16 _ h) mw_X2_lossWith mv_X3_140 oo8 kk8 ⟨Nat.le_of_ble_eq_true rfl, Nat.le_of_ble_eq_true rfl⟩ rfl (Nat.le_of_ble_eq_true rfl) rfl dX3_bestHomes_29 (fun r29 S29 h => ?_)
  refine v_istore_n X [(2, .int r29), (1, .int 0), (0, .ref (ad 9 0))] dX3_bestHomes_32 rfl (by decide) rfl ?_
  refine v_iconst (v := 1) X dX3_bestHomes_33 (by decide) ?_
  refine v_istore_n X [(3, .int 1), (2, .int r29), (1, .int 0), (0, .ref (ad 9 0))] dX3_bestHomes_34 rfl (by decide) rfl ?_
  refine v_sub [3, 2, 1, 0] rfl ?_
  exact t_X3_bestHomes_35 X hr hlk h
abbrev rm_X3_missingMachines : Room := { frames := 6, cells := 0, slots := 0, locals := 159 }
def w_X3_missingMachines_50 (K : Int32 → St → Prop) (S : St) (x1 : Int32) (x2 : Int32) (x3 : Int32) : Prop := ∃ I : Nat → St → Int32 → Prop, (∃ n : Nat, I n S x3) ∧ ∀ (n : Nat) (S : St) (x3 : Int32), I n S x3 → (((x2 < x3) → (K (-4) S)) ∧ ((¬ x2 < x3) → (w_X0_appendMachine 1 S x1 (fun S60 => w_X2_isSmooth 1 S60 (fun r71 S71 => ((r71 = 0) → (∀ y79 : Int32, y79 = x3 + 1 → (∃ n' : Nat, n' < n ∧ I n' S71 y79))) ∧ ((¬ r71 = 0) → (K x3 S71)))))))
set_option maxHeartbeats 4000000 in
set_option maxRecDepth 100000 in
theorem t_X3_missingMachines_50 {p : Program} {l : Launch} {e : Env} {s : State} {m : MethodId} {args : Array Value} {below : List Frame} {meth : Method} {c : Code} {D : va_G} {cA : Nat → ClassId} {ad : Nat → Nat → Nat} {A : Nat → Prop} {K : Int32 → St → Prop} {S : St} {x1 : Int32} {x2 : Int32} {x3 : Int32} (X : Cx p rm_X3_missingMachines m c cX3_missingMachines 4 s args RX3 0 0 D cA ad A) (hr : meth.sig.returnType = (some .int)) (hlk : meth.locks = false) (h : w_X3_missingMachines_50 K S x1 x2 x3) : VV p l e rm_X3_missingMachines s m args below meth c 0 0 (MQ below (Qi D cA ad A K) args s 0 0 A) D cA ad A 4 S 50 [(0, .ref (ad 9 0)), (1, .int x1), (2, .int x2), (3, .int x3)] [] := by
  obtain ⟨I, ⟨n, hI⟩, hbody⟩ := h
  suffices key : ∀ (n : Nat) (S : St) (x3 : Int32), I n S x3 → VV p l e rm_X3_missingMachines s m args below meth c 0 0 (MQ below (Qi D cA ad A K) args s 0 0 A) D cA ad A 4 S 50 [(0, .ref (ad 9 0)), (1, .int x1), (2, .int x2), (3, .int x3)] [] from key n S x3 hI
  clear hI
  intro n
  induction n using Nat.strongRecOn with
  | ind n ih =>
    intro S x3 hI
    have h := hbody n S x3 hI
    clear hI
    refine v_iload_n X dX3_missingMachines_50 rfl 3 rfl ?_
    refine v_iload_n X dX3_missingMachines_51 rfl 2 rfl ?_
    refine v_icmp_gt X 85 dX3_missingMachines_52 (by decide) (fun hc52 => ?_) (fun hc52 => ?_)
    · have h := h.1 hc52
      refine v_bipush (v := (-4)) X dX3_missingMachines_85 (by decide) ?_
      exact v_iret X hr hlk dX3_missingMachines_87 h
    · have h := h.2 hc52
      refine v_aload_n X dX3_missingMachines_55 rfl 0 rfl ?_
      refine v_get (v := .ref (ad 1 0)) X f_X3_16 oo9 kk9 dX3_missingMachines_56 rfl ?_
      refine v_iload_n X dX3_missingMachines_59 rfl 1 rfl ?_
      refine v_callVv (o := 1) (ci := 0) (As := [.int x1]) (rest := []) X (c_X0_appendMachine l 1 (by decide) S x1 _ h) mw_X0_appendMachine mv_X3_64 oo1 kk1 ⟨Nat.le_of_ble_eq_true rfl, Nat.le_of_ble_eq_true rfl⟩ rfl (Nat.le_of_ble_eq_true rfl) rfl dX3_missingMachines_60 (fun S60 h => ?_)
      refine v_aload_n X dX3_missingMachines_63 rfl 0 rfl ?_
      refine v_get (v := .ref (ad 8 0)) X f_X3_29 oo9 kk9 dX3_missingMachines_64 rfl ?_
      refine v_aload_n X dX3_missingMachines_67 rfl 0 rfl ?_
      refine v_get (v := .ref (ad 1 0)) X f_X3_16 oo9 kk9 dX3_missingMachines_68 rfl ?_
      refine v_callVz (o := 8) (ci := 2) (As := [.ref (ad 1 0)]) (rest := []) X (c_X2_isSmooth l 1 (by decide) S60 _ h) mw_X2_isSmooth mv_X3_161 oo8 kk8 ⟨Nat.le_of_ble_eq_true rfl, Nat.le_of_ble_eq_true rfl⟩ rfl (Nat.le_of_ble_eq_true rfl) rfl dX3_missingMachines_71 (fun r71 S71 h hz71 => ?_)
      refine v_if_eq X 79 dX3_missingMachines_74 (by decide) (fun hc74 => ?_) (fun hc74 => ?_)
      · have h := h.1 hc74
        obtain ⟨y79, ey79⟩ : ∃ z : Int32, z = x3 + 1 := ⟨_, rfl⟩
        have h := h y79 ey79
        refine v_iinc (v := y79) X [(3, .int y79), (0, .ref (ad 9 0)), (1, .int x1), (2, .int x2)] dX3_missingMachines_79 3 rfl (by rw [ey79]; rfl) (by decide) rfl ?_
        refine v_goto X 50 dX3_missingMachines_82 (by decide) ?_
        obtain ⟨n', hlt, h⟩ := h
        refine v_sub [1, 2, 3, 0] rfl ?_
        exact ih n' hlt _ _ h
      · have h := h.2 hc74
        refine v_iload_n X dX3_missingMachines_77 rfl 3 rfl ?_
        exact v_iret X hr hlk dX3_missingMachines_78 h
def w_X3_missingMachines (S : St) (x1 : Int32) (K : Int32 → St → Prop) : Prop := w_X3_isIn S x1 0 1 (fun r3 => ((¬ r3 = 0) → (w_X0_copyFrom 1 0 S (fun S19 => w_X2_isSmooth 1 S19 (fun r30 S30 => ((r30 = 0) → (∀ y47 : Int32, y47 = (5 - (S30 0 4 0)) → (w_X3_missingMachines_50 K S30 x1 y47 1))) ∧ ((¬ r30 = 0) → (K 0 S30)))))) ∧ ((r3 = 0) → (K (-1) S)))
set_option maxHeartbeats 4000000 in
set_option maxRecDepth 100000 in
theorem c_X3_missingMachines (l : Launch) {D : va_G} {cA : Nat → ClassId} {ad : Nat → Nat → Nat} {A : Nat → Prop} (S : St) (x1 : Int32) (K : Int32 → St → Prop) (h : w_X3_missingMachines S x1 K) : MT l yX3_missingMachines cX3_missingMachines 4 (some .int) 6 159 [.ref (ad 9 0), .int x1] D cA ad A S (Qi D cA ad A K) := by
  refine MT.ofV (by decide) (Nat.le_of_ble_eq_true rfl) ?_
  intro p e s m args below meth c X hr hlk
  have X : Cx p rm_X3_missingMachines m c cX3_missingMachines 4 s args RX3 0 0 D cA ad A := X
  refine v_lv [(0, .ref (ad 9 0)), (1, .int x1)] rfl ?_
  unfold w_X3_missingMachines at h
  refine v_iload_n X dX3_missingMachines_0 rfl 1 rfl ?_
  refine v_iconst (v := 0) X dX3_missingMachines_1 (by decide) ?_
  refine v_iconst (v := 1) X dX3_missingMachines_2 (by decide) ?_
  refine v_callSz (As := [.int x1, .int 0, .int 1]) (rest := []) X (c_X3_isIn l S x1 0 1 _ h) mw_X3_isIn ms_X3_33 ⟨Nat.le_of_ble_eq_true rfl, Nat.le_of_ble_eq_true rfl⟩ rfl (Nat.le_of_ble_eq_true rfl) rfl dX3_missingMachines_3 (fun r3 S' hq hz3 => ?_)
  obtain ⟨hq1, h⟩ := hq
  rw [hq1]
  clear hq1
  refine v_if_ne X 11 dX3_missingMachines_6 (by decide) (fun hc6 => ?_) (fun hc6 => ?_)
  · have h := h.1 hc6
    refine v_aload_n X dX3_missingMachines_11 rfl 0 rfl ?_
    refine v_get (v := .ref (ad 1 0)) X f_X3_16 oo9 kk9 dX3_missingMachines_12 rfl ?_
    refine v_aload_n X dX3_missingMachines_15 rfl 0 rfl ?_
    refine v_get (v := .ref (ad 0 0)) X f_X3_10 oo9 kk9 dX3_missingMachines_16 rfl ?_
    refine v_callVv (o := 1) (ci := 0) (As := [.ref (ad 0 0)]) (rest := []) X (c_X0_copyFrom l 1 (by decide) 0 (by decide) S _ h) mw_X0_copyFrom mv_X3_153 oo1 kk1 ⟨Nat.le_of_ble_eq_true rfl, Nat.le_of_ble_eq_true rfl⟩ rfl (Nat.le_of_ble_eq_true rfl) rfl dX3_missingMachines_19 (fun S19 h => ?_)
    refine v_aload_n X dX3_missingMachines_22 rfl 0 rfl ?_
    refine v_get (v := .ref (ad 8 0)) X f_X3_29 oo9 kk9 dX3_missingMachines_23 rfl ?_
    refine v_aload_n X dX3_missingMachines_26 rfl 0 rfl ?_
    refine v_get (v := .ref (ad 1 0)) X f_X3_16 oo9 kk9 dX3_missingMachines_27 rfl ?_
    refine v_callVz (o := 8) (ci := 2) (As := [.ref (ad 1 0)]) (rest := []) X (c_X2_isSmooth l 1 (by decide) S19 _ h) mw_X2_isSmooth mv_X3_161 oo8 kk8 ⟨Nat.le_of_ble_eq_true rfl, Nat.le_of_ble_eq_true rfl⟩ rfl (Nat.le_of_ble_eq_true rfl) rfl dX3_missingMachines_30 (fun r30 S30 h hz30 => ?_)
    refine v_if_eq X 38 dX3_missingMachines_33 (by decide) (fun hc33 => ?_) (fun hc33 => ?_)
    · have h := h.1 hc33
      refine v_iconst (v := 5) X dX3_missingMachines_38 (by decide) ?_
      refine v_aload_n X dX3_missingMachines_39 rfl 0 rfl ?_
      refine v_get (v := .ref (ad 0 0)) X f_X3_10 oo9 kk9 dX3_missingMachines_40 rfl ?_
      refine v_get (v := .int (S30 0 4 0)) X f_X3_60 oo0 kk0 dX3_missingMachines_43 rfl ?_
      refine v_isub X dX3_missingMachines_46 ?_
      refine v_topi (fun y47 ey47 => ?_)
      have h := h y47 ey47
      refine v_istore_n X [(2, .int y47), (0, .ref (ad 9 0)), (1, .int x1)] dX3_missingMachines_47 rfl (by decide) rfl ?_
      refine v_iconst (v := 1) X dX3_missingMachines_48 (by decide) ?_
      refine v_istore_n X [(3, .int 1), (2, .int y47), (0, .ref (ad 9 0)), (1, .int x1)] dX3_missingMachines_49 rfl (by decide) rfl ?_
      refine v_sub [2, 3, 1, 0] rfl ?_
      exact t_X3_missingMachines_50 X hr hlk h
    · have h := h.2 hc33
      refine v_iconst (v := 0) X dX3_missingMachines_36 (by decide) ?_
      exact v_iret X hr hlk dX3_missingMachines_37 h
  · have h := h.2 hc6
    refine v_iconst (v := (-1)) X dX3_missingMachines_9 (by decide) ?_
    exact v_iret X hr hlk dX3_missingMachines_10 h
abbrev rm_X3_undo : Room := { frames := 3, cells := 0, slots := 0, locals := 68 }
def w_X3_undo (S : St) (K : Int32 → St → Prop) : Prop := ((¬ (S 7 1 0) = 0) → (w_X1_restore 0 S (fun S21 => K (S21 7 1 0) S21))) ∧ (((S 7 1 0) = 0) → (K (-2) S))
set_option maxHeartbeats 4000000 in
set_option maxRecDepth 100000 in
theorem c_X3_undo (l : Launch) {D : va_G} {cA : Nat → ClassId} {ad : Nat → Nat → Nat} {A : Nat → Prop} (S : St) (K : Int32 → St → Prop) (h : w_X3_undo S K) : MT l yX3_undo cX3_undo 1 (some .int) 3 68 [.ref (ad 9 0)] D cA ad A S (Qi D cA ad A K) := by
  refine MT.ofV (by decide) (Nat.le_of_ble_eq_true rfl) ?_
  intro p e s m args below meth c X hr hlk
  have X : Cx p rm_X3_undo m c cX3_undo 1 s args RX3 0 0 D cA ad A := X
  refine v_lv [(0, .ref (ad 9 0))] rfl ?_
  unfold w_X3_undo at h
  refine v_aload_n X dX3_undo_0 rfl 0 rfl ?_
  refine v_get (v := .ref (ad 7 0)) X f_X3_22 oo9 kk9 dX3_undo_1 rfl ?_
  refine v_get (v := .int (S 7 1 0)) X f_X3_169 oo7 kk7 dX3_undo_4 rfl ?_
  refine v_if_ne X 13 dX3_undo_7 (by decide) (fun hc7 => ?_) (fun hc7 => ?_)
  · have h := h.1 hc7
    refine v_aload_n X dX3_undo_13 rfl 0 rfl ?_
    refine v_get (v := .ref (ad 7 0)) X f_X3_22 oo9 kk9 dX3_undo_14 rfl ?_
    refine v_aload_n X dX3_undo_17 rfl 0 rfl ?_
    refine v_get (v := .ref (ad 0 0)) X f_X3_10 oo9 kk9 dX3_undo_18 rfl ?_
    refine v_callVv (o := 7) (ci := 1) (As := [.ref (ad 0 0)]) (rest := []) X (c_X1_restore l 0 (by decide) S _ h) mw_X1_restore mv_X3_172 oo7 kk7 ⟨Nat.le_of_ble_eq_true rfl, Nat.le_of_ble_eq_true rfl⟩ rfl (Nat.le_of_ble_eq_true rfl) rfl dX3_undo_21 (fun S21 h => ?_)
    refine v_aload_n X dX3_undo_24 rfl 0 rfl ?_
    refine v_get (v := .ref (ad 7 0)) X f_X3_22 oo9 kk9 dX3_undo_25 rfl ?_
    refine v_get (v := .int (S21 7 1 0)) X f_X3_169 oo7 kk7 dX3_undo_28 rfl ?_
    exact v_iret X hr hlk dX3_undo_31 h
  · have h := h.2 hc7
    refine v_bipush (v := (-2)) X dX3_undo_10 (by decide) ?_
    exact v_iret X hr hlk dX3_undo_12 h
