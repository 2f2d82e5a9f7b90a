abbrev rm_X3_isIn : Room := { frames := 0, cells := 0, slots := 0, locals := 0 }
def w_X3_isIn (S : St) (x0 : Int32) (x1 : Int32) (x2 : Int32) (K : Int32 → Prop) : Prop := ((x0 < x1) → (K 0)) ∧ ((¬ x0 < x1) → (((x2 < x0) → (K 0)) ∧ ((¬ x2 < x0) → (K 1))))
set_option maxHeartbeats 4000000 in
set_option maxRecDepth 100000 in
theorem c_X3_isIn (l : Launch) {D : va_G} {cA : Nat → ClassId} {ad : Nat → Nat → Nat} {A : Nat → Prop} (S : St) (x0 : Int32) (x1 : Int32) (x2 : Int32) (K : Int32 → Prop) (h : w_X3_isIn S x0 x1 x2 K) : MT l yX3_isIn cX3_isIn 3 (some .boolean) 0 0 [.int x0, .int x1, .int x2] D cA ad A S (Qz D cA ad A (fun r S' => S' = S ∧ K r)) := by
  refine MT.ofV (by decide) (Nat.le_of_ble_eq_true rfl) ?_
  intro p e s m args below meth c X hr hlk
  have X : Cx p rm_X3_isIn m c cX3_isIn 3 s args RX3 0 0 D cA ad A := X
  refine v_lv [(0, .int x0), (1, .int x1), (2, .int x2)] rfl ?_
  unfold w_X3_isIn at h
  refine v_iload_n X dX3_isIn_0 rfl 1 rfl ?_
  refine v_iload_n X dX3_isIn_1 rfl 0 rfl ?_
  refine v_icmp_gt X 14 dX3_isIn_2 (by decide) (fun hc2 => ?_) (fun hc2 => ?_)
  · have h := h.1 hc2
    refine v_iconst (v := 0) X dX3_isIn_14 (by decide) ?_
    exact v_zret X hr hlk dX3_isIn_15 (by first | exact Or.inl rfl | exact Or.inr rfl) ⟨rfl, h⟩
  · have h := h.2 hc2
    refine v_iload_n X dX3_isIn_5 rfl 0 rfl ?_
    refine v_iload_n X dX3_isIn_6 rfl 2 rfl ?_
    refine v_icmp_gt X 14 dX3_isIn_7 (by decide) (fun hc7 => ?_) (fun hc7 => ?_)
    · have h := h.1 hc7
      refine v_iconst (v := 0) X dX3_isIn_14 (by decide) ?_
      exact v_zret X hr hlk dX3_isIn_15 (by first | exact Or.inl rfl | exact Or.inr rfl) ⟨rfl, h⟩
    · have h := h.2 hc7
      refine v_iconst (v := 1) X dX3_isIn_10 (by decide) ?_
      refine v_goto X 15 dX3_isIn_11 (by decide) ?_
      exact v_zret X hr hlk dX3_isIn_15 (by first | exact Or.inl rfl | exact Or.inr rfl) ⟨rfl, h⟩
abbrev rm_X0_copyFrom : Room := { frames := 1, cells := 0, slots := 0, locals := 26 }
def w_X0_copyFrom (o0 : Nat) (o1 : Nat) (S : St) (K : St → Prop) : Prop := ∀ S11 : St, S11 = upA S o0 0 (va_cpy (S o1 0) (S o0 0) 0 0 4) → (∀ S26 : St, S26 = upA S11 o0 1 (va_cpy (S11 o1 1) (S11 o0 1) 0 0 24) → (∀ S41 : St, S41 = upA S26 o0 2 (va_cpy (S26 o1 2) (S26 o0 2) 0 0 24) → (∀ S55 : St, S55 = upA S41 o0 3 (va_cpy (S41 o1 3) (S41 o0 3) 0 0 4) → (∀ S63 : St, S63 = up3 S55 o0 4 0 (S55 o1 4 0) → (∀ S77 : St, S77 = upA S63 o0 5 (va_cpy (S63 o1 5) (S63 o0 5) 0 0 5) → (∀ S85 : St, S85 = up3 S77 o0 6 0 (S77 o1 6 0) → (∀ S99 : St, S99 = upA S85 o0 7 (va_cpy (S85 o1 7) (S85 o0 7) 0 0 4) → (∀ S107 : St, S107 = up3 S99 o0 8 0 (S99 o1 8 0) → (∀ S122 : St, S122 = upA S107 o0 9 (va_cpy (S107 o1 9) (S107 o0 9) 0 0 6) → (∀ S137 : St, S137 = upA S122 o0 10 (va_cpy (S122 o1 10) (S122 o0 10) 0 0 6) → (∀ S152 : St, S152 = upA S137 o0 11 (va_cpy (S137 o1 11) (S137 o0 11) 0 0 6) → (∀ S160 : St, S160 = up3 S152 o0 12 0 (S152 o1 12 0) → (∀ S175 : St, S175 = upA S160 o0 13 (va_cpy (S160 o1 13) (S160 o0 13) 0 0 8) → (∀ S190 : St, S190 = upA S175 o0 14 (va_cpy (S175 o1 14) (S175 o0 14) 0 0 8) → (∀ S205 : St, S205 = upA S190 o0 15 (va_cpy (S190 o1 15) (S190 o0 15) 0 0 8) → (K S205))))))))))))))))
set_option maxHeartbeats 4000000 in
set_option maxRecDepth 100000 in
theorem c_X0_copyFrom (l : Launch) {D : va_G} {cA : Nat → ClassId} {ad : Nat → Nat → Nat} {A : Nat → Prop} (o0 : Nat) (ho0 : o0 < 7) (o1 : Nat) (ho1 : o1 < 7) (S : St) (K : St → Prop) (h : w_X0_copyFrom o0 o1 S K) : MT l yX0_copyFrom cX0_copyFrom 2 none 1 26 [.ref (ad o0 0), .ref (ad o1 0)] D cA ad A S (Qv D cA ad A K) := by
  refine MT.ofV (by decide) (Nat.le_of_ble_eq_true rfl) ?_
  intro p e s m args below meth c X hr hlk
  have X : Cx p rm_X0_copyFrom m c cX0_copyFrom 2 s args RX0 0 0 D cA ad A := X
  refine v_lv [(0, .ref (ad o0 0)), (1, .ref (ad o1 0))] rfl ?_
  unfold w_X0_copyFrom at h
  have ho0_11 : o0 < 11 := by omega
  have ho0_k : kd o0 = 0 := kd_day ho0
  have ho1_11 : o1 < 11 := by omega
  have ho1_k : kd o1 = 0 := kd_day ho1
  refine v_aload_n X dX0_copyFrom_0 rfl 1 rfl ?_
  refine v_get (v := .ref (ad o1 1)) X f_X0_9 ho1_11 ho1_k dX0_copyFrom_1 rfl ?_
  refine v_iconst (v := 0) X dX0_copyFrom_4 (by decide) ?_
  refine v_aload_n X dX0_copyFrom_5 rfl 0 rfl ?_
  refine v_get (v := .ref (ad o0 1)) X f_X0_9 ho0_11 ho0_k dX0_copyFrom_6 rfl ?_
  refine v_iconst (v := 0) X dX0_copyFrom_9 (by decide) ?_
  refine v_iconst (v := 4) X dX0_copyFrom_10 (by decide) ?_
  refine v_copy (o := o1) (k := 0) (n := 4) (o2 := o0) (k2 := 0) (n2 := 4) X ho1_11 ho1_k rfl rfl ho0_11 ho0_k rfl rfl ms_X0_64 ac_n ac_s ac_i (by decide) (by decide) (by decide) (by decide) (by decide) (Nat.le_of_ble_eq_true rfl) (Nat.le_of_ble_eq_true rfl) dX0_copyFrom_11 ?_
  refine v_st (fun S11 eS11 => ?_)
  have h := h S11 eS11
  refine v_aload_n X dX0_copyFrom_14 rfl 1 rfl ?_
  refine v_get (v := .ref (ad o1 2)) X f_X0_15 ho1_11 ho1_k dX0_copyFrom_15 rfl ?_
  refine v_iconst (v := 0) X dX0_copyFrom_18 (by decide) ?_
  refine v_aload_n X dX0_copyFrom_19 rfl 0 rfl ?_
  refine v_get (v := .ref (ad o0 2)) X f_X0_15 ho0_11 ho0_k dX0_copyFrom_20 rfl ?_
  refine v_iconst (v := 0) X dX0_copyFrom_23 (by decide) ?_
  refine v_bipush (v := 24) X dX0_copyFrom_24 (by decide) ?_
  refine v_copy (o := o1) (k := 1) (n := 24) (o2 := o0) (k2 := 1) (n2 := 24) X ho1_11 ho1_k rfl rfl ho0_11 ho0_k rfl rfl ms_X0_64 ac_n ac_s ac_i (by decide) (by decide) (by decide) (by decide) (by decide) (Nat.le_of_ble_eq_true rfl) (Nat.le_of_ble_eq_true rfl) dX0_copyFrom_26 ?_
  refine v_st (fun S26 eS26 => ?_)
  have h := h S26 eS26
  refine v_aload_n X dX0_copyFrom_29 rfl 1 rfl ?_
  refine v_get (v := .ref (ad o1 3)) X f_X0_18 ho1_11 ho1_k dX0_copyFrom_30 rfl ?_
  refine v_iconst (v := 0) X dX0_copyFrom_33 (by decide) ?_
  refine v_aload_n X dX0_copyFrom_34 rfl 0 rfl ?_
  refine v_get (v := .ref (ad o0 3)) X f_X0_18 ho0_11 ho0_k dX0_copyFrom_35 rfl ?_
  refine v_iconst (v := 0) X dX0_copyFrom_38 (by decide) ?_
  refine v_bipush (v := 24) X dX0_copyFrom_39 (by decide) ?_
  refine v_copy (o := o1) (k := 2) (n := 24) (o2 := o0) (k2 := 2) (n2 := 24) X ho1_11 ho1_k rfl rfl ho0_11 ho0_k rfl rfl ms_X0_64 ac_n ac_s ac_i (by decide) (by decide) (by decide) (by decide) (by decide) (Nat.le_of_ble_eq_true rfl) (Nat.le_of_ble_eq_true rfl) dX0_copyFrom_41 ?_
  refine v_st (fun S41 eS41 => ?_)
  have h := h S41 eS41
  refine v_aload_n X dX0_copyFrom_44 rfl 1 rfl ?_
  refine v_get (v := .ref (ad o1 4)) X f_X0_21 ho1_11 ho1_k dX0_copyFrom_45 rfl ?_
  refine v_iconst (v := 0) X dX0_copyFrom_48 (by decide) ?_
  refine v_aload_n X dX0_copyFrom_49 rfl 0 rfl ?_
  refine v_get (v := .ref (ad o0 4)) X f_X0_21 ho0_11 ho0_k dX0_copyFrom_50 rfl ?_
  refine v_iconst (v := 0) X dX0_copyFrom_53 (by decide) ?_
  refine v_iconst (v := 4) X dX0_copyFrom_54 (by decide) ?_
  refine v_copy (o := o1) (k := 3) (n := 4) (o2 := o0) (k2 := 3) (n2 := 4) X ho1_11 ho1_k rfl rfl ho0_11 ho0_k rfl rfl ms_X0_64 ac_n ac_s ac_i (by decide) (by decide) (by decide) (by decide) (by decide) (Nat.le_of_ble_eq_true rfl) (Nat.le_of_ble_eq_true rfl) dX0_copyFrom_55 ?_
  refine v_st (fun S55 eS55 => ?_)
  have h := h S55 eS55
  refine v_aload_n X dX0_copyFrom_58 rfl 0 rfl ?_
  refine v_aload_n X dX0_copyFrom_59 rfl 1 rfl ?_
  refine v_get (v := .int (S55 o1 4 0)) X f_X0_24 ho1_11 ho1_k dX0_copyFrom_60 rfl ?_
  refine v_put (o := o0) X f_X0_24 ho0_11 ho0_k rfl dX0_copyFrom_63 ?_
  refine v_st (fun S63 eS63 => ?_)
  have h := h S63 eS63
  refine v_aload_n X dX0_copyFrom_66 rfl 1 rfl ?_
  refine v_get (v := .ref (ad o1 6)) X f_X0_28 ho1_11 ho1_k dX0_copyFrom_67 rfl ?_
  refine v_iconst (v := 0) X dX0_copyFrom_70 (by decide) ?_
  refine v_aload_n X dX0_copyFrom_71 rfl 0 rfl ?_
  refine v_get (v := .ref (ad o0 6)) X f_X0_28 ho0_11 ho0_k dX0_copyFrom_72 rfl ?_
  refine v_iconst (v := 0) X dX0_copyFrom_75 (by decide) ?_
  refine v_iconst (v := 5) X dX0_copyFrom_76 (by decide) ?_
  refine v_copy (o := o1) (k := 5) (n := 5) (o2 := o0) (k2 := 5) (n2 := 5) X ho1_11 ho1_k rfl rfl ho0_11 ho0_k rfl rfl ms_X0_64 ac_n ac_s ac_i (by decide) (by decide) (by decide) (by decide) (by decide) (Nat.le_of_ble_eq_true rfl) (Nat.le_of_ble_eq_true rfl) dX0_copyFrom_77 ?_
  refine v_st (fun S77 eS77 => ?_)
  have h := h S77 eS77
  refine v_aload_n X dX0_copyFrom_80 rfl 0 rfl ?_
  refine v_aload_n X dX0_copyFrom_81 rfl 1 rfl ?_
  refine v_get (v := .int (S77 o1 6 0)) X f_X0_31 ho1_11 ho1_k dX0_copyFrom_82 rfl ?_
  refine v_put (o := o0) X f_X0_31 ho0_11 ho0_k rfl dX0_copyFrom_85 ?_
  refine v_st (fun S85 eS85 => ?_)
  have h := h S85 eS85
  refine v_aload_n X dX0_copyFrom_88 rfl 1 rfl ?_
  refine v_get (v := .ref (ad o1 8)) X f_X0_34 ho1_11 ho1_k dX0_copyFrom_89 rfl ?_
  refine v_iconst (v := 0) X dX0_copyFrom_92 (by decide) ?_
  refine v_aload_n X dX0_copyFrom_93 rfl 0 rfl ?_
  refine v_get (v := .ref (ad o0 8)) X f_X0_34 ho0_11 ho0_k dX0_copyFrom_94 rfl ?_
  refine v_iconst (v := 0) X dX0_copyFrom_97 (by decide) ?_
  refine v_iconst (v := 4) X dX0_copyFrom_98 (by decide) ?_
  refine v_copy (o := o1) (k := 7) (n := 4) (o2 := o0) (k2 := 7) (n2 := 4) X ho1_11 ho1_k rfl rfl ho0_11 ho0_k rfl rfl ms_X0_64 ac_n ac_s ac_i (by decide) (by decide) (by decide) (by decide) (by decide) (Nat.le_of_ble_eq_true rfl) (Nat.le_of_ble_eq_true rfl) dX0_copyFrom_99 ?_
  refine v_st (fun S99 eS99 => ?_)
  have h := h S99 eS99
  refine v_aload_n X dX0_copyFrom_102 rfl 0 rfl ?_
  refine v_aload_n X dX0_copyFrom_103 rfl 1 rfl ?_
  refine v_get (v := .int (S99 o1 8 0)) X f_X0_37 ho1_11 ho1_k dX0_copyFrom_104 rfl ?_
  refine v_put (o := o0) X f_X0_37 ho0_11 ho0_k rfl dX0_copyFrom_107 ?_
  refine v_st (fun S107 eS107 => ?_)
  have h := h S107 eS107
  refine v_aload_n X dX0_copyFrom_110 rfl 1 rfl ?_
  refine v_get (v := .ref (ad o1 10)) X f_X0_40 ho1_11 ho1_k dX0_copyFrom_111 rfl ?_
  refine v_iconst (v := 0) X dX0_copyFrom_114 (by decide) ?_
  refine v_aload_n X dX0_copyFrom_115 rfl 0 rfl ?_
  refine v_get (v := .ref (ad o0 10)) X f_X0_40 ho0_11 ho0_k dX0_copyFrom_116 rfl ?_
  refine v_iconst (v := 0) X dX0_copyFrom_119 (by decide) ?_
  refine v_bipush (v := 6) X dX0_copyFrom_120 (by decide) ?_
  refine v_copy (o := o1) (k := 9) (n := 6) (o2 := o0) (k2 := 9) (n2 := 6) X ho1_11 ho1_k rfl rfl ho0_11 ho0_k rfl rfl ms_X0_64 ac_n ac_s ac_i (by decide) (by decide) (by decide) (by decide) (by decide) (Nat.le_of_ble_eq_true rfl) (Nat.le_of_ble_eq_true rfl) dX0_copyFrom_122 ?_
  refine v_st (fun S122 eS122 => ?_)
  have h := h S122 eS122
  refine v_aload_n X dX0_copyFrom_125 rfl 1 rfl ?_
  refine v_get (v := .ref (ad o1 11)) X f_X0_43 ho1_11 ho1_k dX0_copyFrom_126 rfl ?_
  refine v_iconst (v := 0) X dX0_copyFrom_129 (by decide) ?_
  refine v_aload_n X dX0_copyFrom_130 rfl 0 rfl ?_
  refine v_get (v := .ref (ad o0 11)) X f_X0_43 ho0_11 ho0_k dX0_copyFrom_131 rfl ?_
  refine v_iconst (v := 0) X dX0_copyFrom_134 (by decide) ?_
  refine v_bipush (v := 6) X dX0_copyFrom_135 (by decide) ?_
  refine v_copy (o := o1) (k := 10) (n := 6) (o2 := o0) (k2 := 10) (n2 := 6) X ho1_11 ho1_k rfl rfl ho0_11 ho0_k rfl rfl ms_X0_64 ac_n ac_s ac_i (by decide) (by decide) (by decide) (by decide) (by decide) (Nat.le_of_ble_eq_true rfl) (Nat.le_of_ble_eq_true rfl) dX0_copyFrom_137 ?_
  refine v_st (fun S137 eS137 => ?_)
  have h := h S137 eS137
  refine v_aload_n X dX0_copyFrom_140 rfl 1 rfl ?_
  refine v_get (v := .ref (ad o1 12)) X f_X0_46 ho1_11 ho1_k dX0_copyFrom_141 rfl ?_
  refine v_iconst (v := 0) X dX0_copyFrom_144 (by decide) ?_
  refine v_aload_n X dX0_copyFrom_145 rfl 0 rfl ?_
  refine v_get (v := .ref (ad o0 12)) X f_X0_46 ho0_11 ho0_k dX0_copyFrom_146 rfl ?_
  refine v_iconst (v := 0) X dX0_copyFrom_149 (by decide) ?_
  refine v_bipush (v := 6) X dX0_copyFrom_150 (by decide) ?_
  refine v_copy (o := o1) (k := 11) (n := 6) (o2 := o0) (k2 := 11) (n2 := 6) X ho1_11 ho1_k rfl rfl ho0_11 ho0_k rfl rfl ms_X0_64 ac_n ac_s ac_i (by decide) (by decide) (by decide) (by decide) (by decide) (Nat.le_of_ble_eq_true rfl) (Nat.le_of_ble_eq_true rfl) dX0_copyFrom_152 ?_
  refine v_st (fun S152 eS152 => ?_)
  have h := h S152 eS152
  refine v_aload_n X dX0_copyFrom_155 rfl 0 rfl ?_
  refine v_aload_n X dX0_copyFrom_156 rfl 1 rfl ?_
  refine v_get (v := .int (S152 o1 12 0)) X f_X0_49 ho1_11 ho1_k dX0_copyFrom_157 rfl ?_
  refine v_put (o := o0) X f_X0_49 ho0_11 ho0_k rfl dX0_copyFrom_160 ?_
  refine v_st (fun S160 eS160 => ?_)
  have h := h S160 eS160
  refine v_aload_n X dX0_copyFrom_163 rfl 1 rfl ?_
  refine v_get (v := .ref (ad o1 14)) X f_X0_52 ho1_11 ho1_k dX0_copyFrom_164 rfl ?_
  refine v_iconst (v := 0) X dX0_copyFrom_167 (by decide) ?_
  refine v_aload_n X dX0_copyFrom_168 rfl 0 rfl ?_
  refine v_get (v := .ref (ad o0 14)) X f_X0_52 ho0_11 ho0_k dX0_copyFrom_169 rfl ?_
  refine v_iconst (v := 0) X dX0_copyFrom_172 (by decide) ?_
  refine v_bipush (v := 8) X dX0_copyFrom_173 (by decide) ?_
  refine v_copy (o := o1) (k := 13) (n := 8) (o2 := o0) (k2 := 13) (n2 := 8) X ho1_11 ho1_k rfl rfl ho0_11 ho0_k rfl rfl ms_X0_64 ac_n ac_s ac_i (by decide) (by decide) (by decide) (by decide) (by decide) (Nat.le_of_ble_eq_true rfl) (Nat.le_of_ble_eq_true rfl) dX0_copyFrom_175 ?_
  refine v_st (fun S175 eS175 => ?_)
  have h := h S175 eS175
  refine v_aload_n X dX0_copyFrom_178 rfl 1 rfl ?_
  refine v_get (v := .ref (ad o1 15)) X f_X0_55 ho1_11 ho1_k dX0_copyFrom_179 rfl ?_
  refine v_iconst (v := 0) X dX0_copyFrom_182 (by decide) ?_
  refine v_aload_n X dX0_copyFrom_183 rfl 0 rfl ?_
  refine v_get (v := .ref (ad o0 15)) X f_X0_55 ho0_11 ho0_k dX0_copyFrom_184 rfl ?_
  refine v_iconst (v := 0) X dX0_copyFrom_187 (by decide) ?_
  refine v_bipush (v := 8) X dX0_copyFrom_188 (by decide) ?_
  refine v_copy (o := o1) (k := 14) (n := 8) (o2 := o0) (k2 := 14) (n2 := 8) X ho1_11 ho1_k rfl rfl ho0_11 ho0_k rfl rfl ms_X0_64 ac_n ac_s ac_i (by decide) (by decide) (by decide) (by decide) (by decide) (Nat.le_of_ble_eq_true rfl) (Nat.le_of_ble_eq_true rfl) dX0_copyFrom_190 ?_
  refine v_st (fun S190 eS190 => ?_)
  have h := h S190 eS190
  refine v_aload_n X dX0_copyFrom_193 rfl 1 rfl ?_
  refine v_get (v := .ref (ad o1 16)) X f_X0_58 ho1_11 ho1_k dX0_copyFrom_194 rfl ?_
  refine v_iconst (v := 0) X dX0_copyFrom_197 (by decide) ?_
  refine v_aload_n X dX0_copyFrom_198 rfl 0 rfl ?_
  refine v_get (v := .ref (ad o0 16)) X f_X0_58 ho0_11 ho0_k dX0_copyFrom_199 rfl ?_
  refine v_iconst (v := 0) X dX0_copyFrom_202 (by decide) ?_
  refine v_bipush (v := 8) X dX0_copyFrom_203 (by decide) ?_
  refine v_copy (o := o1) (k := 15) (n := 8) (o2 := o0) (k2 := 15) (n2 := 8) X ho1_11 ho1_k rfl rfl ho0_11 ho0_k rfl rfl ms_X0_64 ac_n ac_s ac_i (by decide) (by decide) (by decide) (by decide) (by decide) (Nat.le_of_ble_eq_true rfl) (Nat.le_of_ble_eq_true rfl) dX0_copyFrom_205 ?_
  refine v_st (fun S205 eS205 => ?_)
  have h := h S205 eS205
  exact v_vret X hr hlk dX0_copyFrom_208 h
abbrev rm_X3_reelPlace : Room := { frames := 0, cells := 0, slots := 0, locals := 0 }
def w_X3_reelPlace (S : St) (x0 : Int32) (x1 : Int32) (K : Int32 → Prop) : Prop := K ((x0 * 6) + x1)
set_option maxHeartbeats 4000000 in
set_option maxRecDepth 100000 in
theorem c_X3_reelPlace (l : Launch) {D : va_G} {cA : Nat → ClassId} {ad : Nat → Nat → Nat} {A : Nat → Prop} (S : St) (x0 : Int32) (x1 : Int32) (K : Int32 → Prop) (h : w_X3_reelPlace S x0 x1 K) : MT l yX3_reelPlace cX3_reelPlace 2 (some .int) 0 0 [.int x0, .int x1] D cA ad A S (Qi D cA ad A (fun r S' => S' = S ∧ K r)) := by
  refine MT.ofV (by decide) (Nat.le_of_ble_eq_true rfl) ?_
  intro p e s m args below meth c X hr hlk
  have X : Cx p rm_X3_reelPlace m c cX3_reelPlace 2 s args RX3 0 0 D cA ad A := X
  refine v_lv [(0, .int x0), (1, .int x1)] rfl ?_
  unfold w_X3_reelPlace at h
  refine v_iload_n X dX3_reelPlace_0 rfl 0 rfl ?_
  refine v_bipush (v := 6) X dX3_reelPlace_1 (by decide) ?_
  refine v_imul X dX3_reelPlace_3 ?_
  refine v_iload_n X dX3_reelPlace_4 rfl 1 rfl ?_
  refine v_iadd X dX3_reelPlace_5 ?_
  exact v_iret X hr hlk dX3_reelPlace_6 ⟨rfl, h⟩
abbrev rm_X0_appendReel : Room := { frames := 1, cells := 0, slots := 0, locals := 21 }
def w_X0_appendReel (o0 : Nat) (S : St) (x1 : Int32) (x2 : Int32) (x3 : Int32) (K : St → Prop) : Prop := (vp_in x1 4) ∧ (w_X3_reelPlace S x1 (S o0 0 x1.toNatClampNeg) (fun r7 => (vp_in r7 24) ∧ (∀ S19 : St, S19 = up3 S o0 1 r7.toNatClampNeg x2 → ((vp_in r7 24) ∧ (∀ S27 : St, S27 = up3 S19 o0 2 r7.toNatClampNeg x3 → ((vp_in x1 4) ∧ ((vp_in x1 4) ∧ (∀ S37 : St, S37 = up3 S27 o0 0 x1.toNatClampNeg ((S27 o0 0 x1.toNatClampNeg) + 1) → (K S37)))))))))
set_option maxHeartbeats 4000000 in
set_option maxRecDepth 100000 in
theorem c_X0_appendReel (l : Launch) {D : va_G} {cA : Nat → ClassId} {ad : Nat → Nat → Nat} {A : Nat → Prop} (o0 : Nat) (ho0 : o0 < 7) (S : St) (x1 : Int32) (x2 : Int32) (x3 : Int32) (K : St → Prop) (h : w_X0_appendReel o0 S x1 x2 x3 K) : MT l yX0_appendReel cX0_appendReel 5 none 1 21 [.ref (ad o0 0), .int x1, .int x2, .int x3] D cA ad A S (Qv D cA ad A K) := by
  refine MT.ofV (by decide) (Nat.le_of_ble_eq_true rfl) ?_
  intro p e s m args below meth c X hr hlk
  have X : Cx p rm_X0_appendReel m c cX0_appendReel 5 s args RX0 0 0 D cA ad A := X
  refine v_lv [(0, .ref (ad o0 0)), (1, .int x1), (2, .int x2), (3, .int x3)] rfl ?_
  unfold w_X0_appendReel at h
  have ho0_11 : o0 < 11 := by omega
  have ho0_k : kd o0 = 0 := kd_day ho0
  refine v_iload_n X dX0_appendReel_0 rfl 1 rfl ?_
  refine v_aload_n X dX0_appendReel_1 rfl 0 rfl ?_
  refine v_get (v := .ref (ad o0 1)) X f_X0_9 ho0_11 ho0_k dX0_appendReel_2 rfl ?_
  refine v_iload_n X dX0_appendReel_5 rfl 1 rfl ?_
  obtain ⟨hb, h⟩ := h
  refine v_iald (o := o0) (k := 0) (n := 4) X ho0_11 ho0_k rfl rfl rfl hb dX0_appendReel_6 ?_
  refine v_callSN (As := [.int x1, .int (S o0 0 x1.toNatClampNeg)]) (rest := []) X (c_X3_reelPlace l S x1 (S o0 0 x1.toNatClampNeg) _ h) mw_X3_reelPlace st_reelPlace X.2.1.2.1 ⟨Nat.le_of_ble_eq_true rfl, Nat.le_of_ble_eq_true rfl⟩ rfl (Nat.le_of_ble_eq_true rfl) rfl dX0_appendReel_7 (fun r7 S' hq => ?_)
  obtain ⟨hq1, h⟩ := hq
  rw [hq1]
  clear hq1
  refine v_istore X [(4, .int r7), (0, .ref (ad o0 0)), (1, .int x1), (2, .int x2), (3, .int x3)] dX0_appendReel_10 (by decide) rfl ?_
  refine v_aload_n X dX0_appendReel_12 rfl 1 rfl ?_
  refine v_get (v := .ref (ad o0 2)) X f_X0_15 ho0_11 ho0_k dX0_appendReel_13 rfl ?_
  refine v_iload X dX0_appendReel_16 0 rfl ?_
  refine v_iload_n X dX0_appendReel_18 rfl 3 rfl ?_
  obtain ⟨hb, h⟩ := h
  refine v_iast (o := o0) (k := 1) (n := 24) X ho0_11 ho0_k rfl rfl rfl hb dX0_appendReel_19 ?_
  refine v_st (fun S19 eS19 => ?_)
  have h := h S19 eS19
  refine v_aload_n X dX0_appendReel_20 rfl 1 rfl ?_
  refine v_get (v := .ref (ad o0 3)) X f_X0_18 ho0_11 ho0_k dX0_appendReel_21 rfl ?_
  refine v_iload X dX0_appendReel_24 0 rfl ?_
  refine v_iload_n X dX0_appendReel_26 rfl 4 rfl ?_
  obtain ⟨hb, h⟩ := h
  refine v_iast (o := o0) (k := 2) (n := 24) X ho0_11 ho0_k rfl rfl rfl hb dX0_appendReel_27 ?_
  refine v_st (fun S27 eS27 => ?_)
  have h := h S27 eS27
  refine v_aload_n X dX0_appendReel_28 rfl 1 rfl ?_
  refine v_get (v := .ref (ad o0 1)) X f_X0_9 ho0_11 ho0_k dX0_appendReel_29 rfl ?_
  refine v_iload_n X dX0_appendReel_32 rfl 2 rfl ?_
  refine v_dup2 X dX0_appendReel_33 rfl rfl ?_
  obtain ⟨hb, h⟩ := h
  refine v_iald (o := o0) (k := 0) (n := 4) X ho0_11 ho0_k rfl rfl rfl hb dX0_appendReel_34 ?_
  refine v_iconst (v := 1) X dX0_appendReel_35 (by decide) ?_
  refine v_iadd X dX0_appendReel_36 ?_
  obtain ⟨hb, h⟩ := h
  refine v_iast (o := o0) (k := 0) (n := 4) X ho0_11 ho0_k rfl rfl rfl hb dX0_appendReel_37 ?_
  refine v_st (fun S37 eS37 => ?_)
  have h := h S37 eS37
  exact v_vret X hr hlk dX0_appendReel_38 h
abbrev rm_X0_isShown : Room := { frames := 0, cells := 0, slots := 0, locals := 0 }
def w_X0_isShown_2 (o0 : Nat) (K : Int32 → Prop) (S : St) (x1 : Int32) (x2 : Int32) : Prop := ∃ I : Nat → Int32 → Prop, (∃ n : Nat, I n x2) ∧ ∀ (n : Nat) (x2 : Int32), I n x2 → ((((S o0 8 0) ≤ x2) → (K 0)) ∧ ((¬ (S o0 8 0) ≤ x2) → ((vp_in x2 6) ∧ (((¬ (S o0 10 x2.toNatClampNeg) = x1) → (∀ y22 : Int32, y22 = x2 + 1 → (∃ n' : Nat, n' < n ∧ I n' y22))) ∧ (((S o0 10 x2.toNatClampNeg) = x1) → (K 1))))))
set_option maxHeartbeats 4000000 in
set_option maxRecDepth 100000 in
theorem t_X0_isShown_2 {p : Program} {l : Launch} {e : Env} {s : State} {m : MethodId} {args : Array Value} {below : List Frame} {meth : Method} {c : Code} {D : va_G} {cA : Nat → ClassId} {ad : Nat → Nat → Nat} {A : Nat → Prop} (o0 : Nat) (ho0 : o0 < 7) {K : Int32 → Prop} {S : St} {x1 : Int32} {x2 : Int32} (X : Cx p rm_X0_isShown m c cX0_isShown 3 s args RX0 0 0 D cA ad A) (hr : meth.sig.returnType = (some .boolean)) (hlk : meth.locks = false) (h : w_X0_isShown_2 o0 K S x1 x2) : VV p l e rm_X0_isShown s m args below meth c 0 0 (MQ below (Qz D cA ad A (fun r S' => S' = S ∧ K r)) args s 0 0 A) D cA ad A 3 S 2 [(0, .ref (ad o0 0)), (1, .int x1), (2, .int x2)] [] := by
  have ho0_11 : o0 < 11 := by omega
  have ho0_k : kd o0 = 0 := kd_day ho0
  obtain ⟨I, ⟨n, hI⟩, hbody⟩ := h
  suffices key : ∀ (n : Nat) (x2 : Int32), I n x2 → VV p l e rm_X0_isShown s m args below meth c 0 0 (MQ below (Qz D cA ad A (fun r S' => S' = S ∧ K r)) args s 0 0 A) D cA ad A 3 S 2 [(0, .ref (ad o0 0)), (1, .int x1), (2, .int x2)] [] from key n x2 hI
  clear hI
  intro n
  induction n using Nat.strongRecOn with
  | ind n ih =>
    intro x2 hI
    have h := hbody n x2 hI
    clear hI
    refine v_iload_n X dX0_isShown_2 rfl 2 rfl ?_
    refine v_aload_n X dX0_isShown_3 rfl 0 rfl ?_
    refine v_get (v := .int (S o0 8 0)) X f_X0_37 ho0_11 ho0_k dX0_isShown_4 rfl ?_
    refine v_icmp_ge X 28 dX0_isShown_7 (by decide) (fun hc7 => ?_) (fun hc7 => ?_)
    · have h := h.1 hc7
      refine v_iconst (v := 0) X dX0_isShown_28 (by decide) ?_
      exact v_zret X hr hlk dX0_isShown_29 (by first | exact Or.inl rfl | exact Or.inr rfl) ⟨rfl, h⟩
    · have h := h.2 hc7
      refine v_aload_n X dX0_isShown_10 rfl 0 rfl ?_
      refine v_get (v := .ref (ad o0 11)) X f_X0_43 ho0_11 ho0_k dX0_isShown_11 rfl ?_
      refine v_iload_n X dX0_isShown_14 rfl 2 rfl ?_
      obtain ⟨hb, h⟩ := h
      refine v_iald (o := o0) (k := 10) (n := 6) X ho0_11 ho0_k rfl rfl rfl hb dX0_isShown_15 ?_
      refine v_iload_n X dX0_isShown_16 rfl 1 rfl ?_
      refine v_icmp_ne X 22 dX0_isShown_17 (by decide) (fun hc17 => ?_) (fun hc17 => ?_)
      · have h := h.1 hc17
        obtain ⟨y22, ey22⟩ : ∃ z : Int32, z = x2 + 1 := ⟨_, rfl⟩
        have h := h y22 ey22
        refine v_iinc (v := y22) X [(2, .int y22), (0, .ref (ad o0 0)), (1, .int x1)] dX0_isShown_22 2 rfl (by rw [ey22]; rfl) (by decide) rfl ?_
        refine v_goto X 2 dX0_isShown_25 (by decide) ?_
        obtain ⟨n', hlt, h⟩ := h
        refine v_sub [1, 2, 0] rfl ?_
        exact ih n' hlt _ h
      · have h := h.2 hc17
        refine v_iconst (v := 1) X dX0_isShown_20 (by decide) ?_
        exact v_zret X hr hlk dX0_isShown_21 (by first | exact Or.inl rfl | exact Or.inr rfl) ⟨rfl, h⟩
def w_X0_isShown (o0 : Nat) (S : St) (x1 : Int32) (K : Int32 → Prop) : Prop := w_X0_isShown_2 o0 K S x1 0
set_option maxHeartbeats 4000000 in
set_option maxRecDepth 100000 in
theorem c_X0_isShown (l : Launch) {D : va_G} {cA : Nat → ClassId} {ad : Nat → Nat → Nat} {A : Nat → Prop} (o0 : Nat) (ho0 : o0 < 7) (S : St) (x1 : Int32) (K : Int32 → Prop) (h : w_X0_isShown o0 S x1 K) : MT l yX0_isShown cX0_isShown 3 (some .boolean) 0 0 [.ref (ad o0 0), .int x1] D cA ad A S (Qz D cA ad A (fun r S' => S' = S ∧ K r)) := by
  refine MT.ofV (by decide) (Nat.le_of_ble_eq_true rfl) ?_
  intro p e s m args below meth c X hr hlk
  have X : Cx p rm_X0_isShown m c cX0_isShown 3 s args RX0 0 0 D cA ad A := X
  refine v_lv [(0, .ref (ad o0 0)), (1, .int x1)] rfl ?_
  unfold w_X0_isShown at h
  have ho0_11 : o0 < 11 := by omega
  have ho0_k : kd o0 = 0 := kd_day ho0
  refine v_iconst (v := 0) X dX0_isShown_0 (by decide) ?_
  refine v_istore_n X [(2, .int 0), (0, .ref (ad o0 0)), (1, .int x1)] dX0_isShown_1 rfl (by decide) rfl ?_
  refine v_sub [1, 2, 0] rfl ?_
  exact t_X0_isShown_2 o0 ho0 X hr hlk h
abbrev rm_X0_sumOfLengths : Room := { frames := 1, cells := 0, slots := 0, locals := 21 }
def w_X0_sumOfLengths_4 (o0 : Nat) (K : Int32 → Prop) (S : St) (x1 : Int32) (x2 : Int32) (x3 : Int32) : Prop := ∃ I : Nat → Int32 → Int32 → Prop, (∃ n : Nat, I n x2 x3) ∧ ∀ (n : Nat) (x2 : Int32) (x3 : Int32), I n x2 x3 → ((vp_in x1 4) ∧ ((((S o0 0 x1.toNatClampNeg) ≤ x3) → (K x2)) ∧ ((¬ (S o0 0 x1.toNatClampNeg) ≤ x3) → (w_X3_reelPlace S x1 x3 (fun r21 => (vp_in r21 24) ∧ (∀ y26 : Int32, y26 = (x2 + (S o0 1 r21.toNatClampNeg)) → (∀ y27 : Int32, y27 = x3 + 1 → (∃ n' : Nat, n' < n ∧ I n' y26 y27))))))))
set_option maxHeartbeats 4000000 in
set_option maxRecDepth 100000 in
theorem t_X0_sumOfLengths_4 {p : Program} {l : Launch} {e : Env} {s : State} {m : MethodId} {args : Array Value} {below : List Frame} {meth : Method} {c : Code} {D : va_G} {cA : Nat → ClassId} {ad : Nat → Nat → Nat} {A : Nat → Prop} (o0 : Nat) (ho0 : o0 < 7) {K : Int32 → Prop} {S : St} {x1 : Int32} {x2 : Int32} {x3 : Int32} (X : Cx p rm_X0_sumOfLengths m c cX0_sumOfLengths 4 s args RX0 0 0 D cA ad A) (hr : meth.sig.returnType = (some .int)) (hlk : meth.locks = false) (h : w_X0_sumOfLengths_4 o0 K S x1 x2 x3) : VV p l e rm_X0_sumOfLengths s m args below meth c 0 0 (MQ below (Qi D cA ad A (fun r S' => S' = S ∧ K r)) args s 0 0 A) D cA ad A 4 S 4 [(0, .ref (ad o0 0)), (1, .int x1), (2, .int x2), (3, .int x3)] [] := by
  have ho0_11 : o0 < 11 := by omega
  have ho0_k : kd o0 = 0 := kd_day ho0
  obtain ⟨I, ⟨n, hI⟩, hbody⟩ := h
  suffices key : ∀ (n : Nat) (x2 : Int32) (x3 : Int32), I n x2 x3 → VV p l e rm_X0_sumOfLengths s m args below meth c 0 0 (MQ below (Qi D cA ad A (fun r S' => S' = S ∧ K r)) args s 0 0 A) D cA ad A 4 S 4 [(0, .ref (ad o0 0)), (1, .int x1), (2, .int x2), (3, .int x3)] [] from key n x2 x3 hI
  clear hI
  intro n
  induction n using Nat.strongRecOn with
  | ind n ih =>
    intro x2 x3 hI
    have h := hbody n x2 x3 hI
    clear hI
    refine v_iload_n X dX0_sumOfLengths_4 rfl 3 rfl ?_
    refine v_aload_n X dX0_sumOfLengths_5 rfl 0 rfl ?_
    refine v_get (v := .ref (ad o0 1)) X f_X0_9 ho0_11 ho0_k dX0_sumOfLengths_6 rfl ?_
    refine v_iload_n X dX0_sumOfLengths_9 rfl 1 rfl ?_
    obtain ⟨hb, h⟩ := h
    refine v_iald (o := o0) (k := 0) (n := 4) X ho0_11 ho0_k rfl rfl rfl hb dX0_sumOfLengths_10 ?_
    refine v_icmp_ge X 33 dX0_sumOfLengths_11 (by decide) (fun hc11 => ?_) (fun hc11 => ?_)
    · have h := h.1 hc11
      refine v_iload_n X dX0_sumOfLengths_33 rfl 2 rfl ?_
      exact v_iret X hr hlk dX0_sumOfLengths_34 ⟨rfl, h⟩
    · have h := h.2 hc11
      refine v_iload_n X dX0_sumOfLengths_14 rfl 2 rfl ?_
      refine v_aload_n X dX0_sumOfLengths_15 rfl 0 rfl ?_
      refine v_get (v := .ref (ad o0 2)) X f_X0_15 ho0_11 ho0_k dX0_sumOfLengths_16 rfl ?_
      refine v_iload_n X dX0_sumOfLengths_19 rfl 1 rfl ?_
      refine v_iload_n X dX0_sumOfLengths_20 rfl 3 rfl ?_
      refine v_callSN (As := [.int x1, .int x3]) (rest := [.ref (ad o0 2), .int x2]) X (c_X3_reelPlace l S x1 x3 _ h) mw_X3_reelPlace st_reelPlace X.2.1.2.1 ⟨Nat.le_of_ble_eq_true rfl, Nat.le_of_ble_eq_true rfl⟩ rfl (Nat.le_of_ble_eq_true rfl) rfl dX0_sumOfLengths_21 (fun r21 S' hq => ?_)
      obtain ⟨hq1, h⟩ := hq
      rw [hq1]
      clear hq1
      obtain ⟨hb, h⟩ := h
      refine v_iald (o := o0) (k := 1) (n := 24) X ho0_11 ho0_k rfl rfl rfl hb dX0_sumOfLengths_24 ?_
      refine v_iadd X dX0_sumOfLengths_25 ?_
      refine v_topi (fun y26 ey26 => ?_)
      have h := h y26 ey26
      refine v_istore_n X [(2, .int y26), (0, .ref (ad o0 0)), (1, .int x1), (3, .int x3)] dX0_sumOfLengths_26 rfl (by decide) rfl ?_
      obtain ⟨y27, ey27⟩ : ∃ z : Int32, z = x3 + 1 := ⟨_, rfl⟩
      have h := h y27 ey27
      refine v_iinc (v := y27) X [(3, .int y27), (2, .int y26), (0, .ref (ad o0 0)), (1, .int x1)] dX0_sumOfLengths_27 3 rfl (by rw [ey27]; rfl) (by decide) rfl ?_
      refine v_goto X 4 dX0_sumOfLengths_30 (by decide) ?_
      obtain ⟨n', hlt, h⟩ := h
      refine v_sub [2, 3, 1, 0] rfl ?_
      exact ih n' hlt _ _ h
def w_X0_sumOfLengths (o0 : Nat) (S : St) (x1 : Int32) (K : Int32 → Prop) : Prop := w_X0_sumOfLengths_4 o0 K S x1 0 0
set_option maxHeartbeats 4000000 in
set_option maxRecDepth 100000 in
theorem c_X0_sumOfLengths (l : Launch) {D : va_G} {cA : Nat → ClassId} {ad : Nat → Nat → Nat} {A : Nat → Prop} (o0 : Nat) (ho0 : o0 < 7) (S : St) (x1 : Int32) (K : Int32 → Prop) (h : w_X0_sumOfLengths o0 S x1 K) : MT l yX0_sumOfLengths cX0_sumOfLengths 4 (some .int) 1 21 [.ref (ad o0 0), .int x1] D cA ad A S (Qi D cA ad A (fun r S' => S' = S ∧ K r)) := by
  refine MT.ofV (by decide) (Nat.le_of_ble_eq_true rfl) ?_
  intro p e s m args below meth c X hr hlk
  have X : Cx p rm_X0_sumOfLengths m c cX0_sumOfLengths 4 s args RX0 0 0 D cA ad A := X
  refine v_lv [(0, .ref (ad o0 0)), (1, .int x1)] rfl ?_
  unfold w_X0_sumOfLengths at h
  have ho0_11 : o0 < 11 := by omega
  have ho0_k : kd o0 = 0 := kd_day ho0
  refine v_iconst (v := 0) X dX0_sumOfLengths_0 (by decide) ?_
  refine v_istore_n X [(2, .int 0), (0, .ref (ad o0 0)), (1, .int x1)] dX0_sumOfLengths_1 rfl (by decide) rfl ?_
  refine v_iconst (v := 0) X dX0_sumOfLengths_2 (by decide) ?_
  refine v_istore_n X [(3, .int 0), (2, .int 0), (0, .ref (ad o0 0)), (1, .int x1)] dX0_sumOfLengths_3 rfl (by decide) rfl ?_
  refine v_sub [2, 3, 1, 0] rfl ?_
  exact t_X0_sumOfLengths_4 o0 ho0 X hr hlk h
abbrev rm_X0_appendMachine : Room := { frames := 0, cells := 0, slots := 0, locals := 0 }
def w_X0_appendMachine (o0 : Nat) (S : St) (x1 : Int32) (K : St → Prop) : Prop := (vp_in (S o0 4 0) 5) ∧ (∀ S9 : St, S9 = up3 S o0 5 ((S o0 4 0).toNatClampNeg) x1 → (∀ S17 : St, S17 = up3 S9 o0 4 0 ((S9 o0 4 0) + 1) → (K S17)))
set_option maxHeartbeats 4000000 in
set_option maxRecDepth 100000 in
theorem c_X0_appendMachine (l : Launch) {D : va_G} {cA : Nat → ClassId} {ad : Nat → Nat → Nat} {A : Nat → Prop} (o0 : Nat) (ho0 : o0 < 7) (S : St) (x1 : Int32) (K : St → Prop) (h : w_X0_appendMachine o0 S x1 K) : MT l yX0_appendMachine cX0_appendMachine 2 none 0 0 [.ref (ad o0 0), .int x1] D cA ad A S (Qv D cA ad A K) := by
  refine MT.ofV (by decide) (Nat.le_of_ble_eq_true rfl) ?_
  intro p e s m args below meth c X hr hlk
  have X : Cx p rm_X0_appendMachine m c cX0_appendMachine 2 s args RX0 0 0 D cA ad A := X
  refine v_lv [(0, .ref (ad o0 0)), (1, .int x1)] rfl ?_
  unfold w_X0_appendMachine at h
  have ho0_11 : o0 < 11 := by omega
  have ho0_k : kd o0 = 0 := kd_day ho0
  refine v_aload_n X dX0_appendMachine_0 rfl 0 rfl ?_
  refine v_get (v := .ref (ad o0 6)) X f_X0_28 ho0_11 ho0_k dX0_appendMachine_1 rfl ?_
  refine v_aload_n X dX0_appendMachine_4 rfl 0 rfl ?_
  refine v_get (v := .int (S o0 4 0)) X f_X0_24 ho0_11 ho0_k dX0_appendMachine_5 rfl ?_
  refine v_iload_n X dX0_appendMachine_8 rfl 1 rfl ?_
  obtain ⟨hb, h⟩ := h
  refine v_iast (o := o0) (k := 5) (n := 5) X ho0_11 ho0_k rfl rfl rfl hb dX0_appendMachine_9 ?_
  refine v_st (fun S9 eS9 => ?_)
  have h := h S9 eS9
  refine v_aload_n X dX0_appendMachine_10 rfl 0 rfl ?_
  refine v_dup X dX0_appendMachine_11 rfl ?_
  refine v_get (v := .int (S9 o0 4 0)) X f_X0_24 ho0_11 ho0_k dX0_appendMachine_12 rfl ?_
  refine v_iconst (v := 1) X dX0_appendMachine_15 (by decide) ?_
  refine v_iadd X dX0_appendMachine_16 ?_
  refine v_put (o := o0) X f_X0_24 ho0_11 ho0_k rfl dX0_appendMachine_17 ?_
  refine v_st (fun S17 eS17 => ?_)
  have h := h S17 eS17
  exact v_vret X hr hlk dX0_appendMachine_20 h
abbrev rm_X0_dropMachine : Room := { frames := 0, cells := 0, slots := 0, locals := 0 }
def w_X0_dropMachine_12 (o0 : Nat) (K : St → Prop) (S : St) (x2 : Int32) : Prop := ∃ I : Nat → St → Int32 → Prop, (∃ n : Nat, I n S x2) ∧ ∀ (n : Nat) (S : St) (x2 : Int32), I n S x2 → ((((S o0 4 0) ≤ x2) → (K S)) ∧ ((¬ (S o0 4 0) ≤ x2) → ((vp_in (x2 + 1) 5) ∧ ((vp_in x2 5) ∧ (∀ S33 : St, S33 = up3 S o0 5 x2.toNatClampNeg (S o0 5 (x2 + 1).toNatClampNeg) → (∀ y34 : Int32, y34 = x2 + 1 → (∃ n' : Nat, n' < n ∧ I n' S33 y34)))))))
set_option maxHeartbeats 4000000 in
set_option maxRecDepth 100000 in
theorem t_X0_dropMachine_12 {p : Program} {l : Launch} {e : Env} {s : State} {m : MethodId} {args : Array Value} {below : List Frame} {meth : Method} {c : Code} {D : va_G} {cA : Nat → ClassId} {ad : Nat → Nat → Nat} {A : Nat → Prop} (o0 : Nat) (ho0 : o0 < 7) {K : St → Prop} {S : St} {x2 : Int32} (X : Cx p rm_X0_dropMachine m c cX0_dropMachine 3 s args RX0 0 0 D cA ad A) (hr : meth.sig.returnType = none) (hlk : meth.locks = false) (h : w_X0_dropMachine_12 o0 K S x2) : VV p l e rm_X0_dropMachine s m args below meth c 0 0 (MQ below (Qv D cA ad A K) args s 0 0 A) D cA ad A 3 S 12 [(0, .ref (ad o0 0)), (2, .int x2)] [] := by
  have ho0_11 : o0 < 11 := by omega
  have ho0_k : kd o0 = 0 := kd_day ho0
  obtain ⟨I, ⟨n, hI⟩, hbody⟩ := h
  suffices key : ∀ (n : Nat) (S : St) (x2 : Int32), I n S x2 → VV p l e rm_X0_dropMachine s m args below meth c 0 0 (MQ below (Qv D cA ad A K) args s 0 0 A) D cA ad A 3 S 12 [(0, .ref (ad o0 0)), (2, .int x2)] [] from key n S x2 hI
  clear hI
  intro n
  induction n using Nat.strongRecOn with
  | ind n ih =>
    intro S x2 hI
    have h := hbody n S x2 hI
    clear hI
    refine v_iload_n X dX0_dropMachine_12 rfl 1 rfl ?_
    refine v_aload_n X dX0_dropMachine_13 rfl 0 rfl ?_
    refine v_get (v := .int (S o0 4 0)) X f_X0_24 ho0_11 ho0_k dX0_dropMachine_14 rfl ?_
    refine v_icmp_ge X 40 dX0_dropMachine_17 (by decide) (fun hc17 => ?_) (fun hc17 => ?_)
    · have h := h.1 hc17
      exact v_vret X hr hlk dX0_dropMachine_40 h
    · have h := h.2 hc17
      refine v_aload_n X dX0_dropMachine_20 rfl 0 rfl ?_
      refine v_get (v := .ref (ad o0 6)) X f_X0_28 ho0_11 ho0_k dX0_dropMachine_21 rfl ?_
      refine v_iload_n X dX0_dropMachine_24 rfl 1 rfl ?_
      refine v_aload_n X dX0_dropMachine_25 rfl 0 rfl ?_
      refine v_get (v := .ref (ad o0 6)) X f_X0_28 ho0_11 ho0_k dX0_dropMachine_26 rfl ?_
      refine v_iload_n X dX0_dropMachine_29 rfl 1 rfl ?_
      refine v_iconst (v := 1) X dX0_dropMachine_30 (by decide) ?_
      refine v_iadd X dX0_dropMachine_31 ?_
      obtain ⟨hb, h⟩ := h
      refine v_iald (o := o0) (k := 5) (n := 5) X ho0_11 ho0_k rfl rfl rfl hb dX0_dropMachine_32 ?_
      obtain ⟨hb, h⟩ := h
      refine v_iast (o := o0) (k := 5) (n := 5) X ho0_11 ho0_k rfl rfl rfl hb dX0_dropMachine_33 ?_
      refine v_st (fun S33 eS33 => ?_)
      have h := h S33 eS33
      obtain ⟨y34, ey34⟩ : ∃ z : Int32, z = x2 + 1 := ⟨_, rfl⟩
      have h := h y34 ey34
      refine v_iinc (v := y34) X [(2, .int y34), (0, .ref (ad o0 0))] dX0_dropMachine_34 1 rfl (by rw [ey34]; rfl) (by decide) rfl ?_
      refine v_goto X 12 dX0_dropMachine_37 (by decide) ?_
      obtain ⟨n', hlt, h⟩ := h
      refine v_sub [1, 0] rfl ?_
      exact ih n' hlt _ _ h
def w_X0_dropMachine (o0 : Nat) (S : St) (x1 : Int32) (K : St → Prop) : Prop := ∀ S7 : St, S7 = up3 S o0 4 0 ((S o0 4 0) - 1) → (w_X0_dropMachine_12 o0 K S7 x1)
set_option maxHeartbeats 4000000 in
set_option maxRecDepth 100000 in
theorem c_X0_dropMachine (l : Launch) {D : va_G} {cA : Nat → ClassId} {ad : Nat → Nat → Nat} {A : Nat → Prop} (o0 : Nat) (ho0 : o0 < 7) (S : St) (x1 : Int32) (K : St → Prop) (h : w_X0_dropMachine o0 S x1 K) : MT l yX0_dropMachine cX0_dropMachine 3 none 0 0 [.ref (ad o0 0), .int x1] D cA ad A S (Qv D cA ad A K) := by
  refine MT.ofV (by decide) (Nat.le_of_ble_eq_true rfl) ?_
  intro p e s m args below meth c X hr hlk
  have X : Cx p rm_X0_dropMachine m c cX0_dropMachine 3 s args RX0 0 0 D cA ad A := X
  refine v_lv [(0, .ref (ad o0 0)), (1, .int x1)] rfl ?_
  unfold w_X0_dropMachine at h
  have ho0_11 : o0 < 11 := by omega
  have ho0_k : kd o0 = 0 := kd_day ho0
  refine v_aload_n X dX0_dropMachine_0 rfl 0 rfl ?_
  refine v_dup X dX0_dropMachine_1 rfl ?_
  refine v_get (v := .int (S o0 4 0)) X f_X0_24 ho0_11 ho0_k dX0_dropMachine_2 rfl ?_
  refine v_iconst (v := 1) X dX0_dropMachine_5 (by decide) ?_
  refine v_isub X dX0_dropMachine_6 ?_
  refine v_put (o := o0) X f_X0_24 ho0_11 ho0_k rfl dX0_dropMachine_7 ?_
  refine v_st (fun S7 eS7 => ?_)
  have h := h S7 eS7
  refine v_iload_n X dX0_dropMachine_10 rfl 1 rfl ?_
  refine v_istore_n X [(2, .int x1), (0, .ref (ad o0 0)), (1, .int x1)] dX0_dropMachine_11 rfl (by decide) rfl ?_
  refine v_sub [1, 0] rfl ?_
  exact t_X0_dropMachine_12 o0 ho0 X hr hlk h
abbrev rm_X0_appendShow : Room := { frames := 0, cells := 0, slots := 0, locals := 0 }
def w_X0_appendShow (o0 : Nat) (S : St) (x1 : Int32) (x2 : Int32) (x3 : Int32) (K : St → Prop) : Prop := (vp_in (S o0 8 0) 6) ∧ (∀ S9 : St, S9 = up3 S o0 9 ((S o0 8 0).toNatClampNeg) x1 → ((vp_in (S9 o0 8 0) 6) ∧ (∀ S19 : St, S19 = up3 S9 o0 10 ((S9 o0 8 0).toNatClampNeg) x2 → ((vp_in (S19 o0 8 0) 6) ∧ (∀ S29 : St, S29 = up3 S19 o0 11 ((S19 o0 8 0).toNatClampNeg) x3 → (∀ S37 : St, S37 = up3 S29 o0 8 0 ((S29 o0 8 0) + 1) → (K S37)))))))
set_option maxHeartbeats 4000000 in
set_option maxRecDepth 100000 in
theorem c_X0_appendShow (l : Launch) {D : va_G} {cA : Nat → ClassId} {ad : Nat → Nat → Nat} {A : Nat → Prop} (o0 : Nat) (ho0 : o0 < 7) (S : St) (x1 : Int32) (x2 : Int32) (x3 : Int32) (K : St → Prop) (h : w_X0_appendShow o0 S x1 x2 x3 K) : MT l yX0_appendShow cX0_appendShow 4 none 0 0 [.ref (ad o0 0), .int x1, .int x2, .int x3] D cA ad A S (Qv D cA ad A K) := by
  refine MT.ofV (by decide) (Nat.le_of_ble_eq_true rfl) ?_
  intro p e s m args below meth c X hr hlk
  have X : Cx p rm_X0_appendShow m c cX0_appendShow 4 s args RX0 0 0 D cA ad A := X
  refine v_lv [(0, .ref (ad o0 0)), (1, .int x1), (2, .int x2), (3, .int x3)] rfl ?_
  unfold w_X0_appendShow at h
  have ho0_11 : o0 < 11 := by omega
  have ho0_k : kd o0 = 0 := kd_day ho0
  refine v_aload_n X dX0_appendShow_0 rfl 0 rfl ?_
  refine v_get (v := .ref (ad o0 10)) X f_X0_40 ho0_11 ho0_k dX0_appendShow_1 rfl ?_
  refine v_aload_n X dX0_appendShow_4 rfl 0 rfl ?_
  refine v_get (v := .int (S o0 8 0)) X f_X0_37 ho0_11 ho0_k dX0_appendShow_5 rfl ?_
  refine v_iload_n X dX0_appendShow_8 rfl 1 rfl ?_
  obtain ⟨hb, h⟩ := h
  refine v_iast (o := o0) (k := 9) (n := 6) X ho0_11 ho0_k rfl rfl rfl hb dX0_appendShow_9 ?_
  refine v_st (fun S9 eS9 => ?_)
  have h := h S9 eS9
  refine v_aload_n X dX0_appendShow_10 rfl 0 rfl ?_
  refine v_get (v := .ref (ad o0 11)) X f_X0_43 ho0_11 ho0_k dX0_appendShow_11 rfl ?_
  refine v_aload_n X dX0_appendShow_14 rfl 0 rfl ?_
  refine v_get (v := .int (S9 o0 8 0)) X f_X0_37 ho0_11 ho0_k dX0_appendShow_15 rfl ?_
  refine v_iload_n X dX0_appendShow_18 rfl 2 rfl ?_
  obtain ⟨hb, h⟩ := h
  refine v_iast (o := o0) (k := 10) (n := 6) X ho0_11 ho0_k rfl rfl rfl hb dX0_appendShow_19 ?_
  refine v_st (fun S19 eS19 => ?_)
  have h := h S19 eS19
  refine v_aload_n X dX0_appendShow_20 rfl 0 rfl ?_
  refine v_get (v := .ref (ad o0 12)) X f_X0_46 ho0_11 ho0_k dX0_appendShow_21 rfl ?_
  refine v_aload_n X dX0_appendShow_24 rfl 0 rfl ?_
  refine v_get (v := .int (S19 o0 8 0)) X f_X0_37 ho0_11 ho0_k dX0_appendShow_25 rfl ?_
  refine v_iload_n X dX0_appendShow_28 rfl 3 rfl ?_
  obtain ⟨hb, h⟩ := h
  refine v_iast (o := o0) (k := 11) (n := 6) X ho0_11 ho0_k rfl rfl rfl hb dX0_appendShow_29 ?_
  refine v_st (fun S29 eS29 => ?_)
  have h := h S29 eS29
  refine v_aload_n X dX0_appendShow_30 rfl 0 rfl ?_
  refine v_dup X dX0_appendShow_31 rfl ?_
  refine v_get (v := .int (S29 o0 8 0)) X f_X0_37 ho0_11 ho0_k dX0_appendShow_32 rfl ?_
  refine v_iconst (v := 1) X dX0_appendShow_35 (by decide) ?_
  refine v_iadd X dX0_appendShow_36 ?_
  refine v_put (o := o0) X f_X0_37 ho0_11 ho0_k rfl dX0_appendShow_37 ?_
  refine v_st (fun S37 eS37 => ?_)
  have h := h S37 eS37
  exact v_vret X hr hlk dX0_appendShow_40 h
abbrev rm_X0_dropBreaksOf : Room := { frames := 0, cells := 0, slots := 0, locals := 0 }
def w_X0_dropBreaksOf_46 (o0 : Nat) (K : St → Prop) (B4 : St → Int32 → Int32 → Prop) (S : St) (x1 : Int32) (x2 : Int32) (x3 : Int32) (t0 : Int32) (t1 : Int32) : Prop := (vp_in t1 8) ∧ (∀ S46 : St, S46 = up3 S o0 13 t1.toNatClampNeg t0 → ((vp_in x3 8) ∧ ((vp_in x2 8) ∧ (∀ S58 : St, S58 = up3 S46 o0 14 x2.toNatClampNeg (S46 o0 14 x3.toNatClampNeg) → ((vp_in x3 8) ∧ ((vp_in x2 8) ∧ (∀ S70 : St, S70 = up3 S58 o0 15 x2.toNatClampNeg (S58 o0 15 x3.toNatClampNeg) → (∀ y71 : Int32, y71 = x2 + 1 → (∀ y74 : Int32, y74 = x3 + 1 → (B4 S70 y71 y74))))))))))
set_option maxHeartbeats 4000000 in
set_option maxRecDepth 100000 in
theorem t_X0_dropBreaksOf_46 {p : Program} {l : Launch} {e : Env} {s : State} {m : MethodId} {args : Array Value} {below : List Frame} {meth : Method} {c : Code} {D : va_G} {cA : Nat → ClassId} {ad : Nat → Nat → Nat} {A : Nat → Prop} (o0 : Nat) (ho0 : o0 < 7) {K : St → Prop} {B4 : St → Int32 → Int32 → Prop} {S : St} {x1 : Int32} {x2 : Int32} {x3 : Int32} {t0 : Int32} {t1 : Int32} (X : Cx p rm_X0_dropBreaksOf m c cX0_dropBreaksOf 5 s args RX0 0 0 D cA ad A) (hr : meth.sig.returnType = none) (hlk : meth.locks = false) (hB4 : ∀ (S1 : St) (x2 : Int32) (x3 : Int32), B4 S1 x2 x3 → VV p l e rm_X0_dropBreaksOf s m args below meth c 0 0 (MQ below (Qv D cA ad A K) args s 0 0 A) D cA ad A 5 S1 4 [(0, .ref (ad o0 0)), (1, .int x1), (2, .int x2), (3, .int x3)] []) (h : w_X0_dropBreaksOf_46 o0 K B4 S x1 x2 x3 t0 t1) : VV p l e rm_X0_dropBreaksOf s m args below meth c 0 0 (MQ below (Qv D cA ad A K) args s 0 0 A) D cA ad A 5 S 46 [(0, .ref (ad o0 0)), (1, .int x1), (2, .int x2), (3, .int x3)] [.int t0, .int t1, .ref (ad o0 14)] := by
  unfold w_X0_dropBreaksOf_46 at h
  have ho0_11 : o0 < 11 := by omega
  have ho0_k : kd o0 = 0 := kd_day ho0
  obtain ⟨hb, h⟩ := h
  refine v_iast (o := o0) (k := 13) (n := 8) X ho0_11 ho0_k rfl rfl rfl hb dX0_dropBreaksOf_46 ?_
  refine v_st (fun S46 eS46 => ?_)
  have h := h S46 eS46
  refine v_aload_n X dX0_dropBreaksOf_47 rfl 0 rfl ?_
  refine v_get (v := .ref (ad o0 15)) X f_X0_55 ho0_11 ho0_k dX0_dropBreaksOf_48 rfl ?_
  refine v_iload_n X dX0_dropBreaksOf_51 rfl 2 rfl ?_
  refine v_aload_n X dX0_dropBreaksOf_52 rfl 0 rfl ?_
  refine v_get (v := .ref (ad o0 15)) X f_X0_55 ho0_11 ho0_k dX0_dropBreaksOf_53 rfl ?_
  refine v_iload_n X dX0_dropBreaksOf_56 rfl 3 rfl ?_
  obtain ⟨hb, h⟩ := h
  refine v_iald (o := o0) (k := 14) (n := 8) X ho0_11 ho0_k rfl rfl rfl hb dX0_dropBreaksOf_57 ?_
  obtain ⟨hb, h⟩ := h
  refine v_iast (o := o0) (k := 14) (n := 8) X ho0_11 ho0_k rfl rfl rfl hb dX0_dropBreaksOf_58 ?_
  refine v_st (fun S58 eS58 => ?_)
  have h := h S58 eS58
  refine v_aload_n X dX0_dropBreaksOf_59 rfl 0 rfl ?_
  refine v_get (v := .ref (ad o0 16)) X f_X0_58 ho0_11 ho0_k dX0_dropBreaksOf_60 rfl ?_
  refine v_iload_n X dX0_dropBreaksOf_63 rfl 2 rfl ?_
  refine v_aload_n X dX0_dropBreaksOf_64 rfl 0 rfl ?_
  refine v_get (v := .ref (ad o0 16)) X f_X0_58 ho0_11 ho0_k dX0_dropBreaksOf_65 rfl ?_
  refine v_iload_n X dX0_dropBreaksOf_68 rfl 3 rfl ?_
  obtain ⟨hb, h⟩ := h
  refine v_iald (o := o0) (k := 15) (n := 8) X ho0_11 ho0_k rfl rfl rfl hb dX0_dropBreaksOf_69 ?_
  obtain ⟨hb, h⟩ := h
  refine v_iast (o := o0) (k := 15) (n := 8) X ho0_11 ho0_k rfl rfl rfl hb dX0_dropBreaksOf_70 ?_
  refine v_st (fun S70 eS70 => ?_)
  have h := h S70 eS70
  obtain ⟨y71, ey71⟩ : ∃ z : Int32, z = x2 + 1 := ⟨_, rfl⟩
  have h := h y71 ey71
  refine v_iinc (v := y71) X [(2, .int y71), (0, .ref (ad o0 0)), (1, .int x1), (3, .int x3)] dX0_dropBreaksOf_71 2 rfl (by rw [ey71]; rfl) (by decide) rfl ?_
  obtain ⟨y74, ey74⟩ : ∃ z : Int32, z = x3 + 1 := ⟨_, rfl⟩
  have h := h y74 ey74
  refine v_iinc (v := y74) X [(3, .int y74), (2, .int y71), (0, .ref (ad o0 0)), (1, .int x1)] dX0_dropBreaksOf_74 3 rfl (by rw [ey74]; rfl) (by decide) rfl ?_
  refine v_goto X 4 dX0_dropBreaksOf_77 (by decide) ?_
  refine v_sub [2, 3, 1, 0] rfl ?_
  exact hB4 _ _ _ h
def w_X0_dropBreaksOf_4 (o0 : Nat) (K : St → Prop) (S : St) (x1 : Int32) (x2 : Int32) (x3 : Int32) : Prop := ∃ I : Nat → St → Int32 → Int32 → Prop, (∃ n : Nat, I n S x2 x3) ∧ ∀ (n : Nat) (S : St) (x2 : Int32) (x3 : Int32), I n S x2 x3 → ((((S o0 12 0) ≤ x3) → (∀ S82 : St, S82 = up3 S o0 12 0 x2 → (K S82))) ∧ ((¬ (S o0 12 0) ≤ x3) → ((vp_in x3 8) ∧ (∀ y18 : Int32, y18 = (S o0 13 x3.toNatClampNeg) → (((y18 = x1) → (∀ y74 : Int32, y74 = x3 + 1 → (∃ n' : Nat, n' < n ∧ I n' S x2 y74))) ∧ ((¬ y18 = x1) → (((y18 ≤ x1) → (w_X0_dropBreaksOf_46 o0 K (fun (S : St) (x2 : Int32) (x3 : Int32) => ∃ n' : Nat, n' < n ∧ I n' S x2 x3) S x1 x2 x3 y18 x2)) ∧ ((¬ y18 ≤ x1) → (w_X0_dropBreaksOf_46 o0 K (fun (S : St) (x2 : Int32) (x3 : Int32) => ∃ n' : Nat, n' < n ∧ I n' S x2 x3) S x1 x2 x3 (y18 - 1) x2)))))))))
set_option maxHeartbeats 4000000 in
set_option maxRecDepth 100000 in
theorem t_X0_dropBreaksOf_4 {p : Program} {l : Launch} {e : Env} {s : State} {m : MethodId} {args : Array Value} {below : List Frame} {meth : Method} {c : Code} {D : va_G} {cA : Nat → ClassId} {ad : Nat → Nat → Nat} {A : Nat → Prop} (o0 : Nat) (ho0 : o0 < 7) {K : St → Prop} {S : St} {x1 : Int32} {x2 : Int32} {x3 : Int32} (X : Cx p rm_X0_dropBreaksOf m c cX0_dropBreaksOf 5 s args RX0 0 0 D cA ad A) (hr : meth.sig.returnType = none) (hlk : meth.locks = false) (h : w_X0_dropBreaksOf_4 o0 K S x1 x2 x3) : VV p l e rm_X0_dropBreaksOf s m args below meth c 0 0 (MQ below (Qv D cA ad A K) args s 0 0 A) D cA ad A 5 S 4 [(0, .ref (ad o0 0)), (1, .int x1), (2, .int x2), (3, .int x3)] [] := by
  have ho0_11 : o0 < 11 := by omega
  have ho0_k : kd o0 = 0 := kd_day ho0
  obtain ⟨I, ⟨n, hI⟩, hbody⟩ := h
  suffices key : ∀ (n : Nat) (S : St) (x2 : Int32) (x3 : Int32), I n S x2 x3 → VV p l e rm_X0_dropBreaksOf s m args below meth c 0 0 (MQ below (Qv D cA ad A K) args s 0 0 A) D cA ad A 5 S 4 [(0, .ref (ad o0 0)), (1, .int x1), (2, .int x2), (3, .int x3)] [] from key n S x2 x3 hI
  clear hI
  intro n
  induction n using Nat.strongRecOn with
  | ind n ih =>
    intro S x2 x3 hI
    have h := hbody n S x2 x3 hI
    clear hI
    refine v_iload_n X dX0_dropBreaksOf_4 rfl 3 rfl ?_
    refine v_aload_n X dX0_dropBreaksOf_5 rfl 0 rfl ?_
    refine v_get (v := .int (S o0 12 0)) X f_X0_49 ho0_11 ho0_k dX0_dropBreaksOf_6 rfl ?_
    refine v_icmp_ge X 80 dX0_dropBreaksOf_9 (by decide) (fun hc9 => ?_) (fun hc9 => ?_)
    · have h := h.1 hc9
      refine v_aload_n X dX0_dropBreaksOf_80 rfl 0 rfl ?_
      refine v_iload_n X dX0_dropBreaksOf_81 rfl 2 rfl ?_
      refine v_put (o := o0) X f_X0_49 ho0_11 ho0_k rfl dX0_dropBreaksOf_82 ?_
      refine v_st (fun S82 eS82 => ?_)
      have h := h S82 eS82
      exact v_vret X hr hlk dX0_dropBreaksOf_85 h
    · have h := h.2 hc9
      refine v_aload_n X dX0_dropBreaksOf_12 rfl 0 rfl ?_
      refine v_get (v := .ref (ad o0 14)) X f_X0_52 ho0_11 ho0_k dX0_dropBreaksOf_13 rfl ?_
      refine v_iload_n X dX0_dropBreaksOf_16 rfl 3 rfl ?_
      obtain ⟨hb, h⟩ := h
      refine v_iald (o := o0) (k := 13) (n := 8) X ho0_11 ho0_k rfl rfl rfl hb dX0_dropBreaksOf_17 ?_
      refine v_topi (fun y18 ey18 => ?_)
      have h := h y18 ey18
      refine v_istore X [(4, .int y18), (0, .ref (ad o0 0)), (1, .int x1), (2, .int x2), (3, .int x3)] dX0_dropBreaksOf_18 (by decide) rfl ?_
      refine v_iload X dX0_dropBreaksOf_20 0 rfl ?_
      refine v_iload_n X dX0_dropBreaksOf_22 rfl 2 rfl ?_
      refine v_icmp_eq X 74 dX0_dropBreaksOf_23 (by decide) (fun hc23 => ?_) (fun hc23 => ?_)
      · have h := h.1 hc23
        obtain ⟨y74, ey74⟩ : ∃ z : Int32, z = x3 + 1 := ⟨_, rfl⟩
        have h := h y74 ey74
        refine v_iinc (v := y74) X [(3, .int y74), (4, .int y18), (0, .ref (ad o0 0)), (1, .int x1), (2, .int x2)] dX0_dropBreaksOf_74 4 rfl (by rw [ey74]; rfl) (by decide) rfl ?_
        refine v_goto X 4 dX0_dropBreaksOf_77 (by decide) ?_
        obtain ⟨n', hlt, h⟩ := h
        refine v_sub [2, 3, 4, 0] rfl ?_
        exact ih n' hlt _ _ _ h
      · have h := h.2 hc23
        refine v_aload_n X dX0_dropBreaksOf_26 rfl 1 rfl ?_
        refine v_get (v := .ref (ad o0 14)) X f_X0_52 ho0_11 ho0_k dX0_dropBreaksOf_27 rfl ?_
        refine v_iload_n X dX0_dropBreaksOf_30 rfl 3 rfl ?_
        refine v_iload X dX0_dropBreaksOf_31 0 rfl ?_
        refine v_iload_n X dX0_dropBreaksOf_33 rfl 2 rfl ?_
        refine v_icmp_le X 44 dX0_dropBreaksOf_34 (by decide) (fun hc34 => ?_) (fun hc34 => ?_)
        · have h := h.1 hc34
          refine v_iload X dX0_dropBreaksOf_44 0 rfl ?_
          refine v_sub [1, 2, 3, 4] rfl ?_
          exact t_X0_dropBreaksOf_46 o0 ho0 X hr hlk (fun S x2 x3 hq => by obtain ⟨n', hlt, hq⟩ := hq; exact ih n' hlt S x2 x3 hq) h
        · have h := h.2 hc34
          refine v_iload X dX0_dropBreaksOf_37 0 rfl ?_
          refine v_iconst (v := 1) X dX0_dropBreaksOf_39 (by decide) ?_
          refine v_isub X dX0_dropBreaksOf_40 ?_
          refine v_goto X 46 dX0_dropBreaksOf_41 (by decide) ?_
          refine v_sub [1, 2, 3, 4] rfl ?_
          exact t_X0_dropBreaksOf_46 o0 ho0 X hr hlk (fun S x2 x3 hq => by obtain ⟨n', hlt, hq⟩ := hq; exact ih n' hlt S x2 x3 hq) h
def w_X0_dropBreaksOf (o0 : Nat) (S : St) (x1 : Int32) (K : St → Prop) : Prop := w_X0_dropBreaksOf_4 o0 K S x1 0 0
set_option maxHeartbeats 4000000 in
set_option maxRecDepth 100000 in
theorem c_X0_dropBreaksOf (l : Launch) {D : va_G} {cA : Nat → ClassId} {ad : Nat → Nat → Nat} {A : Nat → Prop} (o0 : Nat) (ho0 : o0 < 7) (S : St) (x1 : Int32) (K : St → Prop) (h : w_X0_dropBreaksOf o0 S x1 K) : MT l yX0_dropBreaksOf cX0_dropBreaksOf 5 none 0 0 [.ref (ad o0 0), .int x1] D cA ad A S (Qv D cA ad A K) := by
  refine MT.ofV (by decide) (Nat.le_of_ble_eq_true rfl) ?_
  intro p e s m args below meth c X hr hlk
  have X : Cx p rm_X0_dropBreaksOf m c cX0_dropBreaksOf 5 s args RX0 0 0 D cA ad A := X
  refine v_lv [(0, .ref (ad o0 0)), (1, .int x1)] rfl ?_
  unfold w_X0_dropBreaksOf at h
  have ho0_11 : o0 < 11 := by omega
  have ho0_k : kd o0 = 0 := kd_day ho0
  refine v_iconst (v := 0) X dX0_dropBreaksOf_0 (by decide) ?_
  refine v_istore_n X [(2, .int 0), (0, .ref (ad o0 0)), (1, .int x1)] dX0_dropBreaksOf_1 rfl (by decide) rfl ?_
  refine v_iconst (v := 0) X dX0_dropBreaksOf_2 (by decide) ?_
  refine v_istore_n X [(3, .int 0), (2, .int 0), (0, .ref (ad o0 0)), (1, .int x1)] dX0_dropBreaksOf_3 rfl (by decide) rfl ?_
  refine v_sub [2, 3, 1, 0] rfl ?_
  exact t_X0_dropBreaksOf_4 o0 ho0 X hr hlk h
abbrev rm_X0_dropShow : Room := { frames := 1, cells := 0, slots := 0, locals := 24 }
def w_X0_dropShow_17 (o0 : Nat) (K : St → Prop) (S : St) (x2 : Int32) : Prop := ∃ I : Nat → St → Int32 → Prop, (∃ n : Nat, I n S x2) ∧ ∀ (n : Nat) (S : St) (x2 : Int32), I n S x2 → ((((S o0 8 0) ≤ x2) → (K S)) ∧ ((¬ (S o0 8 0) ≤ x2) → ((vp_in (x2 + 1) 6) ∧ ((vp_in x2 6) ∧ (∀ S38 : St, S38 = up3 S o0 9 x2.toNatClampNeg (S o0 9 (x2 + 1).toNatClampNeg) → ((vp_in (x2 + 1) 6) ∧ ((vp_in x2 6) ∧ (∀ S52 : St, S52 = up3 S38 o0 10 x2.toNatClampNeg (S38 o0 10 (x2 + 1).toNatClampNeg) → ((vp_in (x2 + 1) 6) ∧ ((vp_in x2 6) ∧ (∀ S66 : St, S66 = up3 S52 o0 11 x2.toNatClampNeg (S52 o0 11 (x2 + 1).toNatClampNeg) → (∀ y67 : Int32, y67 = x2 + 1 → (∃ n' : Nat, n' < n ∧ I n' S66 y67)))))))))))))
set_option maxHeartbeats 4000000 in
set_option maxRecDepth 100000 in
theorem t_X0_dropShow_17 {p : Program} {l : Launch} {e : Env} {s : State} {m : MethodId} {args : Array Value} {below : List Frame} {meth : Method} {c : Code} {D : va_G} {cA : Nat → ClassId} {ad : Nat → Nat → Nat} {A : Nat → Prop} (o0 : Nat) (ho0 : o0 < 7) {K : St → Prop} {S : St} {x2 : Int32} (X : Cx p rm_X0_dropShow m c cX0_dropShow 3 s args RX0 0 0 D cA ad A) (hr : meth.sig.returnType = none) (hlk : meth.locks = false) (h : w_X0_dropShow_17 o0 K S x2) : VV p l e rm_X0_dropShow s m args below meth c 0 0 (MQ below (Qv D cA ad A K) args s 0 0 A) D cA ad A 3 S 17 [(0, .ref (ad o0 0)), (2, .int x2)] [] := by
  have ho0_11 : o0 < 11 := by omega
  have ho0_k : kd o0 = 0 := kd_day ho0
  obtain ⟨I, ⟨n, hI⟩, hbody⟩ := h
  suffices key : ∀ (n : Nat) (S : St) (x2 : Int32), I n S x2 → VV p l e rm_X0_dropShow s m args below meth c 0 0 (MQ below (Qv D cA ad A K) args s 0 0 A) D cA ad A 3 S 17 [(0, .ref (ad o0 0)), (2, .int x2)] [] from key n S x2 hI
  clear hI
  intro n
  induction n using Nat.strongRecOn with
  | ind n ih =>
    intro S x2 hI
    have h := hbody n S x2 hI
    clear hI
    refine v_iload_n X dX0_dropShow_17 rfl 1 rfl ?_
    refine v_aload_n X dX0_dropShow_18 rfl 0 rfl ?_
    refine v_get (v := .int (S o0 8 0)) X f_X0_37 ho0_11 ho0_k dX0_dropShow_19 rfl ?_
    refine v_icmp_ge X 73 dX0_dropShow_22 (by decide) (fun hc22 => ?_) (fun hc22 => ?_)
    · have h := h.1 hc22
      exact v_vret X hr hlk dX0_dropShow_73 h
    · have h := h.2 hc22
      refine v_aload_n X dX0_dropShow_25 rfl 0 rfl ?_
      refine v_get (v := .ref (ad o0 10)) X f_X0_40 ho0_11 ho0_k dX0_dropShow_26 rfl ?_
      refine v_iload_n X dX0_dropShow_29 rfl 1 rfl ?_
      refine v_aload_n X dX0_dropShow_30 rfl 0 rfl ?_
      refine v_get (v := .ref (ad o0 10)) X f_X0_40 ho0_11 ho0_k dX0_dropShow_31 rfl ?_
      refine v_iload_n X dX0_dropShow_34 rfl 1 rfl ?_
      refine v_iconst (v := 1) X dX0_dropShow_35 (by decide) ?_
      refine v_iadd X dX0_dropShow_36 ?_
      obtain ⟨hb, h⟩ := h
      refine v_iald (o := o0) (k := 9) (n := 6) X ho0_11 ho0_k rfl rfl rfl hb dX0_dropShow_37 ?_
      obtain ⟨hb, h⟩ := h
      refine v_iast (o := o0) (k := 9) (n := 6) X ho0_11 ho0_k rfl rfl rfl hb dX0_dropShow_38 ?_
      refine v_st (fun S38 eS38 => ?_)
      have h := h S38 eS38
      refine v_aload_n X dX0_dropShow_39 rfl 0 rfl ?_
      refine v_get (v := .ref (ad o0 11)) X f_X0_43 ho0_11 ho0_k dX0_dropShow_40 rfl ?_
      refine v_iload_n X dX0_dropShow_43 rfl 1 rfl ?_
      refine v_aload_n X dX0_dropShow_44 rfl 0 rfl ?_
      refine v_get (v := .ref (ad o0 11)) X f_X0_43 ho0_11 ho0_k dX0_dropShow_45 rfl ?_
      refine v_iload_n X dX0_dropShow_48 rfl 1 rfl ?_
      refine v_iconst (v := 1) X dX0_dropShow_49 (by decide) ?_
      refine v_iadd X dX0_dropShow_50 ?_
      obtain ⟨hb, h⟩ := h
      refine v_iald (o := o0) (k := 10) (n := 6) X ho0_11 ho0_k rfl rfl rfl hb dX0_dropShow_51 ?_
      obtain ⟨hb, h⟩ := h
      refine v_iast (o := o0) (k := 10) (n := 6) X ho0_11 ho0_k rfl rfl rfl hb dX0_dropShow_52 ?_
      refine v_st (fun S52 eS52 => ?_)
      have h := h S52 eS52
      refine v_aload_n X dX0_dropShow_53 rfl 0 rfl ?_
      refine v_get (v := .ref (ad o0 12)) X f_X0_46 ho0_11 ho0_k dX0_dropShow_54 rfl ?_
      refine v_iload_n X dX0_dropShow_57 rfl 1 rfl ?_
      refine v_aload_n X dX0_dropShow_58 rfl 0 rfl ?_
      refine v_get (v := .ref (ad o0 12)) X f_X0_46 ho0_11 ho0_k dX0_dropShow_59 rfl ?_
      refine v_iload_n X dX0_dropShow_62 rfl 1 rfl ?_
      refine v_iconst (v := 1) X dX0_dropShow_63 (by decide) ?_
      refine v_iadd X dX0_dropShow_64 ?_
      obtain ⟨hb, h⟩ := h
      refine v_iald (o := o0) (k := 11) (n := 6) X ho0_11 ho0_k rfl rfl rfl hb dX0_dropShow_65 ?_
      obtain ⟨hb, h⟩ := h
      refine v_iast (o := o0) (k := 11) (n := 6) X ho0_11 ho0_k rfl rfl rfl hb dX0_dropShow_66 ?_
      refine v_st (fun S66 eS66 => ?_)
      have h := h S66 eS66
      obtain ⟨y67, ey67⟩ : ∃ z : Int32, z = x2 + 1 := ⟨_, rfl⟩
      have h := h y67 ey67
      refine v_iinc (v := y67) X [(2, .int y67), (0, .ref (ad o0 0))] dX0_dropShow_67 1 rfl (by rw [ey67]; rfl) (by decide) rfl ?_
      refine v_goto X 17 dX0_dropShow_70 (by decide) ?_
      obtain ⟨n', hlt, h⟩ := h
      refine v_sub [1, 0] rfl ?_
      exact ih n' hlt _ _ h
def w_X0_dropShow (o0 : Nat) (S : St) (x1 : Int32) (K : St → Prop) : Prop := w_X0_dropBreaksOf o0 S x1 (fun S2 => ∀ S12 : St, S12 = up3 S2 o0 8 0 ((S2 o0 8 0) - 1) → (w_X0_dropShow_17 o0 K S12 x1))
set_option maxHeartbeats 4000000 in
set_option maxRecDepth 100000 in
theorem c_X0_dropShow (l : Launch) {D : va_G} {cA : Nat → ClassId} {ad : Nat → Nat → Nat} {A : Nat → Prop} (o0 : Nat) (ho0 : o0 < 7) (S : St) (x1 : Int32) (K : St → Prop) (h : w_X0_dropShow o0 S x1 K) : MT l yX0_dropShow cX0_dropShow 3 none 1 24 [.ref (ad o0 0), .int x1] D cA ad A S (Qv D cA ad A K) := by
  refine MT.ofV (by decide) (Nat.le_of_ble_eq_true rfl) ?_
  intro p e s m args below meth c X hr hlk
  have X : Cx p rm_X0_dropShow m c cX0_dropShow 3 s args RX0 0 0 D cA ad A := X
  refine v_lv [(0, .ref (ad o0 0)), (1, .int x1)] rfl ?_
  unfold w_X0_dropShow at h
  have ho0_11 : o0 < 11 := by omega
  have ho0_k : kd o0 = 0 := kd_day ho0
  refine v_aload_n X dX0_dropShow_0 rfl 0 rfl ?_
  refine v_iload_n X dX0_dropShow_1 rfl 1 rfl ?_
  refine v_callVv (o := o0) (ci := 0) (As := [.int x1]) (rest := []) X (c_X0_dropBreaksOf l o0 ho0 S x1 _ h) mw_X0_dropBreaksOf mv_X0_74 ho0_11 ho0_k ⟨Nat.le_of_ble_eq_true rfl, Nat.le_of_ble_eq_true rfl⟩ rfl (Nat.le_of_ble_eq_true rfl) rfl dX0_dropShow_2 (fun S2 h => ?_)
  refine v_aload_n X dX0_dropShow_5 rfl 0 rfl ?_
  refine v_dup X dX0_dropShow_6 rfl ?_
  refine v_get (v := .int (S2 o0 8 0)) X f_X0_37 ho0_11 ho0_k dX0_dropShow_7 rfl ?_
  refine v_iconst (v := 1) X dX0_dropShow_10 (by decide) ?_
  refine v_isub X dX0_dropShow_11 ?_
  refine v_put (o := o0) X f_X0_37 ho0_11 ho0_k rfl dX0_dropShow_12 ?_
  refine v_st (fun S12 eS12 => ?_)
  have h := h S12 eS12
  refine v_iload_n X dX0_dropShow_15 rfl 1 rfl ?_
  refine v_istore_n X [(2, .int x1), (0, .ref (ad o0 0)), (1, .int x1)] dX0_dropShow_16 rfl (by decide) rfl ?_
  refine v_sub [1, 0] rfl ?_
  exact t_X0_dropShow_17 o0 ho0 X hr hlk h
abbrev rm_X0_appendBreak : Room := { frames := 0, cells := 0, slots := 0, locals := 0 }
def w_X0_appendBreak (o0 : Nat) (S : St) (x1 : Int32) (x2 : Int32) (x3 : Int32) (K : St → Prop) : Prop := (vp_in (S o0 12 0) 8) ∧ (∀ S9 : St, S9 = up3 S o0 13 ((S o0 12 0).toNatClampNeg) x1 → ((vp_in (S9 o0 12 0) 8) ∧ (∀ S19 : St, S19 = up3 S9 o0 14 ((S9 o0 12 0).toNatClampNeg) x2 → ((vp_in (S19 o0 12 0) 8) ∧ (∀ S29 : St, S29 = up3 S19 o0 15 ((S19 o0 12 0).toNatClampNeg) x3 → (∀ S37 : St, S37 = up3 S29 o0 12 0 ((S29 o0 12 0) + 1) → (K S37)))))))
set_option maxHeartbeats 4000000 in
set_option maxRecDepth 100000 in
theorem c_X0_appendBreak (l : Launch) {D : va_G} {cA : Nat → ClassId} {ad : Nat → Nat → Nat} {A : Nat → Prop} (o0 : Nat) (ho0 : o0 < 7) (S : St) (x1 : Int32) (x2 : Int32) (x3 : Int32) (K : St → Prop) (h : w_X0_appendBreak o0 S x1 x2 x3 K) : MT l yX0_appendBreak cX0_appendBreak 4 none 0 0 [.ref (ad o0 0), .int x1, .int x2, .int x3] D cA ad A S (Qv D cA ad A K) := by
  refine MT.ofV (by decide) (Nat.le_of_ble_eq_true rfl) ?_
  intro p e s m args below meth c X hr hlk
  have X : Cx p rm_X0_appendBreak m c cX0_appendBreak 4 s args RX0 0 0 D cA ad A := X
  refine v_lv [(0, .ref (ad o0 0)), (1, .int x1), (2, .int x2), (3, .int x3)] rfl ?_
  unfold w_X0_appendBreak at h
  have ho0_11 : o0 < 11 := by omega
  have ho0_k : kd o0 = 0 := kd_day ho0
  refine v_aload_n X dX0_appendBreak_0 rfl 0 rfl ?_
  refine v_get (v := .ref (ad o0 14)) X f_X0_52 ho0_11 ho0_k dX0_appendBreak_1 rfl ?_
  refine v_aload_n X dX0_appendBreak_4 rfl 0 rfl ?_
  refine v_get (v := .int (S o0 12 0)) X f_X0_49 ho0_11 ho0_k dX0_appendBreak_5 rfl ?_
  refine v_iload_n X dX0_appendBreak_8 rfl 1 rfl ?_
  obtain ⟨hb, h⟩ := h
  refine v_iast (o := o0) (k := 13) (n := 8) X ho0_11 ho0_k rfl rfl rfl hb dX0_appendBreak_9 ?_
  refine v_st (fun S9 eS9 => ?_)
  have h := h S9 eS9
  refine v_aload_n X dX0_appendBreak_10 rfl 0 rfl ?_
  refine v_get (v := .ref (ad o0 15)) X f_X0_55 ho0_11 ho0_k dX0_appendBreak_11 rfl ?_
  refine v_aload_n X dX0_appendBreak_14 rfl 0 rfl ?_
  refine v_get (v := .int (S9 o0 12 0)) X f_X0_49 ho0_11 ho0_k dX0_appendBreak_15 rfl ?_
  refine v_iload_n X dX0_appendBreak_18 rfl 2 rfl ?_
  obtain ⟨hb, h⟩ := h
  refine v_iast (o := o0) (k := 14) (n := 8) X ho0_11 ho0_k rfl rfl rfl hb dX0_appendBreak_19 ?_
  refine v_st (fun S19 eS19 => ?_)
  have h := h S19 eS19
  refine v_aload_n X dX0_appendBreak_20 rfl 0 rfl ?_
  refine v_get (v := .ref (ad o0 16)) X f_X0_58 ho0_11 ho0_k dX0_appendBreak_21 rfl ?_
  refine v_aload_n X dX0_appendBreak_24 rfl 0 rfl ?_
  refine v_get (v := .int (S19 o0 12 0)) X f_X0_49 ho0_11 ho0_k dX0_appendBreak_25 rfl ?_
  refine v_iload_n X dX0_appendBreak_28 rfl 3 rfl ?_
  obtain ⟨hb, h⟩ := h
  refine v_iast (o := o0) (k := 15) (n := 8) X ho0_11 ho0_k rfl rfl rfl hb dX0_appendBreak_29 ?_
  refine v_st (fun S29 eS29 => ?_)
  have h := h S29 eS29
  refine v_aload_n X dX0_appendBreak_30 rfl 0 rfl ?_
  refine v_dup X dX0_appendBreak_31 rfl ?_
  refine v_get (v := .int (S29 o0 12 0)) X f_X0_49 ho0_11 ho0_k dX0_appendBreak_32 rfl ?_
  refine v_iconst (v := 1) X dX0_appendBreak_35 (by decide) ?_
  refine v_iadd X dX0_appendBreak_36 ?_
  refine v_put (o := o0) X f_X0_49 ho0_11 ho0_k rfl dX0_appendBreak_37 ?_
  refine v_st (fun S37 eS37 => ?_)
  have h := h S37 eS37
  exact v_vret X hr hlk dX0_appendBreak_40 h
abbrev rm_X0_firstMachineIn : Room := { frames := 0, cells := 0, slots := 0, locals := 0 }
def w_X0_firstMachineIn_2 (o0 : Nat) (K : Int32 → Prop) (S : St) (x1 : Int32) (x2 : Int32) : Prop := ∃ I : Nat → Int32 → Prop, (∃ n : Nat, I n x2) ∧ ∀ (n : Nat) (x2 : Int32), I n x2 → ((((S o0 4 0) ≤ x2) → (K (-1))) ∧ ((¬ (S o0 4 0) ≤ x2) → ((vp_in x2 5) ∧ (((¬ (S o0 5 x2.toNatClampNeg) = x1) → (∀ y22 : Int32, y22 = x2 + 1 → (∃ n' : Nat, n' < n ∧ I n' y22))) ∧ (((S o0 5 x2.toNatClampNeg) = x1) → (K x2))))))
set_option maxHeartbeats 4000000 in
set_option maxRecDepth 100000 in
theorem t_X0_firstMachineIn_2 {p : Program} {l : Launch} {e : Env} {s : State} {m : MethodId} {args : Array Value} {below : List Frame} {meth : Method} {c : Code} {D : va_G} {cA : Nat → ClassId} {ad : Nat → Nat → Nat} {A : Nat → Prop} (o0 : Nat) (ho0 : o0 < 7) {K : Int32 → Prop} {S : St} {x1 : Int32} {x2 : Int32} (X : Cx p rm_X0_firstMachineIn m c cX0_firstMachineIn 3 s args RX0 0 0 D cA ad A) (hr : meth.sig.returnType = (some .int)) (hlk : meth.locks = false) (h : w_X0_firstMachineIn_2 o0 K S x1 x2) : VV p l e rm_X0_firstMachineIn s m args below meth c 0 0 (MQ below (Qi D cA ad A (fun r S' => S' = S ∧ K r)) args s 0 0 A) D cA ad A 3 S 2 [(0, .ref (ad o0 0)), (1, .int x1), (2, .int x2)] [] := by
  have ho0_11 : o0 < 11 := by omega
  have ho0_k : kd o0 = 0 := kd_day ho0
  obtain ⟨I, ⟨n, hI⟩, hbody⟩ := h
  suffices key : ∀ (n : Nat) (x2 : Int32), I n x2 → VV p l e rm_X0_firstMachineIn s m args below meth c 0 0 (MQ below (Qi D cA ad A (fun r S' => S' = S ∧ K r)) args s 0 0 A) D cA ad A 3 S 2 [(0, .ref (ad o0 0)), (1, .int x1), (2, .int x2)] [] from key n x2 hI
  clear hI
  intro n
  induction n using Nat.strongRecOn with
  | ind n ih =>
    intro x2 hI
    have h := hbody n x2 hI
    clear hI
    refine v_iload_n X dX0_firstMachineIn_2 rfl 2 rfl ?_
    refine v_aload_n X dX0_firstMachineIn_3 rfl 0 rfl ?_
    refine v_get (v := .int (S o0 4 0)) X f_X0_24 ho0_11 ho0_k dX0_firstMachineIn_4 rfl ?_
    refine v_icmp_ge X 28 dX0_firstMachineIn_7 (by decide) (fun hc7 => ?_) (fun hc7 => ?_)
    · have h := h.1 hc7
      refine v_iconst (v := (-1)) X dX0_firstMachineIn_28 (by decide) ?_
      exact v_iret X hr hlk dX0_firstMachineIn_29 ⟨rfl, h⟩
    · have h := h.2 hc7
      refine v_aload_n X dX0_firstMachineIn_10 rfl 0 rfl ?_
      refine v_get (v := .ref (ad o0 6)) X f_X0_28 ho0_11 ho0_k dX0_firstMachineIn_11 rfl ?_
      refine v_iload_n X dX0_firstMachineIn_14 rfl 2 rfl ?_
      obtain ⟨hb, h⟩ := h
      refine v_iald (o := o0) (k := 5) (n := 5) X ho0_11 ho0_k rfl rfl rfl hb dX0_firstMachineIn_15 ?_
      refine v_iload_n X dX0_firstMachineIn_16 rfl 1 rfl ?_
      refine v_icmp_ne X 22 dX0_firstMachineIn_17 (by decide) (fun hc17 => ?_) (fun hc17 => ?_)
      · have h := h.1 hc17
        obtain ⟨y22, ey22⟩ : ∃ z : Int32, z = x2 + 1 := ⟨_, rfl⟩
        have h := h y22 ey22
        refine v_iinc (v := y22) X [(2, .int y22), (0, .ref (ad o0 0)), (1, .int x1)] dX0_firstMachineIn_22 2 rfl (by rw [ey22]; rfl) (by decide) rfl ?_
        refine v_goto X 2 dX0_firstMachineIn_25 (by decide) ?_
        obtain ⟨n', hlt, h⟩ := h
        refine v_sub [1, 2, 0] rfl ?_
        exact ih n' hlt _ h
      · have h := h.2 hc17
        refine v_iload_n X dX0_firstMachineIn_20 rfl 2 rfl ?_
        exact v_iret X hr hlk dX0_firstMachineIn_21 ⟨rfl, h⟩
def w_X0_firstMachineIn (o0 : Nat) (S : St) (x1 : Int32) (K : Int32 → Prop) : Prop := w_X0_firstMachineIn_2 o0 K S x1 0
set_option maxHeartbeats 4000000 in
set_option maxRecDepth 100000 in
theorem c_X0_firstMachineIn (l : Launch) {D : va_G} {cA : Nat → ClassId} {ad : Nat → Nat → Nat} {A : Nat → Prop} (o0 : Nat) (ho0 : o0 < 7) (S : St) (x1 : Int32) (K : Int32 → Prop) (h : w_X0_firstMachineIn o0 S x1 K) : MT l yX0_firstMachineIn cX0_firstMachineIn 3 (some .int) 0 0 [.ref (ad o0 0), .int x1] D cA ad A S (Qi D cA ad A (fun r S' => S' = S ∧ K r)) := by
  refine MT.ofV (by decide) (Nat.le_of_ble_eq_true rfl) ?_
  intro p e s m args below meth c X hr hlk
  have X : Cx p rm_X0_firstMachineIn m c cX0_firstMachineIn 3 s args RX0 0 0 D cA ad A := X
  refine v_lv [(0, .ref (ad o0 0)), (1, .int x1)] rfl ?_
  unfold w_X0_firstMachineIn at h
  have ho0_11 : o0 < 11 := by omega
  have ho0_k : kd o0 = 0 := kd_day ho0
  refine v_iconst (v := 0) X dX0_firstMachineIn_0 (by decide) ?_
  refine v_istore_n X [(2, .int 0), (0, .ref (ad o0 0)), (1, .int x1)] dX0_firstMachineIn_1 rfl (by decide) rfl ?_
  refine v_sub [1, 2, 0] rfl ?_
  exact t_X0_firstMachineIn_2 o0 ho0 X hr hlk h
abbrev rm_X0_repairTime : Room := { frames := 0, cells := 0, slots := 0, locals := 0 }
def w_X0_repairTime_5 (o0 : Nat) (K : Int32 → Prop) (S : St) (x1 : Int32) (x2 : Int32) (x3 : Int32) (x4 : Int32) : Prop := ∃ I : Nat → Int32 → Int32 → Prop, (∃ n : Nat, I n x3 x4) ∧ ∀ (n : Nat) (x3 : Int32) (x4 : Int32), I n x3 x4 → ((((S o0 12 0) ≤ x4) → (K x3)) ∧ ((¬ (S o0 12 0) ≤ x4) → ((vp_in x4 8) ∧ (((¬ (S o0 13 x4.toNatClampNeg) = x1) → (∀ y46 : Int32, y46 = x4 + 1 → (∃ n' : Nat, n' < n ∧ I n' x3 y46))) ∧ (((S o0 13 x4.toNatClampNeg) = x1) → ((vp_in x4 8) ∧ (((¬ (S o0 14 x4.toNatClampNeg) = x2) → (∀ y46 : Int32, y46 = x4 + 1 → (∃ n' : Nat, n' < n ∧ I n' x3 y46))) ∧ (((S o0 14 x4.toNatClampNeg) = x2) → ((vp_in x4 8) ∧ (∀ y45 : Int32, y45 = (x3 + (S o0 15 x4.toNatClampNeg)) → (∀ y46 : Int32, y46 = x4 + 1 → (∃ n' : Nat, n' < n ∧ I n' y45 y46))))))))))))
set_option maxHeartbeats 4000000 in
set_option maxRecDepth 100000 in
theorem t_X0_repairTime_5 {p : Program} {l : Launch} {e : Env} {s : State} {m : MethodId} {args : Array Value} {below : List Frame} {meth : Method} {c : Code} {D : va_G} {cA : Nat → ClassId} {ad : Nat → Nat → Nat} {A : Nat → Prop} (o0 : Nat) (ho0 : o0 < 7) {K : Int32 → Prop} {S : St} {x1 : Int32} {x2 : Int32} {x3 : Int32} {x4 : Int32} (X : Cx p rm_X0_repairTime m c cX0_repairTime 5 s args RX0 0 0 D cA ad A) (hr : meth.sig.returnType = (some .int)) (hlk : meth.locks = false) (h : w_X0_repairTime_5 o0 K S x1 x2 x3 x4) : VV p l e rm_X0_repairTime s m args below meth c 0 0 (MQ below (Qi D cA ad A (fun r S' => S' = S ∧ K r)) args s 0 0 A) D cA ad A 5 S 5 [(0, .ref (ad o0 0)), (1, .int x1), (2, .int x2), (3, .int x3), (4, .int x4)] [] := by
  have ho0_11 : o0 < 11 := by omega
  have ho0_k : kd o0 = 0 := kd_day ho0
  obtain ⟨I, ⟨n, hI⟩, hbody⟩ := h
  suffices key : ∀ (n : Nat) (x3 : Int32) (x4 : Int32), I n x3 x4 → VV p l e rm_X0_repairTime s m args below meth c 0 0 (MQ below (Qi D cA ad A (fun r S' => S' = S ∧ K r)) args s 0 0 A) D cA ad A 5 S 5 [(0, .ref (ad o0 0)), (1, .int x1), (2, .int x2), (3, .int x3), (4, .int x4)] [] from key n x3 x4 hI
  clear hI
  intro n
  induction n using Nat.strongRecOn with
  | ind n ih =>
    intro x3 x4 hI
    have h := hbody n x3 x4 hI
    clear hI
    refine v_iload X dX0_repairTime_5 4 rfl ?_
    refine v_aload_n X dX0_repairTime_7 rfl 0 rfl ?_
    refine v_get (v := .int (S o0 12 0)) X f_X0_49 ho0_11 ho0_k dX0_repairTime_8 rfl ?_
    refine v_icmp_ge X 52 dX0_repairTime_11 (by decide) (fun hc11 => ?_) (fun hc11 => ?_)
    · have h := h.1 hc11
      refine v_iload_n X dX0_repairTime_52 rfl 3 rfl ?_
      exact v_iret X hr hlk dX0_repairTime_53 ⟨rfl, h⟩
    · have h := h.2 hc11
      refine v_aload_n X dX0_repairTime_14 rfl 0 rfl ?_
      refine v_get (v := .ref (ad o0 14)) X f_X0_52 ho0_11 ho0_k dX0_repairTime_15 rfl ?_
      refine v_iload X dX0_repairTime_18 4 rfl ?_
      obtain ⟨hb, h⟩ := h
      refine v_iald (o := o0) (k := 13) (n := 8) X ho0_11 ho0_k rfl rfl rfl hb dX0_repairTime_20 ?_
      refine v_iload_n X dX0_repairTime_21 rfl 1 rfl ?_
      refine v_icmp_ne X 46 dX0_repairTime_22 (by decide) (fun hc22 => ?_) (fun hc22 => ?_)
      · have h := h.1 hc22
        obtain ⟨y46, ey46⟩ : ∃ z : Int32, z = x4 + 1 := ⟨_, rfl⟩
        have h := h y46 ey46
        refine v_iinc (v := y46) X [(4, .int y46), (0, .ref (ad o0 0)), (1, .int x1), (2, .int x2), (3, .int x3)] dX0_repairTime_46 4 rfl (by rw [ey46]; rfl) (by decide) rfl ?_
        refine v_goto X 5 dX0_repairTime_49 (by decide) ?_
        obtain ⟨n', hlt, h⟩ := h
        refine v_sub [1, 2, 3, 4, 0] rfl ?_
        exact ih n' hlt _ _ h
      · have h := h.2 hc22
        refine v_aload_n X dX0_repairTime_25 rfl 0 rfl ?_
        refine v_get (v := .ref (ad o0 15)) X f_X0_55 ho0_11 ho0_k dX0_repairTime_26 rfl ?_
        refine v_iload X dX0_repairTime_29 4 rfl ?_
        obtain ⟨hb, h⟩ := h
        refine v_iald (o := o0) (k := 14) (n := 8) X ho0_11 ho0_k rfl rfl rfl hb dX0_repairTime_31 ?_
        refine v_iload_n X dX0_repairTime_32 rfl 2 rfl ?_
        refine v_icmp_ne X 46 dX0_repairTime_33 (by decide) (fun hc33 => ?_) (fun hc33 => ?_)
        · have h := h.1 hc33
          obtain ⟨y46, ey46⟩ : ∃ z : Int32, z = x4 + 1 := ⟨_, rfl⟩
          have h := h y46 ey46
          refine v_iinc (v := y46) X [(4, .int y46), (0, .ref (ad o0 0)), (1, .int x1), (2, .int x2), (3, .int x3)] dX0_repairTime_46 4 rfl (by rw [ey46]; rfl) (by decide) rfl ?_
          refine v_goto X 5 dX0_repairTime_49 (by decide) ?_
          obtain ⟨n', hlt, h⟩ := h
          refine v_sub [1, 2, 3, 4, 0] rfl ?_
          exact ih n' hlt _ _ h
        · have h := h.2 hc33
          refine v_iload_n X dX0_repairTime_36 rfl 3 rfl ?_
          refine v_aload_n X dX0_repairTime_37 rfl 0 rfl ?_
          refine v_get (v := .ref (ad o0 16)) X f_X0_58 ho0_11 ho0_k dX0_repairTime_38 rfl ?_
          refine v_iload X dX0_repairTime_41 4 rfl ?_
          obtain ⟨hb, h⟩ := h
          refine v_iald (o := o0) (k := 15) (n := 8) X ho0_11 ho0_k rfl rfl rfl hb dX0_repairTime_43 ?_
          refine v_iadd X dX0_repairTime_44 ?_
          refine v_topi (fun y45 ey45 => ?_)
          have h := h y45 ey45
          refine v_istore_n X [(3, .int y45), (0, .ref (ad o0 0)), (1, .int x1), (2, .int x2), (4, .int x4)] dX0_repairTime_45 rfl (by decide) rfl ?_
          obtain ⟨y46, ey46⟩ : ∃ z : Int32, z = x4 + 1 := ⟨_, rfl⟩
          have h := h y46 ey46
          refine v_iinc (v := y46) X [(4, .int y46), (3, .int y45), (0, .ref (ad o0 0)), (1, .int x1), (2, .int x2)] dX0_repairTime_46 4 rfl (by rw [ey46]; rfl) (by decide) rfl ?_
          refine v_goto X 5 dX0_repairTime_49 (by decide) ?_
          obtain ⟨n', hlt, h⟩ := h
          refine v_sub [2, 3, 4, 1, 0] rfl ?_
          exact ih n' hlt _ _ h
def w_X0_repairTime (o0 : Nat) (S : St) (x1 : Int32) (x2 : Int32) (K : Int32 → Prop) : Prop := w_X0_repairTime_5 o0 K S x1 x2 0 0
set_option maxHeartbeats 4000000 in
set_option maxRecDepth 100000 in
theorem c_X0_repairTime (l : Launch) {D : va_G} {cA : Nat → ClassId} {ad : Nat → Nat → Nat} {A : Nat → Prop} (o0 : Nat) (ho0 : o0 < 7) (S : St) (x1 : Int32) (x2 : Int32) (K : Int32 → Prop) (h : w_X0_repairTime o0 S x1 x2 K) : MT l yX0_repairTime cX0_repairTime 5 (some .int) 0 0 [.ref (ad o0 0), .int x1, .int x2] D cA ad A S (Qi D cA ad A (fun r S' => S' = S ∧ K r)) := by
  refine MT.ofV (by decide) (Nat.le_of_ble_eq_true rfl) ?_
  intro p e s m args below meth c X hr hlk
  have X : Cx p rm_X0_repairTime m c cX0_repairTime 5 s args RX0 0 0 D cA ad A := X
  refine v_lv [(0, .ref (ad o0 0)), (1, .int x1), (2, .int x2)] rfl ?_
  unfold w_X0_repairTime at h
  have ho0_11 : o0 < 11 := by omega
  have ho0_k : kd o0 = 0 := kd_day ho0
  refine v_iconst (v := 0) X dX0_repairTime_0 (by decide) ?_
  refine v_istore_n X [(3, .int 0), (0, .ref (ad o0 0)), (1, .int x1), (2, .int x2)] dX0_repairTime_1 rfl (by decide) rfl ?_
  refine v_iconst (v := 0) X dX0_repairTime_2 (by decide) ?_
  refine v_istore X [(4, .int 0), (3, .int 0), (0, .ref (ad o0 0)), (1, .int x1), (2, .int x2)] dX0_repairTime_3 (by decide) rfl ?_
  refine v_sub [2, 3, 4, 1, 0] rfl ?_
  exact t_X0_repairTime_5 o0 ho0 X hr hlk h
abbrev rm_X0_setHomes : Room := { frames := 0, cells := 0, slots := 0, locals := 0 }
def w_X0_setHomes_2 (o0 : Nat) (K : St → Prop) (S : St) (x1 : Int32) (x2 : Int32) : Prop := ∃ I : Nat → St → Int32 → Prop, (∃ n : Nat, I n S x2) ∧ ∀ (n : Nat) (S : St) (x2 : Int32), I n S x2 → (((4 ≤ x2) → (K S)) ∧ ((¬ 4 ≤ x2) → ((vp_in x2 4) ∧ (∀ S17 : St, S17 = up3 S o0 3 x2.toNatClampNeg ((x1 >>> (x2 &&& 31)) &&& 1) → (∀ y18 : Int32, y18 = x2 + 1 → (∃ n' : Nat, n' < n ∧ I n' S17 y18))))))
set_option maxHeartbeats 4000000 in
set_option maxRecDepth 100000 in
theorem t_X0_setHomes_2 {p : Program} {l : Launch} {e : Env} {s : State} {m : MethodId} {args : Array Value} {below : List Frame} {meth : Method} {c : Code} {D : va_G} {cA : Nat → ClassId} {ad : Nat → Nat → Nat} {A : Nat → Prop} (o0 : Nat) (ho0 : o0 < 7) {K : St → Prop} {S : St} {x1 : Int32} {x2 : Int32} (X : Cx p rm_X0_setHomes m c cX0_setHomes 3 s args RX0 0 0 D cA ad A) (hr : meth.sig.returnType = none) (hlk : meth.locks = false) (h : w_X0_setHomes_2 o0 K S x1 x2) : VV p l e rm_X0_setHomes s m args below meth c 0 0 (MQ below (Qv D cA ad A K) args s 0 0 A) D cA ad A 3 S 2 [(0, .ref (ad o0 0)), (1, .int x1), (2, .int x2)] [] := by
  have ho0_11 : o0 < 11 := by omega
  have ho0_k : kd o0 = 0 := kd_day ho0
  obtain ⟨I, ⟨n, hI⟩, hbody⟩ := h
  suffices key : ∀ (n : Nat) (S : St) (x2 : Int32), I n S x2 → VV p l e rm_X0_setHomes s m args below meth c 0 0 (MQ below (Qv D cA ad A K) args s 0 0 A) D cA ad A 3 S 2 [(0, .ref (ad o0 0)), (1, .int x1), (2, .int x2)] [] from key n S x2 hI
  clear hI
  intro n
  induction n using Nat.strongRecOn with
  | ind n ih =>
    intro S x2 hI
    have h := hbody n S x2 hI
    clear hI
    refine v_iload_n X dX0_setHomes_2 rfl 2 rfl ?_
    refine v_iconst (v := 4) X dX0_setHomes_3 (by decide) ?_
    refine v_icmp_ge X 24 dX0_setHomes_4 (by decide) (fun hc4 => ?_) (fun hc4 => ?_)
    · have h := h.1 hc4
      exact v_vret X hr hlk dX0_setHomes_24 h
    · have h := h.2 hc4
      refine v_aload_n X dX0_setHomes_7 rfl 0 rfl ?_
      refine v_get (v := .ref (ad o0 4)) X f_X0_21 ho0_11 ho0_k dX0_setHomes_8 rfl ?_
      refine v_iload_n X dX0_setHomes_11 rfl 2 rfl ?_
      refine v_iload_n X dX0_setHomes_12 rfl 1 rfl ?_
      refine v_iload_n X dX0_setHomes_13 rfl 2 rfl ?_
      refine v_ishr X dX0_setHomes_14 ?_
      refine v_iconst (v := 1) X dX0_setHomes_15 (by decide) ?_
      refine v_iand X dX0_setHomes_16 ?_
      obtain ⟨hb, h⟩ := h
      refine v_iast (o := o0) (k := 3) (n := 4) X ho0_11 ho0_k rfl rfl rfl hb dX0_setHomes_17 ?_
      refine v_st (fun S17 eS17 => ?_)
      have h := h S17 eS17
      obtain ⟨y18, ey18⟩ : ∃ z : Int32, z = x2 + 1 := ⟨_, rfl⟩
      have h := h y18 ey18
      refine v_iinc (v := y18) X [(2, .int y18), (0, .ref (ad o0 0)), (1, .int x1)] dX0_setHomes_18 2 rfl (by rw [ey18]; rfl) (by decide) rfl ?_
      refine v_goto X 2 dX0_setHomes_21 (by decide) ?_
      obtain ⟨n', hlt, h⟩ := h
      refine v_sub [1, 2, 0] rfl ?_
      exact ih n' hlt _ _ h
def w_X0_setHomes (o0 : Nat) (S : St) (x1 : Int32) (K : St → Prop) : Prop := w_X0_setHomes_2 o0 K S x1 0
set_option maxHeartbeats 4000000 in
set_option maxRecDepth 100000 in
theorem c_X0_setHomes (l : Launch) {D : va_G} {cA : Nat → ClassId} {ad : Nat → Nat → Nat} {A : Nat → Prop} (o0 : Nat) (ho0 : o0 < 7) (S : St) (x1 : Int32) (K : St → Prop) (h : w_X0_setHomes o0 S x1 K) : MT l yX0_setHomes cX0_setHomes 3 none 0 0 [.ref (ad o0 0), .int x1] D cA ad A S (Qv D cA ad A K) := by
  refine MT.ofV (by decide) (Nat.le_of_ble_eq_true rfl) ?_
  intro p e s m args below meth c X hr hlk
  have X : Cx p rm_X0_setHomes m c cX0_setHomes 3 s args RX0 0 0 D cA ad A := X
  refine v_lv [(0, .ref (ad o0 0)), (1, .int x1)] rfl ?_
  unfold w_X0_setHomes at h
  have ho0_11 : o0 < 11 := by omega
  have ho0_k : kd o0 = 0 := kd_day ho0
  refine v_iconst (v := 0) X dX0_setHomes_0 (by decide) ?_
  refine v_istore_n X [(2, .int 0), (0, .ref (ad o0 0)), (1, .int x1)] dX0_setHomes_1 rfl (by decide) rfl ?_
  refine v_sub [1, 2, 0] rfl ?_
  exact t_X0_setHomes_2 o0 ho0 X hr hlk h
