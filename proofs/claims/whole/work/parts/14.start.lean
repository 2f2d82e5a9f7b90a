/-! FROM THE CONSTRUCTORS TO THE WORLD -/
def dIni (k : Nat) : Nat → Int32 := if k = 4 then upd (fun _ => 0) 0 3 else if k = 5 then upd (fun _ => 0) 2 1 else if k = 6 then upd (fun _ => 0) 0 1 else if k = 7 then va_cpy tFirst (fun _ => 0) 0 0 4 else fun _ => 0
def mIni (k : Nat) : Nat → Int32 := if k = 0 then upd (upd (upd (upd (upd (upd (upd (fun _ => 0) 56 3) 59 1) 62 1) 63 3) 64 2) 65 4) 66 10 else fun _ => 0
/-- the world behind the constructors -/
def Sini : St := fun o k => if o < 7 then dIni k else if o = 7 then (if k = 0 then fun i => nI (i + 2) else fun _ => 0) else if o = 10 then mIni k else fun _ => 0
def adOf (u : Nat → Nat → Nat) (v : Nat → Nat) (tL tM : Nat) : Nat → Nat → Nat := fun o j => if o < 10 then u o j else if o = 10 then v j else if o = 11 then tL else tM
theorem va_repl {D : va_G} {cl : List vw_C} {ws : va_W} {H : Heap} {k a n : Nat} {c : ClassId} {f g : Nat → Option Nat} (hP : va_P D cl ws H) (hk : ws[k]? = some (a, .inl (c, n, .inr (.inr (.inr (.inr f)))))) (hfg : ∀ j, j < n → f j = g j) : va_P D cl (ws.set k (a, .inl (c, n, .inr (.inr (.inr (.inr g)))))) H := by
  intro i q hi
  rw [List.getElem?_set] at hi
  by_cases h : k = i
  · subst h
    rw [if_pos rfl, if_pos (List.getElem?_eq_some_iff.mp hk).1] at hi
    cases hi
    have h1 := hP k _ hk
    show H[a]? = some (vp_cell c (n, .inr (.inr (.inr (.inr g)))))
    rw [show H[a]? = some (vp_cell c (n, .inr (.inr (.inr (.inr f))))) from h1, vp_cell_q, vp_cell_q]
    unfold arrV
    congr 3
    funext j
    show va_rf (f j.val) = va_rf (g j.val)
    rw [hfg j.val j.isLt]
  · rw [if_neg h] at hi
    exact hP i q hi
set_option maxRecDepth 100000 in
set_option maxHeartbeats 4000000 in
theorem start_rep {D : va_G} {cA : Nat → ClassId} {A : Nat → Prop} {u : Nat → Nat → Nat} {v : Nat → Nat} {tL tM : Nat} {H : Heap} (hP : va_P D kcl (roomW cA u ++ modW cA v) H) (hD : va_D A (roomW cA u ++ modW cA v)) : Rep D cA (adOf u v tL tM) A Sini H := by
  have hk : (roomW cA u ++ modW cA v)[28]? = some (u 7 1, .inl (cA 2, 5, .inr (.inr (.inr (.inr (va_up (va_up (va_up (va_up (va_up (fun _ => none) 0 (some (u 2 0))) 1 (some (u 3 0))) 2 (some (u 4 0))) 3 (some (u 5 0))) 4 (some (u 6 0)))))))) := rfl
  have hP1 := va_repl (g := fun i => some (adOf u v tL tM (nI (i + 2)).toNatClampNeg 0)) hP hk (fun j hj => by
    rcases (show j = 0 ∨ j = 1 ∨ j = 2 ∨ j = 3 ∨ j = 4 by omega) with rfl | rfl | rfl | rfl | rfl <;> rw [nI_clamp (by decide)] <;> rfl)
  have hD1 := hD.set (e := .inl (cA 2, 5, .inr (.inr (.inr (.inr (fun i => some (adOf u v tL tM (nI (i + 2)).toNatClampNeg 0))))))) hk
  exact ⟨hP1.sub [1, 2, 3, 4, 5, 6, 7, 8, 9, 10, 11, 12, 13, 14, 15, 16, 17, 18, 19, 20, 21, 22, 23, 24, 25, 26, 29, 30, 31, 32, 33, 34, 35, 36, 37, 38, 39, 40, 41, 42, 43, 44, 45, 46, 47, 48, 49, 50, 51, 52, 53, 54, 55, 56, 57, 58, 59, 60, 61, 62, 63, 64, 65, 66, 67, 68, 69, 70, 71, 72, 73, 74, 75, 76, 77, 78, 79, 80, 81, 82, 83, 84, 85, 86, 87, 88, 89, 90, 91, 92, 93, 27, 28, 94, 95, 96, 97, 98, 99, 100, 101, 102, 103, 104, 105, 106, 107, 0, 108, 109, 110, 111, 112, 113, 114, 115, 116, 117, 118, 119, 120, 121, 122, 123] rfl, hD1.sub [1, 2, 3, 4, 5, 6, 7, 8, 9, 10, 11, 12, 13, 14, 15, 16, 17, 18, 19, 20, 21, 22, 23, 24, 25, 26, 29, 30, 31, 32, 33, 34, 35, 36, 37, 38, 39, 40, 41, 42, 43, 44, 45, 46, 47, 48, 49, 50, 51, 52, 53, 54, 55, 56, 57, 58, 59, 60, 61, 62, 63, 64, 65, 66, 67, 68, 69, 70, 71, 72, 73, 74, 75, 76, 77, 78, 79, 80, 81, 82, 83, 84, 85, 86, 87, 88, 89, 90, 91, 92, 93, 27, 28, 94, 95, 96, 97, 98, 99, 100, 101, 102, 103, 104, 105, 106, 107, 0, 108, 109, 110, 111, 112, 113, 114, 115, 116, 117, 118, 119, 120, 121, 122, 123] (by decide +kernel) rfl⟩
theorem stat_of {args : Array Value} {s : State} {A : Nat → Prop} {nm : String} {f : Nat → Int32} (hl : (Cond.laysStatic RX3 nm "[I").before args s = true) (hini : (Cond.initialized RX3).before args s = true) (harr : (Cond.arrayOf (.static RX3 nm "[I") .int).before args s = true) (hlen : (Cond.eq (.length (.static RX3 nm "[I")) (.int 4)).before args s = true) (h0 : (Cond.eq (.elem (.static RX3 nm "[I") (.int 0)) (.int (f 0))).before args s = true) (h1 : (Cond.eq (.elem (.static RX3 nm "[I") (.int 1)) (.int (f 1))).before args s = true) (h2 : (Cond.eq (.elem (.static RX3 nm "[I") (.int 2)) (.int (f 2))).before args s = true) (h3 : (Cond.eq (.elem (.static RX3 nm "[I") (.int 3)) (.int (f 3))).before args s = true) (hA : ∀ a : Nat, a < s.heap.size → ¬ A a) : ∃ t : Nat, va_Z RX3 nm "[I" (.ref t) A s s.heap ∧ va_T .int t 4 (fun j => .int (f j)) A s s.heap := by
  obtain ⟨t, ht, hT⟩ := va_Tof (N := 4) (f := fun j => .int (f j)) (by decide) harr (va_eqt hlen) (fun j hj => by
    rcases (show j = 0 ∨ j = 1 ∨ j = 2 ∨ j = 3 by omega) with rfl | rfl | rfl | rfl
    · exact va_eqt h0
    · exact va_eqt h1
    · exact va_eqt h2
    · exact va_eqt h3) hA
  exact ⟨t, va_Zof hl hini ht hA, hT⟩
set_option maxRecDepth 100000 in
set_option maxHeartbeats 4000000 in
/-- the law from its entry, out of the condition of its loop -/
theorem start_of {p : Program} {e : Env} {s : State} {m : MethodId} {below : List Frame} {meth : Method} {c : Code} (l : Launch) {b L : Nat} {xs : Nat → Int32} (C0 : lw_At p s m meth c b L xs) (Hp : w_L_law_18 L xs Sini 0) : W p l e room_1 s m #[Value.ref b] below meth c s.heap [] 0 0 (lw_Z below #[Value.ref b] s) (entryFrame m ([Value.ref b] : List Value).toArray 4) := by
  obtain ⟨hx, hb, hr, hml, hown, hts, hX, hbl, hlk, hgv⟩ := C0
  have hW : ∀ w ∈ wA, w.before #[Value.ref b] s = true := fun w h => hts w (wa_in h)
  have hg := flat_of_before _ hgv
  obtain ⟨c0, i0, k0⟩ := u_known (C := RX0) (T := TX0) (N := 16) (n := 16) hW inlX0 (hW _ e_ins0)
  obtain ⟨c1, i1, k1⟩ := u_known (C := RX1) (T := TX1) (N := 2) (n := 2) hW inlX1 (hW _ e_ins1)
  obtain ⟨c2, i2, k2⟩ := u_known (C := RX2) (T := TX2) (N := 16) (n := 16) hW inlX2 (hW _ e_ins2)
  obtain ⟨c3, i3, k3⟩ := u_known (C := RX3) (T := TX3) (N := 4) (n := 4) hW inlX3 (hW _ e_ins3)
  obtain ⟨c4, i4, k4⟩ := u_known (C := RX4) (T := TX4) (N := 18) (n := 18) hW inlX4 (hW _ e_ins4)
  obtain ⟨D, hKc⟩ : ∃ D : va_G, ∀ (k : Nat) (q : vw_C), kcl[k]? = some q → u_Kn s q.1 q.2.1 q.2.2 (D.1 k) (D.2 k) := by
    refine ⟨(fun k => if k = 0 then c0 else if k = 1 then c1 else if k = 2 then c2 else if k = 3 then c3 else c4, fun k => if k = 0 then i0 else if k = 1 then i1 else if k = 2 then i2 else if k = 3 then i3 else i4), ?_⟩
    intro k q hq
    match k, hq with
    | 0, hq => cases hq; exact k0
    | 1, hq => cases hq; exact k1
    | 2, hq => cases hq; exact k2
    | 3, hq => cases hq; exact k3
    | 4, hq => cases hq; exact k4
    | k + 5, hq => simp [kcl] at hq
  have hAO : va_AO RX0 s := va_AO.of (hts (.arrayOver (.object RX0)) (List.mem_append_right _ (List.mem_append_left _ (List.mem_of_getElem? (i := 106) (by decide +kernel)))))
  obtain ⟨cI, kI, pI, aI1, aI2, aI3⟩ := Cond.arrayClass_spec (hW _ e_arrI)
  obtain ⟨cZ, kZ, pZ, aZ1, aZ2, aZ3⟩ := Cond.arrayClass_spec (hW _ e_arrZ)
  obtain ⟨pD, cD, kD, aD0, -, aD2, aD3, aD4⟩ := Cond.arrayOver_spec hAO
  obtain ⟨cA, hcA⟩ : ∃ cA : Nat → ClassId, cA = fun k => if k = 0 then cI else if k = 1 then cZ else cD := ⟨_, rfl⟩
  have hK : va_K D kcl (ktys cA) s := by
    refine ⟨hKc, fun k q hq => ?_⟩
    subst hcA
    match k, hq with
    | 0, hq => cases hq; exact ⟨fun n z => ⟨fun k h => (by cases h), kI, aI2, pI, aI3⟩, aI1⟩
    | 1, hq => cases hq; exact ⟨fun n z => ⟨fun k h => (by cases h), kZ, aZ2, pZ, aZ3⟩, aZ1⟩
    | 2, hq => cases hq; exact ⟨fun n z => ⟨fun k h => (by cases h), kD, aD2, pD, aD3⟩, kD, pD, aD2, aD3, aD0, aD4⟩
    | k + 3, hq => simp [ktys] at hq
  obtain ⟨A, hAe⟩ : ∃ A : Nat → Prop, A = fun q => s.heap.size ≤ q := ⟨_, rfl⟩
  have hnA : ∀ a : Nat, a < s.heap.size → ¬ A a := fun a h z => by rw [hAe] at z; exact absurd z (Nat.not_le.mpr h)
  obtain ⟨t0, hZ0, hT0⟩ := stat_of (nm := "FIRST_MINUTES") (f := tFirst) (A := A) (hts _ (List.mem_append_right _ (List.mem_append_left _ (List.mem_of_getElem? (i := 23) (by decide +kernel))))) (hW _ e_ini3) (hg _ (by decide +kernel)) (hg _ (by decide +kernel)) (hg _ (by decide +kernel)) (hg _ (by decide +kernel)) (hg _ (by decide +kernel)) (hg _ (by decide +kernel)) hnA
  obtain ⟨tL, hZ1, hT1⟩ := stat_of (nm := "LEAST_MINUTES") (f := tLeast) (A := A) (hts _ (List.mem_append_right _ (List.mem_append_right _ (List.mem_append_left _ (List.mem_of_getElem? (i := 33) (by decide +kernel)))))) (hW _ e_ini3) (hg _ (by decide +kernel)) (hg _ (by decide +kernel)) (hg _ (by decide +kernel)) (hg _ (by decide +kernel)) (hg _ (by decide +kernel)) (hg _ (by decide +kernel)) hnA
  obtain ⟨tM, hZ2, hT2⟩ := stat_of (nm := "MOST_MINUTES") (f := tMost) (A := A) (hts _ (List.mem_append_right _ (List.mem_append_right _ (List.mem_append_left _ (List.mem_of_getElem? (i := 35) (by decide +kernel)))))) (hW _ e_ini3) (hg _ (by decide +kernel)) (hg _ (by decide +kernel)) (hg _ (by decide +kernel)) (hg _ (by decide +kernel)) (hg _ (by decide +kernel)) (hg _ (by decide +kernel)) hnA
  have hN0 : va_Nw (.fieldLinkNest RX0 61 RX3 "FIRST_MINUTES" "[I" RX3) s := va_Nw.of rfl (hts _ (List.mem_append_right _ (List.mem_append_left _ (List.mem_of_getElem? (i := 22) (by decide +kernel)))))
  have hN1 : va_Nw (.methodLinkNest RX0 70 yX3_reelPlace RX3) s := va_Nw.of rfl (hts _ (List.mem_append_right _ (List.mem_append_left _ (List.mem_of_getElem? (i := 217) (by decide +kernel)))))
  have hN2 : va_Nw (.methodLinkNest RX2 88 yX3_reelPlace RX3) s := va_Nw.of rfl (hts _ (List.mem_append_right _ (List.mem_append_right _ (List.mem_append_left _ (List.mem_of_getElem? (i := 96) (by decide +kernel))))))
  have X : CB p room_1 m c meth cL_law 4 s #[Value.ref b] RL D cA s.heap.size t0 A := ⟨⟨hx, hb, hml, hown, hW⟩, ⟨hK, hN0, by rw [← hAe]; exact hZ0, by rw [← hAe]; exact hT0, hAO⟩, fun q h => by rw [hAe]; exact h, fun q h => by rw [hAe] at h; exact h, Nat.le_refl _⟩
  have hl := lv_entry [.ref b] (n := 4) (Nat.le_of_ble_eq_true rfl)
  rw [lg_entry_eq]
  have VS : VB p l e room_1 s m #[Value.ref b] below meth c 0 0 (lw_Z below #[Value.ref b] s) D A 4 [] 0 [(0, .ref b)] [] := by
    refine b_new (fs := [.null, .null, .null, .null]) X tyX3 tyX3_ok inlX3 rfl cl_L_7 e_ins3 e_ini3 (fun j hj => by rcases (show j = 0 ∨ j = 1 ∨ j = 2 ∨ j = 3 by omega) with rfl | rfl | rfl | rfl <;> rfl) (Nat.le_of_ble_eq_true rfl) (Nat.le_of_ble_eq_true rfl) dL_law_0 (fun n0 => [(n0, .inr (3, [.null, .null, .null, .null]))]) (fun _ => rfl) (fun n0 hn0 => ?_)
    refine b_dup X dL_law_3 rfl ?_
    refine b_callI (wr := []) (q := n0) (e0 := .inr (3, [.null, .null, .null, .null])) X (fun sz hsz => cb_X3 l D cA s.heap.size t0 sz n0 hn0 hsz) mw_X3_init rfl e_im3 ml_L_9 ⟨Nat.le_of_ble_eq_true rfl, Nat.le_of_ble_eq_true rfl⟩ (Nat.le_of_ble_eq_true rfl) ⟨Nat.le_of_ble_eq_true rfl, Nat.le_of_ble_eq_true rfl⟩ [0] [] rfl rfl (by decide) (by decide) dL_law_4 (fun u hu => ?_)
    subst hu
    refine b_astore_n X [(1, .ref (u 9 0)), (0, .ref b)] dL_law_7 rfl (by decide) rfl ?_
    refine b_new (fs := [.null, .null, .int 0, .null, .null, .null, .null, .null, .null, .null, .null, .null, .null, .null, .null, .int 0, .int 0, .null]) X tyX4 tyX4_ok inlX4 rfl cl_L_10 e_ins4 e_ini4 (fun j hj => by rcases (show j = 0 ∨ j = 1 ∨ j = 2 ∨ j = 3 ∨ j = 4 ∨ j = 5 ∨ j = 6 ∨ j = 7 ∨ j = 8 ∨ j = 9 ∨ j = 10 ∨ j = 11 ∨ j = 12 ∨ j = 13 ∨ j = 14 ∨ j = 15 ∨ j = 16 ∨ j = 17 by omega) with rfl | rfl | rfl | rfl | rfl | rfl | rfl | rfl | rfl | rfl | rfl | rfl | rfl | rfl | rfl | rfl | rfl | rfl <;> rfl) (Nat.le_of_ble_eq_true rfl) (Nat.le_of_ble_eq_true rfl) dL_law_8 (fun n1 => roomW cA u ++ [(n1, .inr (4, [.null, .null, .int 0, .null, .null, .null, .null, .null, .null, .null, .null, .null, .null, .null, .null, .int 0, .int 0, .null]))]) (fun _ => rfl) (fun n1 hn1 => ?_)
    refine b_dup X dL_law_11 rfl ?_
    refine b_callI (wr := roomW cA u) (q := n1) (e0 := .inr (4, [.null, .null, .int 0, .null, .null, .null, .null, .null, .null, .null, .null, .null, .null, .null, .null, .int 0, .int 0, .null])) X (fun sz hsz => cb_X4 l D cA s.heap.size t0 sz n1 hn1 hsz) mw_X4_init rfl e_im4 ml_L_12 ⟨Nat.le_of_ble_eq_true rfl, Nat.le_of_ble_eq_true rfl⟩ (Nat.le_of_ble_eq_true rfl) ⟨Nat.le_of_ble_eq_true rfl, Nat.le_of_ble_eq_true rfl⟩ [108] [0, 1, 2, 3, 4, 5, 6, 7, 8, 9, 10, 11, 12, 13, 14, 15, 16, 17, 18, 19, 20, 21, 22, 23, 24, 25, 26, 27, 28, 29, 30, 31, 32, 33, 34, 35, 36, 37, 38, 39, 40, 41, 42, 43, 44, 45, 46, 47, 48, 49, 50, 51, 52, 53, 54, 55, 56, 57, 58, 59, 60, 61, 62, 63, 64, 65, 66, 67, 68, 69, 70, 71, 72, 73, 74, 75, 76, 77, 78, 79, 80, 81, 82, 83, 84, 85, 86, 87, 88, 89, 90, 91, 92, 93, 94, 95, 96, 97, 98, 99, 100, 101, 102, 103, 104, 105, 106, 107] rfl rfl (by decide +kernel) (by decide +kernel) dL_law_12 (fun v hv => ?_)
    subst hv
    refine b_astore_n X [(2, .ref (v 0)), (1, .ref (u 9 0)), (0, .ref b)] dL_law_15 rfl (by decide) rfl ?_
    intro H locs ls hP hD hS hl
    have X2 : Cx p room_1 m c cL_law 4 s #[Value.ref b] RL 124 2013 D cA (adOf u v tL tM) A := ⟨X.1, ⟨hK, hN1, hN2, hZ1, hT1, hZ2, hT2⟩, Nat.le_of_ble_eq_true rfl, Nat.le_of_ble_eq_true rfl⟩
    have V2 : VV p l e room_1 s m #[Value.ref b] below meth c 124 2013 (lw_Z below #[Value.ref b] s) D cA (adOf u v tL tM) A 4 Sini 16 [(2, .ref (adOf u v tL tM 10 0)), (1, .ref (adOf u v tL tM 9 0)), (0, .ref b)] [] := by
      refine v_iconst (v := 0) X2 dL_law_16 (by decide) ?_
      refine v_istore_n X2 [(3, .int 0), (2, .ref (adOf u v tL tM 10 0)), (1, .ref (adOf u v tL tM 9 0)), (0, .ref b)] dL_law_17 rfl (by decide) rfl ?_
      refine v_sub [3, 2, 1, 0] rfl ?_
      exact t_L_law_18 X2 hr hlk hX hbl (hnA b hbl) (fun q h => by rw [hAe] at h; exact h) ⟨Nat.le_of_ble_eq_true rfl, Nat.le_of_ble_eq_true rfl⟩ Hp
    exact V2 H locs ls (start_rep hP hD) hS hl
  exact VS s.heap [] _ (fun k q h => by simp at h) ⟨fun i j p q h => by simp at h, fun k q h => by simp at h⟩ va_S.rf hl
