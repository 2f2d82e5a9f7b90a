section VLaw
variable {p : Program} {l : Launch} {e : Env} {R : Room} {s : State} {m : MethodId} {args : Array Value} {below : List Frame} {meth : Method} {c : Code} {cells slots : Nat} {Q : State → Prop} {D : va_G} {cA : Nat → ClassId} {ad : Nat → Nat → Nat} {A : Nat → Prop} {nL : Nat} {cc : ByteArray} {own : String} {S : St} {pc : Nat} {lv : List (Nat × Value)} {st : List Value}
theorem v_slen (X : Cx p R m c cc nL s args own cells slots D cA ad A) {b L : Nat} {xs : Nat → Int32} (hX : va_X b L xs s s.heap) (hbl : b < s.heap.size) (hbA : ¬ A b) (hd : decode cc pc = .ok (.arraylength, 1)) (k : VV p l e R s m args below meth c cells slots Q D cA ad A nL S (pc + 1) lv (.int (Int32.ofNat L) :: st)) : VV p l e R s m args below meth c cells slots Q D cA ad A nL S pc lv (.ref b :: st) := fun H locs ls hR hS hl => va_slen X.1.1 X.1.2.1 hX hbl hbA hS hd (k H locs ls hR hS hl)
theorem v_sld (X : Cx p R m c cc nL s args own cells slots D cA ad A) {b L : Nat} {xs : Nat → Int32} (hX : va_X b L xs s s.heap) (hbl : b < s.heap.size) (hbA : ¬ A b) {i : Int32} (hin : vp_in i L) (hd : decode cc pc = .ok (.iaload, 1)) (k : VV p l e R s m args below meth c cells slots Q D cA ad A nL S (pc + 1) lv (.int (xs i.toNatClampNeg) :: st)) : VV p l e R s m args below meth c cells slots Q D cA ad A nL S pc lv (.int i :: .ref b :: st) := fun H locs ls hR hS hl => va_sld X.1.1 X.1.2.1 hX hbl hbA hS hin hd (k H locs ls hR hS hl)
theorem v_tabOut (X : Cx p R m c cc nL s args own cells slots D cA ad A) {dflt lo hi : Int} {offs : Array Int} {len : Nat} {x : Int32} (tgt : Nat) (hd : decode cc pc = .ok (.tableswitch dflt lo hi offs, len)) (h : x.toInt < lo ∨ hi < x.toInt) (ht : (pc : Int) + dflt = (tgt : Int)) (k : VV p l e R s m args below meth c cells slots Q D cA ad A nL S tgt lv st) : VV p l e R s m args below meth c cells slots Q D cA ad A nL S pc lv (.int x :: st) := fun H locs ls hR hS hl => lv_tableOut X.1.1 X.1.2.1 hd h ht (k H locs ls hR hS hl)
theorem v_tabIn (X : Cx p R m c cc nL s args own cells slots D cA ad A) {dflt lo hi : Int} {offs : Array Int} {len : Nat} {x : Int32} {k0 off : Int} (tgt : Nat) (hd : decode cc pc = .ok (.tableswitch dflt lo hi offs, len)) (hk : x.toInt = k0) (h1 : ¬ k0 < lo) (h2 : ¬ hi < k0) (ho : offs[(k0 - lo).toNat]? = some off) (ht : (pc : Int) + off = (tgt : Int)) (k : VV p l e R s m args below meth c cells slots Q D cA ad A nL S tgt lv st) : VV p l e R s m args below meth c cells slots Q D cA ad A nL S pc lv (.int x :: st) := fun H locs ls hR hS hl => lv_tableIn X.1.1 X.1.2.1 hd (by rw [hk]; exact h1) (by rw [hk]; exact h2) (by rw [hk]; exact ho) ht (k H locs ls hR hS hl)
theorem v_lret {b : Nat} (X : Cx p room_1 m c cL_law nL s #[Value.ref b] own cells slots D cA ad A) (hr : meth.sig.returnType = ret) (hlk : meth.locks = false) (hAs : ∀ q, A q → s.heap.size ≤ q) (hrm : cells ≤ 600000 ∧ slots ≤ 7302250) {v : Int32} (hd : decode cL_law pc = .ok (.ireturn, 1)) (hv : v = 1) : VV p l e room_1 s m #[Value.ref b] below meth c cells slots (lw_Z below #[Value.ref b] s) D cA ad A nL S pc lv [.int v] := by
  intro H locs ls hR hS hl
  subst hv
  refine va_forget (fun q hq => hAs _ (hS.2.2 q hq)) ?_
  refine W.widen (k := 600000) (n := 7302250) hrm.1 hrm.2 ?_
  exact lw_ret X.1.1 X.1.2.1 hr hlk hd
end VLaw
def w_L_law_18 (L : Nat) (xs : Nat → Int32) (S : St) (x3 : Int32) : Prop := ∃ I : Nat → St → Int32 → Prop, (∃ n : Nat, I n S x3) ∧ ∀ (n : Nat) (S : St) (x3 : Int32), I n S x3 → (((((Int32.ofNat L) - 4) < x3) → (1 = (1 : Int32))) ∧ ((¬ ((Int32.ofNat L) - 4) < x3) → ((vp_in x3 L) ∧ (∀ x0 : Int32, x0 = ((xs x3.toNatClampNeg) &&& 31) → ((x0.toInt < 0 ∨ 27 < x0.toInt → (∀ y854 : Int32, y854 = x3 + 4 → (∃ n' : Nat, n' < n ∧ I n' S y854))) ∧ (x0.toInt = 0 → ((vp_in (x3 + 1) L) ∧ ((vp_in (x3 + 2) L) ∧ ((vp_in (x3 + 3) L) ∧ (w_X3_addReel S (xs (x3 + 1).toNatClampNeg) (xs (x3 + 2).toNatClampNeg) (xs (x3 + 3).toNatClampNeg) (fun r176 S176 => (vp_in (x3 + 1) L) ∧ ((vp_in (x3 + 2) L) ∧ ((vp_in (x3 + 3) L) ∧ (w_X4_addReel S176 (xs (x3 + 1).toNatClampNeg) (xs (x3 + 2).toNatClampNeg) (xs (x3 + 3).toNatClampNeg) (fun r195 S195 => ((r176 = r195) → (∀ y854 : Int32, y854 = x3 + 4 → (∃ n' : Nat, n' < n ∧ I n' S195 y854))) ∧ ((¬ r176 = r195) → (0 = (1 : Int32))))))))))))) ∧ (x0.toInt = 1 → ((vp_in (x3 + 1) L) ∧ (w_X3_removeReels S (xs (x3 + 1).toNatClampNeg) (fun r209 S209 => (vp_in (x3 + 1) L) ∧ (w_X4_removeReels S209 (xs (x3 + 1).toNatClampNeg) (fun r218 S218 => ((r209 = r218) → (∀ y854 : Int32, y854 = x3 + 4 → (∃ n' : Nat, n' < n ∧ I n' S218 y854))) ∧ ((¬ r209 = r218) → (0 = (1 : Int32))))))))) ∧ (x0.toInt = 2 → ((vp_in (x3 + 1) L) ∧ ((vp_in (x3 + 2) L) ∧ (w_X3_setHome S (xs (x3 + 1).toNatClampNeg) (xs (x3 + 2).toNatClampNeg) (fun r237 S237 => (vp_in (x3 + 1) L) ∧ ((vp_in (x3 + 2) L) ∧ (w_X4_setHome S237 (xs (x3 + 1).toNatClampNeg) (xs (x3 + 2).toNatClampNeg) (fun r251 S251 => ((r237 = r251) → (∀ y854 : Int32, y854 = x3 + 4 → (∃ n' : Nat, n' < n ∧ I n' S251 y854))) ∧ ((¬ r237 = r251) → (0 = (1 : Int32))))))))))) ∧ (x0.toInt = 3 → ((vp_in (x3 + 1) L) ∧ (w_X3_filmLength S (xs (x3 + 1).toNatClampNeg) (fun r265 => (vp_in (x3 + 1) L) ∧ (w_X4_filmLength S (xs (x3 + 1).toNatClampNeg) (fun r274 => ((r265 = r274) → (∀ y854 : Int32, y854 = x3 + 4 → (∃ n' : Nat, n' < n ∧ I n' S y854))) ∧ ((¬ r265 = r274) → (0 = (1 : Int32))))))))) ∧ (x0.toInt = 4 → ((vp_in (x3 + 1) L) ∧ (w_X3_addMachine S (xs (x3 + 1).toNatClampNeg) (fun r288 S288 => (vp_in (x3 + 1) L) ∧ (w_X4_addMachine S288 (xs (x3 + 1).toNatClampNeg) (fun r297 S297 => ((r288 = r297) → (∀ y854 : Int32, y854 = x3 + 4 → (∃ n' : Nat, n' < n ∧ I n' S297 y854))) ∧ ((¬ r288 = r297) → (0 = (1 : Int32))))))))) ∧ (x0.toInt = 5 → ((vp_in (x3 + 1) L) ∧ (w_X3_removeMachine S (xs (x3 + 1).toNatClampNeg) (fun r311 S311 => (vp_in (x3 + 1) L) ∧ (w_X4_removeMachine S311 (xs (x3 + 1).toNatClampNeg) (fun r320 S320 => ((r311 = r320) → (∀ y854 : Int32, y854 = x3 + 4 → (∃ n' : Nat, n' < n ∧ I n' S320 y854))) ∧ ((¬ r311 = r320) → (0 = (1 : Int32))))))))) ∧ (x0.toInt = 6 → ((vp_in (x3 + 1) L) ∧ (w_X3_houseOf S (xs (x3 + 1).toNatClampNeg) (fun r334 => (vp_in (x3 + 1) L) ∧ (w_X4_houseOf S (xs (x3 + 1).toNatClampNeg) (fun r343 => ((r334 = r343) → (∀ y854 : Int32, y854 = x3 + 4 → (∃ n' : Nat, n' < n ∧ I n' S y854))) ∧ ((¬ r334 = r343) → (0 = (1 : Int32))))))))) ∧ (x0.toInt = 7 → ((vp_in (x3 + 1) L) ∧ (w_X3_setCarriers S (xs (x3 + 1).toNatClampNeg) (fun r357 S357 => (vp_in (x3 + 1) L) ∧ (w_X4_setCarriers S357 (xs (x3 + 1).toNatClampNeg) (fun r366 S366 => ((r357 = r366) → (∀ y854 : Int32, y854 = x3 + 4 → (∃ n' : Nat, n' < n ∧ I n' S366 y854))) ∧ ((¬ r357 = r366) → (0 = (1 : Int32))))))))) ∧ (x0.toInt = 8 → ((vp_in (x3 + 1) L) ∧ ((vp_in (x3 + 2) L) ∧ (w_X3_setDuration S (xs (x3 + 1).toNatClampNeg) (xs (x3 + 2).toNatClampNeg) (fun r385 S385 => (vp_in (x3 + 1) L) ∧ ((vp_in (x3 + 2) L) ∧ (w_X4_setDuration S385 (xs (x3 + 1).toNatClampNeg) (xs (x3 + 2).toNatClampNeg) (fun r399 S399 => ((r385 = r399) → (∀ y854 : Int32, y854 = x3 + 4 → (∃ n' : Nat, n' < n ∧ I n' S399 y854))) ∧ ((¬ r385 = r399) → (0 = (1 : Int32))))))))))) ∧ (x0.toInt = 9 → ((vp_in (x3 + 1) L) ∧ ((vp_in (x3 + 2) L) ∧ ((vp_in (x3 + 3) L) ∧ (w_X3_addShow S (xs (x3 + 1).toNatClampNeg) (xs (x3 + 2).toNatClampNeg) (xs (x3 + 3).toNatClampNeg) (fun r423 S423 => (vp_in (x3 + 1) L) ∧ ((vp_in (x3 + 2) L) ∧ ((vp_in (x3 + 3) L) ∧ (w_X4_addShow S423 (xs (x3 + 1).toNatClampNeg) (xs (x3 + 2).toNatClampNeg) (xs (x3 + 3).toNatClampNeg) (fun r442 S442 => ((r423 = r442) → (∀ y854 : Int32, y854 = x3 + 4 → (∃ n' : Nat, n' < n ∧ I n' S442 y854))) ∧ ((¬ r423 = r442) → (0 = (1 : Int32))))))))))))) ∧ (x0.toInt = 10 → ((vp_in (x3 + 1) L) ∧ (w_X3_removeShow S (xs (x3 + 1).toNatClampNeg) (fun r456 S456 => (vp_in (x3 + 1) L) ∧ (w_X4_removeShow S456 (xs (x3 + 1).toNatClampNeg) (fun r465 S465 => ((r456 = r465) → (∀ y854 : Int32, y854 = x3 + 4 → (∃ n' : Nat, n' < n ∧ I n' S465 y854))) ∧ ((¬ r456 = r465) → (0 = (1 : Int32))))))))) ∧ (x0.toInt = 11 → ((vp_in (x3 + 1) L) ∧ ((vp_in (x3 + 2) L) ∧ (w_X3_moveShow S (xs (x3 + 1).toNatClampNeg) (xs (x3 + 2).toNatClampNeg) (fun r484 S484 => (vp_in (x3 + 1) L) ∧ ((vp_in (x3 + 2) L) ∧ (w_X4_moveShow S484 (xs (x3 + 1).toNatClampNeg) (xs (x3 + 2).toNatClampNeg) (fun r498 S498 => ((r484 = r498) → (∀ y854 : Int32, y854 = x3 + 4 → (∃ n' : Nat, n' < n ∧ I n' S498 y854))) ∧ ((¬ r484 = r498) → (0 = (1 : Int32))))))))))) ∧ (x0.toInt = 12 → ((vp_in (x3 + 1) L) ∧ ((vp_in (x3 + 2) L) ∧ ((vp_in (x3 + 3) L) ∧ (w_X3_addBreak S (xs (x3 + 1).toNatClampNeg) (xs (x3 + 2).toNatClampNeg) (xs (x3 + 3).toNatClampNeg) (fun r522 S522 => (vp_in (x3 + 1) L) ∧ ((vp_in (x3 + 2) L) ∧ ((vp_in (x3 + 3) L) ∧ (w_X4_addBreak S522 (xs (x3 + 1).toNatClampNeg) (xs (x3 + 2).toNatClampNeg) (xs (x3 + 3).toNatClampNeg) (fun r541 S541 => ((r522 = r541) → (∀ y854 : Int32, y854 = x3 + 4 → (∃ n' : Nat, n' < n ∧ I n' S541 y854))) ∧ ((¬ r522 = r541) → (0 = (1 : Int32))))))))))))) ∧ (x0.toInt = 13 → (w_X3_clearBreaks S (fun r550 S550 => w_X4_clearBreaks S550 (fun r554 S554 => ((r550 = r554) → (∀ y854 : Int32, y854 = x3 + 4 → (∃ n' : Nat, n' < n ∧ I n' S554 y854))) ∧ ((¬ r550 = r554) → (0 = (1 : Int32))))))) ∧ (x0.toInt = 14 → ((vp_in (x3 + 1) L) ∧ ((vp_in (x3 + 2) L) ∧ (w_X3_startOf S (xs (x3 + 1).toNatClampNeg) (xs (x3 + 2).toNatClampNeg) (fun r573 S573 => (vp_in (x3 + 1) L) ∧ ((vp_in (x3 + 2) L) ∧ (w_X4_startOf S573 (xs (x3 + 1).toNatClampNeg) (xs (x3 + 2).toNatClampNeg) (fun r587 S587 => ((r573 = r587) → (∀ y854 : Int32, y854 = x3 + 4 → (∃ n' : Nat, n' < n ∧ I n' S587 y854))) ∧ ((¬ r573 = r587) → (0 = (1 : Int32))))))))))) ∧ (x0.toInt = 15 → ((vp_in (x3 + 1) L) ∧ ((vp_in (x3 + 2) L) ∧ (w_X3_machineOf S (xs (x3 + 1).toNatClampNeg) (xs (x3 + 2).toNatClampNeg) (fun r606 S606 => (vp_in (x3 + 1) L) ∧ ((vp_in (x3 + 2) L) ∧ (w_X4_machineOf S606 (xs (x3 + 1).toNatClampNeg) (xs (x3 + 2).toNatClampNeg) (fun r620 S620 => ((r606 = r620) → (∀ y854 : Int32, y854 = x3 + 4 → (∃ n' : Nat, n' < n ∧ I n' S620 y854))) ∧ ((¬ r606 = r620) → (0 = (1 : Int32))))))))))) ∧ (x0.toInt = 16 → ((vp_in (x3 + 1) L) ∧ (w_X3_endOf S (xs (x3 + 1).toNatClampNeg) (fun r634 S634 => (vp_in (x3 + 1) L) ∧ (w_X4_endOf S634 (xs (x3 + 1).toNatClampNeg) (fun r643 S643 => ((r634 = r643) → (∀ y854 : Int32, y854 = x3 + 4 → (∃ n' : Nat, n' < n ∧ I n' S643 y854))) ∧ ((¬ r634 = r643) → (0 = (1 : Int32))))))))) ∧ (x0.toInt = 17 → ((vp_in (x3 + 1) L) ∧ (w_X3_delayOf S (xs (x3 + 1).toNatClampNeg) (fun r657 S657 => (vp_in (x3 + 1) L) ∧ (w_X4_delayOf S657 (xs (x3 + 1).toNatClampNeg) (fun r666 S666 => ((r657 = r666) → (∀ y854 : Int32, y854 = x3 + 4 → (∃ n' : Nat, n' < n ∧ I n' S666 y854))) ∧ ((¬ r657 = r666) → (0 = (1 : Int32))))))))) ∧ (x0.toInt = 18 → ((vp_in (x3 + 1) L) ∧ (w_X3_gapOf S (xs (x3 + 1).toNatClampNeg) (fun r680 S680 => (vp_in (x3 + 1) L) ∧ (w_X4_gapOf S680 (xs (x3 + 1).toNatClampNeg) (fun r689 S689 => ((r680 = r689) → (∀ y854 : Int32, y854 = x3 + 4 → (∃ n' : Nat, n' < n ∧ I n' S689 y854))) ∧ ((¬ r680 = r689) → (0 = (1 : Int32))))))))) ∧ (x0.toInt = 19 → (w_X3_loss S (fun r698 S698 => w_X4_loss S698 (fun r702 S702 => ((r698 = r702) → (∀ y854 : Int32, y854 = x3 + 4 → (∃ n' : Nat, n' < n ∧ I n' S702 y854))) ∧ ((¬ r698 = r702) → (0 = (1 : Int32))))))) ∧ (x0.toInt = 20 → (w_X3_carriedReels S (fun r711 S711 => w_X4_carriedReels S711 (fun r715 S715 => ((r711 = r715) → (∀ y854 : Int32, y854 = x3 + 4 → (∃ n' : Nat, n' < n ∧ I n' S715 y854))) ∧ ((¬ r711 = r715) → (0 = (1 : Int32))))))) ∧ (x0.toInt = 21 → (w_X3_plateChanges S (fun r724 S724 => w_X4_plateChanges S724 (fun r728 S728 => ((r724 = r728) → (∀ y854 : Int32, y854 = x3 + 4 → (∃ n' : Nat, n' < n ∧ I n' S728 y854))) ∧ ((¬ r724 = r728) → (0 = (1 : Int32))))))) ∧ (x0.toInt = 22 → ((vp_in (x3 + 1) L) ∧ (w_X3_machineTime S (xs (x3 + 1).toNatClampNeg) (fun r742 S742 => (vp_in (x3 + 1) L) ∧ (w_X4_machineTime S742 (xs (x3 + 1).toNatClampNeg) (fun r751 S751 => ((r742 = r751) → (∀ y854 : Int32, y854 = x3 + 4 → (∃ n' : Nat, n' < n ∧ I n' S751 y854))) ∧ ((¬ r742 = r751) → (0 = (1 : Int32))))))))) ∧ (x0.toInt = 23 → ((vp_in (x3 + 1) L) ∧ (w_X3_leastShift S (xs (x3 + 1).toNatClampNeg) (fun r765 S765 => (vp_in (x3 + 1) L) ∧ (w_X4_leastShift S765 (xs (x3 + 1).toNatClampNeg) (fun r774 S774 => ((r765 = r774) → (∀ y854 : Int32, y854 = x3 + 4 → (∃ n' : Nat, n' < n ∧ I n' S774 y854))) ∧ ((¬ r765 = r774) → (0 = (1 : Int32))))))))) ∧ (x0.toInt = 24 → ((vp_in (x3 + 1) L) ∧ (w_X3_removalGain S (xs (x3 + 1).toNatClampNeg) (fun r788 S788 => (vp_in (x3 + 1) L) ∧ (w_X4_removalGain S788 (xs (x3 + 1).toNatClampNeg) (fun r797 S797 => ((r788 = r797) → (∀ y854 : Int32, y854 = x3 + 4 → (∃ n' : Nat, n' < n ∧ I n' S797 y854))) ∧ ((¬ r788 = r797) → (0 = (1 : Int32))))))))) ∧ (x0.toInt = 25 → (w_X3_bestHomes S (fun r806 S806 => w_X4_bestHomes S806 (fun r810 S810 => ((r806 = r810) → (∀ y854 : Int32, y854 = x3 + 4 → (∃ n' : Nat, n' < n ∧ I n' S810 y854))) ∧ ((¬ r806 = r810) → (0 = (1 : Int32))))))) ∧ (x0.toInt = 26 → ((vp_in (x3 + 1) L) ∧ (w_X3_missingMachines S (xs (x3 + 1).toNatClampNeg) (fun r824 S824 => (vp_in (x3 + 1) L) ∧ (w_X4_missingMachines S824 (xs (x3 + 1).toNatClampNeg) (fun r833 S833 => ((r824 = r833) → (∀ y854 : Int32, y854 = x3 + 4 → (∃ n' : Nat, n' < n ∧ I n' S833 y854))) ∧ ((¬ r824 = r833) → (0 = (1 : Int32))))))))) ∧ (x0.toInt = 27 → (w_X3_undo S (fun r842 S842 => w_X4_undo S842 (fun r846 S846 => ((r842 = r846) → (∀ y854 : Int32, y854 = x3 + 4 → (∃ n' : Nat, n' < n ∧ I n' S846 y854))) ∧ ((¬ r842 = r846) → (0 = (1 : Int32))))))))))))
set_option maxHeartbeats 4000000 in
set_option maxRecDepth 100000 in
theorem t_L_law_18 {p : Program} {l : Launch} {e : Env} {s : State} {m : MethodId} {below : List Frame} {meth : Method} {c : Code} {cells slots : Nat} {D : va_G} {cA : Nat → ClassId} {ad : Nat → Nat → Nat} {A : Nat → Prop} {b : Nat} {L : Nat} {xs : Nat → Int32} {S : St} {x3 : Int32} (X : Cx p room_1 m c cL_law 4 s #[Value.ref b] RL cells slots D cA ad A) (hr : meth.sig.returnType = ret) (hlk : meth.locks = false) (hX : va_X b L xs s s.heap) (hbl : b < s.heap.size) (hbA : ¬ A b) (hAs : ∀ q, A q → s.heap.size ≤ q) (hrm : cells ≤ 600000 ∧ slots ≤ 7302250) (h : w_L_law_18 L xs S x3) : VV p l e room_1 s m #[Value.ref b] below meth c cells slots (lw_Z below #[Value.ref b] s) D cA ad A 4 S 18 [(0, .ref b), (1, .ref (ad 9 0)), (2, .ref (ad 10 0)), (3, .int x3)] [] := by
  obtain ⟨I, ⟨n, hI⟩, hbody⟩ := h
  suffices key : ∀ (n : Nat) (S : St) (x3 : Int32), I n S x3 → VV p l e room_1 s m #[Value.ref b] below meth c cells slots (lw_Z below #[Value.ref b] s) D cA ad A 4 S 18 [(0, .ref b), (1, .ref (ad 9 0)), (2, .ref (ad 10 0)), (3, .int x3)] [] from key n S x3 hI
  clear hI
  intro n
  induction n using Nat.strongRecOn with
  | ind n ih =>
    intro S x3 hI
    have h := hbody n S x3 hI
    clear hI
    refine v_iload_n X dL_law_18 rfl 3 rfl ?_
    refine v_aload_n X dL_law_19 rfl 0 rfl ?_
    refine v_slen X hX hbl hbA dL_law_20 ?_
    refine v_iconst (v := 4) X dL_law_21 (by decide) ?_
    refine v_isub X dL_law_22 ?_
    refine v_icmp_gt X 860 dL_law_23 (by decide) (fun hc23 => ?_) (fun hc23 => ?_)
    · have h := h.1 hc23
      refine v_iconst (v := 1) X dL_law_860 (by decide) ?_
      exact v_lret X hr hlk hAs hrm dL_law_861 h
    · have h := h.2 hc23
      refine v_aload_n X dL_law_26 rfl 0 rfl ?_
      refine v_iload_n X dL_law_27 rfl 3 rfl ?_
      obtain ⟨hb, h⟩ := h
      refine v_sld X hX hbl hbA hb dL_law_28 ?_
      refine v_bipush (v := 31) X dL_law_29 (by decide) ?_
      refine v_iand X dL_law_31 ?_
      refine v_topi (fun x0 ex0 => ?_)
      have h := h x0 ex0
      by_cases hout : x0.toInt < 0 ∨ 27 < x0.toInt
      · have h := h.1 hout
        refine v_tabOut X 854 dL_law_32 hout (by decide) ?_
        obtain ⟨y854, ey854⟩ : ∃ z : Int32, z = x3 + 4 := ⟨_, rfl⟩
        have h := h y854 ey854
        refine v_iinc (v := y854) X [(3, .int y854), (0, .ref b), (1, .ref (ad 9 0)), (2, .ref (ad 10 0))] dL_law_854 3 rfl (by rw [ey854]; rfl) (by decide) rfl ?_
        refine v_goto X 18 dL_law_857 (by decide) ?_
        obtain ⟨n', hlt, h⟩ := h
        refine v_sub [1, 2, 3, 0] rfl ?_
        exact ih n' hlt _ _ h
      · skip
        have hk : x0.toInt = 0 ∨ x0.toInt = 1 ∨ x0.toInt = 2 ∨ x0.toInt = 3 ∨ x0.toInt = 4 ∨ x0.toInt = 5 ∨ x0.toInt = 6 ∨ x0.toInt = 7 ∨ x0.toInt = 8 ∨ x0.toInt = 9 ∨ x0.toInt = 10 ∨ x0.toInt = 11 ∨ x0.toInt = 12 ∨ x0.toInt = 13 ∨ x0.toInt = 14 ∨ x0.toInt = 15 ∨ x0.toInt = 16 ∨ x0.toInt = 17 ∨ x0.toInt = 18 ∨ x0.toInt = 19 ∨ x0.toInt = 20 ∨ x0.toInt = 21 ∨ x0.toInt = 22 ∨ x0.toInt = 23 ∨ x0.toInt = 24 ∨ x0.toInt = 25 ∨ x0.toInt = 26 ∨ x0.toInt = 27 := by omega
        rcases hk with hk | hk | hk | hk | hk | hk | hk | hk | hk | hk | hk | hk | hk | hk | hk | hk | hk | hk | hk | hk | hk | hk | hk | hk | hk | hk | hk | hk
        · have h := h.2.1 hk
          refine v_tabIn X 160 dL_law_32 hk (by decide) (by decide) rfl (by decide) ?_
          refine v_aload_n X dL_law_160 rfl 1 rfl ?_
          refine v_aload_n X dL_law_161 rfl 0 rfl ?_
          refine v_iload_n X dL_law_162 rfl 3 rfl ?_
          refine v_iconst (v := 1) X dL_law_163 (by decide) ?_
          refine v_iadd X dL_law_164 ?_
          obtain ⟨hb, h⟩ := h
          refine v_sld X hX hbl hbA hb dL_law_165 ?_
          refine v_aload_n X dL_law_166 rfl 0 rfl ?_
          refine v_iload_n X dL_law_167 rfl 3 rfl ?_
          refine v_iconst (v := 2) X dL_law_168 (by decide) ?_
          refine v_iadd X dL_law_169 ?_
          obtain ⟨hb, h⟩ := h
          refine v_sld X hX hbl hbA hb dL_law_170 ?_
          refine v_aload_n X dL_law_171 rfl 0 rfl ?_
          refine v_iload_n X dL_law_172 rfl 3 rfl ?_
          refine v_iconst (v := 3) X dL_law_173 (by decide) ?_
          refine v_iadd X dL_law_174 ?_
          obtain ⟨hb, h⟩ := h
          refine v_sld X hX hbl hbA hb dL_law_175 ?_
          refine v_callVi (o := 9) (ci := 3) (As := [.int (xs (x3 + 1).toNatClampNeg), .int (xs (x3 + 2).toNatClampNeg), .int (xs (x3 + 3).toNatClampNeg)]) (rest := []) X (c_X3_addReel l S (xs (x3 + 1).toNatClampNeg) (xs (x3 + 2).toNatClampNeg) (xs (x3 + 3).toNatClampNeg) _ h) mw_X3_addReel mv_L_13 oo9 kk9 ⟨Nat.le_of_ble_eq_true rfl, Nat.le_of_ble_eq_true rfl⟩ rfl (Nat.le_of_ble_eq_true rfl) rfl dL_law_176 (fun r176 S176 h => ?_)
          refine v_aload_n X dL_law_179 rfl 2 rfl ?_
          refine v_aload_n X dL_law_180 rfl 0 rfl ?_
          refine v_iload_n X dL_law_181 rfl 3 rfl ?_
          refine v_iconst (v := 1) X dL_law_182 (by decide) ?_
          refine v_iadd X dL_law_183 ?_
          obtain ⟨hb, h⟩ := h
          refine v_sld X hX hbl hbA hb dL_law_184 ?_
          refine v_aload_n X dL_law_185 rfl 0 rfl ?_
          refine v_iload_n X dL_law_186 rfl 3 rfl ?_
          refine v_iconst (v := 2) X dL_law_187 (by decide) ?_
          refine v_iadd X dL_law_188 ?_
          obtain ⟨hb, h⟩ := h
          refine v_sld X hX hbl hbA hb dL_law_189 ?_
          refine v_aload_n X dL_law_190 rfl 0 rfl ?_
          refine v_iload_n X dL_law_191 rfl 3 rfl ?_
          refine v_iconst (v := 3) X dL_law_192 (by decide) ?_
          refine v_iadd X dL_law_193 ?_
          obtain ⟨hb, h⟩ := h
          refine v_sld X hX hbl hbA hb dL_law_194 ?_
          refine v_callVi (o := 10) (ci := 4) (As := [.int (xs (x3 + 1).toNatClampNeg), .int (xs (x3 + 2).toNatClampNeg), .int (xs (x3 + 3).toNatClampNeg)]) (rest := [.int r176]) X (c_X4_addReel l S176 (xs (x3 + 1).toNatClampNeg) (xs (x3 + 2).toNatClampNeg) (xs (x3 + 3).toNatClampNeg) _ h) mw_X4_addReel mv_L_17 oo10 kk10 ⟨Nat.le_of_ble_eq_true rfl, Nat.le_of_ble_eq_true rfl⟩ rfl (Nat.le_of_ble_eq_true rfl) rfl dL_law_195 (fun r195 S195 h => ?_)
          refine v_icmp_eq X 854 dL_law_198 (by decide) (fun hc198 => ?_) (fun hc198 => ?_)
          · have h := h.1 hc198
            obtain ⟨y854, ey854⟩ : ∃ z : Int32, z = x3 + 4 := ⟨_, rfl⟩
            have h := h y854 ey854
            refine v_iinc (v := y854) X [(3, .int y854), (0, .ref b), (1, .ref (ad 9 0)), (2, .ref (ad 10 0))] dL_law_854 3 rfl (by rw [ey854]; rfl) (by decide) rfl ?_
            refine v_goto X 18 dL_law_857 (by decide) ?_
            obtain ⟨n', hlt, h⟩ := h
            refine v_sub [1, 2, 3, 0] rfl ?_
            exact ih n' hlt _ _ h
          · have h := h.2 hc198
            refine v_iconst (v := 0) X dL_law_201 (by decide) ?_
            exact v_lret X hr hlk hAs hrm dL_law_202 h
        · have h := h.2.2.1 hk
          refine v_tabIn X 203 dL_law_32 hk (by decide) (by decide) rfl (by decide) ?_
          refine v_aload_n X dL_law_203 rfl 1 rfl ?_
          refine v_aload_n X dL_law_204 rfl 0 rfl ?_
          refine v_iload_n X dL_law_205 rfl 3 rfl ?_
          refine v_iconst (v := 1) X dL_law_206 (by decide) ?_
          refine v_iadd X dL_law_207 ?_
          obtain ⟨hb, h⟩ := h
          refine v_sld X hX hbl hbA hb dL_law_208 ?_
          refine v_callVi (o := 9) (ci := 3) (As := [.int (xs (x3 + 1).toNatClampNeg)]) (rest := []) X (c_X3_removeReels l S (xs (x3 + 1).toNatClampNeg) _ h) mw_X3_removeReels mv_L_18 oo9 kk9 ⟨Nat.le_of_ble_eq_true rfl, Nat.le_of_ble_eq_true rfl⟩ rfl (Nat.le_of_ble_eq_true rfl) rfl dL_law_209 (fun r209 S209 h => ?_)
          refine v_aload_n X dL_law_212 rfl 2 rfl ?_
          refine v_aload_n X dL_law_213 rfl 0 rfl ?_
          refine v_iload_n X dL_law_214 rfl 3 rfl ?_
          refine v_iconst (v := 1) X dL_law_215 (by decide) ?_
          refine v_iadd X dL_law_216 ?_
          obtain ⟨hb, h⟩ := h
          refine v_sld X hX hbl hbA hb dL_law_217 ?_
          refine v_callVi (o := 10) (ci := 4) (As := [.int (xs (x3 + 1).toNatClampNeg)]) (rest := [.int r209]) X (c_X4_removeReels l S209 (xs (x3 + 1).toNatClampNeg) _ h) mw_X4_removeReels mv_L_22 oo10 kk10 ⟨Nat.le_of_ble_eq_true rfl, Nat.le_of_ble_eq_true rfl⟩ rfl (Nat.le_of_ble_eq_true rfl) rfl dL_law_218 (fun r218 S218 h => ?_)
          refine v_icmp_eq X 854 dL_law_221 (by decide) (fun hc221 => ?_) (fun hc221 => ?_)
          · have h := h.1 hc221
            obtain ⟨y854, ey854⟩ : ∃ z : Int32, z = x3 + 4 := ⟨_, rfl⟩
            have h := h y854 ey854
            refine v_iinc (v := y854) X [(3, .int y854), (0, .ref b), (1, .ref (ad 9 0)), (2, .ref (ad 10 0))] dL_law_854 3 rfl (by rw [ey854]; rfl) (by decide) rfl ?_
            refine v_goto X 18 dL_law_857 (by decide) ?_
            obtain ⟨n', hlt, h⟩ := h
            refine v_sub [1, 2, 3, 0] rfl ?_
            exact ih n' hlt _ _ h
          · have h := h.2 hc221
            refine v_iconst (v := 0) X dL_law_224 (by decide) ?_
            exact v_lret X hr hlk hAs hrm dL_law_225 h
        · have h := h.2.2.2.1 hk
          refine v_tabIn X 226 dL_law_32 hk (by decide) (by decide) rfl (by decide) ?_
          refine v_aload_n X dL_law_226 rfl 1 rfl ?_
          refine v_aload_n X dL_law_227 rfl 0 rfl ?_
          refine v_iload_n X dL_law_228 rfl 3 rfl ?_
          refine v_iconst (v := 1) X dL_law_229 (by decide) ?_
          refine v_iadd X dL_law_230 ?_
          obtain ⟨hb, h⟩ := h
          refine v_sld X hX hbl hbA hb dL_law_231 ?_
          refine v_aload_n X dL_law_232 rfl 0 rfl ?_
          refine v_iload_n X dL_law_233 rfl 3 rfl ?_
          refine v_iconst (v := 2) X dL_law_234 (by decide) ?_
          refine v_iadd X dL_law_235 ?_
          obtain ⟨hb, h⟩ := h
          refine v_sld X hX hbl hbA hb dL_law_236 ?_
          refine v_callVi (o := 9) (ci := 3) (As := [.int (xs (x3 + 1).toNatClampNeg), .int (xs (x3 + 2).toNatClampNeg)]) (rest := []) X (c_X3_setHome l S (xs (x3 + 1).toNatClampNeg) (xs (x3 + 2).toNatClampNeg) _ h) mw_X3_setHome mv_L_23 oo9 kk9 ⟨Nat.le_of_ble_eq_true rfl, Nat.le_of_ble_eq_true rfl⟩ rfl (Nat.le_of_ble_eq_true rfl) rfl dL_law_237 (fun r237 S237 h => ?_)
          refine v_aload_n X dL_law_240 rfl 2 rfl ?_
          refine v_aload_n X dL_law_241 rfl 0 rfl ?_
          refine v_iload_n X dL_law_242 rfl 3 rfl ?_
          refine v_iconst (v := 1) X dL_law_243 (by decide) ?_
          refine v_iadd X dL_law_244 ?_
          obtain ⟨hb, h⟩ := h
          refine v_sld X hX hbl hbA hb dL_law_245 ?_
          refine v_aload_n X dL_law_246 rfl 0 rfl ?_
          refine v_iload_n X dL_law_247 rfl 3 rfl ?_
          refine v_iconst (v := 2) X dL_law_248 (by decide) ?_
          refine v_iadd X dL_law_249 ?_
          obtain ⟨hb, h⟩ := h
          refine v_sld X hX hbl hbA hb dL_law_250 ?_
          refine v_callVi (o := 10) (ci := 4) (As := [.int (xs (x3 + 1).toNatClampNeg), .int (xs (x3 + 2).toNatClampNeg)]) (rest := [.int r237]) X (c_X4_setHome l S237 (xs (x3 + 1).toNatClampNeg) (xs (x3 + 2).toNatClampNeg) _ h) mw_X4_setHome mv_L_27 oo10 kk10 ⟨Nat.le_of_ble_eq_true rfl, Nat.le_of_ble_eq_true rfl⟩ rfl (Nat.le_of_ble_eq_true rfl) rfl dL_law_251 (fun r251 S251 h => ?_)
          refine v_icmp_eq X 854 dL_law_254 (by decide) (fun hc254 => ?_) (fun hc254 => ?_)
          · have h := h.1 hc254
            obtain ⟨y854, ey854⟩ : ∃ z : Int32, z = x3 + 4 := ⟨_, rfl⟩
            have h := h y854 ey854
            refine v_iinc (v := y854) X [(3, .int y854), (0, .ref b), (1, .ref (ad 9 0)), (2, .ref (ad 10 0))] dL_law_854 3 rfl (by rw [ey854]; rfl) (by decide) rfl ?_
            refine v_goto X 18 dL_law_857 (by decide) ?_
            obtain ⟨n', hlt, h⟩ := h
            refine v_sub [1, 2, 3, 0] rfl ?_
            exact ih n' hlt _ _ h
          · have h := h.2 hc254
            refine v_iconst (v := 0) X dL_law_257 (by decide) ?_
            exact v_lret X hr hlk hAs hrm dL_law_258 h
        · have h := h.2.2.2.2.1 hk
          refine v_tabIn X 259 dL_law_32 hk (by decide) (by decide) rfl (by decide) ?_
          refine v_aload_n X dL_law_259 rfl 1 rfl ?_
          refine v_aload_n X dL_law_260 rfl 0 rfl ?_
          refine v_iload_n X dL_law_261 rfl 3 rfl ?_
          refine v_iconst (v := 1) X dL_law_262 (by decide) ?_
          refine v_iadd X dL_law_263 ?_
          obtain ⟨hb, h⟩ := h
          refine v_sld X hX hbl hbA hb dL_law_264 ?_
          refine v_callVi (o := 9) (ci := 3) (As := [.int (xs (x3 + 1).toNatClampNeg)]) (rest := []) X (c_X3_filmLength l S (xs (x3 + 1).toNatClampNeg) _ h) mw_X3_filmLength mv_L_28 oo9 kk9 ⟨Nat.le_of_ble_eq_true rfl, Nat.le_of_ble_eq_true rfl⟩ rfl (Nat.le_of_ble_eq_true rfl) rfl dL_law_265 (fun r265 S' hq => ?_)
          obtain ⟨hq1, h⟩ := hq
          rw [hq1]
          clear hq1
          refine v_aload_n X dL_law_268 rfl 2 rfl ?_
          refine v_aload_n X dL_law_269 rfl 0 rfl ?_
          refine v_iload_n X dL_law_270 rfl 3 rfl ?_
          refine v_iconst (v := 1) X dL_law_271 (by decide) ?_
          refine v_iadd X dL_law_272 ?_
          obtain ⟨hb, h⟩ := h
          refine v_sld X hX hbl hbA hb dL_law_273 ?_
          refine v_callVi (o := 10) (ci := 4) (As := [.int (xs (x3 + 1).toNatClampNeg)]) (rest := [.int r265]) X (c_X4_filmLength l S (xs (x3 + 1).toNatClampNeg) _ h) mw_X4_filmLength mv_L_31 oo10 kk10 ⟨Nat.le_of_ble_eq_true rfl, Nat.le_of_ble_eq_true rfl⟩ rfl (Nat.le_of_ble_eq_true rfl) rfl dL_law_274 (fun r274 S' hq => ?_)
          obtain ⟨hq1, h⟩ := hq
          rw [hq1]
          clear hq1
          refine v_icmp_eq X 854 dL_law_277 (by decide) (fun hc277 => ?_) (fun hc277 => ?_)
          · have h := h.1 hc277
            obtain ⟨y854, ey854⟩ : ∃ z : Int32, z = x3 + 4 := ⟨_, rfl⟩
            have h := h y854 ey854
            refine v_iinc (v := y854) X [(3, .int y854), (0, .ref b), (1, .ref (ad 9 0)), (2, .ref (ad 10 0))] dL_law_854 3 rfl (by rw [ey854]; rfl) (by decide) rfl ?_
            refine v_goto X 18 dL_law_857 (by decide) ?_
            obtain ⟨n', hlt, h⟩ := h
            refine v_sub [1, 2, 3, 0] rfl ?_
            exact ih n' hlt _ _ h
          · have h := h.2 hc277
            refine v_iconst (v := 0) X dL_law_280 (by decide) ?_
            exact v_lret X hr hlk hAs hrm dL_law_281 h
        · have h := h.2.2.2.2.2.1 hk
          refine v_tabIn X 282 dL_law_32 hk (by decide) (by decide) rfl (by decide) ?_
          refine v_aload_n X dL_law_282 rfl 1 rfl ?_
          refine v_aload_n X dL_law_283 rfl 0 rfl ?_
          refine v_iload_n X dL_law_284 rfl 3 rfl ?_
          refine v_iconst (v := 1) X dL_law_285 (by decide) ?_
          refine v_iadd X dL_law_286 ?_
          obtain ⟨hb, h⟩ := h
          refine v_sld X hX hbl hbA hb dL_law_287 ?_
          refine v_callVi (o := 9) (ci := 3) (As := [.int (xs (x3 + 1).toNatClampNeg)]) (rest := []) X (c_X3_addMachine l S (xs (x3 + 1).toNatClampNeg) _ h) mw_X3_addMachine mv_L_32 oo9 kk9 ⟨Nat.le_of_ble_eq_true rfl, Nat.le_of_ble_eq_true rfl⟩ rfl (Nat.le_of_ble_eq_true rfl) rfl dL_law_288 (fun r288 S288 h => ?_)
          refine v_aload_n X dL_law_291 rfl 2 rfl ?_
          refine v_aload_n X dL_law_292 rfl 0 rfl ?_
          refine v_iload_n X dL_law_293 rfl 3 rfl ?_
          refine v_iconst (v := 1) X dL_law_294 (by decide) ?_
          refine v_iadd X dL_law_295 ?_
          obtain ⟨hb, h⟩ := h
          refine v_sld X hX hbl hbA hb dL_law_296 ?_
          refine v_callVi (o := 10) (ci := 4) (As := [.int (xs (x3 + 1).toNatClampNeg)]) (rest := [.int r288]) X (c_X4_addMachine l S288 (xs (x3 + 1).toNatClampNeg) _ h) mw_X4_addMachine mv_L_35 oo10 kk10 ⟨Nat.le_of_ble_eq_true rfl, Nat.le_of_ble_eq_true rfl⟩ rfl (Nat.le_of_ble_eq_true rfl) rfl dL_law_297 (fun r297 S297 h => ?_)
          refine v_icmp_eq X 854 dL_law_300 (by decide) (fun hc300 => ?_) (fun hc300 => ?_)
          · have h := h.1 hc300
            obtain ⟨y854, ey854⟩ : ∃ z : Int32, z = x3 + 4 := ⟨_, rfl⟩
            have h := h y854 ey854
            refine v_iinc (v := y854) X [(3, .int y854), (0, .ref b), (1, .ref (ad 9 0)), (2, .ref (ad 10 0))] dL_law_854 3 rfl (by rw [ey854]; rfl) (by decide) rfl ?_
            refine v_goto X 18 dL_law_857 (by decide) ?_
            obtain ⟨n', hlt, h⟩ := h
            refine v_sub [1, 2, 3, 0] rfl ?_
            exact ih n' hlt _ _ h
          · have h := h.2 hc300
            refine v_iconst (v := 0) X dL_law_303 (by decide) ?_
            exact v_lret X hr hlk hAs hrm dL_law_304 h
        · have h := h.2.2.2.2.2.2.1 hk
          refine v_tabIn X 305 dL_law_32 hk (by decide) (by decide) rfl (by decide) ?_
          refine v_aload_n X dL_law_305 rfl 1 rfl ?_
          refine v_aload_n X dL_law_306 rfl 0 rfl ?_
          refine v_iload_n X dL_law_307 rfl 3 rfl ?_
          refine v_iconst (v := 1) X dL_law_308 (by decide) ?_
          refine v_iadd X dL_law_309 ?_
          obtain ⟨hb, h⟩ := h
          refine v_sld X hX hbl hbA hb dL_law_310 ?_
          refine v_callVi (o := 9) (ci := 3) (As := [.int (xs (x3 + 1).toNatClampNeg)]) (rest := []) X (c_X3_removeMachine l S (xs (x3 + 1).toNatClampNeg) _ h) mw_X3_removeMachine mv_L_36 oo9 kk9 ⟨Nat.le_of_ble_eq_true rfl, Nat.le_of_ble_eq_true rfl⟩ rfl (Nat.le_of_ble_eq_true rfl) rfl dL_law_311 (fun r311 S311 h => ?_)
          refine v_aload_n X dL_law_314 rfl 2 rfl ?_
          refine v_aload_n X dL_law_315 rfl 0 rfl ?_
          refine v_iload_n X dL_law_316 rfl 3 rfl ?_
          refine v_iconst (v := 1) X dL_law_317 (by decide) ?_
          refine v_iadd X dL_law_318 ?_
          obtain ⟨hb, h⟩ := h
          refine v_sld X hX hbl hbA hb dL_law_319 ?_
          refine v_callVi (o := 10) (ci := 4) (As := [.int (xs (x3 + 1).toNatClampNeg)]) (rest := [.int r311]) X (c_X4_removeMachine l S311 (xs (x3 + 1).toNatClampNeg) _ h) mw_X4_removeMachine mv_L_39 oo10 kk10 ⟨Nat.le_of_ble_eq_true rfl, Nat.le_of_ble_eq_true rfl⟩ rfl (Nat.le_of_ble_eq_true rfl) rfl dL_law_320 (fun r320 S320 h => ?_)
          refine v_icmp_eq X 854 dL_law_323 (by decide) (fun hc323 => ?_) (fun hc323 => ?_)
          · have h := h.1 hc323
            obtain ⟨y854, ey854⟩ : ∃ z : Int32, z = x3 + 4 := ⟨_, rfl⟩
            have h := h y854 ey854
            refine v_iinc (v := y854) X [(3, .int y854), (0, .ref b), (1, .ref (ad 9 0)), (2, .ref (ad 10 0))] dL_law_854 3 rfl (by rw [ey854]; rfl) (by decide) rfl ?_
            refine v_goto X 18 dL_law_857 (by decide) ?_
            obtain ⟨n', hlt, h⟩ := h
            refine v_sub [1, 2, 3, 0] rfl ?_
            exact ih n' hlt _ _ h
          · have h := h.2 hc323
            refine v_iconst (v := 0) X dL_law_326 (by decide) ?_
            exact v_lret X hr hlk hAs hrm dL_law_327 h
        · have h := h.2.2.2.2.2.2.2.1 hk
          refine v_tabIn X 328 dL_law_32 hk (by decide) (by decide) rfl (by decide) ?_
          refine v_aload_n X dL_law_328 rfl 1 rfl ?_
          refine v_aload_n X dL_law_329 rfl 0 rfl ?_
          refine v_iload_n X dL_law_330 rfl 3 rfl ?_
          refine v_iconst (v := 1) X dL_law_331 (by decide) ?_
          refine v_iadd X dL_law_332 ?_
          obtain ⟨hb, h⟩ := h
          refine v_sld X hX hbl hbA hb dL_law_333 ?_
          refine v_callVi (o := 9) (ci := 3) (As := [.int (xs (x3 + 1).toNatClampNeg)]) (rest := []) X (c_X3_houseOf l S (xs (x3 + 1).toNatClampNeg) _ h) mw_X3_houseOf mv_L_40 oo9 kk9 ⟨Nat.le_of_ble_eq_true rfl, Nat.le_of_ble_eq_true rfl⟩ rfl (Nat.le_of_ble_eq_true rfl) rfl dL_law_334 (fun r334 S' hq => ?_)
          obtain ⟨hq1, h⟩ := hq
          rw [hq1]
          clear hq1
          refine v_aload_n X dL_law_337 rfl 2 rfl ?_
          refine v_aload_n X dL_law_338 rfl 0 rfl ?_
          refine v_iload_n X dL_law_339 rfl 3 rfl ?_
          refine v_iconst (v := 1) X dL_law_340 (by decide) ?_
          refine v_iadd X dL_law_341 ?_
          obtain ⟨hb, h⟩ := h
          refine v_sld X hX hbl hbA hb dL_law_342 ?_
          refine v_callVi (o := 10) (ci := 4) (As := [.int (xs (x3 + 1).toNatClampNeg)]) (rest := [.int r334]) X (c_X4_houseOf l S (xs (x3 + 1).toNatClampNeg) _ h) mw_X4_houseOf mv_L_43 oo10 kk10 ⟨Nat.le_of_ble_eq_true rfl, Nat.le_of_ble_eq_true rfl⟩ rfl (Nat.le_of_ble_eq_true rfl) rfl dL_law_343 (fun r343 S' hq => ?_)
          obtain ⟨hq1, h⟩ := hq
          rw [hq1]
          clear hq1
          refine v_icmp_eq X 854 dL_law_346 (by decide) (fun hc346 => ?_) (fun hc346 => ?_)
          · have h := h.1 hc346
            obtain ⟨y854, ey854⟩ : ∃ z : Int32, z = x3 + 4 := ⟨_, rfl⟩
            have h := h y854 ey854
            refine v_iinc (v := y854) X [(3, .int y854), (0, .ref b), (1, .ref (ad 9 0)), (2, .ref (ad 10 0))] dL_law_854 3 rfl (by rw [ey854]; rfl) (by decide) rfl ?_
            refine v_goto X 18 dL_law_857 (by decide) ?_
            obtain ⟨n', hlt, h⟩ := h
            refine v_sub [1, 2, 3, 0] rfl ?_
            exact ih n' hlt _ _ h
          · have h := h.2 hc346
            refine v_iconst (v := 0) X dL_law_349 (by decide) ?_
            exact v_lret X hr hlk hAs hrm dL_law_350 h
        · have h := h.2.2.2.2.2.2.2.2.1 hk
          refine v_tabIn X 351 dL_law_32 hk (by decide) (by decide) rfl (by decide) ?_
          refine v_aload_n X dL_law_351 rfl 1 rfl ?_
          refine v_aload_n X dL_law_352 rfl 0 rfl ?_
          refine v_iload_n X dL_law_353 rfl 3 rfl ?_
          refine v_iconst (v := 1) X dL_law_354 (by decide) ?_
          refine v_iadd X dL_law_355 ?_
          obtain ⟨hb, h⟩ := h
          refine v_sld X hX hbl hbA hb dL_law_356 ?_
          refine v_callVi (o := 9) (ci := 3) (As := [.int (xs (x3 + 1).toNatClampNeg)]) (rest := []) X (c_X3_setCarriers l S (xs (x3 + 1).toNatClampNeg) _ h) mw_X3_setCarriers mv_L_44 oo9 kk9 ⟨Nat.le_of_ble_eq_true rfl, Nat.le_of_ble_eq_true rfl⟩ rfl (Nat.le_of_ble_eq_true rfl) rfl dL_law_357 (fun r357 S357 h => ?_)
          refine v_aload_n X dL_law_360 rfl 2 rfl ?_
          refine v_aload_n X dL_law_361 rfl 0 rfl ?_
          refine v_iload_n X dL_law_362 rfl 3 rfl ?_
          refine v_iconst (v := 1) X dL_law_363 (by decide) ?_
          refine v_iadd X dL_law_364 ?_
          obtain ⟨hb, h⟩ := h
          refine v_sld X hX hbl hbA hb dL_law_365 ?_
          refine v_callVi (o := 10) (ci := 4) (As := [.int (xs (x3 + 1).toNatClampNeg)]) (rest := [.int r357]) X (c_X4_setCarriers l S357 (xs (x3 + 1).toNatClampNeg) _ h) mw_X4_setCarriers mv_L_47 oo10 kk10 ⟨Nat.le_of_ble_eq_true rfl, Nat.le_of_ble_eq_true rfl⟩ rfl (Nat.le_of_ble_eq_true rfl) rfl dL_law_366 (fun r366 S366 h => ?_)
          refine v_icmp_eq X 854 dL_law_369 (by decide) (fun hc369 => ?_) (fun hc369 => ?_)
          · have h := h.1 hc369
            obtain ⟨y854, ey854⟩ : ∃ z : Int32, z = x3 + 4 := ⟨_, rfl⟩
            have h := h y854 ey854
            refine v_iinc (v := y854) X [(3, .int y854), (0, .ref b), (1, .ref (ad 9 0)), (2, .ref (ad 10 0))] dL_law_854 3 rfl (by rw [ey854]; rfl) (by decide) rfl ?_
            refine v_goto X 18 dL_law_857 (by decide) ?_
            obtain ⟨n', hlt, h⟩ := h
            refine v_sub [1, 2, 3, 0] rfl ?_
            exact ih n' hlt _ _ h
          · have h := h.2 hc369
            refine v_iconst (v := 0) X dL_law_372 (by decide) ?_
            exact v_lret X hr hlk hAs hrm dL_law_373 h
        · have h := h.2.2.2.2.2.2.2.2.2.1 hk
          refine v_tabIn X 374 dL_law_32 hk (by decide) (by decide) rfl (by decide) ?_
          refine v_aload_n X dL_law_374 rfl 1 rfl ?_
          refine v_aload_n X dL_law_375 rfl 0 rfl ?_
          refine v_iload_n X dL_law_376 rfl 3 rfl ?_
          refine v_iconst (v := 1) X dL_law_377 (by decide) ?_
          refine v_iadd X dL_law_378 ?_
          obtain ⟨hb, h⟩ := h
          refine v_sld X hX hbl hbA hb dL_law_379 ?_
          refine v_aload_n X dL_law_380 rfl 0 rfl ?_
          refine v_iload_n X dL_law_381 rfl 3 rfl ?_
          refine v_iconst (v := 2) X dL_law_382 (by decide) ?_
          refine v_iadd X dL_law_383 ?_
          obtain ⟨hb, h⟩ := h
          refine v_sld X hX hbl hbA hb dL_law_384 ?_
          refine v_callVi (o := 9) (ci := 3) (As := [.int (xs (x3 + 1).toNatClampNeg), .int (xs (x3 + 2).toNatClampNeg)]) (rest := []) X (c_X3_setDuration l S (xs (x3 + 1).toNatClampNeg) (xs (x3 + 2).toNatClampNeg) _ h) mw_X3_setDuration mv_L_48 oo9 kk9 ⟨Nat.le_of_ble_eq_true rfl, Nat.le_of_ble_eq_true rfl⟩ rfl (Nat.le_of_ble_eq_true rfl) rfl dL_law_385 (fun r385 S385 h => ?_)
          refine v_aload_n X dL_law_388 rfl 2 rfl ?_
          refine v_aload_n X dL_law_389 rfl 0 rfl ?_
          refine v_iload_n X dL_law_390 rfl 3 rfl ?_
          refine v_iconst (v := 1) X dL_law_391 (by decide) ?_
          refine v_iadd X dL_law_392 ?_
          obtain ⟨hb, h⟩ := h
          refine v_sld X hX hbl hbA hb dL_law_393 ?_
          refine v_aload_n X dL_law_394 rfl 0 rfl ?_
          refine v_iload_n X dL_law_395 rfl 3 rfl ?_
          refine v_iconst (v := 2) X dL_law_396 (by decide) ?_
          refine v_iadd X dL_law_397 ?_
          obtain ⟨hb, h⟩ := h
          refine v_sld X hX hbl hbA hb dL_law_398 ?_
          refine v_callVi (o := 10) (ci := 4) (As := [.int (xs (x3 + 1).toNatClampNeg), .int (xs (x3 + 2).toNatClampNeg)]) (rest := [.int r385]) X (c_X4_setDuration l S385 (xs (x3 + 1).toNatClampNeg) (xs (x3 + 2).toNatClampNeg) _ h) mw_X4_setDuration mv_L_51 oo10 kk10 ⟨Nat.le_of_ble_eq_true rfl, Nat.le_of_ble_eq_true rfl⟩ rfl (Nat.le_of_ble_eq_true rfl) rfl dL_law_399 (fun r399 S399 h => ?_)
          refine v_icmp_eq X 854 dL_law_402 (by decide) (fun hc402 => ?_) (fun hc402 => ?_)
          · have h := h.1 hc402
            obtain ⟨y854, ey854⟩ : ∃ z : Int32, z = x3 + 4 := ⟨_, rfl⟩
            have h := h y854 ey854
            refine v_iinc (v := y854) X [(3, .int y854), (0, .ref b), (1, .ref (ad 9 0)), (2, .ref (ad 10 0))] dL_law_854 3 rfl (by rw [ey854]; rfl) (by decide) rfl ?_
            refine v_goto X 18 dL_law_857 (by decide) ?_
            obtain ⟨n', hlt, h⟩ := h
            refine v_sub [1, 2, 3, 0] rfl ?_
            exact ih n' hlt _ _ h
          · have h := h.2 hc402
            refine v_iconst (v := 0) X dL_law_405 (by decide) ?_
            exact v_lret X hr hlk hAs hrm dL_law_406 h
        · have h := h.2.2.2.2.2.2.2.2.2.2.1 hk
          refine v_tabIn X 407 dL_law_32 hk (by decide) (by decide) rfl (by decide) ?_
          refine v_aload_n X dL_law_407 rfl 1 rfl ?_
          refine v_aload_n X dL_law_408 rfl 0 rfl ?_
          refine v_iload_n X dL_law_409 rfl 3 rfl ?_
          refine v_iconst (v := 1) X dL_law_410 (by decide) ?_
          refine v_iadd X dL_law_411 ?_
          obtain ⟨hb, h⟩ := h
          refine v_sld X hX hbl hbA hb dL_law_412 ?_
          refine v_aload_n X dL_law_413 rfl 0 rfl ?_
          refine v_iload_n X dL_law_414 rfl 3 rfl ?_
          refine v_iconst (v := 2) X dL_law_415 (by decide) ?_
          refine v_iadd X dL_law_416 ?_
          obtain ⟨hb, h⟩ := h
          refine v_sld X hX hbl hbA hb dL_law_417 ?_
          refine v_aload_n X dL_law_418 rfl 0 rfl ?_
          refine v_iload_n X dL_law_419 rfl 3 rfl ?_
          refine v_iconst (v := 3) X dL_law_420 (by decide) ?_
          refine v_iadd X dL_law_421 ?_
          obtain ⟨hb, h⟩ := h
          refine v_sld X hX hbl hbA hb dL_law_422 ?_
          refine v_callVi (o := 9) (ci := 3) (As := [.int (xs (x3 + 1).toNatClampNeg), .int (xs (x3 + 2).toNatClampNeg), .int (xs (x3 + 3).toNatClampNeg)]) (rest := []) X (c_X3_addShow l S (xs (x3 + 1).toNatClampNeg) (xs (x3 + 2).toNatClampNeg) (xs (x3 + 3).toNatClampNeg) _ h) mw_X3_addShow mv_L_52 oo9 kk9 ⟨Nat.le_of_ble_eq_true rfl, Nat.le_of_ble_eq_true rfl⟩ rfl (Nat.le_of_ble_eq_true rfl) rfl dL_law_423 (fun r423 S423 h => ?_)
          refine v_aload_n X dL_law_426 rfl 2 rfl ?_
          refine v_aload_n X dL_law_427 rfl 0 rfl ?_
          refine v_iload_n X dL_law_428 rfl 3 rfl ?_
          refine v_iconst (v := 1) X dL_law_429 (by decide) ?_
          refine v_iadd X dL_law_430 ?_
          obtain ⟨hb, h⟩ := h
          refine v_sld X hX hbl hbA hb dL_law_431 ?_
          refine v_aload_n X dL_law_432 rfl 0 rfl ?_
          refine v_iload_n X dL_law_433 rfl 3 rfl ?_
          refine v_iconst (v := 2) X dL_law_434 (by decide) ?_
          refine v_iadd X dL_law_435 ?_
          obtain ⟨hb, h⟩ := h
          refine v_sld X hX hbl hbA hb dL_law_436 ?_
          refine v_aload_n X dL_law_437 rfl 0 rfl ?_
          refine v_iload_n X dL_law_438 rfl 3 rfl ?_
          refine v_iconst (v := 3) X dL_law_439 (by decide) ?_
          refine v_iadd X dL_law_440 ?_
          obtain ⟨hb, h⟩ := h
          refine v_sld X hX hbl hbA hb dL_law_441 ?_
          refine v_callVi (o := 10) (ci := 4) (As := [.int (xs (x3 + 1).toNatClampNeg), .int (xs (x3 + 2).toNatClampNeg), .int (xs (x3 + 3).toNatClampNeg)]) (rest := [.int r423]) X (c_X4_addShow l S423 (xs (x3 + 1).toNatClampNeg) (xs (x3 + 2).toNatClampNeg) (xs (x3 + 3).toNatClampNeg) _ h) mw_X4_addShow mv_L_55 oo10 kk10 ⟨Nat.le_of_ble_eq_true rfl, Nat.le_of_ble_eq_true rfl⟩ rfl (Nat.le_of_ble_eq_true rfl) rfl dL_law_442 (fun r442 S442 h => ?_)
          refine v_icmp_eq X 854 dL_law_445 (by decide) (fun hc445 => ?_) (fun hc445 => ?_)
          · have h := h.1 hc445
            obtain ⟨y854, ey854⟩ : ∃ z : Int32, z = x3 + 4 := ⟨_, rfl⟩
            have h := h y854 ey854
            refine v_iinc (v := y854) X [(3, .int y854), (0, .ref b), (1, .ref (ad 9 0)), (2, .ref (ad 10 0))] dL_law_854 3 rfl (by rw [ey854]; rfl) (by decide) rfl ?_
            refine v_goto X 18 dL_law_857 (by decide) ?_
            obtain ⟨n', hlt, h⟩ := h
            refine v_sub [1, 2, 3, 0] rfl ?_
            exact ih n' hlt _ _ h
          · have h := h.2 hc445
            refine v_iconst (v := 0) X dL_law_448 (by decide) ?_
            exact v_lret X hr hlk hAs hrm dL_law_449 h
        · have h := h.2.2.2.2.2.2.2.2.2.2.2.1 hk
          refine v_tabIn X 450 dL_law_32 hk (by decide) (by decide) rfl (by decide) ?_
          refine v_aload_n X dL_law_450 rfl 1 rfl ?_
          refine v_aload_n X dL_law_451 rfl 0 rfl ?_
          refine v_iload_n X dL_law_452 rfl 3 rfl ?_
          refine v_iconst (v := 1) X dL_law_453 (by decide) ?_
          refine v_iadd X dL_law_454 ?_
          obtain ⟨hb, h⟩ := h
          refine v_sld X hX hbl hbA hb dL_law_455 ?_
          refine v_callVi (o := 9) (ci := 3) (As := [.int (xs (x3 + 1).toNatClampNeg)]) (rest := []) X (c_X3_removeShow l S (xs (x3 + 1).toNatClampNeg) _ h) mw_X3_removeShow mv_L_56 oo9 kk9 ⟨Nat.le_of_ble_eq_true rfl, Nat.le_of_ble_eq_true rfl⟩ rfl (Nat.le_of_ble_eq_true rfl) rfl dL_law_456 (fun r456 S456 h => ?_)
          refine v_aload_n X dL_law_459 rfl 2 rfl ?_
          refine v_aload_n X dL_law_460 rfl 0 rfl ?_
          refine v_iload_n X dL_law_461 rfl 3 rfl ?_
          refine v_iconst (v := 1) X dL_law_462 (by decide) ?_
          refine v_iadd X dL_law_463 ?_
          obtain ⟨hb, h⟩ := h
          refine v_sld X hX hbl hbA hb dL_law_464 ?_
          refine v_callVi (o := 10) (ci := 4) (As := [.int (xs (x3 + 1).toNatClampNeg)]) (rest := [.int r456]) X (c_X4_removeShow l S456 (xs (x3 + 1).toNatClampNeg) _ h) mw_X4_removeShow mv_L_59 oo10 kk10 ⟨Nat.le_of_ble_eq_true rfl, Nat.le_of_ble_eq_true rfl⟩ rfl (Nat.le_of_ble_eq_true rfl) rfl dL_law_465 (fun r465 S465 h => ?_)
          refine v_icmp_eq X 854 dL_law_468 (by decide) (fun hc468 => ?_) (fun hc468 => ?_)
          · have h := h.1 hc468
            obtain ⟨y854, ey854⟩ : ∃ z : Int32, z = x3 + 4 := ⟨_, rfl⟩
            have h := h y854 ey854
            refine v_iinc (v := y854) X [(3, .int y854), (0, .ref b), (1, .ref (ad 9 0)), (2, .ref (ad 10 0))] dL_law_854 3 rfl (by rw [ey854]; rfl) (by decide) rfl ?_
            refine v_goto X 18 dL_law_857 (by decide) ?_
            obtain ⟨n', hlt, h⟩ := h
            refine v_sub [1, 2, 3, 0] rfl ?_
            exact ih n' hlt _ _ h
          · have h := h.2 hc468
            refine v_iconst (v := 0) X dL_law_471 (by decide) ?_
            exact v_lret X hr hlk hAs hrm dL_law_472 h
        · have h := h.2.2.2.2.2.2.2.2.2.2.2.2.1 hk
          refine v_tabIn X 473 dL_law_32 hk (by decide) (by decide) rfl (by decide) ?_
          refine v_aload_n X dL_law_473 rfl 1 rfl ?_
          refine v_aload_n X dL_law_474 rfl 0 rfl ?_
          refine v_iload_n X dL_law_475 rfl 3 rfl ?_
          refine v_iconst (v := 1) X dL_law_476 (by decide) ?_
          refine v_iadd X dL_law_477 ?_
          obtain ⟨hb, h⟩ := h
          refine v_sld X hX hbl hbA hb dL_law_478 ?_
          refine v_aload_n X dL_law_479 rfl 0 rfl ?_
          refine v_iload_n X dL_law_480 rfl 3 rfl ?_
          refine v_iconst (v := 2) X dL_law_481 (by decide) ?_
          refine v_iadd X dL_law_482 ?_
          obtain ⟨hb, h⟩ := h
          refine v_sld X hX hbl hbA hb dL_law_483 ?_
          refine v_callVi (o := 9) (ci := 3) (As := [.int (xs (x3 + 1).toNatClampNeg), .int (xs (x3 + 2).toNatClampNeg)]) (rest := []) X (c_X3_moveShow l S (xs (x3 + 1).toNatClampNeg) (xs (x3 + 2).toNatClampNeg) _ h) mw_X3_moveShow mv_L_60 oo9 kk9 ⟨Nat.le_of_ble_eq_true rfl, Nat.le_of_ble_eq_true rfl⟩ rfl (Nat.le_of_ble_eq_true rfl) rfl dL_law_484 (fun r484 S484 h => ?_)
          refine v_aload_n X dL_law_487 rfl 2 rfl ?_
          refine v_aload_n X dL_law_488 rfl 0 rfl ?_
          refine v_iload_n X dL_law_489 rfl 3 rfl ?_
          refine v_iconst (v := 1) X dL_law_490 (by decide) ?_
          refine v_iadd X dL_law_491 ?_
          obtain ⟨hb, h⟩ := h
          refine v_sld X hX hbl hbA hb dL_law_492 ?_
          refine v_aload_n X dL_law_493 rfl 0 rfl ?_
          refine v_iload_n X dL_law_494 rfl 3 rfl ?_
          refine v_iconst (v := 2) X dL_law_495 (by decide) ?_
          refine v_iadd X dL_law_496 ?_
          obtain ⟨hb, h⟩ := h
          refine v_sld X hX hbl hbA hb dL_law_497 ?_
          refine v_callVi (o := 10) (ci := 4) (As := [.int (xs (x3 + 1).toNatClampNeg), .int (xs (x3 + 2).toNatClampNeg)]) (rest := [.int r484]) X (c_X4_moveShow l S484 (xs (x3 + 1).toNatClampNeg) (xs (x3 + 2).toNatClampNeg) _ h) mw_X4_moveShow mv_L_63 oo10 kk10 ⟨Nat.le_of_ble_eq_true rfl, Nat.le_of_ble_eq_true rfl⟩ rfl (Nat.le_of_ble_eq_true rfl) rfl dL_law_498 (fun r498 S498 h => ?_)
          refine v_icmp_eq X 854 dL_law_501 (by decide) (fun hc501 => ?_) (fun hc501 => ?_)
          · have h := h.1 hc501
            obtain ⟨y854, ey854⟩ : ∃ z : Int32, z = x3 + 4 := ⟨_, rfl⟩
            have h := h y854 ey854
            refine v_iinc (v := y854) X [(3, .int y854), (0, .ref b), (1, .ref (ad 9 0)), (2, .ref (ad 10 0))] dL_law_854 3 rfl (by rw [ey854]; rfl) (by decide) rfl ?_
            refine v_goto X 18 dL_law_857 (by decide) ?_
            obtain ⟨n', hlt, h⟩ := h
            refine v_sub [1, 2, 3, 0] rfl ?_
            exact ih n' hlt _ _ h
          · have h := h.2 hc501
            refine v_iconst (v := 0) X dL_law_504 (by decide) ?_
            exact v_lret X hr hlk hAs hrm dL_law_505 h
        · have h := h.2.2.2.2.2.2.2.2.2.2.2.2.2.1 hk
          refine v_tabIn X 506 dL_law_32 hk (by decide) (by decide) rfl (by decide) ?_
          refine v_aload_n X dL_law_506 rfl 1 rfl ?_
          refine v_aload_n X dL_law_507 rfl 0 rfl ?_
          refine v_iload_n X dL_law_508 rfl 3 rfl ?_
          refine v_iconst (v := 1) X dL_law_509 (by decide) ?_
          refine v_iadd X dL_law_510 ?_
          obtain ⟨hb, h⟩ := h
          refine v_sld X hX hbl hbA hb dL_law_511 ?_
          refine v_aload_n X dL_law_512 rfl 0 rfl ?_
          refine v_iload_n X dL_law_513 rfl 3 rfl ?_
          refine v_iconst (v := 2) X dL_law_514 (by decide) ?_
          refine v_iadd X dL_law_515 ?_
          obtain ⟨hb, h⟩ := h
          refine v_sld X hX hbl hbA hb dL_law_516 ?_
          refine v_aload_n X dL_law_517 rfl 0 rfl ?_
          refine v_iload_n X dL_law_518 rfl 3 rfl ?_
          refine v_iconst (v := 3) X dL_law_519 (by decide) ?_
          refine v_iadd X dL_law_520 ?_
          obtain ⟨hb, h⟩ := h
          refine v_sld X hX hbl hbA hb dL_law_521 ?_
          refine v_callVi (o := 9) (ci := 3) (As := [.int (xs (x3 + 1).toNatClampNeg), .int (xs (x3 + 2).toNatClampNeg), .int (xs (x3 + 3).toNatClampNeg)]) (rest := []) X (c_X3_addBreak l S (xs (x3 + 1).toNatClampNeg) (xs (x3 + 2).toNatClampNeg) (xs (x3 + 3).toNatClampNeg) _ h) mw_X3_addBreak mv_L_64 oo9 kk9 ⟨Nat.le_of_ble_eq_true rfl, Nat.le_of_ble_eq_true rfl⟩ rfl (Nat.le_of_ble_eq_true rfl) rfl dL_law_522 (fun r522 S522 h => ?_)
          refine v_aload_n X dL_law_525 rfl 2 rfl ?_
          refine v_aload_n X dL_law_526 rfl 0 rfl ?_
          refine v_iload_n X dL_law_527 rfl 3 rfl ?_
          refine v_iconst (v := 1) X dL_law_528 (by decide) ?_
          refine v_iadd X dL_law_529 ?_
          obtain ⟨hb, h⟩ := h
          refine v_sld X hX hbl hbA hb dL_law_530 ?_
          refine v_aload_n X dL_law_531 rfl 0 rfl ?_
          refine v_iload_n X dL_law_532 rfl 3 rfl ?_
          refine v_iconst (v := 2) X dL_law_533 (by decide) ?_
          refine v_iadd X dL_law_534 ?_
          obtain ⟨hb, h⟩ := h
          refine v_sld X hX hbl hbA hb dL_law_535 ?_
          refine v_aload_n X dL_law_536 rfl 0 rfl ?_
          refine v_iload_n X dL_law_537 rfl 3 rfl ?_
          refine v_iconst (v := 3) X dL_law_538 (by decide) ?_
          refine v_iadd X dL_law_539 ?_
          obtain ⟨hb, h⟩ := h
          refine v_sld X hX hbl hbA hb dL_law_540 ?_
          refine v_callVi (o := 10) (ci := 4) (As := [.int (xs (x3 + 1).toNatClampNeg), .int (xs (x3 + 2).toNatClampNeg), .int (xs (x3 + 3).toNatClampNeg)]) (rest := [.int r522]) X (c_X4_addBreak l S522 (xs (x3 + 1).toNatClampNeg) (xs (x3 + 2).toNatClampNeg) (xs (x3 + 3).toNatClampNeg) _ h) mw_X4_addBreak mv_L_67 oo10 kk10 ⟨Nat.le_of_ble_eq_true rfl, Nat.le_of_ble_eq_true rfl⟩ rfl (Nat.le_of_ble_eq_true rfl) rfl dL_law_541 (fun r541 S541 h => ?_)
          refine v_icmp_eq X 854 dL_law_544 (by decide) (fun hc544 => ?_) (fun hc544 => ?_)
          · have h := h.1 hc544
            obtain ⟨y854, ey854⟩ : ∃ z : Int32, z = x3 + 4 := ⟨_, rfl⟩
            have h := h y854 ey854
            refine v_iinc (v := y854) X [(3, .int y854), (0, .ref b), (1, .ref (ad 9 0)), (2, .ref (ad 10 0))] dL_law_854 3 rfl (by rw [ey854]; rfl) (by decide) rfl ?_
            refine v_goto X 18 dL_law_857 (by decide) ?_
            obtain ⟨n', hlt, h⟩ := h
            refine v_sub [1, 2, 3, 0] rfl ?_
            exact ih n' hlt _ _ h
          · have h := h.2 hc544
            refine v_iconst (v := 0) X dL_law_547 (by decide) ?_
            exact v_lret X hr hlk hAs hrm dL_law_548 h
        · have h := h.2.2.2.2.2.2.2.2.2.2.2.2.2.2.1 hk
          refine v_tabIn X 549 dL_law_32 hk (by decide) (by decide) rfl (by decide) ?_
          refine v_aload_n X dL_law_549 rfl 1 rfl ?_
          refine v_callVi (o := 9) (ci := 3) (As := []) (rest := []) X (c_X3_clearBreaks l S _ h) mw_X3_clearBreaks mv_L_68 oo9 kk9 ⟨Nat.le_of_ble_eq_true rfl, Nat.le_of_ble_eq_true rfl⟩ rfl (Nat.le_of_ble_eq_true rfl) rfl dL_law_550 (fun r550 S550 h => ?_)
          refine v_aload_n X dL_law_553 rfl 2 rfl ?_
          refine v_callVi (o := 10) (ci := 4) (As := []) (rest := [.int r550]) X (c_X4_clearBreaks l S550 _ h) mw_X4_clearBreaks mv_L_72 oo10 kk10 ⟨Nat.le_of_ble_eq_true rfl, Nat.le_of_ble_eq_true rfl⟩ rfl (Nat.le_of_ble_eq_true rfl) rfl dL_law_554 (fun r554 S554 h => ?_)
          refine v_icmp_eq X 854 dL_law_557 (by decide) (fun hc557 => ?_) (fun hc557 => ?_)
          · have h := h.1 hc557
            obtain ⟨y854, ey854⟩ : ∃ z : Int32, z = x3 + 4 := ⟨_, rfl⟩
            have h := h y854 ey854
            refine v_iinc (v := y854) X [(3, .int y854), (0, .ref b), (1, .ref (ad 9 0)), (2, .ref (ad 10 0))] dL_law_854 3 rfl (by rw [ey854]; rfl) (by decide) rfl ?_
            refine v_goto X 18 dL_law_857 (by decide) ?_
            obtain ⟨n', hlt, h⟩ := h
            refine v_sub [1, 2, 3, 0] rfl ?_
            exact ih n' hlt _ _ h
          · have h := h.2 hc557
            refine v_iconst (v := 0) X dL_law_560 (by decide) ?_
            exact v_lret X hr hlk hAs hrm dL_law_561 h
        · have h := h.2.2.2.2.2.2.2.2.2.2.2.2.2.2.2.1 hk
          refine v_tabIn X 562 dL_law_32 hk (by decide) (by decide) rfl (by decide) ?_
          refine v_aload_n X dL_law_562 rfl 1 rfl ?_
          refine v_aload_n X dL_law_563 rfl 0 rfl ?_
          refine v_iload_n X dL_law_564 rfl 3 rfl ?_
          refine v_iconst (v := 1) X dL_law_565 (by decide) ?_
          refine v_iadd X dL_law_566 ?_
          obtain ⟨hb, h⟩ := h
          refine v_sld X hX hbl hbA hb dL_law_567 ?_
          refine v_aload_n X dL_law_568 rfl 0 rfl ?_
          refine v_iload_n X dL_law_569 rfl 3 rfl ?_
          refine v_iconst (v := 2) X dL_law_570 (by decide) ?_
          refine v_iadd X dL_law_571 ?_
          obtain ⟨hb, h⟩ := h
          refine v_sld X hX hbl hbA hb dL_law_572 ?_
          refine v_callVi (o := 9) (ci := 3) (As := [.int (xs (x3 + 1).toNatClampNeg), .int (xs (x3 + 2).toNatClampNeg)]) (rest := []) X (c_X3_startOf l S (xs (x3 + 1).toNatClampNeg) (xs (x3 + 2).toNatClampNeg) _ h) mw_X3_startOf mv_L_73 oo9 kk9 ⟨Nat.le_of_ble_eq_true rfl, Nat.le_of_ble_eq_true rfl⟩ rfl (Nat.le_of_ble_eq_true rfl) rfl dL_law_573 (fun r573 S573 h => ?_)
          refine v_aload_n X dL_law_576 rfl 2 rfl ?_
          refine v_aload_n X dL_law_577 rfl 0 rfl ?_
          refine v_iload_n X dL_law_578 rfl 3 rfl ?_
          refine v_iconst (v := 1) X dL_law_579 (by decide) ?_
          refine v_iadd X dL_law_580 ?_
          obtain ⟨hb, h⟩ := h
          refine v_sld X hX hbl hbA hb dL_law_581 ?_
          refine v_aload_n X dL_law_582 rfl 0 rfl ?_
          refine v_iload_n X dL_law_583 rfl 3 rfl ?_
          refine v_iconst (v := 2) X dL_law_584 (by decide) ?_
          refine v_iadd X dL_law_585 ?_
          obtain ⟨hb, h⟩ := h
          refine v_sld X hX hbl hbA hb dL_law_586 ?_
          refine v_callVi (o := 10) (ci := 4) (As := [.int (xs (x3 + 1).toNatClampNeg), .int (xs (x3 + 2).toNatClampNeg)]) (rest := [.int r573]) X (c_X4_startOf l S573 (xs (x3 + 1).toNatClampNeg) (xs (x3 + 2).toNatClampNeg) _ h) mw_X4_startOf mv_L_76 oo10 kk10 ⟨Nat.le_of_ble_eq_true rfl, Nat.le_of_ble_eq_true rfl⟩ rfl (Nat.le_of_ble_eq_true rfl) rfl dL_law_587 (fun r587 S587 h => ?_)
          refine v_icmp_eq X 854 dL_law_590 (by decide) (fun hc590 => ?_) (fun hc590 => ?_)
          · have h := h.1 hc590
            obtain ⟨y854, ey854⟩ : ∃ z : Int32, z = x3 + 4 := ⟨_, rfl⟩
            have h := h y854 ey854
            refine v_iinc (v := y854) X [(3, .int y854), (0, .ref b), (1, .ref (ad 9 0)), (2, .ref (ad 10 0))] dL_law_854 3 rfl (by rw [ey854]; rfl) (by decide) rfl ?_
            refine v_goto X 18 dL_law_857 (by decide) ?_
            obtain ⟨n', hlt, h⟩ := h
            refine v_sub [1, 2, 3, 0] rfl ?_
            exact ih n' hlt _ _ h
          · have h := h.2 hc590
            refine v_iconst (v := 0) X dL_law_593 (by decide) ?_
            exact v_lret X hr hlk hAs hrm dL_law_594 h
        · have h := h.2.2.2.2.2.2.2.2.2.2.2.2.2.2.2.2.1 hk
          refine v_tabIn X 595 dL_law_32 hk (by decide) (by decide) rfl (by decide) ?_
          refine v_aload_n X dL_law_595 rfl 1 rfl ?_
          refine v_aload_n X dL_law_596 rfl 0 rfl ?_
          refine v_iload_n X dL_law_597 rfl 3 rfl ?_
          refine v_iconst (v := 1) X dL_law_598 (by decide) ?_
          refine v_iadd X dL_law_599 ?_
          obtain ⟨hb, h⟩ := h
          refine v_sld X hX hbl hbA hb dL_law_600 ?_
          refine v_aload_n X dL_law_601 rfl 0 rfl ?_
          refine v_iload_n X dL_law_602 rfl 3 rfl ?_
          refine v_iconst (v := 2) X dL_law_603 (by decide) ?_
          refine v_iadd X dL_law_604 ?_
          obtain ⟨hb, h⟩ := h
          refine v_sld X hX hbl hbA hb dL_law_605 ?_
          refine v_callVi (o := 9) (ci := 3) (As := [.int (xs (x3 + 1).toNatClampNeg), .int (xs (x3 + 2).toNatClampNeg)]) (rest := []) X (c_X3_machineOf l S (xs (x3 + 1).toNatClampNeg) (xs (x3 + 2).toNatClampNeg) _ h) mw_X3_machineOf mv_L_77 oo9 kk9 ⟨Nat.le_of_ble_eq_true rfl, Nat.le_of_ble_eq_true rfl⟩ rfl (Nat.le_of_ble_eq_true rfl) rfl dL_law_606 (fun r606 S606 h => ?_)
          refine v_aload_n X dL_law_609 rfl 2 rfl ?_
          refine v_aload_n X dL_law_610 rfl 0 rfl ?_
          refine v_iload_n X dL_law_611 rfl 3 rfl ?_
          refine v_iconst (v := 1) X dL_law_612 (by decide) ?_
          refine v_iadd X dL_law_613 ?_
          obtain ⟨hb, h⟩ := h
          refine v_sld X hX hbl hbA hb dL_law_614 ?_
          refine v_aload_n X dL_law_615 rfl 0 rfl ?_
          refine v_iload_n X dL_law_616 rfl 3 rfl ?_
          refine v_iconst (v := 2) X dL_law_617 (by decide) ?_
          refine v_iadd X dL_law_618 ?_
          obtain ⟨hb, h⟩ := h
          refine v_sld X hX hbl hbA hb dL_law_619 ?_
          refine v_callVi (o := 10) (ci := 4) (As := [.int (xs (x3 + 1).toNatClampNeg), .int (xs (x3 + 2).toNatClampNeg)]) (rest := [.int r606]) X (c_X4_machineOf l S606 (xs (x3 + 1).toNatClampNeg) (xs (x3 + 2).toNatClampNeg) _ h) mw_X4_machineOf mv_L_80 oo10 kk10 ⟨Nat.le_of_ble_eq_true rfl, Nat.le_of_ble_eq_true rfl⟩ rfl (Nat.le_of_ble_eq_true rfl) rfl dL_law_620 (fun r620 S620 h => ?_)
          refine v_icmp_eq X 854 dL_law_623 (by decide) (fun hc623 => ?_) (fun hc623 => ?_)
          · have h := h.1 hc623
            obtain ⟨y854, ey854⟩ : ∃ z : Int32, z = x3 + 4 := ⟨_, rfl⟩
            have h := h y854 ey854
            refine v_iinc (v := y854) X [(3, .int y854), (0, .ref b), (1, .ref (ad 9 0)), (2, .ref (ad 10 0))] dL_law_854 3 rfl (by rw [ey854]; rfl) (by decide) rfl ?_
            refine v_goto X 18 dL_law_857 (by decide) ?_
            obtain ⟨n', hlt, h⟩ := h
            refine v_sub [1, 2, 3, 0] rfl ?_
            exact ih n' hlt _ _ h
          · have h := h.2 hc623
            refine v_iconst (v := 0) X dL_law_626 (by decide) ?_
            exact v_lret X hr hlk hAs hrm dL_law_627 h
        · have h := h.2.2.2.2.2.2.2.2.2.2.2.2.2.2.2.2.2.1 hk
          refine v_tabIn X 628 dL_law_32 hk (by decide) (by decide) rfl (by decide) ?_
          refine v_aload_n X dL_law_628 rfl 1 rfl ?_
          refine v_aload_n X dL_law_629 rfl 0 rfl ?_
          refine v_iload_n X dL_law_630 rfl 3 rfl ?_
          refine v_iconst (v := 1) X dL_law_631 (by decide) ?_
          refine v_iadd X dL_law_632 ?_
          obtain ⟨hb, h⟩ := h
          refine v_sld X hX hbl hbA hb dL_law_633 ?_
          refine v_callVi (o := 9) (ci := 3) (As := [.int (xs (x3 + 1).toNatClampNeg)]) (rest := []) X (c_X3_endOf l S (xs (x3 + 1).toNatClampNeg) _ h) mw_X3_endOf mv_L_81 oo9 kk9 ⟨Nat.le_of_ble_eq_true rfl, Nat.le_of_ble_eq_true rfl⟩ rfl (Nat.le_of_ble_eq_true rfl) rfl dL_law_634 (fun r634 S634 h => ?_)
          refine v_aload_n X dL_law_637 rfl 2 rfl ?_
          refine v_aload_n X dL_law_638 rfl 0 rfl ?_
          refine v_iload_n X dL_law_639 rfl 3 rfl ?_
          refine v_iconst (v := 1) X dL_law_640 (by decide) ?_
          refine v_iadd X dL_law_641 ?_
          obtain ⟨hb, h⟩ := h
          refine v_sld X hX hbl hbA hb dL_law_642 ?_
          refine v_callVi (o := 10) (ci := 4) (As := [.int (xs (x3 + 1).toNatClampNeg)]) (rest := [.int r634]) X (c_X4_endOf l S634 (xs (x3 + 1).toNatClampNeg) _ h) mw_X4_endOf mv_L_84 oo10 kk10 ⟨Nat.le_of_ble_eq_true rfl, Nat.le_of_ble_eq_true rfl⟩ rfl (Nat.le_of_ble_eq_true rfl) rfl dL_law_643 (fun r643 S643 h => ?_)
          refine v_icmp_eq X 854 dL_law_646 (by decide) (fun hc646 => ?_) (fun hc646 => ?_)
          · have h := h.1 hc646
            obtain ⟨y854, ey854⟩ : ∃ z : Int32, z = x3 + 4 := ⟨_, rfl⟩
            have h := h y854 ey854
            refine v_iinc (v := y854) X [(3, .int y854), (0, .ref b), (1, .ref (ad 9 0)), (2, .ref (ad 10 0))] dL_law_854 3 rfl (by rw [ey854]; rfl) (by decide) rfl ?_
            refine v_goto X 18 dL_law_857 (by decide) ?_
            obtain ⟨n', hlt, h⟩ := h
            refine v_sub [1, 2, 3, 0] rfl ?_
            exact ih n' hlt _ _ h
          · have h := h.2 hc646
            refine v_iconst (v := 0) X dL_law_649 (by decide) ?_
            exact v_lret X hr hlk hAs hrm dL_law_650 h
        · have h := h.2.2.2.2.2.2.2.2.2.2.2.2.2.2.2.2.2.2.1 hk
          refine v_tabIn X 651 dL_law_32 hk (by decide) (by decide) rfl (by decide) ?_
          refine v_aload_n X dL_law_651 rfl 1 rfl ?_
          refine v_aload_n X dL_law_652 rfl 0 rfl ?_
          refine v_iload_n X dL_law_653 rfl 3 rfl ?_
          refine v_iconst (v := 1) X dL_law_654 (by decide) ?_
          refine v_iadd X dL_law_655 ?_
          obtain ⟨hb, h⟩ := h
          refine v_sld X hX hbl hbA hb dL_law_656 ?_
          refine v_callVi (o := 9) (ci := 3) (As := [.int (xs (x3 + 1).toNatClampNeg)]) (rest := []) X (c_X3_delayOf l S (xs (x3 + 1).toNatClampNeg) _ h) mw_X3_delayOf mv_L_85 oo9 kk9 ⟨Nat.le_of_ble_eq_true rfl, Nat.le_of_ble_eq_true rfl⟩ rfl (Nat.le_of_ble_eq_true rfl) rfl dL_law_657 (fun r657 S657 h => ?_)
          refine v_aload_n X dL_law_660 rfl 2 rfl ?_
          refine v_aload_n X dL_law_661 rfl 0 rfl ?_
          refine v_iload_n X dL_law_662 rfl 3 rfl ?_
          refine v_iconst (v := 1) X dL_law_663 (by decide) ?_
          refine v_iadd X dL_law_664 ?_
          obtain ⟨hb, h⟩ := h
          refine v_sld X hX hbl hbA hb dL_law_665 ?_
          refine v_callVi (o := 10) (ci := 4) (As := [.int (xs (x3 + 1).toNatClampNeg)]) (rest := [.int r657]) X (c_X4_delayOf l S657 (xs (x3 + 1).toNatClampNeg) _ h) mw_X4_delayOf mv_L_88 oo10 kk10 ⟨Nat.le_of_ble_eq_true rfl, Nat.le_of_ble_eq_true rfl⟩ rfl (Nat.le_of_ble_eq_true rfl) rfl dL_law_666 (fun r666 S666 h => ?_)
          refine v_icmp_eq X 854 dL_law_669 (by decide) (fun hc669 => ?_) (fun hc669 => ?_)
          · have h := h.1 hc669
            obtain ⟨y854, ey854⟩ : ∃ z : Int32, z = x3 + 4 := ⟨_, rfl⟩
            have h := h y854 ey854
            refine v_iinc (v := y854) X [(3, .int y854), (0, .ref b), (1, .ref (ad 9 0)), (2, .ref (ad 10 0))] dL_law_854 3 rfl (by rw [ey854]; rfl) (by decide) rfl ?_
            refine v_goto X 18 dL_law_857 (by decide) ?_
            obtain ⟨n', hlt, h⟩ := h
            refine v_sub [1, 2, 3, 0] rfl ?_
            exact ih n' hlt _ _ h
          · have h := h.2 hc669
            refine v_iconst (v := 0) X dL_law_672 (by decide) ?_
            exact v_lret X hr hlk hAs hrm dL_law_673 h
        · have h := h.2.2.2.2.2.2.2.2.2.2.2.2.2.2.2.2.2.2.2.1 hk
          refine v_tabIn X 674 dL_law_32 hk (by decide) (by decide) rfl (by decide) ?_
          refine v_aload_n X dL_law_674 rfl 1 rfl ?_
          refine v_aload_n X dL_law_675 rfl 0 rfl ?_
          refine v_iload_n X dL_law_676 rfl 3 rfl ?_
          refine v_iconst (v := 1) X dL_law_677 (by decide) ?_
          refine v_iadd X dL_law_678 ?_
          obtain ⟨hb, h⟩ := h
          refine v_sld X hX hbl hbA hb dL_law_679 ?_
          refine v_callVi (o := 9) (ci := 3) (As := [.int (xs (x3 + 1).toNatClampNeg)]) (rest := []) X (c_X3_gapOf l S (xs (x3 + 1).toNatClampNeg) _ h) mw_X3_gapOf mv_L_89 oo9 kk9 ⟨Nat.le_of_ble_eq_true rfl, Nat.le_of_ble_eq_true rfl⟩ rfl (Nat.le_of_ble_eq_true rfl) rfl dL_law_680 (fun r680 S680 h => ?_)
          refine v_aload_n X dL_law_683 rfl 2 rfl ?_
          refine v_aload_n X dL_law_684 rfl 0 rfl ?_
          refine v_iload_n X dL_law_685 rfl 3 rfl ?_
          refine v_iconst (v := 1) X dL_law_686 (by decide) ?_
          refine v_iadd X dL_law_687 ?_
          obtain ⟨hb, h⟩ := h
          refine v_sld X hX hbl hbA hb dL_law_688 ?_
          refine v_callVi (o := 10) (ci := 4) (As := [.int (xs (x3 + 1).toNatClampNeg)]) (rest := [.int r680]) X (c_X4_gapOf l S680 (xs (x3 + 1).toNatClampNeg) _ h) mw_X4_gapOf mv_L_92 oo10 kk10 ⟨Nat.le_of_ble_eq_true rfl, Nat.le_of_ble_eq_true rfl⟩ rfl (Nat.le_of_ble_eq_true rfl) rfl dL_law_689 (fun r689 S689 h => ?_)
          refine v_icmp_eq X 854 dL_law_692 (by decide) (fun hc692 => ?_) (fun hc692 => ?_)
          · have h := h.1 hc692
            obtain ⟨y854, ey854⟩ : ∃ z : Int32, z = x3 + 4 := ⟨_, rfl⟩
            have h := h y854 ey854
            refine v_iinc (v := y854) X [(3, .int y854), (0, .ref b), (1, .ref (ad 9 0)), (2, .ref (ad 10 0))] dL_law_854 3 rfl (by rw [ey854]; rfl) (by decide) rfl ?_
            refine v_goto X 18 dL_law_857 (by decide) ?_
            obtain ⟨n', hlt, h⟩ := h
            refine v_sub [1, 2, 3, 0] rfl ?_
            exact ih n' hlt _ _ h
          · have h := h.2 hc692
            refine v_iconst (v := 0) X dL_law_695 (by decide) ?_
            exact v_lret X hr hlk hAs hrm dL_law_696 h
        · have h := h.2.2.2.2.2.2.2.2.2.2.2.2.2.2.2.2.2.2.2.2.1 hk
          refine v_tabIn X 697 dL_law_32 hk (by decide) (by decide) rfl (by decide) ?_
          refine v_aload_n X dL_law_697 rfl 1 rfl ?_
          refine v_callVi (o := 9) (ci := 3) (As := []) (rest := []) X (c_X3_loss l S _ h) mw_X3_loss mv_L_93 oo9 kk9 ⟨Nat.le_of_ble_eq_true rfl, Nat.le_of_ble_eq_true rfl⟩ rfl (Nat.le_of_ble_eq_true rfl) rfl dL_law_698 (fun r698 S698 h => ?_)
          refine v_aload_n X dL_law_701 rfl 2 rfl ?_
          refine v_callVi (o := 10) (ci := 4) (As := []) (rest := [.int r698]) X (c_X4_loss l S698 _ h) mw_X4_loss mv_L_96 oo10 kk10 ⟨Nat.le_of_ble_eq_true rfl, Nat.le_of_ble_eq_true rfl⟩ rfl (Nat.le_of_ble_eq_true rfl) rfl dL_law_702 (fun r702 S702 h => ?_)
          refine v_icmp_eq X 854 dL_law_705 (by decide) (fun hc705 => ?_) (fun hc705 => ?_)
          · have h := h.1 hc705
            obtain ⟨y854, ey854⟩ : ∃ z : Int32, z = x3 + 4 := ⟨_, rfl⟩
            have h := h y854 ey854
            refine v_iinc (v := y854) X [(3, .int y854), (0, .ref b), (1, .ref (ad 9 0)), (2, .ref (ad 10 0))] dL_law_854 3 rfl (by rw [ey854]; rfl) (by decide) rfl ?_
            refine v_goto X 18 dL_law_857 (by decide) ?_
            obtain ⟨n', hlt, h⟩ := h
            refine v_sub [1, 2, 3, 0] rfl ?_
            exact ih n' hlt _ _ h
          · have h := h.2 hc705
            refine v_iconst (v := 0) X dL_law_708 (by decide) ?_
            exact v_lret X hr hlk hAs hrm dL_law_709 h
        · have h := h.2.2.2.2.2.2.2.2.2.2.2.2.2.2.2.2.2.2.2.2.2.1 hk
          refine v_tabIn X 710 dL_law_32 hk (by decide) (by decide) rfl (by decide) ?_
          refine v_aload_n X dL_law_710 rfl 1 rfl ?_
          refine v_callVi (o := 9) (ci := 3) (As := []) (rest := []) X (c_X3_carriedReels l S _ h) mw_X3_carriedReels mv_L_97 oo9 kk9 ⟨Nat.le_of_ble_eq_true rfl, Nat.le_of_ble_eq_true rfl⟩ rfl (Nat.le_of_ble_eq_true rfl) rfl dL_law_711 (fun r711 S711 h => ?_)
          refine v_aload_n X dL_law_714 rfl 2 rfl ?_
          refine v_callVi (o := 10) (ci := 4) (As := []) (rest := [.int r711]) X (c_X4_carriedReels l S711 _ h) mw_X4_carriedReels mv_L_100 oo10 kk10 ⟨Nat.le_of_ble_eq_true rfl, Nat.le_of_ble_eq_true rfl⟩ rfl (Nat.le_of_ble_eq_true rfl) rfl dL_law_715 (fun r715 S715 h => ?_)
          refine v_icmp_eq X 854 dL_law_718 (by decide) (fun hc718 => ?_) (fun hc718 => ?_)
          · have h := h.1 hc718
            obtain ⟨y854, ey854⟩ : ∃ z : Int32, z = x3 + 4 := ⟨_, rfl⟩
            have h := h y854 ey854
            refine v_iinc (v := y854) X [(3, .int y854), (0, .ref b), (1, .ref (ad 9 0)), (2, .ref (ad 10 0))] dL_law_854 3 rfl (by rw [ey854]; rfl) (by decide) rfl ?_
            refine v_goto X 18 dL_law_857 (by decide) ?_
            obtain ⟨n', hlt, h⟩ := h
            refine v_sub [1, 2, 3, 0] rfl ?_
            exact ih n' hlt _ _ h
          · have h := h.2 hc718
            refine v_iconst (v := 0) X dL_law_721 (by decide) ?_
            exact v_lret X hr hlk hAs hrm dL_law_722 h
        · have h := h.2.2.2.2.2.2.2.2.2.2.2.2.2.2.2.2.2.2.2.2.2.2.1 hk
          refine v_tabIn X 723 dL_law_32 hk (by decide) (by decide) rfl (by decide) ?_
          refine v_aload_n X dL_law_723 rfl 1 rfl ?_
          refine v_callVi (o := 9) (ci := 3) (As := []) (rest := []) X (c_X3_plateChanges l S _ h) mw_X3_plateChanges mv_L_101 oo9 kk9 ⟨Nat.le_of_ble_eq_true rfl, Nat.le_of_ble_eq_true rfl⟩ rfl (Nat.le_of_ble_eq_true rfl) rfl dL_law_724 (fun r724 S724 h => ?_)
          refine v_aload_n X dL_law_727 rfl 2 rfl ?_
          refine v_callVi (o := 10) (ci := 4) (As := []) (rest := [.int r724]) X (c_X4_plateChanges l S724 _ h) mw_X4_plateChanges mv_L_104 oo10 kk10 ⟨Nat.le_of_ble_eq_true rfl, Nat.le_of_ble_eq_true rfl⟩ rfl (Nat.le_of_ble_eq_true rfl) rfl dL_law_728 (fun r728 S728 h => ?_)
          refine v_icmp_eq X 854 dL_law_731 (by decide) (fun hc731 => ?_) (fun hc731 => ?_)
          · have h := h.1 hc731
            obtain ⟨y854, ey854⟩ : ∃ z : Int32, z = x3 + 4 := ⟨_, rfl⟩
            have h := h y854 ey854
            refine v_iinc (v := y854) X [(3, .int y854), (0, .ref b), (1, .ref (ad 9 0)), (2, .ref (ad 10 0))] dL_law_854 3 rfl (by rw [ey854]; rfl) (by decide) rfl ?_
            refine v_goto X 18 dL_law_857 (by decide) ?_
            obtain ⟨n', hlt, h⟩ := h
            refine v_sub [1, 2, 3, 0] rfl ?_
            exact ih n' hlt _ _ h
          · have h := h.2 hc731
            refine v_iconst (v := 0) X dL_law_734 (by decide) ?_
            exact v_lret X hr hlk hAs hrm dL_law_735 h
        · have h := h.2.2.2.2.2.2.2.2.2.2.2.2.2.2.2.2.2.2.2.2.2.2.2.1 hk
          refine v_tabIn X 736 dL_law_32 hk (by decide) (by decide) rfl (by decide) ?_
          refine v_aload_n X dL_law_736 rfl 1 rfl ?_
          refine v_aload_n X dL_law_737 rfl 0 rfl ?_
          refine v_iload_n X dL_law_738 rfl 3 rfl ?_
          refine v_iconst (v := 1) X dL_law_739 (by decide) ?_
          refine v_iadd X dL_law_740 ?_
          obtain ⟨hb, h⟩ := h
          refine v_sld X hX hbl hbA hb dL_law_741 ?_
          refine v_callVi (o := 9) (ci := 3) (As := [.int (xs (x3 + 1).toNatClampNeg)]) (rest := []) X (c_X3_machineTime l S (xs (x3 + 1).toNatClampNeg) _ h) mw_X3_machineTime mv_L_105 oo9 kk9 ⟨Nat.le_of_ble_eq_true rfl, Nat.le_of_ble_eq_true rfl⟩ rfl (Nat.le_of_ble_eq_true rfl) rfl dL_law_742 (fun r742 S742 h => ?_)
          refine v_aload_n X dL_law_745 rfl 2 rfl ?_
          refine v_aload_n X dL_law_746 rfl 0 rfl ?_
          refine v_iload_n X dL_law_747 rfl 3 rfl ?_
          refine v_iconst (v := 1) X dL_law_748 (by decide) ?_
          refine v_iadd X dL_law_749 ?_
          obtain ⟨hb, h⟩ := h
          refine v_sld X hX hbl hbA hb dL_law_750 ?_
          refine v_callVi (o := 10) (ci := 4) (As := [.int (xs (x3 + 1).toNatClampNeg)]) (rest := [.int r742]) X (c_X4_machineTime l S742 (xs (x3 + 1).toNatClampNeg) _ h) mw_X4_machineTime mv_L_108 oo10 kk10 ⟨Nat.le_of_ble_eq_true rfl, Nat.le_of_ble_eq_true rfl⟩ rfl (Nat.le_of_ble_eq_true rfl) rfl dL_law_751 (fun r751 S751 h => ?_)
          refine v_icmp_eq X 854 dL_law_754 (by decide) (fun hc754 => ?_) (fun hc754 => ?_)
          · have h := h.1 hc754
            obtain ⟨y854, ey854⟩ : ∃ z : Int32, z = x3 + 4 := ⟨_, rfl⟩
            have h := h y854 ey854
            refine v_iinc (v := y854) X [(3, .int y854), (0, .ref b), (1, .ref (ad 9 0)), (2, .ref (ad 10 0))] dL_law_854 3 rfl (by rw [ey854]; rfl) (by decide) rfl ?_
            refine v_goto X 18 dL_law_857 (by decide) ?_
            obtain ⟨n', hlt, h⟩ := h
            refine v_sub [1, 2, 3, 0] rfl ?_
            exact ih n' hlt _ _ h
          · have h := h.2 hc754
            refine v_iconst (v := 0) X dL_law_757 (by decide) ?_
            exact v_lret X hr hlk hAs hrm dL_law_758 h
        · have h := h.2.2.2.2.2.2.2.2.2.2.2.2.2.2.2.2.2.2.2.2.2.2.2.2.1 hk
          refine v_tabIn X 759 dL_law_32 hk (by decide) (by decide) rfl (by decide) ?_
          refine v_aload_n X dL_law_759 rfl 1 rfl ?_
          refine v_aload_n X dL_law_760 rfl 0 rfl ?_
          refine v_iload_n X dL_law_761 rfl 3 rfl ?_
          refine v_iconst (v := 1) X dL_law_762 (by decide) ?_
          refine v_iadd X dL_law_763 ?_
          obtain ⟨hb, h⟩ := h
          refine v_sld X hX hbl hbA hb dL_law_764 ?_
          refine v_callVi (o := 9) (ci := 3) (As := [.int (xs (x3 + 1).toNatClampNeg)]) (rest := []) X (c_X3_leastShift l S (xs (x3 + 1).toNatClampNeg) _ h) mw_X3_leastShift mv_L_109 oo9 kk9 ⟨Nat.le_of_ble_eq_true rfl, Nat.le_of_ble_eq_true rfl⟩ rfl (Nat.le_of_ble_eq_true rfl) rfl dL_law_765 (fun r765 S765 h => ?_)
          refine v_aload_n X dL_law_768 rfl 2 rfl ?_
          refine v_aload_n X dL_law_769 rfl 0 rfl ?_
          refine v_iload_n X dL_law_770 rfl 3 rfl ?_
          refine v_iconst (v := 1) X dL_law_771 (by decide) ?_
          refine v_iadd X dL_law_772 ?_
          obtain ⟨hb, h⟩ := h
          refine v_sld X hX hbl hbA hb dL_law_773 ?_
          refine v_callVi (o := 10) (ci := 4) (As := [.int (xs (x3 + 1).toNatClampNeg)]) (rest := [.int r765]) X (c_X4_leastShift l S765 (xs (x3 + 1).toNatClampNeg) _ h) mw_X4_leastShift mv_L_112 oo10 kk10 ⟨Nat.le_of_ble_eq_true rfl, Nat.le_of_ble_eq_true rfl⟩ rfl (Nat.le_of_ble_eq_true rfl) rfl dL_law_774 (fun r774 S774 h => ?_)
          refine v_icmp_eq X 854 dL_law_777 (by decide) (fun hc777 => ?_) (fun hc777 => ?_)
          · have h := h.1 hc777
            obtain ⟨y854, ey854⟩ : ∃ z : Int32, z = x3 + 4 := ⟨_, rfl⟩
            have h := h y854 ey854
            refine v_iinc (v := y854) X [(3, .int y854), (0, .ref b), (1, .ref (ad 9 0)), (2, .ref (ad 10 0))] dL_law_854 3 rfl (by rw [ey854]; rfl) (by decide) rfl ?_
            refine v_goto X 18 dL_law_857 (by decide) ?_
            obtain ⟨n', hlt, h⟩ := h
            refine v_sub [1, 2, 3, 0] rfl ?_
            exact ih n' hlt _ _ h
          · have h := h.2 hc777
            refine v_iconst (v := 0) X dL_law_780 (by decide) ?_
            exact v_lret X hr hlk hAs hrm dL_law_781 h
        · have h := h.2.2.2.2.2.2.2.2.2.2.2.2.2.2.2.2.2.2.2.2.2.2.2.2.2.1 hk
          refine v_tabIn X 782 dL_law_32 hk (by decide) (by decide) rfl (by decide) ?_
          refine v_aload_n X dL_law_782 rfl 1 rfl ?_
          refine v_aload_n X dL_law_783 rfl 0 rfl ?_
          refine v_iload_n X dL_law_784 rfl 3 rfl ?_
          refine v_iconst (v := 1) X dL_law_785 (by decide) ?_
          refine v_iadd X dL_law_786 ?_
          obtain ⟨hb, h⟩ := h
          refine v_sld X hX hbl hbA hb dL_law_787 ?_
          refine v_callVi (o := 9) (ci := 3) (As := [.int (xs (x3 + 1).toNatClampNeg)]) (rest := []) X (c_X3_removalGain l S (xs (x3 + 1).toNatClampNeg) _ h) mw_X3_removalGain mv_L_113 oo9 kk9 ⟨Nat.le_of_ble_eq_true rfl, Nat.le_of_ble_eq_true rfl⟩ rfl (Nat.le_of_ble_eq_true rfl) rfl dL_law_788 (fun r788 S788 h => ?_)
          refine v_aload_n X dL_law_791 rfl 2 rfl ?_
          refine v_aload_n X dL_law_792 rfl 0 rfl ?_
          refine v_iload_n X dL_law_793 rfl 3 rfl ?_
          refine v_iconst (v := 1) X dL_law_794 (by decide) ?_
          refine v_iadd X dL_law_795 ?_
          obtain ⟨hb, h⟩ := h
          refine v_sld X hX hbl hbA hb dL_law_796 ?_
          refine v_callVi (o := 10) (ci := 4) (As := [.int (xs (x3 + 1).toNatClampNeg)]) (rest := [.int r788]) X (c_X4_removalGain l S788 (xs (x3 + 1).toNatClampNeg) _ h) mw_X4_removalGain mv_L_116 oo10 kk10 ⟨Nat.le_of_ble_eq_true rfl, Nat.le_of_ble_eq_true rfl⟩ rfl (Nat.le_of_ble_eq_true rfl) rfl dL_law_797 (fun r797 S797 h => ?_)
          refine v_icmp_eq X 854 dL_law_800 (by decide) (fun hc800 => ?_) (fun hc800 => ?_)
          · have h := h.1 hc800
            obtain ⟨y854, ey854⟩ : ∃ z : Int32, z = x3 + 4 := ⟨_, rfl⟩
            have h := h y854 ey854
            refine v_iinc (v := y854) X [(3, .int y854), (0, .ref b), (1, .ref (ad 9 0)), (2, .ref (ad 10 0))] dL_law_854 3 rfl (by rw [ey854]; rfl) (by decide) rfl ?_
            refine v_goto X 18 dL_law_857 (by decide) ?_
            obtain ⟨n', hlt, h⟩ := h
            refine v_sub [1, 2, 3, 0] rfl ?_
            exact ih n' hlt _ _ h
          · have h := h.2 hc800
            refine v_iconst (v := 0) X dL_law_803 (by decide) ?_
            exact v_lret X hr hlk hAs hrm dL_law_804 h
        · have h := h.2.2.2.2.2.2.2.2.2.2.2.2.2.2.2.2.2.2.2.2.2.2.2.2.2.2.1 hk
          refine v_tabIn X 805 dL_law_32 hk (by decide) (by decide) rfl (by decide) ?_
          refine v_aload_n X dL_law_805 rfl 1 rfl ?_
          refine v_callVi (o := 9) (ci := 3) (As := []) (rest := []) X (c_X3_bestHomes l S _ h) mw_X3_bestHomes mv_L_117 oo9 kk9 ⟨Nat.le_of_ble_eq_true rfl, Nat.le_of_ble_eq_true rfl⟩ rfl (Nat.le_of_ble_eq_true rfl) rfl dL_law_806 (fun r806 S806 h => ?_)
          refine v_aload_n X dL_law_809 rfl 2 rfl ?_
          refine v_callVi (o := 10) (ci := 4) (As := []) (rest := [.int r806]) X (c_X4_bestHomes l S806 _ h) mw_X4_bestHomes mv_L_120 oo10 kk10 ⟨Nat.le_of_ble_eq_true rfl, Nat.le_of_ble_eq_true rfl⟩ rfl (Nat.le_of_ble_eq_true rfl) rfl dL_law_810 (fun r810 S810 h => ?_)
          refine v_icmp_eq X 854 dL_law_813 (by decide) (fun hc813 => ?_) (fun hc813 => ?_)
          · have h := h.1 hc813
            obtain ⟨y854, ey854⟩ : ∃ z : Int32, z = x3 + 4 := ⟨_, rfl⟩
            have h := h y854 ey854
            refine v_iinc (v := y854) X [(3, .int y854), (0, .ref b), (1, .ref (ad 9 0)), (2, .ref (ad 10 0))] dL_law_854 3 rfl (by rw [ey854]; rfl) (by decide) rfl ?_
            refine v_goto X 18 dL_law_857 (by decide) ?_
            obtain ⟨n', hlt, h⟩ := h
            refine v_sub [1, 2, 3, 0] rfl ?_
            exact ih n' hlt _ _ h
          · have h := h.2 hc813
            refine v_iconst (v := 0) X dL_law_816 (by decide) ?_
            exact v_lret X hr hlk hAs hrm dL_law_817 h
        · have h := h.2.2.2.2.2.2.2.2.2.2.2.2.2.2.2.2.2.2.2.2.2.2.2.2.2.2.2.1 hk
          refine v_tabIn X 818 dL_law_32 hk (by decide) (by decide) rfl (by decide) ?_
          refine v_aload_n X dL_law_818 rfl 1 rfl ?_
          refine v_aload_n X dL_law_819 rfl 0 rfl ?_
          refine v_iload_n X dL_law_820 rfl 3 rfl ?_
          refine v_iconst (v := 1) X dL_law_821 (by decide) ?_
          refine v_iadd X dL_law_822 ?_
          obtain ⟨hb, h⟩ := h
          refine v_sld X hX hbl hbA hb dL_law_823 ?_
          refine v_callVi (o := 9) (ci := 3) (As := [.int (xs (x3 + 1).toNatClampNeg)]) (rest := []) X (c_X3_missingMachines l S (xs (x3 + 1).toNatClampNeg) _ h) mw_X3_missingMachines mv_L_121 oo9 kk9 ⟨Nat.le_of_ble_eq_true rfl, Nat.le_of_ble_eq_true rfl⟩ rfl (Nat.le_of_ble_eq_true rfl) rfl dL_law_824 (fun r824 S824 h => ?_)
          refine v_aload_n X dL_law_827 rfl 2 rfl ?_
          refine v_aload_n X dL_law_828 rfl 0 rfl ?_
          refine v_iload_n X dL_law_829 rfl 3 rfl ?_
          refine v_iconst (v := 1) X dL_law_830 (by decide) ?_
          refine v_iadd X dL_law_831 ?_
          obtain ⟨hb, h⟩ := h
          refine v_sld X hX hbl hbA hb dL_law_832 ?_
          refine v_callVi (o := 10) (ci := 4) (As := [.int (xs (x3 + 1).toNatClampNeg)]) (rest := [.int r824]) X (c_X4_missingMachines l S824 (xs (x3 + 1).toNatClampNeg) _ h) mw_X4_missingMachines mv_L_124 oo10 kk10 ⟨Nat.le_of_ble_eq_true rfl, Nat.le_of_ble_eq_true rfl⟩ rfl (Nat.le_of_ble_eq_true rfl) rfl dL_law_833 (fun r833 S833 h => ?_)
          refine v_icmp_eq X 854 dL_law_836 (by decide) (fun hc836 => ?_) (fun hc836 => ?_)
          · have h := h.1 hc836
            obtain ⟨y854, ey854⟩ : ∃ z : Int32, z = x3 + 4 := ⟨_, rfl⟩
            have h := h y854 ey854
            refine v_iinc (v := y854) X [(3, .int y854), (0, .ref b), (1, .ref (ad 9 0)), (2, .ref (ad 10 0))] dL_law_854 3 rfl (by rw [ey854]; rfl) (by decide) rfl ?_
            refine v_goto X 18 dL_law_857 (by decide) ?_
            obtain ⟨n', hlt, h⟩ := h
            refine v_sub [1, 2, 3, 0] rfl ?_
            exact ih n' hlt _ _ h
          · have h := h.2 hc836
            refine v_iconst (v := 0) X dL_law_839 (by decide) ?_
            exact v_lret X hr hlk hAs hrm dL_law_840 h
        · have h := h.2.2.2.2.2.2.2.2.2.2.2.2.2.2.2.2.2.2.2.2.2.2.2.2.2.2.2.2 hk
          refine v_tabIn X 841 dL_law_32 hk (by decide) (by decide) rfl (by decide) ?_
          refine v_aload_n X dL_law_841 rfl 1 rfl ?_
          refine v_callVi (o := 9) (ci := 3) (As := []) (rest := []) X (c_X3_undo l S _ h) mw_X3_undo mv_L_125 oo9 kk9 ⟨Nat.le_of_ble_eq_true rfl, Nat.le_of_ble_eq_true rfl⟩ rfl (Nat.le_of_ble_eq_true rfl) rfl dL_law_842 (fun r842 S842 h => ?_)
          refine v_aload_n X dL_law_845 rfl 2 rfl ?_
          refine v_callVi (o := 10) (ci := 4) (As := []) (rest := [.int r842]) X (c_X4_undo l S842 _ h) mw_X4_undo mv_L_128 oo10 kk10 ⟨Nat.le_of_ble_eq_true rfl, Nat.le_of_ble_eq_true rfl⟩ rfl (Nat.le_of_ble_eq_true rfl) rfl dL_law_846 (fun r846 S846 h => ?_)
          refine v_icmp_eq X 854 dL_law_849 (by decide) (fun hc849 => ?_) (fun hc849 => ?_)
          · have h := h.1 hc849
            obtain ⟨y854, ey854⟩ : ∃ z : Int32, z = x3 + 4 := ⟨_, rfl⟩
            have h := h y854 ey854
            refine v_iinc (v := y854) X [(3, .int y854), (0, .ref b), (1, .ref (ad 9 0)), (2, .ref (ad 10 0))] dL_law_854 3 rfl (by rw [ey854]; rfl) (by decide) rfl ?_
            refine v_goto X 18 dL_law_857 (by decide) ?_
            obtain ⟨n', hlt, h⟩ := h
            refine v_sub [1, 2, 3, 0] rfl ?_
            exact ih n' hlt _ _ h
          · have h := h.2 hc849
            refine v_iconst (v := 0) X dL_law_852 (by decide) ?_
            exact v_lret X hr hlk hAs hrm dL_law_853 h
