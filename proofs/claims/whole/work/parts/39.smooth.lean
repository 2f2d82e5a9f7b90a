/-! BOUNDS: no time overflows, no show lowers the loss -/
def BT (x : Int32) (b : Int) : Prop := 0 ≤ x.toInt ∧ x.toInt ≤ b
theorem bt_mono {x : Int32} {a b : Int} (h : BT x a) (hab : a ≤ b) : BT x b := ⟨h.1, by have := h.2; omega⟩
theorem add_toInt {x y : Int32} (h1 : -2147483648 ≤ x.toInt + y.toInt) (h2 : x.toInt + y.toInt < 2147483648) : (x + y).toInt = x.toInt + y.toInt := by
  rw [Int32.toInt_add]
  exact Int.bmod_eq_of_le_mul_two (by omega) (by omega)
theorem sub_toInt {x y : Int32} (h1 : -2147483648 ≤ x.toInt - y.toInt) (h2 : x.toInt - y.toInt < 2147483648) : (x - y).toInt = x.toInt - y.toInt := by
  rw [Int32.toInt_sub]
  exact Int.bmod_eq_of_le_mul_two (by omega) (by omega)
theorem bt_add {x y : Int32} {a b : Int} (hx : BT x a) (hy : BT y b) (h : a + b < 2147483648) : BT (x + y) (a + b) := by
  have h1 := hx.1; have h2 := hx.2; have h3 := hy.1; have h4 := hy.2
  unfold BT
  rw [add_toInt (by omega) (by omega)]
  omega
theorem bt_nI {n : Nat} {b : Nat} (h : n ≤ b) (hb : b < 2000000) : BT (nI n) b := by
  unfold BT
  rw [nI_toInt (by omega)]
  omega
theorem mx_toInt (x y : Int32) : (mx x y).toInt = if x.toInt < y.toInt then y.toInt else x.toInt := by
  unfold mx
  by_cases h : x < y
  · rw [if_pos h, if_pos (Int32.lt_iff_toInt_lt.mp h)]
  · rw [if_neg h, if_neg (fun z => h (Int32.lt_iff_toInt_lt.mpr z))]
theorem bt_mx {x y : Int32} {b : Int} (hx : BT x b) (hy : BT y b) : BT (mx x y) b := by
  unfold BT
  rw [mx_toInt]
  have h1 := hx.1; have h2 := hx.2; have h3 := hy.1; have h4 := hy.2
  split <;> omega
theorem mx_left (x y : Int32) : x.toInt ≤ (mx x y).toInt := by
  rw [mx_toInt]
  split <;> omega
theorem bt_sub {x y : Int32} {b : Int} (hx : BT x b) (hy : 0 ≤ y.toInt) (h : y.toInt ≤ x.toInt) (hb : b < 2147483648) : BT (x - y) b := by
  have h1 := hx.1; have h2 := hx.2
  unfold BT
  rw [sub_toInt (by omega) (by omega)]
  omega
def TB (Q : Qs) (b : Int) : Prop := (∀ i, i < 24 → BT (Q 12 i) b) ∧ (∀ i, i < 3 → BT (Q 13 i) b) ∧ ∀ i, i < 5 → BT (Q 14 i) b
theorem TB.mono {Q : Qs} {a b : Int} (h : TB Q a) (hab : a ≤ b) : TB Q b := ⟨fun i hi => bt_mono (h.1 i hi) hab, fun i hi => bt_mono (h.2.1 i hi) hab, fun i hi => bt_mono (h.2.2 i hi) hab⟩
section B
variable {N : Row} {Q : Qs}
theorem br_bt {pl : Nat} {h : Int32} {b : Int} (hW : WF N) (hp : pl < 24) (hT : TB Q b) (hb : b ≤ 1000000) : TB (brQ N Q pl h) (b + 60) ∧ BT (brA N Q pl h) (b + 30) := by
  have hc := w_cc hW
  have hbc : brC N Q pl < 3 := caF_lt _ _ _ (by omega) (by omega)
  have hC : BT (nI (N 66)) 30 := bt_nI (b := 30) (w_min hW (i := 3) (by decide)) (by omega)
  have m := bt_mx (hT.2.1 _ hbc) (hT.1 pl hp)
  have a1 := bt_add m hC (by omega)
  have a2 := bt_add a1 hC (by omega)
  unfold brQ brA
  by_cases q : Q 11 pl = h
  · rw [if_pos q, if_pos q]
    exact ⟨hT.mono (by omega), bt_mono (hT.1 pl hp) (by omega)⟩
  · rw [if_neg q, if_neg q]
    refine ⟨⟨fun i hi => ?_, fun i hi => ?_, fun i hi => ?_⟩, a1⟩
    · unfold up2
      rw [if_neg (by omega), if_neg (by omega), if_neg (by omega)]
      exact bt_mono (hT.1 i hi) (by omega)
    · unfold up2
      rw [if_neg (by omega), if_neg (by omega)]
      by_cases z : i = brC N Q pl
      · rw [if_pos ⟨rfl, z⟩]; exact bt_mono a2 (by omega)
      · rw [if_neg (by omega)]; exact bt_mono (hT.2.1 i hi) (by omega)
    · unfold up2
      rw [if_neg (by omega), if_neg (by omega), if_neg (by omega)]
      exact bt_mono (hT.2.2 i hi) (by omega)
theorem st_bt {m : Nat} {a arr due : Int32} {b : Int} (hW : WF N) (hm : m < 5) (hT : TB Q b) (ha : BT arr b) (hd : BT due b) (hb : b ≤ 1000000) : BT (stF N Q m a arr due) (b + 60) ∧ due.toInt ≤ (stF N Q m a arr due).toInt := by
  have hP : BT (nI (N 64)) 30 := bt_nI (b := 30) (w_min hW (i := 1) (by decide)) (by omega)
  have hT0 : BT (nI (N 63)) 30 := bt_nI (b := 30) (w_min hW (i := 0) (by decide)) (by omega)
  have fr : BT (if npF Q m a = 0 then Q 14 m else Q 14 m + nI (N 64)) (b + 30) := by
    split
    · exact bt_mono (hT.2.2 m hm) (by omega)
    · exact bt_add (hT.2.2 m hm) hP (by omega)
  have x := bt_add (bt_mx (bt_mono ha (by omega)) fr) hT0 (by omega)
  unfold stF
  exact ⟨bt_mx (bt_mono hd (by omega)) (bt_mono x (by omega)), mx_left _ _⟩
theorem rp_le {s r : Nat} (hW : WF N) : ∀ (c b acc : Nat), b + c ≤ 8 → rpF N s r c b acc ≤ acc + 60 * c
  | 0, _, _, _ => Nat.le_refl _
  | c + 1, b, acc, h => by
    unfold rpF
    have h1 := rp_le (s := s) (r := r) hW c (b + 1) (if N (87 + b) = s then (if N (95 + b) = r then acc + N (103 + b) else acc) else acc) (by omega)
    have h2 := w_rp hW (i := b) (by omega)
    have h3 : (if N (87 + b) = s then (if N (95 + b) = r then acc + N (103 + b) else acc) else acc) ≤ acc + 60 := by
      split
      · split <;> omega
      · omega
    omega
theorem reel_bt {s r fm : Nat} {due : Int32} {b : Int} (hW : WF N) (hp : plc N s r < 24) (hf : fm < N 56) (hT : TB Q b) (hd : BT due b) (hb : b ≤ 900000) : TB (rQ6 N Q s r due fm) (b + 1000) ∧ BT (rE N Q s r due fm) (b + 1000) ∧ BT (rS N Q s r due fm - due) (b + 1000) := by
  have hmc := w_mc hW
  have hm : rM N Q s r due fm < 5 := mlF_lt _ _ _ (by omega) (by omega)
  obtain ⟨t1, a1⟩ := br_bt (h := rH N s) hW hp hT (by omega)
  obtain ⟨s1, s2⟩ := st_bt (a := rA N s r) (m := rM N Q s r due fm) hW hm t1 (bt_mono a1 (by omega)) (bt_mono hd (by omega)) (by omega)
  have s1 : BT (rS N Q s r due fm) (b + 60 + 60) := s1
  have s2 : due.toInt ≤ (rS N Q s r due fm).toInt := s2
  have e1 := bt_add (bt_add s1 (bt_nI (b := 30) (w_len hW hp) (by omega)) (by omega)) (bt_nI (n := rpF N s r (N 86) 0 0) (b := 480) (by have := rp_le (s := s) (r := r) hW (N 86) 0 0 (by have := w_bc hW; omega); have := w_bc hW; omega) (by omega)) (by omega)
  have e1 : BT (rE N Q s r due fm) (b + 60 + 60 + 30 + 480) := e1
  have hR : BT (nI (N 65)) 30 := bt_nI (b := 30) (w_min hW (i := 2) (by decide)) (by omega)
  have r1 := bt_add e1 hR (by omega)
  have t2 : TB (rQ2 N Q s r due fm) (b + 60) := by
    unfold rQ2
    split
    · exact t1
    · refine ⟨fun i hi => ?_, fun i hi => ?_, fun i hi => ?_⟩
      · unfold up2; rw [if_neg (by omega)]; exact t1.1 i hi
      · unfold up2; rw [if_neg (by omega)]; exact t1.2.1 i hi
      · unfold up2; rw [if_neg (by omega)]; exact t1.2.2 i hi
  refine ⟨⟨fun i hi => ?_, fun i hi => ?_, fun i hi => ?_⟩, bt_mono e1 (by omega), bt_sub (bt_mono s1 (by omega)) hd.1 s2 (by omega)⟩
  · unfold rQ6 up2
    by_cases z : i = plc N s r
    · rw [if_pos ⟨rfl, z⟩]; exact bt_mono r1 (by omega)
    · rw [if_neg (fun w => z w.2), if_neg (by omega), if_neg (by omega), if_neg (by omega)]
      exact bt_mono (t2.1 i hi) (by omega)
  · unfold rQ6 up2
    rw [if_neg (by omega), if_neg (by omega), if_neg (by omega), if_neg (by omega)]
    exact bt_mono (t2.2.1 i hi) (by omega)
  · unfold rQ6 up2
    rw [if_neg (by omega), if_neg (by omega)]
    by_cases z : i = rM N Q s r due fm
    · rw [if_pos ⟨rfl, z⟩]; exact bt_mono e1 (by omega)
    · rw [if_neg (fun w => z w.2), if_neg (by omega)]
      exact bt_mono (t2.2.2 i hi) (by omega)
theorem sl_bt {s fm : Nat} (hW : WF N) (hs : s < 6) (hf : fm < N 56) : ∀ (k r : Nat) (Q : Qs) (due dl gp : Int32) (st mc : Nat → Int32) (b : Int), r + k ≤ N (N (74 + s)) → TB Q b → BT due b → BT dl 100000 → BT gp (100000 * r) → b + 1000 * k ≤ 100000 → TB (slF N s fm k r Q due dl gp st mc).1 (b + 1000 * k) ∧ BT (slF N s fm k r Q due dl gp st mc).2.2.1 100000 ∧ BT (slF N s fm k r Q due dl gp st mc).2.2.2.1 (100000 * (r + k))
  | 0, r, Q, due, dl, gp, st, mc, b, _, hT, _, h1, h2, _ => ⟨hT.mono (by omega), h1, bt_mono h2 (by omega)⟩
  | k + 1, r, Q, due, dl, gp, st, mc, b, hr, hT, hd, h1, h2, hb => by
    have hsf := w_sf hW hs
    have hrc := w_rc hW (i := N (74 + s)) (by omega)
    obtain ⟨t, e, w⟩ := reel_bt (s := s) (r := r) (due := due) hW (show plc N s r < 24 by unfold plc; omega) hf hT hd (by omega)
    unfold slF
    have q := sl_bt hW hs hf k (r + 1) (rQ6 N Q s r due fm) (rE N Q s r due fm) (if r = 0 then rS N Q s r due fm - due else dl) (if r = 0 then gp else gp + (rS N Q s r due fm - due)) (upd st r (rS N Q s r due fm)) (upd mc r (nI (rM N Q s r due fm))) (b + 1000) (by omega) t e (by split; exact bt_mono w (by omega); exact h1) (by
      split
      · exact bt_mono h2 (by omega)
      · exact bt_mono (bt_add h2 (bt_mono w (b := 100000) (by omega)) (by omega)) (by omega)) (by omega)
    exact ⟨q.1.mono (by omega), q.2.1, bt_mono q.2.2 (by omega)⟩
theorem sh_bt {s : Nat} {b : Int} (hW : WF N) (hs : s < 6) (hT : TB Q b) (h0 : 1439 ≤ b) (hb : b + 6000 ≤ 100000) : TB (shF N Q s).1 (b + 6000) ∧ BT (incF (shF N Q s).2) 700000 := by
  have hsf := w_sf hW hs
  have hrc := w_rc hW (i := N (74 + s)) (by omega)
  unfold shF
  split
  · refine ⟨hT.mono (by omega), ?_⟩
    show BT 1000 700000
    unfold BT
    decide
  · rename_i fm hfm
    obtain ⟨-, hf2, -, -⟩ := fmF_lt _ _ _ hfm
    have q := sl_bt (fm := fm) hW hs (by omega) (N (N (74 + s))) 0 Q (nI (N (80 + s))) 0 0 (fun _ => 0) (fun _ => 0) b (by omega) hT (bt_mono (bt_nI (b := 1439) (w_ss hW hs) (by omega)) (by omega)) (by unfold BT; decide) (by unfold BT; decide) (by omega)
    refine ⟨q.1.mono (by omega), ?_⟩
    show BT (if (1 : Int32) = 0 then 1000 else _) 700000
    rw [if_neg (by decide)]
    exact bt_mono (bt_add q.2.1 q.2.2 (by omega)) (by omega)
theorem pl_bt (hW : WF N) {A : Row} (hA : ∀ i, i < N 67 → A i < N 67) : ∀ (k i : Nat) (Q : Qs) (L : Int32) (R : Nat → Rec) (b g : Int), i + k ≤ N 67 → TB Q b → 1439 ≤ b → b + 6000 * k ≤ 100000 → BT L g → g + 700000 * k ≤ 100000000 → L.toInt ≤ (plF N A k i Q L R).2.1.toInt
  | 0, _, _, _, _, _, _, _, _, _, _, _, _ => Int.le_refl _
  | k + 1, i, Q, L, R, b, g, hi, hT, h0, hb, hL, hg => by
    have hsc := w_sc hW
    have hAi := hA i (by omega)
    obtain ⟨t, n⟩ := sh_bt (s := A i) hW (by omega) hT h0 (by omega)
    have l := bt_add hL n (by omega)
    unfold plF
    have q := pl_bt hW hA k (i + 1) (shF N Q (A i)).1 (L + incF (shF N Q (A i)).2) (fun s => if s = A i then (shF N Q (A i)).2 else R s) (b + 6000) (g + 700000) (by omega) t (by omega) (by omega) l (by omega)
    have e := hL.1; have e2 := hL.2; have e3 := n.1; have e4 := n.2
    rw [add_toInt (by omega) (by omega)] at q
    omega
theorem q0_tb : TB (Q0 N) 1439 := ⟨fun i hi => by show BT 0 1439; unfold BT; decide, fun i hi => by show BT 0 1439; unfold BT; decide, fun i hi => by show BT 0 1439; unfold BT; decide⟩
end B
theorem z_ne {x : Int32} (h : ¬ x = 0) (hb : 0 ≤ x.toInt) : 0 < x.toInt := by
  rcases Int.lt_or_eq_of_le hb with q | q
  · exact q
  · exact absurd (Int32.toInt_inj.mp (q.symm.trans (by decide : (0 : Int) = (0 : Int32).toInt))) h
section C
variable {S : St} {o : Nat} {N : Row}
theorem p_isSmooth {K : Int32 → St → Prop} (hD : DR S o N) (ho : o ≠ 8) (hW : WF N) (hK : ∀ S', (∀ p, p ≠ 8 → S' p = S p) → K (if (planF N).2.1 = 0 then 1 else 0) S') : w_X2_isSmooth o S K := by
  have hc := w_sc hW
  have ord := srt_ord (N := N) (N 67)
  refine p_open hD ho hW (fun S1 q1 l1 o1 f1 => ?_)
  refine ⟨fun n S' x => ∃ i Q L R b g, x = nI i ∧ i + n = N 67 ∧ RQ (S' 8) Q ∧ S' 8 9 0 = L ∧ (∀ j, j < N 67 → S' 8 10 j = nI (srtF N (N 67) j)) ∧ plF N (srtF N (N 67)) n i Q L R = planF N ∧ TB Q b ∧ 1439 ≤ b ∧ b + 6000 * n ≤ 100000 ∧ BT L g ∧ g + 700000 * n ≤ 100000000 ∧ ∀ p, p ≠ 8 → S' p = S p, ⟨N 67, 0, Q0 N, 0, fun _ => rec0, 1439, 0, nI_0.symm, Nat.zero_add _, q1, l1, o1, rfl, q0_tb, by omega, by omega, by unfold BT; decide, by omega, f1⟩, ?_⟩
  rintro n S2 x ⟨i, Q, L, R, b, g, rfl, hi, q2, l2, o2, hF, t2, hb0, hb, hL, hg, f2⟩
  have d2 : DR S2 o N := hD.at (f2 o ho)
  have stop : ¬ L = 0 → ¬ (planF N).2.1 = 0 := by
    intro z e
    have := pl_bt hW (fun i hi => ord.1 i hi) n i Q L R b g (by omega) t2 hb0 hb hL hg
    rw [hF, e] at this
    have z2 := z_ne z hL.1
    have z3 : (0 : Int32).toInt = 0 := by decide
    omega
  unfold w_X2_isSmooth_39
  rw [d_sc d2, n_le (by omega) (by omega), l2]
  refine ⟨fun z => ⟨fun w => ?_, fun w => ?_⟩, fun z => ⟨fun w => ⟨fun _ => ?_, fun v => absurd v w⟩, fun w => ⟨n_in (by omega) (by omega), ?_⟩⟩⟩
  · have q := hK S2 f2
    rw [if_neg (stop w)] at q
    exact q
  · have : n = 0 := by omega
    subst this
    have hF : (Q, L, R) = planF N := hF
    have q := hK S2 f2
    rw [← hF, if_pos w] at q
    exact q
  · have q := hK S2 f2
    rw [if_neg (stop w)] at q
    exact q
  · obtain ⟨k, rfl⟩ : ∃ k, n = k + 1 := ⟨n - 1, by omega⟩
    have bA := ord.1 i (by omega)
    rw [n_clamp (by omega), o2 i (by omega)]
    change plF N (srtF N (N 67)) k (i + 1) (shF N Q (srtF N (N 67) i)).1 (L + incF (shF N Q (srtF N (N 67) i)).2) (fun s => if s = srtF N (N 67) i then (shF N Q (srtF N (N 67) i)).2 else R s) = _ at hF
    obtain ⟨t3, n3⟩ := sh_bt (s := srtF N (N 67) i) hW (by omega) t2 hb0 (by omega)
    refine p_planShow d2 ho hW q2 (by omega) (fun S3 q3 r3 k3 l3 e3 f3 => ?_)
    intro y ey
    exact ⟨k, by omega, i + 1, _, _, _, b + 6000, g + 700000, by rw [ey, nI_1], by omega, q3, l3.trans (by rw [l2]), fun j hj => by rw [e3]; exact o2 j hj, hF, t3, by omega, by omega, bt_add hL n3 (by omega), by omega, fun p hp => by rw [f3 p hp]; exact f2 p hp⟩
theorem p_lossWith {K : Int32 → St → Prop} (hD : DR S o N) (ho : o ≠ 8) (hW : WF N) (hK : ∀ S', (∀ p, p ≠ 8 → S' p = S p) → K (planF N).2.1 S') : w_X2_lossWith o S K := by
  refine p_make hD ho hW (fun S1 q1 l1 r1 f1 => ?_)
  rw [l1]
  exact hK S1 f1
end C
