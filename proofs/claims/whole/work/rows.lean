section
-- ===== PART A: goes FIRST, ahead of the names: the tables' words, and 'selects' of the private methods out of them =====
/-- a private method of a class that the tables say can be made, by its rows of tables_1 -/
def lw_okq (q : MethodName × Nat) : Prop := (q.1.cls ≠ "java/lang/invoke/MethodHandle" ∧ q.1.cls ≠ "java/lang/invoke/VarHandle") ∧ Cond.instantiable q.1.cls q.2 ∈ tables_1 ∧ Cond.privateMethod q.1 ∈ tables_1 ∧ Cond.instanceMethod q.1 ∈ tables_1
theorem lw_p0 : lw_okq (⟨"ProjectionRoom$History", "forgetOldest", "()V"⟩, 2) := ⟨⟨by decide +kernel, by decide +kernel⟩, List.mem_of_getElem? (i := 100) (by decide +kernel), List.mem_of_getElem? (i := 206) (by decide +kernel), List.mem_of_getElem? (i := 207) (by decide +kernel)⟩
theorem lw_p1 : lw_okq (⟨"ProjectionRoom", "isMachine", "(I)Z"⟩, 4) := ⟨⟨by decide +kernel, by decide +kernel⟩, List.mem_of_getElem? (i := 9) (by decide +kernel), List.mem_of_getElem? (i := 253) (by decide +kernel), List.mem_of_getElem? (i := 254) (by decide +kernel)⟩
theorem lw_p2 : lw_okq (⟨"ProjectionRoom", "isShow", "(I)Z"⟩, 4) := ⟨⟨by decide +kernel, by decide +kernel⟩, List.mem_of_getElem? (i := 9) (by decide +kernel), List.mem_of_getElem? (i := 289) (by decide +kernel), List.mem_of_getElem? (i := 290) (by decide +kernel)⟩
theorem lw_p3 : lw_okq (⟨"ProjectionRoom$Day", "dropBreaksOf", "(I)V"⟩, 16) := ⟨⟨by decide +kernel, by decide +kernel⟩, List.mem_of_getElem? (i := 17) (by decide +kernel), List.mem_of_getElem? (i := 297) (by decide +kernel), List.mem_of_getElem? (i := 298) (by decide +kernel)⟩
theorem lw_p4 : lw_okq (⟨"ProjectionRoom", "isReelOfShow", "(II)Z"⟩, 4) := ⟨⟨by decide +kernel, by decide +kernel⟩, List.mem_of_getElem? (i := 9) (by decide +kernel), List.mem_of_getElem? (i := 309) (by decide +kernel), List.mem_of_getElem? (i := 310) (by decide +kernel)⟩
theorem lw_p5 : lw_okq (⟨"ProjectionRoom$Plan", "open", "(LProjectionRoom$Day;)V"⟩, 16) := ⟨⟨by decide +kernel, by decide +kernel⟩, List.mem_of_getElem? (i := 117) (by decide +kernel), List.mem_of_getElem? (i := 329) (by decide +kernel), List.mem_of_getElem? (i := 330) (by decide +kernel)⟩
theorem lw_p6 : lw_okq (⟨"ProjectionRoom$Plan", "bringHome", "(II)V"⟩, 16) := ⟨⟨by decide +kernel, by decide +kernel⟩, List.mem_of_getElem? (i := 117) (by decide +kernel), List.mem_of_getElem? (i := 333) (by decide +kernel), List.mem_of_getElem? (i := 334) (by decide +kernel)⟩
theorem lw_p7 : lw_okq (⟨"ProjectionRoom$Plan", "sortShows", "(LProjectionRoom$Day;)V"⟩, 16) := ⟨⟨by decide +kernel, by decide +kernel⟩, List.mem_of_getElem? (i := 117) (by decide +kernel), List.mem_of_getElem? (i := 338) (by decide +kernel), List.mem_of_getElem? (i := 339) (by decide +kernel)⟩
theorem lw_p8 : lw_okq (⟨"ProjectionRoom$Plan", "planShow", "(LProjectionRoom$Day;I)V"⟩, 16) := ⟨⟨by decide +kernel, by decide +kernel⟩, List.mem_of_getElem? (i := 117) (by decide +kernel), List.mem_of_getElem? (i := 342) (by decide +kernel), List.mem_of_getElem? (i := 343) (by decide +kernel)⟩
theorem lw_p9 : lw_okq (⟨"ProjectionRoom$Plan", "planReel", "(LProjectionRoom$Day;IIII)I"⟩, 16) := ⟨⟨by decide +kernel, by decide +kernel⟩, List.mem_of_getElem? (i := 117) (by decide +kernel), List.mem_of_getElem? (i := 350) (by decide +kernel), List.mem_of_getElem? (i := 351) (by decide +kernel)⟩
theorem lw_p10 : lw_okq (⟨"ProjectionRoom$Plan", "bring", "(LProjectionRoom$Day;II)I"⟩, 16) := ⟨⟨by decide +kernel, by decide +kernel⟩, List.mem_of_getElem? (i := 117) (by decide +kernel), List.mem_of_getElem? (i := 354) (by decide +kernel), List.mem_of_getElem? (i := 355) (by decide +kernel)⟩
theorem lw_p11 : lw_okq (⟨"ProjectionRoom$Plan", "soonestCarrier", "(LProjectionRoom$Day;I)I"⟩, 16) := ⟨⟨by decide +kernel, by decide +kernel⟩, List.mem_of_getElem? (i := 117) (by decide +kernel), List.mem_of_getElem? (i := 358) (by decide +kernel), List.mem_of_getElem? (i := 359) (by decide +kernel)⟩
theorem lw_p12 : lw_okq (⟨"ProjectionRoom$Plan", "soonestMachine", "(LProjectionRoom$Day;IIII)I"⟩, 16) := ⟨⟨by decide +kernel, by decide +kernel⟩, List.mem_of_getElem? (i := 117) (by decide +kernel), List.mem_of_getElem? (i := 365) (by decide +kernel), List.mem_of_getElem? (i := 366) (by decide +kernel)⟩
theorem lw_p13 : lw_okq (⟨"ProjectionRoom$Plan", "startOn", "(LProjectionRoom$Day;IIII)I"⟩, 16) := ⟨⟨by decide +kernel, by decide +kernel⟩, List.mem_of_getElem? (i := 117) (by decide +kernel), List.mem_of_getElem? (i := 369) (by decide +kernel), List.mem_of_getElem? (i := 370) (by decide +kernel)⟩
theorem lw_p14 : lw_okq (⟨"ProjectionRoom$Plan", "needsPlate", "(II)Z"⟩, 16) := ⟨⟨by decide +kernel, by decide +kernel⟩, List.mem_of_getElem? (i := 117) (by decide +kernel), List.mem_of_getElem? (i := 373) (by decide +kernel), List.mem_of_getElem? (i := 374) (by decide +kernel)⟩
theorem lw_p15 : lw_okq (⟨"ProjectionRoomModel", "keeps", "()V"⟩, 18) := ⟨⟨by decide +kernel, by decide +kernel⟩, List.mem_of_getElem? (i := 456) (by decide +kernel), List.mem_of_getElem? (i := 534) (by decide +kernel), List.mem_of_getElem? (i := 535) (by decide +kernel)⟩
def lw_privs_1 : List (MethodName × Nat) := [(⟨"ProjectionRoom$History", "forgetOldest", "()V"⟩, 2), (⟨"ProjectionRoom", "isMachine", "(I)Z"⟩, 4), (⟨"ProjectionRoom", "isShow", "(I)Z"⟩, 4), (⟨"ProjectionRoom$Day", "dropBreaksOf", "(I)V"⟩, 16), (⟨"ProjectionRoom", "isReelOfShow", "(II)Z"⟩, 4), (⟨"ProjectionRoom$Plan", "open", "(LProjectionRoom$Day;)V"⟩, 16), (⟨"ProjectionRoom$Plan", "bringHome", "(II)V"⟩, 16), (⟨"ProjectionRoom$Plan", "sortShows", "(LProjectionRoom$Day;)V"⟩, 16), (⟨"ProjectionRoom$Plan", "planShow", "(LProjectionRoom$Day;I)V"⟩, 16), (⟨"ProjectionRoom$Plan", "planReel", "(LProjectionRoom$Day;IIII)I"⟩, 16), (⟨"ProjectionRoom$Plan", "bring", "(LProjectionRoom$Day;II)I"⟩, 16), (⟨"ProjectionRoom$Plan", "soonestCarrier", "(LProjectionRoom$Day;I)I"⟩, 16), (⟨"ProjectionRoom$Plan", "soonestMachine", "(LProjectionRoom$Day;IIII)I"⟩, 16), (⟨"ProjectionRoom$Plan", "startOn", "(LProjectionRoom$Day;IIII)I"⟩, 16), (⟨"ProjectionRoom$Plan", "needsPlate", "(II)Z"⟩, 16), (⟨"ProjectionRoomModel", "keeps", "()V"⟩, 18)]
theorem lw_r1 : ∀ q ∈ lw_privs_1, lw_okq q := List.forall_mem_cons.mpr ⟨lw_p0, List.forall_mem_cons.mpr ⟨lw_p1, List.forall_mem_cons.mpr ⟨lw_p2, List.forall_mem_cons.mpr ⟨lw_p3, List.forall_mem_cons.mpr ⟨lw_p4, List.forall_mem_cons.mpr ⟨lw_p5, List.forall_mem_cons.mpr ⟨lw_p6, List.forall_mem_cons.mpr ⟨lw_p7, List.forall_mem_cons.mpr ⟨lw_p8, List.forall_mem_cons.mpr ⟨lw_p9, List.forall_mem_cons.mpr ⟨lw_p10, List.forall_mem_cons.mpr ⟨lw_p11, List.forall_mem_cons.mpr ⟨lw_p12, List.forall_mem_cons.mpr ⟨lw_p13, List.forall_mem_cons.mpr ⟨lw_p14, List.forall_mem_cons.mpr ⟨lw_p15, fun _ h => absurd h List.not_mem_nil⟩⟩⟩⟩⟩⟩⟩⟩⟩⟩⟩⟩⟩⟩⟩⟩
theorem lw_p16 : lw_okq (⟨"ProjectionRoomModel", "isMachine", "(I)Z"⟩, 18) := ⟨⟨by decide +kernel, by decide +kernel⟩, List.mem_of_getElem? (i := 456) (by decide +kernel), List.mem_of_getElem? (i := 561) (by decide +kernel), List.mem_of_getElem? (i := 562) (by decide +kernel)⟩
theorem lw_p17 : lw_okq (⟨"ProjectionRoomModel", "isShow", "(I)Z"⟩, 18) := ⟨⟨by decide +kernel, by decide +kernel⟩, List.mem_of_getElem? (i := 456) (by decide +kernel), List.mem_of_getElem? (i := 591) (by decide +kernel), List.mem_of_getElem? (i := 592) (by decide +kernel)⟩
theorem lw_p18 : lw_okq (⟨"ProjectionRoomModel", "goes", "(I)V"⟩, 18) := ⟨⟨by decide +kernel, by decide +kernel⟩, List.mem_of_getElem? (i := 456) (by decide +kernel), List.mem_of_getElem? (i := 595) (by decide +kernel), List.mem_of_getElem? (i := 596) (by decide +kernel)⟩
theorem lw_p19 : lw_okq (⟨"ProjectionRoomModel", "isReel", "(II)Z"⟩, 18) := ⟨⟨by decide +kernel, by decide +kernel⟩, List.mem_of_getElem? (i := 456) (by decide +kernel), List.mem_of_getElem? (i := 607) (by decide +kernel), List.mem_of_getElem? (i := 608) (by decide +kernel)⟩
theorem lw_p20 : lw_okq (⟨"ProjectionRoomModel", "plans", "()I"⟩, 18) := ⟨⟨by decide +kernel, by decide +kernel⟩, List.mem_of_getElem? (i := 456) (by decide +kernel), List.mem_of_getElem? (i := 620) (by decide +kernel), List.mem_of_getElem? (i := 621) (by decide +kernel)⟩
theorem lw_p21 : lw_okq (⟨"ProjectionRoomModel", "plansShow", "(I)V"⟩, 18) := ⟨⟨by decide +kernel, by decide +kernel⟩, List.mem_of_getElem? (i := 456) (by decide +kernel), List.mem_of_getElem? (i := 624) (by decide +kernel), List.mem_of_getElem? (i := 625) (by decide +kernel)⟩
theorem lw_p22 : lw_okq (⟨"ProjectionRoomModel", "runs", "(III)I"⟩, 18) := ⟨⟨by decide +kernel, by decide +kernel⟩, List.mem_of_getElem? (i := 456) (by decide +kernel), List.mem_of_getElem? (i := 628) (by decide +kernel), List.mem_of_getElem? (i := 629) (by decide +kernel)⟩
theorem lw_p23 : lw_okq (⟨"ProjectionRoomModel", "arrives", "(II)I"⟩, 18) := ⟨⟨by decide +kernel, by decide +kernel⟩, List.mem_of_getElem? (i := 456) (by decide +kernel), List.mem_of_getElem? (i := 632) (by decide +kernel), List.mem_of_getElem? (i := 633) (by decide +kernel)⟩
theorem lw_p24 : lw_okq (⟨"ProjectionRoomModel", "startBy", "(IIII)I"⟩, 18) := ⟨⟨by decide +kernel, by decide +kernel⟩, List.mem_of_getElem? (i := 456) (by decide +kernel), List.mem_of_getElem? (i := 636) (by decide +kernel), List.mem_of_getElem? (i := 637) (by decide +kernel)⟩
theorem lw_p25 : lw_okq (⟨"ProjectionRoomModel", "hasPlate", "(II)Z"⟩, 18) := ⟨⟨by decide +kernel, by decide +kernel⟩, List.mem_of_getElem? (i := 456) (by decide +kernel), List.mem_of_getElem? (i := 640) (by decide +kernel), List.mem_of_getElem? (i := 641) (by decide +kernel)⟩
theorem lw_p26 : lw_okq (⟨"ProjectionRoomModel", "repairs", "(II)I"⟩, 18) := ⟨⟨by decide +kernel, by decide +kernel⟩, List.mem_of_getElem? (i := 456) (by decide +kernel), List.mem_of_getElem? (i := 644) (by decide +kernel), List.mem_of_getElem? (i := 645) (by decide +kernel)⟩
theorem lw_p27 : lw_okq (⟨"ProjectionRoomModel", "setsAside", "()V"⟩, 18) := ⟨⟨by decide +kernel, by decide +kernel⟩, List.mem_of_getElem? (i := 456) (by decide +kernel), List.mem_of_getElem? (i := 684) (by decide +kernel), List.mem_of_getElem? (i := 685) (by decide +kernel)⟩
theorem lw_p28 : lw_okq (⟨"ProjectionRoomModel", "takesBack", "()V"⟩, 18) := ⟨⟨by decide +kernel, by decide +kernel⟩, List.mem_of_getElem? (i := 456) (by decide +kernel), List.mem_of_getElem? (i := 688) (by decide +kernel), List.mem_of_getElem? (i := 689) (by decide +kernel)⟩
def lw_privs_2 : List (MethodName × Nat) := [(⟨"ProjectionRoomModel", "isMachine", "(I)Z"⟩, 18), (⟨"ProjectionRoomModel", "isShow", "(I)Z"⟩, 18), (⟨"ProjectionRoomModel", "goes", "(I)V"⟩, 18), (⟨"ProjectionRoomModel", "isReel", "(II)Z"⟩, 18), (⟨"ProjectionRoomModel", "plans", "()I"⟩, 18), (⟨"ProjectionRoomModel", "plansShow", "(I)V"⟩, 18), (⟨"ProjectionRoomModel", "runs", "(III)I"⟩, 18), (⟨"ProjectionRoomModel", "arrives", "(II)I"⟩, 18), (⟨"ProjectionRoomModel", "startBy", "(IIII)I"⟩, 18), (⟨"ProjectionRoomModel", "hasPlate", "(II)Z"⟩, 18), (⟨"ProjectionRoomModel", "repairs", "(II)I"⟩, 18), (⟨"ProjectionRoomModel", "setsAside", "()V"⟩, 18), (⟨"ProjectionRoomModel", "takesBack", "()V"⟩, 18)]
theorem lw_r2 : ∀ q ∈ lw_privs_2, lw_okq q := List.forall_mem_cons.mpr ⟨lw_p16, List.forall_mem_cons.mpr ⟨lw_p17, List.forall_mem_cons.mpr ⟨lw_p18, List.forall_mem_cons.mpr ⟨lw_p19, List.forall_mem_cons.mpr ⟨lw_p20, List.forall_mem_cons.mpr ⟨lw_p21, List.forall_mem_cons.mpr ⟨lw_p22, List.forall_mem_cons.mpr ⟨lw_p23, List.forall_mem_cons.mpr ⟨lw_p24, List.forall_mem_cons.mpr ⟨lw_p25, List.forall_mem_cons.mpr ⟨lw_p26, List.forall_mem_cons.mpr ⟨lw_p27, List.forall_mem_cons.mpr ⟨lw_p28, fun _ h => absurd h List.not_mem_nil⟩⟩⟩⟩⟩⟩⟩⟩⟩⟩⟩⟩⟩
def lw_privs : List (MethodName × Nat) := lw_privs_1 ++ (lw_privs_2)
def lw_tbl : List Cond := k2_sels lw_privs ++ tables_1
theorem lw_privs_ok : ∀ q ∈ lw_privs, lw_okq q := by
  show ∀ q ∈ lw_privs_1 ++ (lw_privs_2), lw_okq q
  exact List.forall_mem_append.mpr ⟨lw_r1, lw_r2⟩
end
section
/-! ===== BEGIN words of one list among another's, by their places ===== -/
theorem goodIn_r {big : List Cond} (ws : List Cond) (ps : List Nat) (hp : ws = ps.filterMap (fun i => big[i]?)) (h : ws.all goodWord = true) : GoodIn big ws := by
  intro w hw
  have h1 := List.all_eq_true.mp h w hw
  rw [hp] at hw
  obtain ⟨i, -, hi⟩ := List.mem_filterMap.mp hw
  have hm : w ∈ big := by first | exact List.mem_of_getElem? hi | exact List.getElem?_mem hi
  exact ⟨hm, good_of_word h1⟩
theorem goodIn_app {big a b : List Cond} (ha : GoodIn big a) (hb : GoodIn big b) : GoodIn big (a ++ b) := fun w h => (List.mem_append.mp h).elim (ha w) (hb w)
theorem goodIn_ca {big a b : List Cond} {c : Cond} (ha : GoodIn big (c :: a)) (hb : GoodIn big b) : GoodIn big (c :: (a ++ b)) := fun w h => (List.mem_cons.mp h).elim (fun e => ha w (List.mem_cons.mpr (Or.inl e))) (fun h => (List.mem_append.mp h).elim (fun h => ha w (List.mem_cons.mpr (Or.inr h))) (hb w))
theorem goodIn_sub {big ws : List Cond} (hm : ∀ w ∈ ws, w ∈ big) (h : ws.all goodWord = true) : GoodIn big ws := fun w hw => ⟨hm w hw, good_of_word (List.all_eq_true.mp h w hw)⟩
/-! ===== END ===== -/

/-! ===== BEGIN printed: names, fields, word lists, decode rows ===== -/
def RX0 : String := "ProjectionRoom$Day"
def TX0 : u_T := fun k => match k with
  | 0 => ("ProjectionRoom$Day", "reelCounts", "[I", true)
  | 1 => ("ProjectionRoom$Day", "lengths", "[I", true)
  | 2 => ("ProjectionRoom$Day", "aspects", "[I", true)
  | 3 => ("ProjectionRoom$Day", "homes", "[I", true)
  | 4 => ("ProjectionRoom$Day", "machineCount", "I", false)
  | 5 => ("ProjectionRoom$Day", "machineHouses", "[I", true)
  | 6 => ("ProjectionRoom$Day", "carrierCount", "I", false)
  | 7 => ("ProjectionRoom$Day", "minutes", "[I", true)
  | 8 => ("ProjectionRoom$Day", "showCount", "I", false)
  | 9 => ("ProjectionRoom$Day", "showHouses", "[I", true)
  | 10 => ("ProjectionRoom$Day", "showFilms", "[I", true)
  | 11 => ("ProjectionRoom$Day", "showStarts", "[I", true)
  | 12 => ("ProjectionRoom$Day", "breakCount", "I", false)
  | 13 => ("ProjectionRoom$Day", "breakShows", "[I", true)
  | 14 => ("ProjectionRoom$Day", "breakReels", "[I", true)
  | _ => ("ProjectionRoom$Day", "repairs", "[I", true)
def tyX0 : Nat → FieldType := fun k => match k with
  | 0 => .array .int
  | 1 => .array .int
  | 2 => .array .int
  | 3 => .array .int
  | 4 => .int
  | 5 => .array .int
  | 6 => .int
  | 7 => .array .int
  | 8 => .int
  | 9 => .array .int
  | 10 => .array .int
  | 11 => .array .int
  | 12 => .int
  | 13 => .array .int
  | 14 => .array .int
  | _ => .array .int
abbrev wsX00 : List Cond := u_ws RX0 TX0 16
theorem nmX0 : ∀ a, a < 16 → ∀ b, b < 16 → a ≠ b → (TX0 a).2.1 ≠ (TX0 b).2.1 := by decide +kernel
theorem tyX0_ok : ∀ k, k < 16 → parseFieldDescriptor (TX0 k).2.2.1 = some (tyX0 k) := by decide +kernel
abbrev cX0_init : ByteArray := prog_2_method_1_code
def yX0_init : MethodName := ⟨RX0, "<init>", "()V"⟩
abbrev cX0_copyFrom : ByteArray := prog_2_method_2_code
def yX0_copyFrom : MethodName := ⟨RX0, "copyFrom", "(LProjectionRoom$Day;)V"⟩
abbrev cX0_appendReel : ByteArray := prog_2_method_3_code
def yX0_appendReel : MethodName := ⟨RX0, "appendReel", "(III)V"⟩
abbrev cX0_sumOfLengths : ByteArray := prog_2_method_4_code
def yX0_sumOfLengths : MethodName := ⟨RX0, "sumOfLengths", "(I)I"⟩
abbrev cX0_isShown : ByteArray := prog_2_method_5_code
def yX0_isShown : MethodName := ⟨RX0, "isShown", "(I)Z"⟩
abbrev cX0_setHomes : ByteArray := prog_2_method_6_code
def yX0_setHomes : MethodName := ⟨RX0, "setHomes", "(I)V"⟩
abbrev cX0_appendMachine : ByteArray := prog_2_method_7_code
def yX0_appendMachine : MethodName := ⟨RX0, "appendMachine", "(I)V"⟩
abbrev cX0_dropMachine : ByteArray := prog_2_method_8_code
def yX0_dropMachine : MethodName := ⟨RX0, "dropMachine", "(I)V"⟩
abbrev cX0_firstMachineIn : ByteArray := prog_2_method_9_code
def yX0_firstMachineIn : MethodName := ⟨RX0, "firstMachineIn", "(I)I"⟩
abbrev cX0_appendShow : ByteArray := prog_2_method_10_code
def yX0_appendShow : MethodName := ⟨RX0, "appendShow", "(III)V"⟩
abbrev cX0_dropShow : ByteArray := prog_2_method_11_code
def yX0_dropShow : MethodName := ⟨RX0, "dropShow", "(I)V"⟩
abbrev cX0_dropBreaksOf : ByteArray := prog_2_method_12_code
def yX0_dropBreaksOf : MethodName := ⟨RX0, "dropBreaksOf", "(I)V"⟩
abbrev cX0_appendBreak : ByteArray := prog_2_method_13_code
def yX0_appendBreak : MethodName := ⟨RX0, "appendBreak", "(III)V"⟩
abbrev cX0_repairTime : ByteArray := prog_2_method_14_code
def yX0_repairTime : MethodName := ⟨RX0, "repairTime", "(II)I"⟩
def RX1 : String := "ProjectionRoom$History"
def TX1 : u_T := fun k => match k with
  | 0 => ("ProjectionRoom$History", "days", "[LProjectionRoom$Day;", true)
  | _ => ("ProjectionRoom$History", "size", "I", false)
def tyX1 : Nat → FieldType := fun k => match k with
  | 0 => .array (.object "ProjectionRoom$Day")
  | _ => .int
abbrev wsX10 : List Cond := u_ws RX1 TX1 2
theorem nmX1 : ∀ a, a < 2 → ∀ b, b < 2 → a ≠ b → (TX1 a).2.1 ≠ (TX1 b).2.1 := by decide +kernel
theorem tyX1_ok : ∀ k, k < 2 → parseFieldDescriptor (TX1 k).2.2.1 = some (tyX1 k) := by decide +kernel
abbrev cX1_init : ByteArray := prog_3_method_1_code
def yX1_init : MethodName := ⟨RX1, "<init>", "()V"⟩
abbrev cX1_remember : ByteArray := prog_3_method_2_code
def yX1_remember : MethodName := ⟨RX1, "remember", "(LProjectionRoom$Day;)V"⟩
abbrev cX1_forgetOldest : ByteArray := prog_3_method_3_code
def yX1_forgetOldest : MethodName := ⟨RX1, "forgetOldest", "()V"⟩
abbrev cX1_restore : ByteArray := prog_3_method_4_code
def yX1_restore : MethodName := ⟨RX1, "restore", "(LProjectionRoom$Day;)V"⟩
def RX2 : String := "ProjectionRoom$Plan"
def TX2 : u_T := fun k => match k with
  | 0 => ("ProjectionRoom$Plan", "takesPlace", "[Z", true)
  | 1 => ("ProjectionRoom$Plan", "starts", "[I", true)
  | 2 => ("ProjectionRoom$Plan", "machines", "[I", true)
  | 3 => ("ProjectionRoom$Plan", "ends", "[I", true)
  | 4 => ("ProjectionRoom$Plan", "delays", "[I", true)
  | 5 => ("ProjectionRoom$Plan", "gaps", "[I", true)
  | 6 => ("ProjectionRoom$Plan", "runTimes", "[I", true)
  | 7 => ("ProjectionRoom$Plan", "carried", "I", false)
  | 8 => ("ProjectionRoom$Plan", "newPlates", "I", false)
  | 9 => ("ProjectionRoom$Plan", "lost", "I", false)
  | 10 => ("ProjectionRoom$Plan", "order", "[I", true)
  | 11 => ("ProjectionRoom$Plan", "reelHouses", "[I", true)
  | 12 => ("ProjectionRoom$Plan", "reelReady", "[I", true)
  | 13 => ("ProjectionRoom$Plan", "carrierFree", "[I", true)
  | 14 => ("ProjectionRoom$Plan", "machineFree", "[I", true)
  | _ => ("ProjectionRoom$Plan", "machineAspects", "[I", true)
def tyX2 : Nat → FieldType := fun k => match k with
  | 0 => .array .boolean
  | 1 => .array .int
  | 2 => .array .int
  | 3 => .array .int
  | 4 => .array .int
  | 5 => .array .int
  | 6 => .array .int
  | 7 => .int
  | 8 => .int
  | 9 => .int
  | 10 => .array .int
  | 11 => .array .int
  | 12 => .array .int
  | 13 => .array .int
  | 14 => .array .int
  | _ => .array .int
abbrev wsX20 : List Cond := u_ws RX2 TX2 16
theorem nmX2 : ∀ a, a < 16 → ∀ b, b < 16 → a ≠ b → (TX2 a).2.1 ≠ (TX2 b).2.1 := by decide +kernel
theorem tyX2_ok : ∀ k, k < 16 → parseFieldDescriptor (TX2 k).2.2.1 = some (tyX2 k) := by decide +kernel
abbrev cX2_init : ByteArray := prog_4_method_1_code
def yX2_init : MethodName := ⟨RX2, "<init>", "()V"⟩
abbrev cX2_make : ByteArray := prog_4_method_2_code
def yX2_make : MethodName := ⟨RX2, "make", "(LProjectionRoom$Day;)V"⟩
abbrev cX2_lossWith : ByteArray := prog_4_method_3_code
def yX2_lossWith : MethodName := ⟨RX2, "lossWith", "(LProjectionRoom$Day;)I"⟩
abbrev cX2_isSmooth : ByteArray := prog_4_method_4_code
def yX2_isSmooth : MethodName := ⟨RX2, "isSmooth", "(LProjectionRoom$Day;)Z"⟩
abbrev cX2_open : ByteArray := prog_4_method_5_code
def yX2_open : MethodName := ⟨RX2, "open", "(LProjectionRoom$Day;)V"⟩
abbrev cX2_bringHome : ByteArray := prog_4_method_6_code
def yX2_bringHome : MethodName := ⟨RX2, "bringHome", "(II)V"⟩
abbrev cX2_sortShows : ByteArray := prog_4_method_7_code
def yX2_sortShows : MethodName := ⟨RX2, "sortShows", "(LProjectionRoom$Day;)V"⟩
abbrev cX2_planShow : ByteArray := prog_4_method_8_code
def yX2_planShow : MethodName := ⟨RX2, "planShow", "(LProjectionRoom$Day;I)V"⟩
abbrev cX2_planReel : ByteArray := prog_4_method_9_code
def yX2_planReel : MethodName := ⟨RX2, "planReel", "(LProjectionRoom$Day;IIII)I"⟩
abbrev cX2_bring : ByteArray := prog_4_method_10_code
def yX2_bring : MethodName := ⟨RX2, "bring", "(LProjectionRoom$Day;II)I"⟩
abbrev cX2_soonestCarrier : ByteArray := prog_4_method_11_code
def yX2_soonestCarrier : MethodName := ⟨RX2, "soonestCarrier", "(LProjectionRoom$Day;I)I"⟩
abbrev cX2_soonestMachine : ByteArray := prog_4_method_12_code
def yX2_soonestMachine : MethodName := ⟨RX2, "soonestMachine", "(LProjectionRoom$Day;IIII)I"⟩
abbrev cX2_startOn : ByteArray := prog_4_method_13_code
def yX2_startOn : MethodName := ⟨RX2, "startOn", "(LProjectionRoom$Day;IIII)I"⟩
abbrev cX2_needsPlate : ByteArray := prog_4_method_14_code
def yX2_needsPlate : MethodName := ⟨RX2, "needsPlate", "(II)Z"⟩
def RX3 : String := "ProjectionRoom"
def TX3 : u_T := fun k => match k with
  | 0 => ("ProjectionRoom", "day", "LProjectionRoom$Day;", true)
  | 1 => ("ProjectionRoom", "trial", "LProjectionRoom$Day;", true)
  | 2 => ("ProjectionRoom", "history", "LProjectionRoom$History;", true)
  | _ => ("ProjectionRoom", "plan", "LProjectionRoom$Plan;", true)
def tyX3 : Nat → FieldType := fun k => match k with
  | 0 => .object "ProjectionRoom$Day"
  | 1 => .object "ProjectionRoom$Day"
  | 2 => .object "ProjectionRoom$History"
  | _ => .object "ProjectionRoom$Plan"
abbrev wsX30 : List Cond := u_ws RX3 TX3 4
theorem nmX3 : ∀ a, a < 4 → ∀ b, b < 4 → a ≠ b → (TX3 a).2.1 ≠ (TX3 b).2.1 := by decide +kernel
theorem tyX3_ok : ∀ k, k < 4 → parseFieldDescriptor (TX3 k).2.2.1 = some (tyX3 k) := by decide +kernel
abbrev cX3_init : ByteArray := prog_1_method_1_code
def yX3_init : MethodName := ⟨RX3, "<init>", "()V"⟩
abbrev cX3_addReel : ByteArray := prog_1_method_2_code
def yX3_addReel : MethodName := ⟨RX3, "addReel", "(III)I"⟩
abbrev cX3_removeReels : ByteArray := prog_1_method_3_code
def yX3_removeReels : MethodName := ⟨RX3, "removeReels", "(I)I"⟩
abbrev cX3_setHome : ByteArray := prog_1_method_4_code
def yX3_setHome : MethodName := ⟨RX3, "setHome", "(II)I"⟩
abbrev cX3_filmLength : ByteArray := prog_1_method_5_code
def yX3_filmLength : MethodName := ⟨RX3, "filmLength", "(I)I"⟩
abbrev cX3_addMachine : ByteArray := prog_1_method_6_code
def yX3_addMachine : MethodName := ⟨RX3, "addMachine", "(I)I"⟩
abbrev cX3_removeMachine : ByteArray := prog_1_method_7_code
def yX3_removeMachine : MethodName := ⟨RX3, "removeMachine", "(I)I"⟩
abbrev cX3_houseOf : ByteArray := prog_1_method_8_code
def yX3_houseOf : MethodName := ⟨RX3, "houseOf", "(I)I"⟩
abbrev cX3_setCarriers : ByteArray := prog_1_method_9_code
def yX3_setCarriers : MethodName := ⟨RX3, "setCarriers", "(I)I"⟩
abbrev cX3_setDuration : ByteArray := prog_1_method_10_code
def yX3_setDuration : MethodName := ⟨RX3, "setDuration", "(II)I"⟩
abbrev cX3_addShow : ByteArray := prog_1_method_11_code
def yX3_addShow : MethodName := ⟨RX3, "addShow", "(III)I"⟩
abbrev cX3_removeShow : ByteArray := prog_1_method_12_code
def yX3_removeShow : MethodName := ⟨RX3, "removeShow", "(I)I"⟩
abbrev cX3_moveShow : ByteArray := prog_1_method_13_code
def yX3_moveShow : MethodName := ⟨RX3, "moveShow", "(II)I"⟩
abbrev cX3_addBreak : ByteArray := prog_1_method_14_code
def yX3_addBreak : MethodName := ⟨RX3, "addBreak", "(III)I"⟩
abbrev cX3_clearBreaks : ByteArray := prog_1_method_15_code
def yX3_clearBreaks : MethodName := ⟨RX3, "clearBreaks", "()I"⟩
abbrev cX3_startOf : ByteArray := prog_1_method_16_code
def yX3_startOf : MethodName := ⟨RX3, "startOf", "(II)I"⟩
abbrev cX3_machineOf : ByteArray := prog_1_method_17_code
def yX3_machineOf : MethodName := ⟨RX3, "machineOf", "(II)I"⟩
abbrev cX3_endOf : ByteArray := prog_1_method_18_code
def yX3_endOf : MethodName := ⟨RX3, "endOf", "(I)I"⟩
abbrev cX3_delayOf : ByteArray := prog_1_method_19_code
def yX3_delayOf : MethodName := ⟨RX3, "delayOf", "(I)I"⟩
abbrev cX3_gapOf : ByteArray := prog_1_method_20_code
def yX3_gapOf : MethodName := ⟨RX3, "gapOf", "(I)I"⟩
abbrev cX3_loss : ByteArray := prog_1_method_21_code
def yX3_loss : MethodName := ⟨RX3, "loss", "()I"⟩
abbrev cX3_carriedReels : ByteArray := prog_1_method_22_code
def yX3_carriedReels : MethodName := ⟨RX3, "carriedReels", "()I"⟩
abbrev cX3_plateChanges : ByteArray := prog_1_method_23_code
def yX3_plateChanges : MethodName := ⟨RX3, "plateChanges", "()I"⟩
abbrev cX3_machineTime : ByteArray := prog_1_method_24_code
def yX3_machineTime : MethodName := ⟨RX3, "machineTime", "(I)I"⟩
abbrev cX3_leastShift : ByteArray := prog_1_method_25_code
def yX3_leastShift : MethodName := ⟨RX3, "leastShift", "(I)I"⟩
abbrev cX3_removalGain : ByteArray := prog_1_method_26_code
def yX3_removalGain : MethodName := ⟨RX3, "removalGain", "(I)I"⟩
abbrev cX3_bestHomes : ByteArray := prog_1_method_27_code
def yX3_bestHomes : MethodName := ⟨RX3, "bestHomes", "()I"⟩
abbrev cX3_missingMachines : ByteArray := prog_1_method_28_code
def yX3_missingMachines : MethodName := ⟨RX3, "missingMachines", "(I)I"⟩
abbrev cX3_undo : ByteArray := prog_1_method_29_code
def yX3_undo : MethodName := ⟨RX3, "undo", "()I"⟩
abbrev cX3_isIn : ByteArray := prog_1_method_30_code
def yX3_isIn : MethodName := ⟨RX3, "isIn", "(III)Z"⟩
abbrev cX3_isMachine : ByteArray := prog_1_method_31_code
def yX3_isMachine : MethodName := ⟨RX3, "isMachine", "(I)Z"⟩
abbrev cX3_isShow : ByteArray := prog_1_method_32_code
def yX3_isShow : MethodName := ⟨RX3, "isShow", "(I)Z"⟩
abbrev cX3_isReelOfShow : ByteArray := prog_1_method_33_code
def yX3_isReelOfShow : MethodName := ⟨RX3, "isReelOfShow", "(II)Z"⟩
abbrev cX3_reelPlace : ByteArray := prog_1_method_34_code
def yX3_reelPlace : MethodName := ⟨RX3, "reelPlace", "(II)I"⟩
def RX4 : String := "ProjectionRoomModel"
def TX4 : u_T := fun k => match k with
  | 0 => ("ProjectionRoomModel", "now", "[I", true)
  | 1 => ("ProjectionRoomModel", "before", "[I", true)
  | 2 => ("ProjectionRoomModel", "undoMany", "I", false)
  | 3 => ("ProjectionRoomModel", "at", "[I", true)
  | 4 => ("ProjectionRoomModel", "ready", "[I", true)
  | 5 => ("ProjectionRoomModel", "carrierFree", "[I", true)
  | 6 => ("ProjectionRoomModel", "machineFree", "[I", true)
  | 7 => ("ProjectionRoomModel", "lastAspect", "[I", true)
  | 8 => ("ProjectionRoomModel", "ran", "[I", true)
  | 9 => ("ProjectionRoomModel", "starts", "[I", true)
  | 10 => ("ProjectionRoomModel", "machines", "[I", true)
  | 11 => ("ProjectionRoomModel", "isOn", "[Z", true)
  | 12 => ("ProjectionRoomModel", "ends", "[I", true)
  | 13 => ("ProjectionRoomModel", "delays", "[I", true)
  | 14 => ("ProjectionRoomModel", "gaps", "[I", true)
  | 15 => ("ProjectionRoomModel", "carried", "I", false)
  | 16 => ("ProjectionRoomModel", "plates", "I", false)
  | _ => ("ProjectionRoomModel", "aside", "[I", true)
def tyX4 : Nat → FieldType := fun k => match k with
  | 0 => .array .int
  | 1 => .array .int
  | 2 => .int
  | 3 => .array .int
  | 4 => .array .int
  | 5 => .array .int
  | 6 => .array .int
  | 7 => .array .int
  | 8 => .array .int
  | 9 => .array .int
  | 10 => .array .int
  | 11 => .array .boolean
  | 12 => .array .int
  | 13 => .array .int
  | 14 => .array .int
  | 15 => .int
  | 16 => .int
  | _ => .array .int
abbrev wsX40 : List Cond := u_ws RX4 TX4 18
theorem nmX4 : ∀ a, a < 18 → ∀ b, b < 18 → a ≠ b → (TX4 a).2.1 ≠ (TX4 b).2.1 := by decide +kernel
theorem tyX4_ok : ∀ k, k < 18 → parseFieldDescriptor (TX4 k).2.2.1 = some (tyX4 k) := by decide +kernel
abbrev cX4_init : ByteArray := prog_6_method_1_code
def yX4_init : MethodName := ⟨RX4, "<init>", "()V"⟩
abbrev cX4_in : ByteArray := prog_6_method_2_code
def yX4_in : MethodName := ⟨RX4, "in", "(JJJ)Z"⟩
abbrev cX4_keeps : ByteArray := prog_6_method_3_code
def yX4_keeps : MethodName := ⟨RX4, "keeps", "()V"⟩
abbrev cX4_undo : ByteArray := prog_6_method_4_code
def yX4_undo : MethodName := ⟨RX4, "undo", "()I"⟩
abbrev cX4_isFilm : ByteArray := prog_6_method_5_code
def yX4_isFilm : MethodName := ⟨RX4, "isFilm", "(I)Z"⟩
abbrev cX4_isHouse : ByteArray := prog_6_method_6_code
def yX4_isHouse : MethodName := ⟨RX4, "isHouse", "(I)Z"⟩
abbrev cX4_isMachine : ByteArray := prog_6_method_7_code
def yX4_isMachine : MethodName := ⟨RX4, "isMachine", "(I)Z"⟩
abbrev cX4_isShow : ByteArray := prog_6_method_8_code
def yX4_isShow : MethodName := ⟨RX4, "isShow", "(I)Z"⟩
abbrev cX4_isStart : ByteArray := prog_6_method_9_code
def yX4_isStart : MethodName := ⟨RX4, "isStart", "(I)Z"⟩
abbrev cX4_addReel : ByteArray := prog_6_method_10_code
def yX4_addReel : MethodName := ⟨RX4, "addReel", "(III)I"⟩
abbrev cX4_removeReels : ByteArray := prog_6_method_11_code
def yX4_removeReels : MethodName := ⟨RX4, "removeReels", "(I)I"⟩
abbrev cX4_setHome : ByteArray := prog_6_method_12_code
def yX4_setHome : MethodName := ⟨RX4, "setHome", "(II)I"⟩
abbrev cX4_filmLength : ByteArray := prog_6_method_13_code
def yX4_filmLength : MethodName := ⟨RX4, "filmLength", "(I)I"⟩
abbrev cX4_addMachine : ByteArray := prog_6_method_14_code
def yX4_addMachine : MethodName := ⟨RX4, "addMachine", "(I)I"⟩
abbrev cX4_removeMachine : ByteArray := prog_6_method_15_code
def yX4_removeMachine : MethodName := ⟨RX4, "removeMachine", "(I)I"⟩
abbrev cX4_houseOf : ByteArray := prog_6_method_16_code
def yX4_houseOf : MethodName := ⟨RX4, "houseOf", "(I)I"⟩
abbrev cX4_setCarriers : ByteArray := prog_6_method_17_code
def yX4_setCarriers : MethodName := ⟨RX4, "setCarriers", "(I)I"⟩
abbrev cX4_setDuration : ByteArray := prog_6_method_18_code
def yX4_setDuration : MethodName := ⟨RX4, "setDuration", "(II)I"⟩
abbrev cX4_addShow : ByteArray := prog_6_method_19_code
def yX4_addShow : MethodName := ⟨RX4, "addShow", "(III)I"⟩
abbrev cX4_goes : ByteArray := prog_6_method_20_code
def yX4_goes : MethodName := ⟨RX4, "goes", "(I)V"⟩
abbrev cX4_removeShow : ByteArray := prog_6_method_21_code
def yX4_removeShow : MethodName := ⟨RX4, "removeShow", "(I)I"⟩
abbrev cX4_moveShow : ByteArray := prog_6_method_22_code
def yX4_moveShow : MethodName := ⟨RX4, "moveShow", "(II)I"⟩
abbrev cX4_isReel : ByteArray := prog_6_method_23_code
def yX4_isReel : MethodName := ⟨RX4, "isReel", "(II)Z"⟩
abbrev cX4_addBreak : ByteArray := prog_6_method_24_code
def yX4_addBreak : MethodName := ⟨RX4, "addBreak", "(III)I"⟩
abbrev cX4_clearBreaks : ByteArray := prog_6_method_25_code
def yX4_clearBreaks : MethodName := ⟨RX4, "clearBreaks", "()I"⟩
abbrev cX4_arrives : ByteArray := prog_6_method_26_code
def yX4_arrives : MethodName := ⟨RX4, "arrives", "(II)I"⟩
abbrev cX4_hasPlate : ByteArray := prog_6_method_27_code
def yX4_hasPlate : MethodName := ⟨RX4, "hasPlate", "(II)Z"⟩
abbrev cX4_startBy : ByteArray := prog_6_method_28_code
def yX4_startBy : MethodName := ⟨RX4, "startBy", "(IIII)I"⟩
abbrev cX4_repairs : ByteArray := prog_6_method_29_code
def yX4_repairs : MethodName := ⟨RX4, "repairs", "(II)I"⟩
abbrev cX4_runs : ByteArray := prog_6_method_30_code
def yX4_runs : MethodName := ⟨RX4, "runs", "(III)I"⟩
abbrev cX4_plansShow : ByteArray := prog_6_method_31_code
def yX4_plansShow : MethodName := ⟨RX4, "plansShow", "(I)V"⟩
abbrev cX4_plans : ByteArray := prog_6_method_32_code
def yX4_plans : MethodName := ⟨RX4, "plans", "()I"⟩
abbrev cX4_startOf : ByteArray := prog_6_method_33_code
def yX4_startOf : MethodName := ⟨RX4, "startOf", "(II)I"⟩
abbrev cX4_machineOf : ByteArray := prog_6_method_34_code
def yX4_machineOf : MethodName := ⟨RX4, "machineOf", "(II)I"⟩
abbrev cX4_endOf : ByteArray := prog_6_method_35_code
def yX4_endOf : MethodName := ⟨RX4, "endOf", "(I)I"⟩
abbrev cX4_delayOf : ByteArray := prog_6_method_36_code
def yX4_delayOf : MethodName := ⟨RX4, "delayOf", "(I)I"⟩
abbrev cX4_gapOf : ByteArray := prog_6_method_37_code
def yX4_gapOf : MethodName := ⟨RX4, "gapOf", "(I)I"⟩
abbrev cX4_loss : ByteArray := prog_6_method_38_code
def yX4_loss : MethodName := ⟨RX4, "loss", "()I"⟩
abbrev cX4_carriedReels : ByteArray := prog_6_method_39_code
def yX4_carriedReels : MethodName := ⟨RX4, "carriedReels", "()I"⟩
abbrev cX4_plateChanges : ByteArray := prog_6_method_40_code
def yX4_plateChanges : MethodName := ⟨RX4, "plateChanges", "()I"⟩
abbrev cX4_machineTime : ByteArray := prog_6_method_41_code
def yX4_machineTime : MethodName := ⟨RX4, "machineTime", "(I)I"⟩
abbrev cX4_setsAside : ByteArray := prog_6_method_42_code
def yX4_setsAside : MethodName := ⟨RX4, "setsAside", "()V"⟩
abbrev cX4_takesBack : ByteArray := prog_6_method_43_code
def yX4_takesBack : MethodName := ⟨RX4, "takesBack", "()V"⟩
abbrev cX4_leastShift : ByteArray := prog_6_method_44_code
def yX4_leastShift : MethodName := ⟨RX4, "leastShift", "(I)I"⟩
abbrev cX4_removalGain : ByteArray := prog_6_method_45_code
def yX4_removalGain : MethodName := ⟨RX4, "removalGain", "(I)I"⟩
abbrev cX4_bestHomes : ByteArray := prog_6_method_46_code
def yX4_bestHomes : MethodName := ⟨RX4, "bestHomes", "()I"⟩
abbrev cX4_missingMachines : ByteArray := prog_6_method_47_code
def yX4_missingMachines : MethodName := ⟨RX4, "missingMachines", "(I)I"⟩
def RJ9 : String := "java/lang/Math"
def TJ9 : u_T := fun k => match k with
  | _ => ("", "", "", false)
def tyJ9 : Nat → FieldType := fun k => match k with
  | _ => .int
abbrev wsJ90 : List Cond := u_ws RJ9 TJ9 0
theorem nmJ9 : ∀ a, a < 0 → ∀ b, b < 0 → a ≠ b → (TJ9 a).2.1 ≠ (TJ9 b).2.1 := by decide +kernel
theorem tyJ9_ok : ∀ k, k < 0 → parseFieldDescriptor (TJ9 k).2.2.1 = some (tyJ9 k) := by decide +kernel
abbrev cJ9_max_7cf53 : ByteArray := prog_7_method_65_code
def yJ9_max_7cf53 : MethodName := ⟨RJ9, "max", "(II)I"⟩
abbrev cJ9_min_7cf53 : ByteArray := prog_7_method_69_code
def yJ9_min_7cf53 : MethodName := ⟨RJ9, "min", "(II)I"⟩
def RJ10 : String := "java/lang/System"
def TJ10 : u_T := fun k => match k with
  | _ => ("", "", "", false)
def tyJ10 : Nat → FieldType := fun k => match k with
  | _ => .int
abbrev wsJ100 : List Cond := u_ws RJ10 TJ10 0
theorem nmJ10 : ∀ a, a < 0 → ∀ b, b < 0 → a ≠ b → (TJ10 a).2.1 ≠ (TJ10 b).2.1 := by decide +kernel
theorem tyJ10_ok : ∀ k, k < 0 → parseFieldDescriptor (TJ10 k).2.2.1 = some (tyJ10 k) := by decide +kernel
def RL : String := "ProjectionRoomLaw"
abbrev cL_law : ByteArray := code
def yL_law : MethodName := ⟨RL, "law", "([I)Z"⟩
/-! ===== END printed ===== -/
end
section
/-! EVERY CONTRACT'S WORDS: all words of the tables that last -/
def wA : List Cond := lw_tbl.filter goodWord
theorem wa_in {w : Cond} (h : w ∈ wA) : w ∈ lw_tbl := (List.mem_filter.mp h).1
theorem wa0 {w : Cond} (h : w ∈ k2_sels lw_privs) (g : goodWord w = true) : w ∈ wA := List.mem_filter.mpr ⟨List.mem_append_left _ h, g⟩
theorem wa1 {w : Cond} (h : w ∈ tables_1_1) (g : goodWord w = true) : w ∈ wA := List.mem_filter.mpr ⟨List.mem_append_right _ (List.mem_append_left _ h), g⟩
theorem wa2 {w : Cond} (h : w ∈ tables_1_2) (g : goodWord w = true) : w ∈ wA := List.mem_filter.mpr ⟨List.mem_append_right _ (List.mem_append_right _ (List.mem_append_left _ h)), g⟩
theorem wa3 {w : Cond} (h : w ∈ tables_1_3) (g : goodWord w = true) : w ∈ wA := List.mem_filter.mpr ⟨List.mem_append_right _ (List.mem_append_right _ (List.mem_append_right _ h)), g⟩
theorem goodAll : wA.all goodWord = true := List.all_eq_true.mpr fun _ h => (List.mem_filter.mp h).2
theorem inlX0 : ∀ w ∈ wsX00, w ∈ wA := fun w h => List.mem_filter.mpr ⟨(by decide +kernel : ∀ w ∈ wsX00, w ∈ lw_tbl) w h, (by decide +kernel : ∀ w ∈ wsX00, goodWord w = true) w h⟩
theorem inlX1 : ∀ w ∈ wsX10, w ∈ wA := fun w h => List.mem_filter.mpr ⟨(by decide +kernel : ∀ w ∈ wsX10, w ∈ lw_tbl) w h, (by decide +kernel : ∀ w ∈ wsX10, goodWord w = true) w h⟩
theorem inlX2 : ∀ w ∈ wsX20, w ∈ wA := fun w h => List.mem_filter.mpr ⟨(by decide +kernel : ∀ w ∈ wsX20, w ∈ lw_tbl) w h, (by decide +kernel : ∀ w ∈ wsX20, goodWord w = true) w h⟩
theorem inlX3 : ∀ w ∈ wsX30, w ∈ wA := fun w h => List.mem_filter.mpr ⟨(by decide +kernel : ∀ w ∈ wsX30, w ∈ lw_tbl) w h, (by decide +kernel : ∀ w ∈ wsX30, goodWord w = true) w h⟩
theorem inlX4 : ∀ w ∈ wsX40, w ∈ wA := fun w h => List.mem_filter.mpr ⟨(by decide +kernel : ∀ w ∈ wsX40, w ∈ lw_tbl) w h, (by decide +kernel : ∀ w ∈ wsX40, goodWord w = true) w h⟩
/-! THE WORLD: eleven objects behind the constructors: 0 the day, 1 the trial, 2 to 6 the history's days, 7 the history, 8 the plan, 9 the room, 10 the model. S o k i: what cell i of field k of object o holds (a number: cell 0). -/
abbrev St : Type := Nat → Nat → Nat → Int32
def kd (o : Nat) : Nat := if o < 7 then 0 else o - 6
/-- a field's kind: 0 a number, 1 ints, 2 booleans, 3 Days, t + 4: the object t -/
def ftL : List (List Nat) := [[1, 1, 1, 1, 0, 1, 0, 1, 0, 1, 1, 1, 0, 1, 1, 1], [3, 0], [2, 1, 1, 1, 1, 1, 1, 0, 0, 0, 1, 1, 1, 1, 1, 1], [4, 5, 11, 12], [1, 1, 0, 1, 1, 1, 1, 1, 1, 1, 1, 2, 1, 1, 1, 0, 0, 1]]
def flL : List (List Nat) := [[4, 24, 24, 4, 0, 5, 0, 4, 0, 6, 6, 6, 0, 8, 8, 8], [5, 0], [6, 36, 36, 6, 6, 6, 5, 0, 0, 0, 6, 24, 24, 3, 5, 5], [0, 0, 0, 0], [111, 555, 0, 24, 24, 3, 5, 5, 5, 36, 36, 6, 6, 6, 6, 0, 0, 111]]
def nF (ci : Nat) : Nat := (ftL.getD ci []).length
def ft (ci k : Nat) : Nat := (ftL.getD ci []).getD k 0
def fl (ci k : Nat) : Nat := (flL.getD ci []).getD k 0
def fv (ad : Nat → Nat → Nat) (S : St) (ci o k : Nat) : Value := match ft ci k with
  | 0 => .int (S o k 0)
  | 1 => .ref (ad o (k + 1))
  | 2 => .ref (ad o (k + 1))
  | 3 => .ref (ad o (k + 1))
  | t + 4 => .ref (ad t 0)
def cel (cA : Nat → ClassId) (ad : Nat → Nat → Nat) (S : St) (o j : Nat) : va_E := match j with
  | 0 => .inr (kd o, (List.range (nF (kd o))).map (fv ad S (kd o) o))
  | k + 1 => if ft (kd o) k = 3 then .inl (cA 2, fl (kd o) k, .inr (.inr (.inr (.inr (fun i => some (ad (S o k i).toNatClampNeg 0)))))) else .inl (cA (ft (kd o) k - 1), fl (kd o) k, .inl (S o k))
def isA (t : Nat) : Bool := t == 1 || t == 2 || t == 3
def celL : List (Nat × Nat) := (List.range 11).flatMap fun o => (o, 0) :: ((List.range (nF (kd o))).filter fun k => isA (ft (kd o) k)).map fun k => (o, k + 1)
theorem celL_nodup : celL.Nodup := by decide +kernel
theorem celL_obj : ∀ o, o < 11 → (o, 0) ∈ celL := by decide +kernel
theorem celL_arr1 : ∀ o ∈ List.range 11, ∀ k ∈ List.range 18, (!isA (ft (kd o) k) || decide ((o, k + 1) ∈ celL)) = true := by decide +kernel
theorem celL_arr0 (o : Nat) (ho : o < 11) (k : Nat) (hk : k < 18) (h : isA (ft (kd o) k) = true) : (o, k + 1) ∈ celL := by
  have q := celL_arr1 o (List.mem_range.mpr ho) k (List.mem_range.mpr hk)
  rw [h] at q
  simpa using q
theorem ft_out : ∀ ci, ci < 5 → ∀ k, 18 ≤ k → ft ci k = 0 := by
  intro ci hc k hk
  unfold ft
  have h : ∀ c, c < 5 → (ftL.getD c []).length ≤ 18 := by decide
  rw [List.getD_eq_getElem?_getD, List.getElem?_eq_none (Nat.le_trans (h ci hc) hk)]
  rfl
theorem kd_lt {o : Nat} (ho : o < 11) : kd o < 5 := by unfold kd; split <;> omega
theorem celL_arr {o k : Nat} (ho : o < 11) (h : isA (ft (kd o) k) = true) : (o, k + 1) ∈ celL := by
  by_cases hk : k < 18
  · exact celL_arr0 o ho k hk h
  · rw [ft_out _ (kd_lt ho) k (by omega)] at h
    exact absurd h (by decide)
theorem kd_day {o : Nat} (h : o < 7) : kd o = 0 := by unfold kd; rw [if_pos h]
def wl (cA : Nat → ClassId) (ad : Nat → Nat → Nat) (S : St) : va_W := celL.map fun q => (ad q.1 q.2, cel cA ad S q.1 q.2)
abbrev kcl : List vw_C := [(RX0, TX0, 16), (RX1, TX1, 2), (RX2, TX2, 16), (RX3, TX3, 4), (RX4, TX4, 18)]
abbrev ktys (cA : Nat → ClassId) : List (ClassId × FieldType) := [(cA 0, .int), (cA 1, .boolean), (cA 2, .object RX0)]
def Rep (D : va_G) (cA : Nat → ClassId) (ad : Nat → Nat → Nat) (A : Nat → Prop) (S : St) (H : Heap) : Prop := va_P D kcl (wl cA ad S) H ∧ va_D A (wl cA ad S)
theorem wl_get {cA : Nat → ClassId} {ad : Nat → Nat → Nat} {S : St} {o j : Nat} (h : (o, j) ∈ celL) : ∃ i : Nat, celL[i]? = some (o, j) ∧ (wl cA ad S)[i]? = some (ad o j, cel cA ad S o j) := by
  obtain ⟨i, hi⟩ := List.getElem?_of_mem h
  exact ⟨i, hi, by unfold wl; rw [List.getElem?_map, hi]; rfl⟩
theorem wl_set {cA : Nat → ClassId} {ad : Nat → Nat → Nat} {S S' : St} {o j i : Nat} {v : va_E} (hi : celL[i]? = some (o, j)) (hv : cel cA ad S' o j = v) (hr : ∀ a b, (a, b) ≠ (o, j) → cel cA ad S' a b = cel cA ad S a b) : (wl cA ad S).set i (ad o j, v) = wl cA ad S' := by
  apply List.ext_getElem?
  intro n
  unfold wl
  rw [List.getElem?_set]
  by_cases hn : i = n
  · subst hn
    have hlt : i < (celL.map fun q => (ad q.1 q.2, cel cA ad S q.1 q.2)).length := by rw [List.length_map]; exact (List.getElem?_eq_some_iff.mp hi).1
    rw [if_pos rfl, if_pos hlt, List.getElem?_map, hi, ← hv]
    rfl
  · rw [if_neg hn, List.getElem?_map, List.getElem?_map]
    cases hq : celL[n]? with
    | none => rfl
    | some q =>
      obtain ⟨a, b⟩ := q
      have hne : (a, b) ≠ (o, j) := by
        intro e
        rw [e] at hq
        have h1 := (List.getElem?_eq_some_iff.mp hi).1
        have h2 := (List.getElem?_eq_some_iff.mp hq).1
        exact hn ((List.getElem?_inj h1 celL_nodup).mp (hi.trans hq.symm))
      show some (ad a b, cel cA ad S a b) = some (ad a b, cel cA ad S' a b)
      rw [hr a b hne]
/-- one cell of a field written -/
def up3 (S : St) (o k i : Nat) (v : Int32) : St := fun a b j => if a = o ∧ b = k ∧ j = i then v else S a b j
/-- a whole row written -/
def upA (S : St) (o k : Nat) (g : Nat → Int32) : St := fun a b j => if a = o ∧ b = k then g j else S a b j
theorem up3_row (S : St) (o k i : Nat) (v : Int32) : up3 S o k i v o k = upd (S o k) i v := by
  funext j
  by_cases h : j = i
  · simp [up3, upd, h]
  · simp [up3, upd, h]
theorem up3_ne {S : St} {o k i : Nat} {v : Int32} {a b : Nat} (h : ¬ (a = o ∧ b = k)) : up3 S o k i v a b = S a b := by
  funext j
  unfold up3
  rw [if_neg (fun q => h ⟨q.1, q.2.1⟩)]
theorem upA_row (S : St) (o k : Nat) (g : Nat → Int32) : upA S o k g o k = g := by funext j; simp [upA]
theorem upA_ne {S : St} {o k : Nat} {g : Nat → Int32} {a b : Nat} (h : ¬ (a = o ∧ b = k)) : upA S o k g a b = S a b := by
  funext j
  unfold upA
  rw [if_neg h]
theorem cel_obj {cA : Nat → ClassId} {ad : Nat → Nat → Nat} {S : St} {a : Nat} : cel cA ad S a 0 = .inr (kd a, (List.range (nF (kd a))).map (fv ad S (kd a) a)) := rfl
theorem cel_row {cA : Nat → ClassId} {ad : Nat → Nat → Nat} {S S' : St} {o k : Nat} (hf : ft (kd o) k ≠ 0) (h : ∀ a b, ¬ (a = o ∧ b = k) → S' a b = S a b) : ∀ a b, (a, b) ≠ (o, k + 1) → cel cA ad S' a b = cel cA ad S a b := by
  intro a b hne
  cases b with
  | zero =>
    rw [cel_obj, cel_obj]
    congr 2
    apply List.map_congr_left
    intro k' _
    unfold fv
    split
    · rename_i h0
      rw [h a k' (fun q => by rw [q.1, q.2] at h0; exact hf h0)]
    all_goals rfl
  | succ b =>
    have e : S' a b = S a b := h a b (fun q => hne (by rw [q.1, q.2]))
    unfold cel
    simp only [e]
theorem cel_num {cA : Nat → ClassId} {ad : Nat → Nat → Nat} {S S' : St} {o k : Nat} (h : ∀ a b, ¬ (a = o ∧ b = k) → S' a b = S a b) (hc : (o, k + 1) ∉ celL) : ∀ a b, (a, b) ≠ (o, 0) → (a, b) ∈ celL → cel cA ad S' a b = cel cA ad S a b := by
  intro a b hne hm
  cases b with
  | zero =>
    rw [cel_obj, cel_obj]
    congr 2
    apply List.map_congr_left
    intro k' _
    unfold fv
    split
    · rw [h a k' (fun q => hne (by rw [q.1]))]
    all_goals rfl
  | succ b =>
    have e : S' a b = S a b := h a b (fun q => hc (by rw [← q.1, ← q.2]; exact hm))
    unfold cel
    simp only [e]
theorem wl_set' {cA : Nat → ClassId} {ad : Nat → Nat → Nat} {S S' : St} {o j i : Nat} {v : va_E} (hi : celL[i]? = some (o, j)) (hv : cel cA ad S' o j = v) (hr : ∀ a b, (a, b) ≠ (o, j) → (a, b) ∈ celL → cel cA ad S' a b = cel cA ad S a b) : (wl cA ad S).set i (ad o j, v) = wl cA ad S' := by
  apply List.ext_getElem?
  intro n
  unfold wl
  rw [List.getElem?_set]
  by_cases hn : i = n
  · subst hn
    have hlt : i < (celL.map fun q => (ad q.1 q.2, cel cA ad S q.1 q.2)).length := by rw [List.length_map]; exact (List.getElem?_eq_some_iff.mp hi).1
    rw [if_pos rfl, if_pos hlt, List.getElem?_map, hi, ← hv]
    rfl
  · rw [if_neg hn, List.getElem?_map, List.getElem?_map]
    cases hq : celL[n]? with
    | none => rfl
    | some q =>
      obtain ⟨a, b⟩ := q
      have hne : (a, b) ≠ (o, j) := by
        intro e
        rw [e] at hq
        have h1 := (List.getElem?_eq_some_iff.mp hi).1
        exact hn ((List.getElem?_inj h1 celL_nodup).mp (hi.trans hq.symm))
      show some (ad a b, cel cA ad S a b) = some (ad a b, cel cA ad S' a b)
      rw [hr a b hne (List.mem_of_getElem? hq)]
theorem num_out1 : ∀ o ∈ List.range 11, ∀ k ∈ List.range 18, (!(ft (kd o) k == 0) || !decide ((o, k + 1) ∈ celL)) = true := by decide +kernel
theorem num_out (o : Nat) (ho : o < 11) (k : Nat) (hk : k < 18) (h : ft (kd o) k = 0) : (o, k + 1) ∉ celL := by
  have q := num_out1 o (List.mem_range.mpr ho) k (List.mem_range.mpr hk)
  rw [h] at q
  simpa using q
/-- the static rows of the class -/
def tLeast (j : Nat) : Int32 := ([0, 0, 0, 1] : List Int32).getD j 0
def tMost (j : Nat) : Int32 := ([10, 10, 15, 30] : List Int32).getD j 0
/-- what holds of the machine's tables, and of the statics, all along -/
def Wd (D : va_G) (cA : Nat → ClassId) (ad : Nat → Nat → Nat) (A : Nat → Prop) (U : State) : Prop := va_K D kcl (ktys cA) U ∧ va_Nw (.methodLinkNest RX0 70 yX3_reelPlace RX3) U ∧ va_Nw (.methodLinkNest RX2 88 yX3_reelPlace RX3) U ∧ va_Z RX3 "LEAST_MINUTES" "[I" (.ref (ad 11 0)) A U U.heap ∧ va_T .int (ad 11 0) 4 (fun j => .int (tLeast j)) A U U.heap ∧ va_Z RX3 "MOST_MINUTES" "[I" (.ref (ad 12 0)) A U U.heap ∧ va_T .int (ad 12 0) 4 (fun j => .int (tMost j)) A U U.heap
theorem Wd.move {D : va_G} {cA : Nat → ClassId} {ad : Nat → Nat → Nat} {A : Nat → Prop} {s U : State} {H : Heap} {locs : List Loc} (h : Wd D cA ad A s) (hS : va_S A s.heap H locs) (hU : U.heap = H) (hW : s.WarmedH U.vm) : Wd D cA ad A U := by
  obtain ⟨h1, h2, h3, h4, h5, h6, h7⟩ := h
  exact ⟨va_K.moved hW.alike h1, va_Nw.warmM hW h2, va_Nw.warmM hW h3, by rw [hU]; exact va_Z.moved hW.alike (h4.kept hS.2.1), by rw [hU]; exact va_T.moved hW.alike (h5.kept hS.2.1), by rw [hU]; exact va_Z.moved hW.alike (h6.kept hS.2.1), by rw [hU]; exact va_T.moved hW.alike (h7.kept hS.2.1)⟩
theorem Wd.blind {D : va_G} {cA : Nat → ClassId} {ad : Nat → Nat → Nat} {A : Nat → Prop} {U : State} {g : JFrame} {mk : MethodId} {a : Array Value} (h : Wd D cA ad A U) : Wd D cA ad A (U.calling g mk a) := by
  obtain ⟨h1, h2, h3, h4, h5, h6, h7⟩ := h
  exact ⟨va_K.moved (u := U) (U := U.calling g mk a) (Vm.Alike.refl U.vm) h1, va_Nw.same rfl (u := U) (U := U.calling g mk a) rfl h2, va_Nw.same rfl (u := U) (U := U.calling g mk a) rfl h3, va_Z.moved (u := U) (U := U.calling g mk a) (Vm.Alike.refl U.vm) h4, va_T.moved (u := U) (U := U.calling g mk a) (Vm.Alike.refl U.vm) h5, va_Z.moved (u := U) (U := U.calling g mk a) (Vm.Alike.refl U.vm) h6, va_T.moved (u := U) (U := U.calling g mk a) (Vm.Alike.refl U.vm) h7⟩
def RepB (D : va_G) (cA : Nat → ClassId) (ad : Nat → Nat → Nat) (A : Nat → Prop) (S : St) (U : State) : Prop := Rep D cA ad A S U.heap ∧ Wd D cA ad A U
theorem repB_blind {D : va_G} {cA : Nat → ClassId} {ad : Nat → Nat → Nat} {A : Nat → Prop} {S : St} {av : List Value} : FrameBlind (va_Pc av (RepB D cA ad A S)) := fun a U g mk q => ⟨q.1, q.2.1, q.2.2.blind⟩
/-- what a walk stands on -/
def Cx (p : Program) (R : Room) (m : MethodId) (c : Code) (cc : ByteArray) (nL : Nat) (s : State) (args : Array Value) (own : String) (cells slots : Nat) (D : va_G) (cA : Nat → ClassId) (ad : Nat → Nat → Nat) (A : Nat → Prop) : Prop := (p.tables.exec = Jvm.exec ∧ c.code = cc ∧ c.maxLocals = nL ∧ s.vm.findClass own = some m.cls ∧ ∀ w ∈ wA, w.before args s = true) ∧ Wd D cA ad A s ∧ cells ≤ R.cells ∧ slots ≤ R.slots
/-- the machine at pc, in the world S -/
def VV (p : Program) (l : Launch) (e : Env) (R : Room) (s : State) (m : MethodId) (args : Array Value) (below : List Frame) (meth : Method) (c : Code) (cells slots : Nat) (Q : State → Prop) (D : va_G) (cA : Nat → ClassId) (ad : Nat → Nat → Nat) (A : Nat → Prop) (nL : Nat) (S : St) (pc : Nat) (lv : List (Nat × Value)) (st : List Value) : Prop := ∀ (H : Heap) (locs : List Loc) (ls : Array Slot), Rep D cA ad A S H → va_S A s.heap H locs → lv_has ls nL lv → W p l e R s m args below meth c H locs cells slots Q (F0 m pc ls st)
end
section
/-! THE ROWS over the world S: an instruction each -/
section VRows
variable {p : Program} {l : Launch} {e : Env} {R : Room} {s : State} {m : MethodId} {args : Array Value} {below : List Frame} {meth : Method} {c : Code} {cells slots : Nat} {Q : State → Prop} {D : va_G} {cA : Nat → ClassId} {ad : Nat → Nat → Nat} {A : Nat → Prop} {nL : Nat} {cc : ByteArray} {own : String} {S : St} {pc : Nat} {lv : List (Nat × Value)} {st : List Value}
theorem v_iconst (X : Cx p R m c cc nL s args own cells slots D cA ad A) {n : Int} {v : Int32} (hd : decode cc pc = .ok (.iconst n, 1)) (hv : Int32.ofInt n = v) (k : VV p l e R s m args below meth c cells slots Q D cA ad A nL S (pc + 1) lv (.int v :: st)) : VV p l e R s m args below meth c cells slots Q D cA ad A nL S pc lv (st) := fun H locs ls hR hS hl => lv_iconst X.1.1 X.1.2.1 hd hv (k H locs ls hR hS hl)
theorem v_bipush (X : Cx p R m c cc nL s args own cells slots D cA ad A) {n : Int} {v : Int32} (hd : decode cc pc = .ok (.bipush n, 2)) (hv : (Int8.ofInt n).toInt32 = v) (k : VV p l e R s m args below meth c cells slots Q D cA ad A nL S (pc + 2) lv (.int v :: st)) : VV p l e R s m args below meth c cells slots Q D cA ad A nL S pc lv (st) := fun H locs ls hR hS hl => lv_bipush X.1.1 X.1.2.1 hd hv (k H locs ls hR hS hl)
theorem v_sipush (X : Cx p R m c cc nL s args own cells slots D cA ad A) {n : Int} {v : Int32} (hd : decode cc pc = .ok (.sipush n, 3)) (hv : (Int16.ofInt n).toInt32 = v) (k : VV p l e R s m args below meth c cells slots Q D cA ad A nL S (pc + 3) lv (.int v :: st)) : VV p l e R s m args below meth c cells slots Q D cA ad A nL S pc lv (st) := fun H locs ls hR hS hl => lv_sipush X.1.1 X.1.2.1 hd hv (k H locs ls hR hS hl)
theorem v_lconst (X : Cx p R m c cc nL s args own cells slots D cA ad A) {n : Fin 2} {v : Int64} (hd : decode cc pc = .ok (.lconst n, 1)) (hv : Int64.ofNat (n : Nat) = v) (k : VV p l e R s m args below meth c cells slots Q D cA ad A nL S (pc + 1) lv (.long v :: st)) : VV p l e R s m args below meth c cells slots Q D cA ad A nL S pc lv (st) := fun H locs ls hR hS hl => lv_lconst X.1.1 X.1.2.1 hd hv (k H locs ls hR hS hl)
theorem v_ldc (X : Cx p R m c cc nL s args own cells slots D cA ad A) {idx : Nat} {v : Int32} (hd : decode cc pc = .ok (.ldc idx, 2)) (hw : Cond.constant own idx v ∈ wA) (k : VV p l e R s m args below meth c cells slots Q D cA ad A nL S (pc + 2) lv (.int v :: st)) : VV p l e R s m args below meth c cells slots Q D cA ad A nL S pc lv (st) := fun H locs ls hR hS hl => lv_ldc X.1.1 X.1.2.1 X.1.2.2.2.1 (X.1.2.2.2.2 _ hw) hd (k H locs ls hR hS hl)
theorem v_ldc2 (X : Cx p R m c cc nL s args own cells slots D cA ad A) {idx : Nat} {v : Int64} (hd : decode cc pc = .ok (.ldc2_w idx, 3)) (hw : Cond.constantLong own idx v ∈ wA) (k : VV p l e R s m args below meth c cells slots Q D cA ad A nL S (pc + 3) lv (.long v :: st)) : VV p l e R s m args below meth c cells slots Q D cA ad A nL S pc lv (st) := fun H locs ls hR hS hl => lv_ldc2 X.1.1 X.1.2.1 X.1.2.2.2.1 (X.1.2.2.2.2 _ hw) hd (k H locs ls hR hS hl)
theorem v_iload_n (X : Cx p R m c cc nL s args own cells slots D cA ad A) {k9 : Fin 4} {i : Nat} {x : Int32} (hd : decode cc pc = .ok (.iload_n k9, 1)) (hi : (k9 : Nat) = i) (q : Nat) (hq : lv[q]? = some (i, .int x)) (k : VV p l e R s m args below meth c cells slots Q D cA ad A nL S (pc + 1) lv (.int x :: st)) : VV p l e R s m args below meth c cells slots Q D cA ad A nL S pc lv (st) := fun H locs ls hR hS hl => lv_iload_n X.1.1 X.1.2.1 hd hi (lv_at hl q hq) (k H locs ls hR hS hl)
theorem v_lload_n (X : Cx p R m c cc nL s args own cells slots D cA ad A) {k9 : Fin 4} {i : Nat} {x : Int64} (hd : decode cc pc = .ok (.lload_n k9, 1)) (hi : (k9 : Nat) = i) (q : Nat) (hq : lv[q]? = some (i, .long x)) (k : VV p l e R s m args below meth c cells slots Q D cA ad A nL S (pc + 1) lv (.long x :: st)) : VV p l e R s m args below meth c cells slots Q D cA ad A nL S pc lv (st) := fun H locs ls hR hS hl => lv_lload_n X.1.1 X.1.2.1 hd hi (lv_at hl q hq) (k H locs ls hR hS hl)
theorem v_aload_n (X : Cx p R m c cc nL s args own cells slots D cA ad A) {k9 : Fin 4} {i : Nat} {x : Nat} (hd : decode cc pc = .ok (.aload_n k9, 1)) (hi : (k9 : Nat) = i) (q : Nat) (hq : lv[q]? = some (i, .ref x)) (k : VV p l e R s m args below meth c cells slots Q D cA ad A nL S (pc + 1) lv (.ref x :: st)) : VV p l e R s m args below meth c cells slots Q D cA ad A nL S pc lv (st) := fun H locs ls hR hS hl => lv_aload_n X.1.1 X.1.2.1 hd hi (lv_at hl q hq) (k H locs ls hR hS hl)
theorem v_iload (X : Cx p R m c cc nL s args own cells slots D cA ad A) {i : Nat} {x : Int32} (hd : decode cc pc = .ok (.iload i, 2)) (q : Nat) (hq : lv[q]? = some (i, .int x)) (k : VV p l e R s m args below meth c cells slots Q D cA ad A nL S (pc + 2) lv (.int x :: st)) : VV p l e R s m args below meth c cells slots Q D cA ad A nL S pc lv (st) := fun H locs ls hR hS hl => lv_iload X.1.1 X.1.2.1 hd (lv_at hl q hq) (k H locs ls hR hS hl)
theorem v_lload (X : Cx p R m c cc nL s args own cells slots D cA ad A) {i : Nat} {x : Int64} (hd : decode cc pc = .ok (.lload i, 2)) (q : Nat) (hq : lv[q]? = some (i, .long x)) (k : VV p l e R s m args below meth c cells slots Q D cA ad A nL S (pc + 2) lv (.long x :: st)) : VV p l e R s m args below meth c cells slots Q D cA ad A nL S pc lv (st) := fun H locs ls hR hS hl => lv_lload X.1.1 X.1.2.1 hd (lv_at hl q hq) (k H locs ls hR hS hl)
theorem v_istore_n (X : Cx p R m c cc nL s args own cells slots D cA ad A) {k9 : Fin 4} {i : Nat} {x : Int32} (lv' : List (Nat × Value)) (hd : decode cc pc = .ok (.istore_n k9, 1)) (hi : (k9 : Nat) = i) (hn : i < nL) (hl0 : (i, Value.int x) :: lv.filter (fun q => !(q.1 == i) && !(q.1 + 1 == i && q.2.category == 2)) = lv') (k : VV p l e R s m args below meth c cells slots Q D cA ad A nL S (pc + 1) lv' st) : VV p l e R s m args below meth c cells slots Q D cA ad A nL S pc lv (.int x :: st) := fun H locs ls hR hS hl => lv_istore_n X.1.1 X.1.2.1 hd hi hl hn hl0 (fun ls hl => k H locs ls hR hS hl)
theorem v_astore_n (X : Cx p R m c cc nL s args own cells slots D cA ad A) {k9 : Fin 4} {i : Nat} {x : Nat} (lv' : List (Nat × Value)) (hd : decode cc pc = .ok (.astore_n k9, 1)) (hi : (k9 : Nat) = i) (hn : i < nL) (hl0 : (i, Value.ref x) :: lv.filter (fun q => !(q.1 == i) && !(q.1 + 1 == i && q.2.category == 2)) = lv') (k : VV p l e R s m args below meth c cells slots Q D cA ad A nL S (pc + 1) lv' st) : VV p l e R s m args below meth c cells slots Q D cA ad A nL S pc lv (.ref x :: st) := fun H locs ls hR hS hl => lv_astore_n X.1.1 X.1.2.1 hd hi hl hn hl0 (fun ls hl => k H locs ls hR hS hl)
theorem v_istore (X : Cx p R m c cc nL s args own cells slots D cA ad A) {i : Nat} {x : Int32} (lv' : List (Nat × Value)) (hd : decode cc pc = .ok (.istore i, 2)) (hn : i < nL) (hl0 : (i, Value.int x) :: lv.filter (fun q => !(q.1 == i) && !(q.1 + 1 == i && q.2.category == 2)) = lv') (k : VV p l e R s m args below meth c cells slots Q D cA ad A nL S (pc + 2) lv' st) : VV p l e R s m args below meth c cells slots Q D cA ad A nL S pc lv (.int x :: st) := fun H locs ls hR hS hl => lv_istore X.1.1 X.1.2.1 hd hl hn hl0 (fun ls hl => k H locs ls hR hS hl)
theorem v_iinc (X : Cx p R m c cc nL s args own cells slots D cA ad A) {i : Nat} {n : Int} {x v : Int32} (lv' : List (Nat × Value)) (hd : decode cc pc = .ok (.iinc i n, 3)) (q : Nat) (hq : lv[q]? = some (i, .int x)) (hv : x + Int32.ofInt n = v) (hn : i < nL) (hl0 : (i, Value.int v) :: lv.filter (fun q => !(q.1 == i) && !(q.1 + 1 == i && q.2.category == 2)) = lv') (k : VV p l e R s m args below meth c cells slots Q D cA ad A nL S (pc + 3) lv' st) : VV p l e R s m args below meth c cells slots Q D cA ad A nL S pc lv st := fun H locs ls hR hS hl => lv_iinc X.1.1 X.1.2.1 hd hl hq hv hn hl0 (fun ls hl => k H locs ls hR hS hl)
theorem v_iadd (X : Cx p R m c cc nL s args own cells slots D cA ad A) {x y : Int32} (hd : decode cc pc = .ok (.iadd, 1))  (k : VV p l e R s m args below meth c cells slots Q D cA ad A nL S (pc + 1) lv (.int (x + y) :: st)) : VV p l e R s m args below meth c cells slots Q D cA ad A nL S pc lv (.int y :: .int x :: st) := fun H locs ls hR hS hl => lv_iadd X.1.1 X.1.2.1 hd (k H locs ls hR hS hl)
theorem v_isub (X : Cx p R m c cc nL s args own cells slots D cA ad A) {x y : Int32} (hd : decode cc pc = .ok (.isub, 1))  (k : VV p l e R s m args below meth c cells slots Q D cA ad A nL S (pc + 1) lv (.int (x - y) :: st)) : VV p l e R s m args below meth c cells slots Q D cA ad A nL S pc lv (.int y :: .int x :: st) := fun H locs ls hR hS hl => lv_isub X.1.1 X.1.2.1 hd (k H locs ls hR hS hl)
theorem v_imul (X : Cx p R m c cc nL s args own cells slots D cA ad A) {x y : Int32} (hd : decode cc pc = .ok (.imul, 1))  (k : VV p l e R s m args below meth c cells slots Q D cA ad A nL S (pc + 1) lv (.int (x * y) :: st)) : VV p l e R s m args below meth c cells slots Q D cA ad A nL S pc lv (.int y :: .int x :: st) := fun H locs ls hR hS hl => lv_imul X.1.1 X.1.2.1 hd (k H locs ls hR hS hl)
theorem v_iand (X : Cx p R m c cc nL s args own cells slots D cA ad A) {x y : Int32} (hd : decode cc pc = .ok (.iand, 1))  (k : VV p l e R s m args below meth c cells slots Q D cA ad A nL S (pc + 1) lv (.int (x &&& y) :: st)) : VV p l e R s m args below meth c cells slots Q D cA ad A nL S pc lv (.int y :: .int x :: st) := fun H locs ls hR hS hl => lv_iand X.1.1 X.1.2.1 hd (k H locs ls hR hS hl)
theorem v_ior (X : Cx p R m c cc nL s args own cells slots D cA ad A) {x y : Int32} (hd : decode cc pc = .ok (.ior, 1))  (k : VV p l e R s m args below meth c cells slots Q D cA ad A nL S (pc + 1) lv (.int (x ||| y) :: st)) : VV p l e R s m args below meth c cells slots Q D cA ad A nL S pc lv (.int y :: .int x :: st) := fun H locs ls hR hS hl => lv_ior X.1.1 X.1.2.1 hd (k H locs ls hR hS hl)
theorem v_ishl (X : Cx p R m c cc nL s args own cells slots D cA ad A) {x y : Int32} (hd : decode cc pc = .ok (.ishl, 1))  (k : VV p l e R s m args below meth c cells slots Q D cA ad A nL S (pc + 1) lv (.int (x <<< (y &&& 31)) :: st)) : VV p l e R s m args below meth c cells slots Q D cA ad A nL S pc lv (.int y :: .int x :: st) := fun H locs ls hR hS hl => lv_ishl X.1.1 X.1.2.1 hd (k H locs ls hR hS hl)
theorem v_ishr (X : Cx p R m c cc nL s args own cells slots D cA ad A) {x y : Int32} (hd : decode cc pc = .ok (.ishr, 1))  (k : VV p l e R s m args below meth c cells slots Q D cA ad A nL S (pc + 1) lv (.int (x >>> (y &&& 31)) :: st)) : VV p l e R s m args below meth c cells slots Q D cA ad A nL S pc lv (.int y :: .int x :: st) := fun H locs ls hR hS hl => lv_ishr X.1.1 X.1.2.1 hd (k H locs ls hR hS hl)
theorem v_idiv (X : Cx p R m c cc nL s args own cells slots D cA ad A) {x y : Int32} (hd : decode cc pc = .ok (.idiv, 1)) (hne : ¬ y = 0) (k : VV p l e R s m args below meth c cells slots Q D cA ad A nL S (pc + 1) lv (.int (x / y) :: st)) : VV p l e R s m args below meth c cells slots Q D cA ad A nL S pc lv (.int y :: .int x :: st) := fun H locs ls hR hS hl => lv_idiv X.1.1 X.1.2.1 hd hne (k H locs ls hR hS hl)
theorem v_i2l (X : Cx p R m c cc nL s args own cells slots D cA ad A) {x : Int32} (hd : decode cc pc = .ok (.i2l, 1))  (k : VV p l e R s m args below meth c cells slots Q D cA ad A nL S (pc + 1) lv (.long x.toInt64 :: st)) : VV p l e R s m args below meth c cells slots Q D cA ad A nL S pc lv (.int x :: st) := fun H locs ls hR hS hl => lv_i2l X.1.1 X.1.2.1 hd rfl (k H locs ls hR hS hl)
theorem v_lcmp (X : Cx p R m c cc nL s args own cells slots D cA ad A) {x y : Int64} (hd : decode cc pc = .ok (.lcmp, 1))  (k : VV p l e R s m args below meth c cells slots Q D cA ad A nL S (pc + 1) lv (.int (lg_cmp x y) :: st)) : VV p l e R s m args below meth c cells slots Q D cA ad A nL S pc lv (.long y :: .long x :: st) := fun H locs ls hR hS hl => W.lcmp X.1.1 X.1.2.1 hd (k H locs ls hR hS hl)
theorem v_dup (X : Cx p R m c cc nL s args own cells slots D cA ad A) {va : Value} (hd : decode cc pc = .ok (.dup, 1)) (hc : va.category = 1) (k : VV p l e R s m args below meth c cells slots Q D cA ad A nL S (pc + 1) lv (va :: va :: st)) : VV p l e R s m args below meth c cells slots Q D cA ad A nL S pc lv (va :: st) := fun H locs ls hR hS hl => lv_dup X.1.1 X.1.2.1 hd hc (k H locs ls hR hS hl)
theorem v_dup2 (X : Cx p R m c cc nL s args own cells slots D cA ad A) {va vb : Value} (hd : decode cc pc = .ok (.dup2, 1)) (hc : va.category = 1) (hc2 : vb.category = 1) (k : VV p l e R s m args below meth c cells slots Q D cA ad A nL S (pc + 1) lv (va :: vb :: va :: vb :: st)) : VV p l e R s m args below meth c cells slots Q D cA ad A nL S pc lv (va :: vb :: st) := fun H locs ls hR hS hl => lv_dup2_11 X.1.1 X.1.2.1 hd hc hc2 (k H locs ls hR hS hl)
theorem v_pop (X : Cx p R m c cc nL s args own cells slots D cA ad A) {va : Value} (hd : decode cc pc = .ok (.pop, 1)) (hc : va.category = 1) (k : VV p l e R s m args below meth c cells slots Q D cA ad A nL S (pc + 1) lv (st)) : VV p l e R s m args below meth c cells slots Q D cA ad A nL S pc lv (va :: st) := fun H locs ls hR hS hl => lv_pop X.1.1 X.1.2.1 hd hc (k H locs ls hR hS hl)
theorem v_goto (X : Cx p R m c cc nL s args own cells slots D cA ad A) {off : Int} (tgt : Nat) (hd : decode cc pc = .ok (.goto off, 3)) (ht : (pc : Int) + off = (tgt : Int)) (k : VV p l e R s m args below meth c cells slots Q D cA ad A nL S tgt lv st) : VV p l e R s m args below meth c cells slots Q D cA ad A nL S pc lv st := fun H locs ls hR hS hl => lv_goto X.1.1 X.1.2.1 hd ht (k H locs ls hR hS hl)
theorem v_if_eq (X : Cx p R m c cc nL s args own cells slots D cA ad A) {x : Int32} {off : Int} (tgt : Nat) (hd : decode cc pc = .ok (.ifCond .eq off, 3)) (ht : (pc : Int) + off = (tgt : Int)) (kt : x = 0 → VV p l e R s m args below meth c cells slots Q D cA ad A nL S tgt lv st) (kf : ¬ x = 0 → VV p l e R s m args below meth c cells slots Q D cA ad A nL S (pc + 3) lv st) : VV p l e R s m args below meth c cells slots Q D cA ad A nL S pc lv (.int x :: st) := fun H locs ls hR hS hl => lv_if_eq X.1.1 X.1.2.1 hd ht (fun h => kt h H locs ls hR hS hl) (fun h => kf h H locs ls hR hS hl)
theorem v_if_ne (X : Cx p R m c cc nL s args own cells slots D cA ad A) {x : Int32} {off : Int} (tgt : Nat) (hd : decode cc pc = .ok (.ifCond .ne off, 3)) (ht : (pc : Int) + off = (tgt : Int)) (kt : ¬ x = 0 → VV p l e R s m args below meth c cells slots Q D cA ad A nL S tgt lv st) (kf : x = 0 → VV p l e R s m args below meth c cells slots Q D cA ad A nL S (pc + 3) lv st) : VV p l e R s m args below meth c cells slots Q D cA ad A nL S pc lv (.int x :: st) := fun H locs ls hR hS hl => lv_if_ne X.1.1 X.1.2.1 hd ht (fun h => kt h H locs ls hR hS hl) (fun h => kf h H locs ls hR hS hl)
theorem v_if_lt (X : Cx p R m c cc nL s args own cells slots D cA ad A) {x : Int32} {off : Int} (tgt : Nat) (hd : decode cc pc = .ok (.ifCond .lt off, 3)) (ht : (pc : Int) + off = (tgt : Int)) (kt : x < 0 → VV p l e R s m args below meth c cells slots Q D cA ad A nL S tgt lv st) (kf : ¬ x < 0 → VV p l e R s m args below meth c cells slots Q D cA ad A nL S (pc + 3) lv st) : VV p l e R s m args below meth c cells slots Q D cA ad A nL S pc lv (.int x :: st) := fun H locs ls hR hS hl => lv_if_lt X.1.1 X.1.2.1 hd ht (fun h => kt h H locs ls hR hS hl) (fun h => kf h H locs ls hR hS hl)
theorem v_if_ge (X : Cx p R m c cc nL s args own cells slots D cA ad A) {x : Int32} {off : Int} (tgt : Nat) (hd : decode cc pc = .ok (.ifCond .ge off, 3)) (ht : (pc : Int) + off = (tgt : Int)) (kt : 0 ≤ x → VV p l e R s m args below meth c cells slots Q D cA ad A nL S tgt lv st) (kf : ¬ 0 ≤ x → VV p l e R s m args below meth c cells slots Q D cA ad A nL S (pc + 3) lv st) : VV p l e R s m args below meth c cells slots Q D cA ad A nL S pc lv (.int x :: st) := fun H locs ls hR hS hl => lv_if_ge X.1.1 X.1.2.1 hd ht (fun h => kt h H locs ls hR hS hl) (fun h => kf h H locs ls hR hS hl)
theorem v_if_gt (X : Cx p R m c cc nL s args own cells slots D cA ad A) {x : Int32} {off : Int} (tgt : Nat) (hd : decode cc pc = .ok (.ifCond .gt off, 3)) (ht : (pc : Int) + off = (tgt : Int)) (kt : 0 < x → VV p l e R s m args below meth c cells slots Q D cA ad A nL S tgt lv st) (kf : ¬ 0 < x → VV p l e R s m args below meth c cells slots Q D cA ad A nL S (pc + 3) lv st) : VV p l e R s m args below meth c cells slots Q D cA ad A nL S pc lv (.int x :: st) := fun H locs ls hR hS hl => lv_if_gt X.1.1 X.1.2.1 hd ht (fun h => kt h H locs ls hR hS hl) (fun h => kf h H locs ls hR hS hl)
theorem v_if_le (X : Cx p R m c cc nL s args own cells slots D cA ad A) {x : Int32} {off : Int} (tgt : Nat) (hd : decode cc pc = .ok (.ifCond .le off, 3)) (ht : (pc : Int) + off = (tgt : Int)) (kt : x ≤ 0 → VV p l e R s m args below meth c cells slots Q D cA ad A nL S tgt lv st) (kf : ¬ x ≤ 0 → VV p l e R s m args below meth c cells slots Q D cA ad A nL S (pc + 3) lv st) : VV p l e R s m args below meth c cells slots Q D cA ad A nL S pc lv (.int x :: st) := fun H locs ls hR hS hl => lv_if_le X.1.1 X.1.2.1 hd ht (fun h => kt h H locs ls hR hS hl) (fun h => kf h H locs ls hR hS hl)
theorem v_icmp_eq (X : Cx p R m c cc nL s args own cells slots D cA ad A) {x y : Int32} {off : Int} (tgt : Nat) (hd : decode cc pc = .ok (.if_icmp .eq off, 3)) (ht : (pc : Int) + off = (tgt : Int)) (kt : x = y → VV p l e R s m args below meth c cells slots Q D cA ad A nL S tgt lv st) (kf : ¬ x = y → VV p l e R s m args below meth c cells slots Q D cA ad A nL S (pc + 3) lv st) : VV p l e R s m args below meth c cells slots Q D cA ad A nL S pc lv (.int y :: .int x :: st) := fun H locs ls hR hS hl => lv_icmp_eq X.1.1 X.1.2.1 hd ht (fun h => kt h H locs ls hR hS hl) (fun h => kf h H locs ls hR hS hl)
theorem v_icmp_ne (X : Cx p R m c cc nL s args own cells slots D cA ad A) {x y : Int32} {off : Int} (tgt : Nat) (hd : decode cc pc = .ok (.if_icmp .ne off, 3)) (ht : (pc : Int) + off = (tgt : Int)) (kt : ¬ x = y → VV p l e R s m args below meth c cells slots Q D cA ad A nL S tgt lv st) (kf : x = y → VV p l e R s m args below meth c cells slots Q D cA ad A nL S (pc + 3) lv st) : VV p l e R s m args below meth c cells slots Q D cA ad A nL S pc lv (.int y :: .int x :: st) := fun H locs ls hR hS hl => lv_icmp_ne X.1.1 X.1.2.1 hd ht (fun h => kt h H locs ls hR hS hl) (fun h => kf h H locs ls hR hS hl)
theorem v_icmp_lt (X : Cx p R m c cc nL s args own cells slots D cA ad A) {x y : Int32} {off : Int} (tgt : Nat) (hd : decode cc pc = .ok (.if_icmp .lt off, 3)) (ht : (pc : Int) + off = (tgt : Int)) (kt : x < y → VV p l e R s m args below meth c cells slots Q D cA ad A nL S tgt lv st) (kf : ¬ x < y → VV p l e R s m args below meth c cells slots Q D cA ad A nL S (pc + 3) lv st) : VV p l e R s m args below meth c cells slots Q D cA ad A nL S pc lv (.int y :: .int x :: st) := fun H locs ls hR hS hl => lv_icmp_lt X.1.1 X.1.2.1 hd ht (fun h => kt h H locs ls hR hS hl) (fun h => kf h H locs ls hR hS hl)
theorem v_icmp_ge (X : Cx p R m c cc nL s args own cells slots D cA ad A) {x y : Int32} {off : Int} (tgt : Nat) (hd : decode cc pc = .ok (.if_icmp .ge off, 3)) (ht : (pc : Int) + off = (tgt : Int)) (kt : y ≤ x → VV p l e R s m args below meth c cells slots Q D cA ad A nL S tgt lv st) (kf : ¬ y ≤ x → VV p l e R s m args below meth c cells slots Q D cA ad A nL S (pc + 3) lv st) : VV p l e R s m args below meth c cells slots Q D cA ad A nL S pc lv (.int y :: .int x :: st) := fun H locs ls hR hS hl => lv_icmp_ge X.1.1 X.1.2.1 hd ht (fun h => kt h H locs ls hR hS hl) (fun h => kf h H locs ls hR hS hl)
theorem v_icmp_gt (X : Cx p R m c cc nL s args own cells slots D cA ad A) {x y : Int32} {off : Int} (tgt : Nat) (hd : decode cc pc = .ok (.if_icmp .gt off, 3)) (ht : (pc : Int) + off = (tgt : Int)) (kt : y < x → VV p l e R s m args below meth c cells slots Q D cA ad A nL S tgt lv st) (kf : ¬ y < x → VV p l e R s m args below meth c cells slots Q D cA ad A nL S (pc + 3) lv st) : VV p l e R s m args below meth c cells slots Q D cA ad A nL S pc lv (.int y :: .int x :: st) := fun H locs ls hR hS hl => lv_icmp_gt X.1.1 X.1.2.1 hd ht (fun h => kt h H locs ls hR hS hl) (fun h => kf h H locs ls hR hS hl)
theorem v_icmp_le (X : Cx p R m c cc nL s args own cells slots D cA ad A) {x y : Int32} {off : Int} (tgt : Nat) (hd : decode cc pc = .ok (.if_icmp .le off, 3)) (ht : (pc : Int) + off = (tgt : Int)) (kt : x ≤ y → VV p l e R s m args below meth c cells slots Q D cA ad A nL S tgt lv st) (kf : ¬ x ≤ y → VV p l e R s m args below meth c cells slots Q D cA ad A nL S (pc + 3) lv st) : VV p l e R s m args below meth c cells slots Q D cA ad A nL S pc lv (.int y :: .int x :: st) := fun H locs ls hR hS hl => lv_icmp_le X.1.1 X.1.2.1 hd ht (fun h => kt h H locs ls hR hS hl) (fun h => kf h H locs ls hR hS hl)
theorem v_sub {lv' : List (Nat × Value)} (ks : List Nat) (hk : lv_pick lv ks = lv') (k : VV p l e R s m args below meth c cells slots Q D cA ad A nL S pc lv' st) : VV p l e R s m args below meth c cells slots Q D cA ad A nL S pc lv st := fun H locs ls hR hS hl => k H locs ls hR hS (lv_sub hl ks hk)
theorem v_topi {x : Int32} (k : ∀ y : Int32, y = x → VV p l e R s m args below meth c cells slots Q D cA ad A nL S pc lv (.int y :: st)) : VV p l e R s m args below meth c cells slots Q D cA ad A nL S pc lv (.int x :: st) := k x rfl

/-- a field's link: of the class 'own' at idx, the field k of the class ci -/
def FLk (own : String) (idx ci k : Nat) : Prop := ∃ (C : String) (T : u_T) (N : Nat) (ty : Nat → FieldType), kcl[ci]? = some (C, T, N) ∧ k < N ∧ N = nF ci ∧ (∀ w ∈ u_ws C T N, w ∈ wA) ∧ (∀ k, k < N → parseFieldDescriptor (T k).2.2.1 = some (ty k)) ∧ (∀ a, a < N → ∀ b, b < N → a ≠ b → (T a).2.1 ≠ (T b).2.1) ∧ Cond.fieldLink own idx (T k).1 (T k).2.1 (T k).2.2.1 ∈ wA ∧ (ft ci k = 0 → (T k).2.2.2 = false ∧ (T k).2.2.1 = "I")
theorem flk0 {own : String} {idx k : Nat} (hk : k < 16) (h : Cond.fieldLink own idx (TX0 k).1 (TX0 k).2.1 (TX0 k).2.2.1 ∈ wA) (h0 : ft 0 k = 0 → (TX0 k).2.2.2 = false ∧ (TX0 k).2.2.1 = "I") : FLk own idx 0 k := ⟨RX0, TX0, 16, tyX0, rfl, hk, rfl, inlX0, tyX0_ok, nmX0, h, h0⟩
theorem flk1 {own : String} {idx k : Nat} (hk : k < 2) (h : Cond.fieldLink own idx (TX1 k).1 (TX1 k).2.1 (TX1 k).2.2.1 ∈ wA) (h0 : ft 1 k = 0 → (TX1 k).2.2.2 = false ∧ (TX1 k).2.2.1 = "I") : FLk own idx 1 k := ⟨RX1, TX1, 2, tyX1, rfl, hk, rfl, inlX1, tyX1_ok, nmX1, h, h0⟩
theorem flk2 {own : String} {idx k : Nat} (hk : k < 16) (h : Cond.fieldLink own idx (TX2 k).1 (TX2 k).2.1 (TX2 k).2.2.1 ∈ wA) (h0 : ft 2 k = 0 → (TX2 k).2.2.2 = false ∧ (TX2 k).2.2.1 = "I") : FLk own idx 2 k := ⟨RX2, TX2, 16, tyX2, rfl, hk, rfl, inlX2, tyX2_ok, nmX2, h, h0⟩
theorem flk3 {own : String} {idx k : Nat} (hk : k < 4) (h : Cond.fieldLink own idx (TX3 k).1 (TX3 k).2.1 (TX3 k).2.2.1 ∈ wA) (h0 : ft 3 k = 0 → (TX3 k).2.2.2 = false ∧ (TX3 k).2.2.1 = "I") : FLk own idx 3 k := ⟨RX3, TX3, 4, tyX3, rfl, hk, rfl, inlX3, tyX3_ok, nmX3, h, h0⟩
theorem flk4 {own : String} {idx k : Nat} (hk : k < 18) (h : Cond.fieldLink own idx (TX4 k).1 (TX4 k).2.1 (TX4 k).2.2.1 ∈ wA) (h0 : ft 4 k = 0 → (TX4 k).2.2.2 = false ∧ (TX4 k).2.2.1 = "I") : FLk own idx 4 k := ⟨RX4, TX4, 18, tyX4, rfl, hk, rfl, inlX4, tyX4_ok, nmX4, h, h0⟩

theorem v_get (X : Cx p R m c cc nL s args own cells slots D cA ad A) {o ci k idx : Nat} {v : Value} (hf : FLk own idx ci k) (ho : o < 11) (hk : kd o = ci) (hd : decode cc pc = .ok (.getfield idx, 3)) (hv : fv ad S ci o k = v) (kk : VV p l e R s m args below meth c cells slots Q D cA ad A nL S (pc + 3) lv (v :: st)) : VV p l e R s m args below meth c cells slots Q D cA ad A nL S pc lv (.ref (ad o 0) :: st) := by
  intro H locs ls hR hS hl
  obtain ⟨C, T, N, ty, hc, hkN, hN, hin, -, -, hw, -⟩ := hf
  obtain ⟨i, -, hi⟩ := wl_get (cA := cA) (ad := ad) (S := S) (celL_obj o ho)
  refine va_get (D := D) (ci := ci) (v := v) (C := C) (T := T) (N := N) X.1.1 X.1.2.1 X.1.2.2.2.2 hin X.1.2.2.2.1 X.2.1.1 hR.1 i (fs := (List.range (nF ci)).map (fv ad S ci o)) (by rw [hi]; subst hk; rfl) hc k hkN (X.1.2.2.2.2 _ hw) (fun _ h9 => h9) ?_ hd (kk H locs ls hR hS hl)
  rw [List.getElem?_map, List.getElem?_range (by omega)]
  exact congrArg some hv
theorem v_put (X : Cx p R m c cc nL s args own cells slots D cA ad A) {o ci k idx : Nat} {x : Int32} (hf : FLk own idx ci k) (ho : o < 11) (hk : kd o = ci) (h0 : ft ci k = 0) (hd : decode cc pc = .ok (.putfield idx, 3)) (kk : VV p l e R s m args below meth c cells slots Q D cA ad A nL (up3 S o k 0 x) (pc + 3) lv st) : VV p l e R s m args below meth c cells slots Q D cA ad A nL S pc lv (.int x :: .ref (ad o 0) :: st) := by
  intro H locs ls hR hS hl
  obtain ⟨C, T, N, ty, hc, hkN, hN, hin, hty, hnm, hw, hfin⟩ := hf
  obtain ⟨i, hi0, hi⟩ := wl_get (cA := cA) (ad := ad) (S := S) (celL_obj o ho)
  have hlen : k < ((List.range (nF ci)).map (fv ad S ci o)).length := by rw [List.length_map, List.length_range]; omega
  refine va_put (D := D) (ci := ci) (v := .int x) (ty := .int) (C := C) (T := T) (N := N) X.1.1 X.1.2.1 X.1.2.2.2.2 hin ty hty hnm X.1.2.2.2.1 X.2.1.1 hR.1 hR.2 hS i (fs := (List.range (nF ci)).map (fv ad S ci o)) (by rw [hi]; subst hk; rfl) hc k hkN (X.1.2.2.2.2 _ hw) (fun _ h9 => h9) (hfin h0).1 (by rw [(hfin h0).2]; decide +kernel) rfl rfl hlen hd (fun H1 locs1 hP1 hD1 hS1 => ?_)
  have e : (wl cA ad S).set i (ad o 0, .inr (ci, ((List.range (nF ci)).map (fv ad S ci o)).set k (.int x))) = wl cA ad (up3 S o k 0 x) := by
    have hk18 : k < 18 := by
      rw [hN] at hkN
      have h5 : ∀ c, c < 5 → nF c ≤ 18 := by decide
      exact Nat.lt_of_lt_of_le hkN (h5 ci (by rw [← hk]; exact kd_lt ho))
    refine wl_set' hi0 ?_ (cel_num (fun a b h => up3_ne h) (num_out o ho k hk18 (by rw [hk]; exact h0)))
    subst hk
    show Sum.inr (kd o, (List.range (nF (kd o))).map (fv ad (up3 S o k 0 x) (kd o) o)) = _
    congr 2
    apply List.ext_getElem?
    intro n
    rw [List.getElem?_set, List.getElem?_map, List.getElem?_map]
    by_cases hn : k = n
    · subst hn
      rw [if_pos rfl, if_pos hlen, List.getElem?_range (by omega)]
      show some (fv ad (up3 S o k 0 x) (kd o) o k) = _
      unfold fv
      rw [h0]
      simp [up3]
    · rw [if_neg hn]
      cases hq : (List.range (nF (kd o)))[n]? with
      | none => rfl
      | some n' =>
        have hnn : n' = n := by
          have h9 := List.getElem?_eq_some_iff.mp hq
          obtain ⟨h8, h7⟩ := h9
          rw [List.getElem_range] at h7
          exact h7.symm
        subst hnn
        show some (fv ad (up3 S o k 0 x) (kd o) o n') = some (fv ad S (kd o) o n')
        congr 1
        unfold fv
        split
        · rw [up3_ne (fun q => hn q.2.symm)]
        all_goals rfl
  exact kk H1 locs1 ls ⟨by rw [← e]; exact hP1, by rw [← e]; exact hD1⟩ hS1 hl
theorem cel_ints {o k : Nat} (h1 : ft (kd o) k = 1) : cel cA ad S o (k + 1) = .inl (cA 0, fl (kd o) k, .inl (S o k)) := by
  show (if ft (kd o) k = 3 then _ else _) = _
  rw [h1]
  rfl
theorem cel_bools {o k : Nat} (h1 : ft (kd o) k = 2) : cel cA ad S o (k + 1) = .inl (cA 1, fl (kd o) k, .inl (S o k)) := by
  show (if ft (kd o) k = 3 then _ else _) = _
  rw [h1]
  rfl
theorem cel_days {o k : Nat} (h1 : ft (kd o) k = 3) : cel cA ad S o (k + 1) = .inl (cA 2, fl (kd o) k, .inr (.inr (.inr (.inr (fun i => some (ad (S o k i).toNatClampNeg 0)))))) := by
  show (if ft (kd o) k = 3 then _ else _) = _
  rw [h1]
  rfl
theorem v_iald (X : Cx p R m c cc nL s args own cells slots D cA ad A) {o ci k n : Nat} {i : Int32} (ho : o < 11) (hk : kd o = ci) (h1 : ft ci k = 1) (hn : fl ci k = n) (hin : vp_in i n) (hd : decode cc pc = .ok (.iaload, 1)) (kk : VV p l e R s m args below meth c cells slots Q D cA ad A nL S (pc + 1) lv (.int (S o k i.toNatClampNeg) :: st)) : VV p l e R s m args below meth c cells slots Q D cA ad A nL S pc lv (.int i :: .ref (ad o (k + 1)) :: st) := by
  intro H locs ls hR hS hl
  subst hk
  subst hn
  obtain ⟨q, -, hq⟩ := wl_get (cA := cA) (ad := ad) (S := S) (celL_arr ho (by rw [h1]; rfl))
  rw [cel_ints h1] at hq
  exact va_iald X.1.1 X.1.2.1 X.2.1.1 hR.1 q 0 hq rfl hin hd (kk H locs ls hR hS hl)
theorem v_zald (X : Cx p R m c cc nL s args own cells slots D cA ad A) {o ci k n : Nat} {i : Int32} (ho : o < 11) (hk : kd o = ci) (h1 : ft ci k = 2) (hn : fl ci k = n) (hin : vp_in i n) (hd : decode cc pc = .ok (.baload, 1)) (kk : VV p l e R s m args below meth c cells slots Q D cA ad A nL S (pc + 1) lv (.int (S o k i.toNatClampNeg) :: st)) : VV p l e R s m args below meth c cells slots Q D cA ad A nL S pc lv (.int i :: .ref (ad o (k + 1)) :: st) := by
  intro H locs ls hR hS hl
  subst hk
  subst hn
  obtain ⟨q, -, hq⟩ := wl_get (cA := cA) (ad := ad) (S := S) (celL_arr ho (by rw [h1]; rfl))
  rw [cel_bools h1] at hq
  exact va_zald X.1.1 X.1.2.1 X.2.1.1 hR.1 q 1 hq rfl hin hd (kk H locs ls hR hS hl)
theorem v_aald (X : Cx p R m c cc nL s args own cells slots D cA ad A) {o ci k n d : Nat} {i : Int32} (ho : o < 11) (hk : kd o = ci) (h1 : ft ci k = 3) (hn : fl ci k = n) (hin : vp_in i n) (he : d = (S o k i.toNatClampNeg).toNatClampNeg) (hd : decode cc pc = .ok (.aaload, 1)) (kk : VV p l e R s m args below meth c cells slots Q D cA ad A nL S (pc + 1) lv (.ref (ad d 0) :: st)) : VV p l e R s m args below meth c cells slots Q D cA ad A nL S pc lv (.int i :: .ref (ad o (k + 1)) :: st) := by
  intro H locs ls hR hS hl
  subst hk
  subst hn
  obtain ⟨q, -, hq⟩ := wl_get (cA := cA) (ad := ad) (S := S) (celL_arr ho (by rw [h1]; rfl))
  rw [cel_days h1] at hq
  subst he
  exact va_aldq X.1.1 X.1.2.1 X.2.1.1 hR.1 q 2 hq rfl hin hd (kk H locs ls hR hS hl)
theorem v_iast (X : Cx p R m c cc nL s args own cells slots D cA ad A) {o ci k n : Nat} {i x : Int32} (ho : o < 11) (hk : kd o = ci) (h1 : ft ci k = 1) (hn : fl ci k = n) (hin : vp_in i n) (hd : decode cc pc = .ok (.iastore, 1)) (kk : VV p l e R s m args below meth c cells slots Q D cA ad A nL (up3 S o k i.toNatClampNeg x) (pc + 1) lv st) : VV p l e R s m args below meth c cells slots Q D cA ad A nL S pc lv (.int x :: .int i :: .ref (ad o (k + 1)) :: st) := by
  intro H locs ls hR hS hl
  subst hk
  subst hn
  obtain ⟨q, hq0, hq⟩ := wl_get (cA := cA) (ad := ad) (S := S) (celL_arr ho (by rw [h1]; rfl))
  rw [cel_ints h1] at hq
  refine va_iast X.1.1 X.1.2.1 X.2.1.1 hR.1 hR.2 hS q 0 hq rfl hin hd (fun H1 locs1 hP1 hD1 hS1 => ?_)
  have e := wl_set (cA := cA) (ad := ad) (S := S) (S' := up3 S o k i.toNatClampNeg x) hq0 (v := .inl (cA 0, fl (kd o) k, .inl (upd (S o k) i.toNatClampNeg x))) (by rw [cel_ints h1, up3_row]) (cel_row (by rw [h1]; decide) (fun a b h => up3_ne h))
  exact kk H1 locs1 ls ⟨by rw [← e]; exact hP1, by rw [← e]; exact hD1⟩ hS1 hl
/-- a boolean's number -/
def zb (r : Int32) : Prop := r = 0 ∨ r = 1
theorem zb_nar {r : Int32} (h : zb r) : vp_nar .boolean r = r := by
  rcases h with rfl | rfl <;> decide
theorem zb_narrow {r : Int32} (h : zb r) : narrow .boolean (.int r) = .int r := by
  rcases h with rfl | rfl <;> decide
theorem v_zast (X : Cx p R m c cc nL s args own cells slots D cA ad A) {o ci k n : Nat} {i x : Int32} (ho : o < 11) (hk : kd o = ci) (h1 : ft ci k = 2) (hn : fl ci k = n) (hz : zb x) (hin : vp_in i n) (hd : decode cc pc = .ok (.bastore, 1)) (kk : VV p l e R s m args below meth c cells slots Q D cA ad A nL (up3 S o k i.toNatClampNeg x) (pc + 1) lv st) : VV p l e R s m args below meth c cells slots Q D cA ad A nL S pc lv (.int x :: .int i :: .ref (ad o (k + 1)) :: st) := by
  intro H locs ls hR hS hl
  subst hk
  subst hn
  obtain ⟨q, hq0, hq⟩ := wl_get (cA := cA) (ad := ad) (S := S) (celL_arr ho (by rw [h1]; rfl))
  rw [cel_bools h1] at hq
  refine va_zast X.1.1 X.1.2.1 X.2.1.1 hR.1 hR.2 hS q 1 hq rfl hin hd (fun H1 locs1 hP1 hD1 hS1 => ?_)
  rw [zb_nar hz] at hP1 hD1
  have e := wl_set (cA := cA) (ad := ad) (S := S) (S' := up3 S o k i.toNatClampNeg x) hq0 (v := .inl (cA 1, fl (kd o) k, .inl (upd (S o k) i.toNatClampNeg x))) (by rw [cel_bools h1, up3_row]) (cel_row (by rw [h1]; decide) (fun a b h => up3_ne h))
  exact kk H1 locs1 ls ⟨by rw [← e]; exact hP1, by rw [← e]; exact hD1⟩ hS1 hl
theorem v_aast (X : Cx p R m c cc nL s args own cells slots D cA ad A) {o ci k n d : Nat} {i : Int32} (ho : o < 11) (hk : kd o = ci) (h1 : ft ci k = 3) (hn : fl ci k = n) (hdd : d < 7) (hin : vp_in i n) (hd : decode cc pc = .ok (.aastore, 1)) (kk : VV p l e R s m args below meth c cells slots Q D cA ad A nL (up3 S o k i.toNatClampNeg (nI d)) (pc + 1) lv st) : VV p l e R s m args below meth c cells slots Q D cA ad A nL S pc lv (.ref (ad d 0) :: .int i :: .ref (ad o (k + 1)) :: st) := by
  intro H locs ls hR hS hl
  subst hk
  subst hn
  obtain ⟨q, hq0, hq⟩ := wl_get (cA := cA) (ad := ad) (S := S) (celL_arr ho (by rw [h1]; rfl))
  rw [cel_days h1] at hq
  obtain ⟨q2, -, hq2⟩ := wl_get (cA := cA) (ad := ad) (S := S) (celL_obj d (by omega))
  have hq2 : (wl cA ad S)[q2]? = some (ad d 0, .inr (0, (List.range (nF (kd d))).map (fv ad S (kd d) d))) := by rw [hq2]; show some (_, Sum.inr (kd d, _)) = _; rw [kd_day hdd]
  refine va_astq X.1.1 X.1.2.1 X.2.1.1 hR.1 hR.2 hS q 2 q2 0 (r := (RX0, TX0, 16)) hq rfl hq2 rfl hin hd (fun H1 locs1 hP1 hD1 hS1 => ?_)
  have e := wl_set (cA := cA) (ad := ad) (S := S) (S' := up3 S o k i.toNatClampNeg (nI d)) hq0 (v := .inl (cA 2, fl (kd o) k, .inr (.inr (.inr (.inr (va_up (fun i => some (ad (S o k i).toNatClampNeg 0)) i.toNatClampNeg (some (ad d 0)))))))) (by
    have hfun : (fun j => some (ad (up3 S o k i.toNatClampNeg (nI d) o k j).toNatClampNeg 0)) = va_up (fun i => some (ad (S o k i).toNatClampNeg 0)) i.toNatClampNeg (some (ad d 0)) := by
      funext j
      by_cases hj : j = i.toNatClampNeg
      · subst hj
        simp [up3, va_up, nI_clamp (show d < 2 ^ 31 by omega)]
      · simp [up3, va_up, hj]
    rw [cel_days h1, hfun]) (cel_row (by rw [h1]; decide) (fun a b h => up3_ne h))
  exact kk H1 locs1 ls ⟨by rw [← e]; exact hP1, by rw [← e]; exact hD1⟩ hS1 hl
theorem v_copy (X : Cx p R m c cc nL s args own cells slots D cA ad A) {o ci k n o2 ci2 k2 n2 idx : Nat} {sp dp x : Int32} (ho : o < 11) (hk : kd o = ci) (h1 : ft ci k = 1) (hn : fl ci k = n) (ho2 : o2 < 11) (hk2 : kd o2 = ci2) (h12 : ft ci2 k2 = 1) (hn2 : fl ci2 k2 = n2) (hw : Cond.methodLink own idx arraycopyName ∈ wA) (hw1 : Cond.native arraycopyName ∈ wA) (hw2 : Cond.static arraycopyName ∈ wA) (hw3 : Cond.initialized "java/lang/System" ∈ wA) (g1 : ¬ sp < 0) (g2 : ¬ dp < 0) (g3 : ¬ x < 0) (g4 : sp.toNatClampNeg + x.toNatClampNeg ≤ n) (g5 : dp.toNatClampNeg + x.toNatClampNeg ≤ n2) (hfr : 1 ≤ R.frames) (hlo : (st.map fun v => v.category).sum + (nativeFrameWords "java/lang/System" "arraycopy" 5 + 11) ≤ R.locals) (hd : decode cc pc = .ok (.invokestatic idx, 3)) (kk : VV p l e R s m args below meth c cells slots Q D cA ad A nL (upA S o2 k2 (va_cpy (S o k) (S o2 k2) sp.toNatClampNeg dp.toNatClampNeg x.toNatClampNeg)) (pc + 3) lv st) : VV p l e R s m args below meth c cells slots Q D cA ad A nL S pc lv (.int x :: .int dp :: .ref (ad o2 (k2 + 1)) :: .int sp :: .ref (ad o (k + 1)) :: st) := by
  intro H locs ls hR hS hl
  subst hk
  subst hn
  subst hk2
  subst hn2
  obtain ⟨q, -, hq⟩ := wl_get (cA := cA) (ad := ad) (S := S) (celL_arr ho (by rw [h1]; rfl))
  rw [cel_ints h1] at hq
  obtain ⟨q2, hq20, hq2⟩ := wl_get (cA := cA) (ad := ad) (S := S) (celL_arr ho2 (by rw [h12]; rfl))
  rw [cel_ints h12] at hq2
  refine va_copyi (ty := .int) X.1.1 X.1.2.1 (by rw [X.1.2.2.1]; exact hl.1.symm) X.1.2.2.2.1 (X.1.2.2.2.2 _ hw) (X.1.2.2.2.2 _ hw1) (X.1.2.2.2.2 _ hw2) (X.1.2.2.2.2 _ hw3) X.2.1.1 hR.1 hR.2 hS q q2 0 0 hq hq2 rfl rfl rfl g1 g2 g3 g4 g5 (fun _ _ => rfl) hfr hlo hd (fun H1 locs1 hP1 hD1 hS1 => ?_)
  have e := wl_set (cA := cA) (ad := ad) (S := S) (S' := upA S o2 k2 (va_cpy (S o k) (S o2 k2) sp.toNatClampNeg dp.toNatClampNeg x.toNatClampNeg)) hq20 (v := .inl (cA 0, fl (kd o2) k2, .inl (va_cpy (S o k) (S o2 k2) sp.toNatClampNeg dp.toNatClampNeg x.toNatClampNeg))) (by rw [cel_ints h12, upA_row]) (cel_row (by rw [h12]; decide) (fun a b h => upA_ne h))
  exact kk H1 locs1 ls ⟨by rw [← e]; exact hP1, by rw [← e]; exact hD1⟩ hS1 hl
theorem v_mmax (X : Cx p R m c cc nL s args own cells slots D cA ad A) {idx : Nat} {x y : Int32} (hw : Cond.methodLink own idx Lib.Math.max.name ∈ wA) (hw1 : Cond.static Lib.Math.max.name ∈ wA) (hw2 : Cond.initialized "java/lang/Math" ∈ wA) (hw3 : Cond.code Lib.Math.max.name Lib.Math.max.code 2 (some .int) ∈ wA) (hfr : 1 ≤ R.frames) (hlo : (st.map fun v => v.category).sum + 13 ≤ R.locals) (hd : decode cc pc = .ok (.invokestatic idx, 3)) (kk : VV p l e R s m args below meth c cells slots Q D cA ad A nL S (pc + 3) lv (.int (if x < y then y else x) :: st)) : VV p l e R s m args below meth c cells slots Q D cA ad A nL S pc lv (.int y :: .int x :: st) := fun H locs ls hR hS hl => va_mmax X.1.1 X.1.2.1 (by rw [X.1.2.2.1]; exact hl.1.symm) X.1.2.2.2.1 (X.1.2.2.2.2 _ hw) (X.1.2.2.2.2 _ hw1) (X.1.2.2.2.2 _ hw2) (X.1.2.2.2.2 _ hw3) hfr hlo X.2.2.1 X.2.2.2 hd (kk H locs ls hR hS hl)
theorem v_mmin (X : Cx p R m c cc nL s args own cells slots D cA ad A) {idx : Nat} {x y : Int32} (hw : Cond.methodLink own idx Lib.Math.min.name ∈ wA) (hw1 : Cond.static Lib.Math.min.name ∈ wA) (hw2 : Cond.initialized "java/lang/Math" ∈ wA) (hw3 : Cond.code Lib.Math.min.name Lib.Math.min.code 2 (some .int) ∈ wA) (hfr : 1 ≤ R.frames) (hlo : (st.map fun v => v.category).sum + 13 ≤ R.locals) (hd : decode cc pc = .ok (.invokestatic idx, 3)) (kk : VV p l e R s m args below meth c cells slots Q D cA ad A nL S (pc + 3) lv (.int (if y < x then y else x) :: st)) : VV p l e R s m args below meth c cells slots Q D cA ad A nL S pc lv (.int y :: .int x :: st) := fun H locs ls hR hS hl => va_mmin X.1.1 X.1.2.1 (by rw [X.1.2.2.1]; exact hl.1.symm) X.1.2.2.2.1 (X.1.2.2.2.2 _ hw) (X.1.2.2.2.2 _ hw1) (X.1.2.2.2.2 _ hw2) (X.1.2.2.2.2 _ hw3) hfr hlo X.2.2.1 X.2.2.2 hd (kk H locs ls hR hS hl)
theorem v_getsL (X : Cx p R m c cc nL s args own cells slots D cA ad A) {idx : Nat} (hw : Cond.fieldLink own idx RX3 "LEAST_MINUTES" "[I" ∈ wA) (hd : decode cc pc = .ok (.getstatic idx, 3)) (kk : VV p l e R s m args below meth c cells slots Q D cA ad A nL S (pc + 3) lv (.ref (ad 11 0) :: st)) : VV p l e R s m args below meth c cells slots Q D cA ad A nL S pc lv st := fun H locs ls hR hS hl => va_gets X.1.1 X.1.2.1 X.2.1.2.2.2.1 hS X.1.2.2.2.1 (X.1.2.2.2.2 _ hw) (fun _ h => h) hd (kk H locs ls hR hS hl)
theorem v_getsM (X : Cx p R m c cc nL s args own cells slots D cA ad A) {idx : Nat} (hw : Cond.fieldLink own idx RX3 "MOST_MINUTES" "[I" ∈ wA) (hd : decode cc pc = .ok (.getstatic idx, 3)) (kk : VV p l e R s m args below meth c cells slots Q D cA ad A nL S (pc + 3) lv (.ref (ad 12 0) :: st)) : VV p l e R s m args below meth c cells slots Q D cA ad A nL S pc lv st := fun H locs ls hR hS hl => va_gets X.1.1 X.1.2.1 X.2.1.2.2.2.2.2.1 hS X.1.2.2.2.1 (X.1.2.2.2.2 _ hw) (fun _ h => h) hd (kk H locs ls hR hS hl)
theorem v_tiL (X : Cx p R m c cc nL s args own cells slots D cA ad A) {i : Int32} (hin : vp_in i 4) (hd : decode cc pc = .ok (.iaload, 1)) (kk : VV p l e R s m args below meth c cells slots Q D cA ad A nL S (pc + 1) lv (.int (tLeast i.toNatClampNeg) :: st)) : VV p l e R s m args below meth c cells slots Q D cA ad A nL S pc lv (.int i :: .ref (ad 11 0) :: st) := fun H locs ls hR hS hl => va_ti X.1.1 X.1.2.1 X.2.1.2.2.2.2.1 hS hin rfl hd (kk H locs ls hR hS hl)
theorem v_tiM (X : Cx p R m c cc nL s args own cells slots D cA ad A) {i : Int32} (hin : vp_in i 4) (hd : decode cc pc = .ok (.iaload, 1)) (kk : VV p l e R s m args below meth c cells slots Q D cA ad A nL S (pc + 1) lv (.int (tMost i.toNatClampNeg) :: st)) : VV p l e R s m args below meth c cells slots Q D cA ad A nL S pc lv (.int i :: .ref (ad 12 0) :: st) := fun H locs ls hR hS hl => va_ti X.1.1 X.1.2.1 X.2.1.2.2.2.2.2.2 hS hin rfl hd (kk H locs ls hR hS hl)
/-- a contract over the world -/
abbrev MT (l : Launch) (y : MethodName) (cY : ByteArray) (maxL : Nat) (ret : Option FieldType) (fr lo : Nat) (av : List Value) (D : va_G) (cA : Nat → ClassId) (ad : Nat → Nat → Nat) (A : Nat → Prop) (S : St) (Qc : Array Value → State → Outcome → State → Prop) : Prop := Met l y (.code y cY maxL ret :: wA) ({ frames := fr, cells := 0, slots := 0, locals := lo }) (va_Pc av (RepB D cA ad A S)) Qc 0 0 A
abbrev Qi (D : va_G) (cA : Nat → ClassId) (ad : Nat → Nat → Nat) (A : Nat → Prop) (K : Int32 → St → Prop) : Array Value → State → Outcome → State → Prop := va_Qi K (fun u t => Rep D cA ad A u t.heap) A
abbrev Qz (D : va_G) (cA : Nat → ClassId) (ad : Nat → Nat → Nat) (A : Nat → Prop) (K : Int32 → St → Prop) : Array Value → State → Outcome → State → Prop := va_Qi (fun r u => K r u ∧ zb r) (fun u t => Rep D cA ad A u t.heap) A
abbrev Qv (D : va_G) (cA : Nat → ClassId) (ad : Nat → Nat → Nat) (A : Nat → Prop) (K : St → Prop) : Array Value → State → Outcome → State → Prop := va_Qv K (fun u t => Rep D cA ad A u t.heap) A
/-- a method's own words, in every contract -/
def MW (y : MethodName) (cY : ByteArray) (maxL : Nat) (ret : Option FieldType) (n : Nat) : Prop := Cond.code y cY maxL ret ∈ wA ∧ Cond.initialized y.cls ∈ wA ∧ y.cls ≠ "java/lang/invoke/MethodHandle" ∧ y.cls ≠ "java/lang/invoke/VarHandle" ∧ (parseMethodDescriptor y.desc).map (fun d => d.parameters.length) = some n
theorem goodMW {y : MethodName} {cY : ByteArray} {maxL : Nat} {ret : Option FieldType} {n : Nat} (h : MW y cY maxL ret n) : GoodIn wA (.code y cY maxL ret :: wA) := by
  intro w hw
  have hm : w ∈ wA := by
    rcases List.mem_cons.mp hw with e | e
    · rw [e]; exact h.1
    · exact e
  exact ⟨hm, good_of_word (List.all_eq_true.mp goodAll w hm)⟩
def MV (own : String) (idx : Nat) (C : String) (y : MethodName) : Prop := Cond.methodLink own idx y ∈ wA ∧ Cond.instanceMethod y ∈ wA ∧ Cond.selects C y y ∈ wA ∧ y.cls = C
def MS (own : String) (idx : Nat) (y : MethodName) : Prop := Cond.methodLink own idx y ∈ wA ∧ Cond.static y ∈ wA
def kN (ci : Nat) : String := (kcl.getD ci (RX0, TX0, 16)).1
theorem v_runV (X : Cx p R m c cc nL s args own cells slots D cA ad A) {H : Heap} {locs : List Loc} {ls : Array Slot} {y : MethodName} {cY : ByteArray} {maxL n fr lo idx o ci : Nat} {ret : Option FieldType} {As rest : List Value} {Qc : Array Value → State → Outcome → State → Prop} (hR : Rep D cA ad A S H) (hS : va_S A s.heap H locs) (hl : lv_has ls nL lv)
    (hM : MT l y cY maxL ret fr lo (.ref (ad o 0) :: As) D cA ad A S Qc) (hm : MW y cY maxL ret n) (hv : MV own idx (kN ci) y) (ho : o < 11) (hk : kd o = ci) (hRo : fr + 1 ≤ R.frames ∧ 8 + (maxL + 11) + lo ≤ R.locals) (hn : As.length = n) (hW : (rest.map fun v => v.category).sum ≤ 8) (hd : decode cc pc = .ok (.invokevirtual idx, 3)) : va_Run p l e R s m args below meth c H locs cells slots 0 0 (F0 m pc ls (As.reverse ++ .ref (ad o 0) :: rest)) rest (Qc (Value.ref (ad o 0) :: As).toArray) A := by
  obtain ⟨i, -, hi⟩ := wl_get (cA := cA) (ad := ad) (S := S) (celL_obj o ho)
  have hci : ci < 5 := by rw [← hk]; exact kd_lt ho
  have hq : kcl[ci]? = some (kcl.getD ci (RX0, TX0, 16)) := by
    rw [List.getD_eq_getElem?_getD]
    have h5 : ∀ c, c < 5 → ∃ q, kcl[c]? = some q := by
      intro c hc
      exact ⟨kcl[c]'(by exact hc), List.getElem?_eq_getElem _⟩
    obtain ⟨q, h⟩ := h5 ci hci
    rw [h]
    rfl
  have hw := X.1.2.2.2.2
  refine va_runV (S := ⟨X.1.1, X.1.2.1, X.1.2.2.1, X.1.2.2.2.1, X.1.2.2.2.2⟩) (C := kN ci) (bytes := cY) (maxL := maxL) (ret := ret) (n := n) hM ⟨callB_of n hw (goodMW hm) rfl rfl rfl (hw _ hm.2.1) (hw _ hv.1) hm.2.2 hRo, hw _ hv.2.1, hw _ hv.2.2.1⟩ ⟨repB_blind, ?_, ?_⟩ rfl hn hl.1 rfl (lv_room hW) hd ⟨X.2.2.1, X.2.2.2⟩
  · exact va_recv (ci := ci) (q0 := i) X.2.1.1 hR.1 hq (by rw [hi]; subst hk; rfl)
  · intro U hU hWm
    exact ⟨rfl, by rw [hU]; exact hR, X.2.1.move hS hU hWm⟩
theorem v_callVi (X : Cx p R m c cc nL s args own cells slots D cA ad A) {y : MethodName} {cY : ByteArray} {maxL n fr lo idx o ci : Nat} {ret : Option FieldType} {As rest stk : List Value} {K : Int32 → St → Prop} (hM : MT l y cY maxL ret fr lo (.ref (ad o 0) :: As) D cA ad A S (Qi D cA ad A K)) (hm : MW y cY maxL ret n) (hv : MV own idx (kN ci) y) (ho : o < 11) (hk : kd o = ci) (hRo : fr + 1 ≤ R.frames ∧ 8 + (maxL + 11) + lo ≤ R.locals) (hn : As.length = n) (hW : (rest.map fun v => v.category).sum ≤ 8) (hst : stk = As.reverse ++ .ref (ad o 0) :: rest) (hd : decode cc pc = .ok (.invokevirtual idx, 3)) (kk : ∀ (r : Int32) (S' : St), K r S' → VV p l e R s m args below meth c cells slots Q D cA ad A nL S' (pc + 3) lv (.int r :: rest)) : VV p l e R s m args below meth c cells slots Q D cA ad A nL S pc lv stk := by
  intro H locs ls hR hS hl
  subst hst
  refine va_calli (v_runV X hR hS hl hM hm hv ho hk hRo hn hW hd) hS (fun _ _ h => h) (fun _ h => h) (fun r u t H1 locs1 ht _ hw hB _ _ hS1 => ?_)
  exact kk r u hw H1 locs1 ls (by rw [← ht]; exact hB) hS1 hl
theorem v_callVz (X : Cx p R m c cc nL s args own cells slots D cA ad A) {y : MethodName} {cY : ByteArray} {maxL n fr lo idx o ci : Nat} {ret : Option FieldType} {As rest stk : List Value} {K : Int32 → St → Prop} (hM : MT l y cY maxL ret fr lo (.ref (ad o 0) :: As) D cA ad A S (Qz D cA ad A K)) (hm : MW y cY maxL ret n) (hv : MV own idx (kN ci) y) (ho : o < 11) (hk : kd o = ci) (hRo : fr + 1 ≤ R.frames ∧ 8 + (maxL + 11) + lo ≤ R.locals) (hn : As.length = n) (hW : (rest.map fun v => v.category).sum ≤ 8) (hst : stk = As.reverse ++ .ref (ad o 0) :: rest) (hd : decode cc pc = .ok (.invokevirtual idx, 3)) (kk : ∀ (r : Int32) (S' : St), K r S' → zb r → VV p l e R s m args below meth c cells slots Q D cA ad A nL S' (pc + 3) lv (.int r :: rest)) : VV p l e R s m args below meth c cells slots Q D cA ad A nL S pc lv stk := by
  intro H locs ls hR hS hl
  subst hst
  refine va_calli (v_runV X hR hS hl hM hm hv ho hk hRo hn hW hd) hS (fun _ _ h => h) (fun _ h => h) (fun r u t H1 locs1 ht _ hw hB _ _ hS1 => ?_)
  exact kk r u hw.1 hw.2 H1 locs1 ls (by rw [← ht]; exact hB) hS1 hl
theorem v_callVv (X : Cx p R m c cc nL s args own cells slots D cA ad A) {y : MethodName} {cY : ByteArray} {maxL n fr lo idx o ci : Nat} {ret : Option FieldType} {As rest stk : List Value} {K : St → Prop} (hM : MT l y cY maxL ret fr lo (.ref (ad o 0) :: As) D cA ad A S (Qv D cA ad A K)) (hm : MW y cY maxL ret n) (hv : MV own idx (kN ci) y) (ho : o < 11) (hk : kd o = ci) (hRo : fr + 1 ≤ R.frames ∧ 8 + (maxL + 11) + lo ≤ R.locals) (hn : As.length = n) (hW : (rest.map fun v => v.category).sum ≤ 8) (hst : stk = As.reverse ++ .ref (ad o 0) :: rest) (hd : decode cc pc = .ok (.invokevirtual idx, 3)) (kk : ∀ (S' : St), K S' → VV p l e R s m args below meth c cells slots Q D cA ad A nL S' (pc + 3) lv rest) : VV p l e R s m args below meth c cells slots Q D cA ad A nL S pc lv stk := by
  intro H locs ls hR hS hl
  subst hst
  refine va_callv (v_runV X hR hS hl hM hm hv ho hk hRo hn hW hd) hS (fun _ _ h => h) (fun _ h => h) (fun u t H1 locs1 ht _ hw hB _ _ hS1 => ?_)
  exact kk u hw H1 locs1 ls (by rw [← ht]; exact hB) hS1 hl
theorem v_runS (X : Cx p R m c cc nL s args own cells slots D cA ad A) {H : Heap} {locs : List Loc} {ls : Array Slot} {y : MethodName} {cY : ByteArray} {maxL n fr lo idx : Nat} {ret : Option FieldType} {As rest : List Value} {Qc : Array Value → State → Outcome → State → Prop} (hR : Rep D cA ad A S H) (hS : va_S A s.heap H locs) (hl : lv_has ls nL lv)
    (hM : MT l y cY maxL ret fr lo As D cA ad A S Qc) (hm : MW y cY maxL ret n) (hv : MS own idx y) (hRo : fr + 1 ≤ R.frames ∧ 8 + (maxL + 11) + lo ≤ R.locals) (hn : As.length = n) (hW : (rest.map fun v => v.category).sum ≤ 8) (hd : decode cc pc = .ok (.invokestatic idx, 3)) : va_Run p l e R s m args below meth c H locs cells slots 0 0 (F0 m pc ls (As.reverse ++ rest)) rest (Qc As.toArray) A := by
  have hw := X.1.2.2.2.2
  refine va_runS (S := ⟨X.1.1, X.1.2.1, X.1.2.2.1, X.1.2.2.2.1, X.1.2.2.2.2⟩) (bytes := cY) (maxL := maxL) (ret := ret) (n := n) hM ⟨callB_of n hw (goodMW hm) rfl rfl rfl (hw _ hm.2.1) (hw _ hv.1) hm.2.2 hRo, hw _ hv.2⟩ ⟨repB_blind, ?_⟩ rfl hn hl.1 rfl (lv_room hW) hd ⟨X.2.2.1, X.2.2.2⟩
  intro U hU hWm
  exact ⟨rfl, by rw [hU]; exact hR, X.2.1.move hS hU hWm⟩
theorem v_callSz (X : Cx p R m c cc nL s args own cells slots D cA ad A) {y : MethodName} {cY : ByteArray} {maxL n fr lo idx : Nat} {ret : Option FieldType} {As rest stk : List Value} {K : Int32 → St → Prop} (hM : MT l y cY maxL ret fr lo As D cA ad A S (Qz D cA ad A K)) (hm : MW y cY maxL ret n) (hv : MS own idx y) (hRo : fr + 1 ≤ R.frames ∧ 8 + (maxL + 11) + lo ≤ R.locals) (hn : As.length = n) (hW : (rest.map fun v => v.category).sum ≤ 8) (hst : stk = As.reverse ++ rest) (hd : decode cc pc = .ok (.invokestatic idx, 3)) (kk : ∀ (r : Int32) (S' : St), K r S' → zb r → VV p l e R s m args below meth c cells slots Q D cA ad A nL S' (pc + 3) lv (.int r :: rest)) : VV p l e R s m args below meth c cells slots Q D cA ad A nL S pc lv stk := by
  intro H locs ls hR hS hl
  subst hst
  refine va_calli (v_runS X hR hS hl hM hm hv hRo hn hW hd) hS (fun _ _ h => h) (fun _ h => h) (fun r u t H1 locs1 ht _ hw hB _ _ hS1 => ?_)
  exact kk r u hw.1 hw.2 H1 locs1 ls (by rw [← ht]; exact hB) hS1 hl
theorem v_callSi (X : Cx p R m c cc nL s args own cells slots D cA ad A) {y : MethodName} {cY : ByteArray} {maxL n fr lo idx : Nat} {ret : Option FieldType} {As rest stk : List Value} {K : Int32 → St → Prop} (hM : MT l y cY maxL ret fr lo As D cA ad A S (Qi D cA ad A K)) (hm : MW y cY maxL ret n) (hv : MS own idx y) (hRo : fr + 1 ≤ R.frames ∧ 8 + (maxL + 11) + lo ≤ R.locals) (hn : As.length = n) (hW : (rest.map fun v => v.category).sum ≤ 8) (hst : stk = As.reverse ++ rest) (hd : decode cc pc = .ok (.invokestatic idx, 3)) (kk : ∀ (r : Int32) (S' : St), K r S' → VV p l e R s m args below meth c cells slots Q D cA ad A nL S' (pc + 3) lv (.int r :: rest)) : VV p l e R s m args below meth c cells slots Q D cA ad A nL S pc lv stk := by
  intro H locs ls hR hS hl
  subst hst
  refine va_calli (v_runS X hR hS hl hM hm hv hRo hn hW hd) hS (fun _ _ h => h) (fun _ h => h) (fun r u t H1 locs1 ht _ hw hB _ _ hS1 => ?_)
  exact kk r u hw H1 locs1 ls (by rw [← ht]; exact hB) hS1 hl
/-- the nest mate's static method, from Day and Plan -/
theorem v_callSN (X : Cx p R m c cc nL s args own cells slots D cA ad A) {y : MethodName} {cY : ByteArray} {maxL n fr lo idx : Nat} {ret : Option FieldType} {host : String} {As rest stk : List Value} {K : Int32 → St → Prop} (hM : MT l y cY maxL ret fr lo As D cA ad A S (Qi D cA ad A K)) (hm : MW y cY maxL ret n) (hst0 : Cond.static y ∈ wA) (hN : va_Nw (.methodLinkNest own idx y host) s) (hRo : fr + 1 ≤ R.frames ∧ 8 + (maxL + 11) + lo ≤ R.locals) (hn : As.length = n) (hW : (rest.map fun v => v.category).sum ≤ 8) (hst : stk = As.reverse ++ rest) (hd : decode cc pc = .ok (.invokestatic idx, 3)) (kk : ∀ (r : Int32) (S' : St), K r S' → VV p l e R s m args below meth c cells slots Q D cA ad A nL S' (pc + 3) lv (.int r :: rest)) : VV p l e R s m args below meth c cells slots Q D cA ad A nL S pc lv stk := by
  intro H locs ls hR hS hl
  subst hst
  have hw := X.1.2.2.2.2
  refine va_calli (va_runSN (S := ⟨X.1.1, X.1.2.1, X.1.2.2.1, X.1.2.2.2.1, X.1.2.2.2.2⟩) (bytes := cY) (maxL := maxL) (ret := ret) (n := n) hM ⟨va_cnB n hw (goodMW hm) rfl rfl rfl hN (hw _ hm.2.1) hm.2.2 hRo, hw _ hst0, trivial⟩ ⟨repB_blind, fun U hU hWm => ⟨rfl, by rw [hU]; exact hR, X.2.1.move hS hU hWm⟩⟩ rfl hn hl.1 rfl (lv_room hW) hd ⟨X.2.2.1, X.2.2.2⟩) hS (fun _ _ h => h) (fun _ h => h) (fun r u t H1 locs1 ht _ hw hB _ _ hS1 => ?_)
  exact kk r u hw H1 locs1 ls (by rw [← ht]; exact hB) hS1 hl
end VRows
section VEnds
variable {p : Program} {l : Launch} {e : Env} {R : Room} {s : State} {m : MethodId} {args : Array Value} {below : List Frame} {meth : Method} {c : Code} {cells slots : Nat} {D : va_G} {cA : Nat → ClassId} {ad : Nat → Nat → Nat} {A : Nat → Prop} {nL : Nat} {cc : ByteArray} {own : String} {S : St} {pc : Nat} {lv : List (Nat × Value)} {st : List Value}
theorem v_iret (X : Cx p R m c cc nL s args own cells slots D cA ad A) {v : Int32} {K : Int32 → St → Prop} (hr : meth.sig.returnType = some .int) (hlocks : meth.locks = false) (hd : decode cc pc = .ok (.ireturn, 1)) (hK : K v S) : VV p l e R s m args below meth c cells slots (MQ below (Qi D cA ad A K) args s cells slots A) D cA ad A nL S pc lv [.int v] := fun H locs ls hR hS hl => W.iret (hlocks := hlocks) X.1.1 X.1.2.1 hr (fun t ht hW => ⟨⟨v, S, rfl, hK, (show Rep D cA ad A S t.heap by rw [ht]; exact hR)⟩, hS.F ht⟩) hS.2.2 hd
theorem v_zret (X : Cx p R m c cc nL s args own cells slots D cA ad A) {v : Int32} {K : Int32 → St → Prop} (hr : meth.sig.returnType = some .boolean) (hlocks : meth.locks = false) (hd : decode cc pc = .ok (.ireturn, 1)) (hz : zb v) (hK : K v S) : VV p l e R s m args below meth c cells slots (MQ below (Qz D cA ad A K) args s cells slots A) D cA ad A nL S pc lv [.int v] := fun H locs ls hR hS hl => W.zret (hlocks := hlocks) X.1.1 X.1.2.1 hr (zb_narrow hz) (fun t ht hW => ⟨⟨v, S, rfl, ⟨hK, hz⟩, (show Rep D cA ad A S t.heap by rw [ht]; exact hR)⟩, hS.F ht⟩) hS.2.2 hd
theorem v_vret (X : Cx p R m c cc nL s args own cells slots D cA ad A) {K : St → Prop} (hr : meth.sig.returnType = none) (hlocks : meth.locks = false) (hd : decode cc pc = .ok (.return_, 1)) (hK : K S) : VV p l e R s m args below meth c cells slots (MQ below (Qv D cA ad A K) args s cells slots A) D cA ad A nL S pc lv [] := fun H locs ls hR hS hl => W.vret (hlocks := hlocks) X.1.1 X.1.2.1 hr (fun t ht hW => ⟨⟨S, rfl, hK, (show Rep D cA ad A S t.heap by rw [ht]; exact hR)⟩, hS.F ht⟩) hS.2.2 hd
end VEnds
/-- a contract out of a walk -/
theorem MT.ofV {l : Launch} {y : MethodName} {cY : ByteArray} {maxL : Nat} {ret : Option FieldType} {fr lo : Nat} {av : List Value} {D : va_G} {cA : Nat → ClassId} {ad : Nat → Nat → Nat} {A : Nat → Prop} {S : St} {Qc : Array Value → State → Outcome → State → Prop} (hy : plainName y.cls = true) (hlen : (lg_sl av).length ≤ maxL)
    (body : ∀ p e s m args below meth c, Cx p ({ frames := fr, cells := 0, slots := 0, locals := lo }) m c cY maxL s args y.cls 0 0 D cA ad A → meth.sig.returnType = ret → meth.locks = false → VV p l e ({ frames := fr, cells := 0, slots := 0, locals := lo }) s m args below meth c 0 0 (MQ below Qc args s 0 0 A) D cA ad A maxL S 0 (lv_args 0 av) []) : MT l y cY maxL ret fr lo av D cA ad A S Qc := by
  refine Met.ofW (cc := cY) (maxL := maxL) (ret := ret) hy rfl ?_
  intro p e s m args below meth c s₁ B hml hv
  obtain ⟨rfl, hRep, hWd⟩ := hv
  have hts := atoms_spec (ws := Cond.code y cY maxL ret :: wA) B.pre
  have hown : s.vm.findClass y.cls = some m.cls := findClass_of_methodNamed B.named
  have hl := lv_entry av (n := maxL) hlen
  rw [lg_entry_eq]
  exact body p e s m _ below meth c ⟨⟨B.exec, B.bytes, hml, hown, fun w hw => hts w (List.mem_cons_of_mem _ hw)⟩, hWd, Nat.le_refl _, Nat.le_refl _⟩ B.returns B.notSynchronized s.heap [] _ hRep va_S.rf hl
end
