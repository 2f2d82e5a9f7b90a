section
-- ===== PART A: goes FIRST, ahead of the names: the tables' words, and 'selects' of the private methods out of them =====
/-- a private method of a class that the tables say can be made, by its rows of tables_1 -/
def lw_okq (q : MethodName × Nat) : Prop := (q.1.cls ≠ "java/lang/invoke/MethodHandle" ∧ q.1.cls ≠ "java/lang/invoke/VarHandle") ∧ Cond.instantiable q.1.cls q.2 ∈ tables_1 ∧ Cond.privateMethod q.1 ∈ tables_1 ∧ Cond.instanceMethod q.1 ∈ tables_1
theorem lw_p0 : lw_okq (⟨"ProjectionRoom$History", "forgetOldest", "()V"⟩, 2) := ⟨⟨by decide +kernel, by decide +kernel⟩, List.mem_of_getElem? (i := 100) (by decide +kernel), List.mem_of_getElem? (i := 206) (by decide +kernel), List.mem_of_getElem? (i := 207) (by decide +kernel)⟩
theorem lw_p1 : lw_okq (⟨"ProjectionRoom", "isMachine", "(I)Z"⟩, 4) := ⟨⟨by decide +kernel, by decide +kernel⟩, List.mem_of_getElem? (i := 9) (by decide +kernel), List.mem_of_getElem? (i := 253) (by decide +kernel), List.mem_of_getElem? (i := 254) (by decide +kernel)⟩
theorem lw_p2 : lw_okq (⟨"ProjectionRoom", "isShow", "(I)Z"⟩, 4) := ⟨⟨by decide +kernel, by decide +kernel⟩, List.mem_of_getElem? (i := 9) (by decide +kernel), List.mem_of_getElem? (i := 289) (by decide +kernel), List.mem_of_getElem? (i := 290) (by decide +kernel)⟩
theorem lw_p3 : lw_okq (⟨"ProjectionRoom$Day", "dropBreaksOf", "(I)V"⟩, 16) := ⟨⟨by decide +kernel, by decide +kernel⟩, List.mem_of_getElem? (i := 17) (by decide +kernel), List.mem_of_getElem? (i := 297) (by decide +kernel), List.mem_of_getElem? (i := 298) (by decide +kernel)⟩
theorem lw_p4 : lw_okq (⟨"ProjectionRoom", "isReelOfShow", "(II)Z"⟩, 4) := ⟨⟨by decide +kernel, by decide +kernel⟩, List.mem_of_getElem? (i := 9) (by decide +kernel), List.mem_of_getElem? (i := 309) (by decide +kernel), List.mem_of_getElem? (i := 310) (by decide +kernel)⟩
theorem lw_p5 : lw_okq (⟨"ProjectionRoom$Plan", "open", "(LProjectionRoom$Day;)V"⟩, 16) := ⟨⟨by decide +kernel, by decide +kernel⟩, List.mem_of_getElem? (i := 117) (by decide +kernel), List.mem_of_getElem? (i := 329) (by decide +kernel), List.mem_of_getElem? (i := 330) (by decide +kernel)⟩
theorem lw_p6 : lw_okq (⟨"ProjectionRoom$Plan", "bringHome", "(II)V"⟩, 16) := ⟨⟨by decide +kernel, by decide +kernel⟩, List.mem_of_getElem? (i := 117) (by decide +kernel), List.mem_of_getElem? (i := 333) (by decide +kernel), List.mem_of_getElem? (i := 334) (by decide +kernel)⟩
theorem lw_p7 : lw_okq (⟨"ProjectionRoom$Plan", "sortShows", "(LProjectionRoom$Day;)V"⟩, 16) := ⟨⟨by decide +kernel, by decide +kernel⟩, List.mem_of_getElem? (i := 117) (by decide +kernel), List.mem_of_getElem? (i := 338) (by decide +kernel), List.mem_of_getElem? (i := 339) (by decide +kernel)⟩
theorem lw_p8 : lw_okq (⟨"ProjectionRoom$Plan", "planShow", "(LProjectionRoom$Day;I)V"⟩, 16) := ⟨⟨by decide +kernel, by decide +kernel⟩, List.mem_of_getElem? (i := 117) (by decide +kernel), List.mem_of_getElem? (i := 342) (by decide +kernel), List.mem_of_getElem? (i := 343) (by decide +kernel)⟩
theorem lw_p9 : lw_okq (⟨"ProjectionRoom$Plan", "planReel", "(LProjectionRoom$Day;IIII)I"⟩, 16) := ⟨⟨by decide +kernel, by decide +kernel⟩, List.mem_of_getElem? (i := 117) (by decide +kernel), List.mem_of_getElem? (i := 350) (by decide +kernel), List.mem_of_getElem? (i := 351) (by decide +kernel)⟩
theorem lw_p10 : lw_okq (⟨"ProjectionRoom$Plan", "bring", "(LProjectionRoom$Day;II)I"⟩, 16) := ⟨⟨by decide +kernel, by decide +kernel⟩, List.mem_of_getElem? (i := 117) (by decide +kernel), List.mem_of_getElem? (i := 354) (by decide +kernel), List.mem_of_getElem? (i := 355) (by decide +kernel)⟩
theorem lw_p11 : lw_okq (⟨"ProjectionRoom$Plan", "soonestCarrier", "(LProjectionRoom$Day;I)I"⟩, 16) := ⟨⟨by decide +kernel, by decide +kernel⟩, List.mem_of_getElem? (i := 117) (by decide +kernel), List.mem_of_getElem? (i := 358) (by decide +kernel), List.mem_of_getElem? (i := 359) (by decide +kernel)⟩
theorem lw_p12 : lw_okq (⟨"ProjectionRoom$Plan", "soonestMachine", "(LProjectionRoom$Day;IIII)I"⟩, 16) := ⟨⟨by decide +kernel, by decide +kernel⟩, List.mem_of_getElem? (i := 117) (by decide +kernel), List.mem_of_getElem? (i := 365) (by decide +kernel), List.mem_of_getElem? (i := 366) (by decide +kernel)⟩
theorem lw_p13 : lw_okq (⟨"ProjectionRoom$Plan", "startOn", "(LProjectionRoom$Day;IIII)I"⟩, 16) := ⟨⟨by decide +kernel, by decide +kernel⟩, List.mem_of_getElem? (i := 117) (by decide +kernel), List.mem_of_getElem? (i := 369) (by decide +kernel), List.mem_of_getElem? (i := 370) (by decide +kernel)⟩
theorem lw_p14 : lw_okq (⟨"ProjectionRoom$Plan", "needsPlate", "(II)Z"⟩, 16) := ⟨⟨by decide +kernel, by decide +kernel⟩, List.mem_of_getElem? (i := 117) (by decide +kernel), List.mem_of_getElem? (i := 373) (by decide +kernel), List.mem_of_getElem? (i := 374) (by decide +kernel)⟩
theorem lw_p15 : lw_okq (⟨"ProjectionRoomModel", "keeps", "()V"⟩, 18) := ⟨⟨by decide +kernel, by decide +kernel⟩, List.mem_of_getElem? (i := 456) (by decide +kernel), List.mem_of_getElem? (i := 534) (by decide +kernel), List.mem_of_getElem? (i := 535) (by decide +kernel)⟩
def lw_privs_1 : List (MethodName × Nat) := [(⟨"ProjectionRoom$History", "forgetOldest", "()V"⟩, 2), (⟨"ProjectionRoom", "isMachine", "(I)Z"⟩, 4), (⟨"ProjectionRoom", "isShow", "(I)Z"⟩, 4), (⟨"ProjectionRoom$Day", "dropBreaksOf", "(I)V"⟩, 16), (⟨"ProjectionRoom", "isReelOfShow", "(II)Z"⟩, 4), (⟨"ProjectionRoom$Plan", "open", "(LProjectionRoom$Day;)V"⟩, 16), (⟨"ProjectionRoom$Plan", "bringHome", "(II)V"⟩, 16), (⟨"ProjectionRoom$Plan", "sortShows", "(LProjectionRoom$Day;)V"⟩, 16), (⟨"ProjectionRoom$Plan", "planShow", "(LProjectionRoom$Day;I)V"⟩, 16), (⟨"ProjectionRoom$Plan", "planReel", "(LProjectionRoom$Day;IIII)I"⟩, 16), (⟨"ProjectionRoom$Plan", "bring", "(LProjectionRoom$Day;II)I"⟩, 16), (⟨"ProjectionRoom$Plan", "soonestCarrier", "(LProjectionRoom$Day;I)I"⟩, 16), (⟨"ProjectionRoom$Plan", "soonestMachine", "(LProjectionRoom$Day;IIII)I"⟩, 16), (⟨"ProjectionRoom$Plan", "startOn", "(LProjectionRoom$Day;IIII)I"⟩, 16), (⟨"ProjectionRoom$Plan", "needsPlate", "(II)Z"⟩, 16), (⟨"ProjectionRoomModel", "keeps", "()V"⟩, 18)]
theorem lw_r1 : ∀ q ∈ lw_privs_1, lw_okq q := List.forall_mem_cons.mpr ⟨lw_p0, List.forall_mem_cons.mpr ⟨lw_p1, List.forall_mem_cons.mpr ⟨lw_p2, List.forall_mem_cons.mpr ⟨lw_p3, List.forall_mem_cons.mpr ⟨lw_p4, List.forall_mem_cons.mpr ⟨lw_p5, List.forall_mem_cons.mpr ⟨lw_p6, List.forall_mem_cons.mpr ⟨lw_p7, List.forall_mem_cons.mpr ⟨lw_p8, List.forall_mem_cons.mpr ⟨lw_p9, List.forall_mem_cons.mpr ⟨lw_p10, List.forall_mem_cons.mpr ⟨lw_p11, List.forall_mem_cons.mpr ⟨lw_p12, List.forall_mem_cons.mpr ⟨lw_p13, List.forall_mem_cons.mpr ⟨lw_p14, List.forall_mem_cons.mpr ⟨lw_p15, fun _ h => absurd h List.not_mem_nil⟩⟩⟩⟩⟩⟩⟩⟩⟩⟩⟩⟩⟩⟩⟩⟩
theorem lw_p16 : lw_okq (⟨"ProjectionRoomModel", "isMachine", "(I)Z"⟩, 18) := ⟨⟨by decide +kernel, by decide +kernel⟩, List.mem_of_getElem? (i := 456) (by decide +kernel), List.mem_of_getElem? (i := 561) (by decide +kernel), List.mem_of_getElem? (i := 562) (by decide +kernel)⟩
theorem lw_p17 : lw_okq (⟨"ProjectionRoomModel", "isShow", "(I)Z"⟩, 18) := ⟨⟨by decide +kernel, by decide +kernel⟩, List.mem_of_getElem? (i := 456) (by decide +kernel), List.mem_of_getElem? (i := 591) (by decide +kernel), List.mem_of_getElem? (i := 592) (by decide +kernel)⟩
theorem lw_p18 : lw_okq (⟨"ProjectionRoomModel", "goes", "(I)V"⟩, 18) := ⟨⟨by decide +kernel, by decide +kernel⟩, List.mem_of_getElem? (i := 456) (by decide +kernel), List.mem_of_getElem? (i := 595) (by decide +kernel), List.mem_of_getElem? (i := 596) (by decide +kernel)⟩
theorem lw_p19 : lw_okq (⟨"ProjectionRoomModel", "isReel", "(II)Z"⟩, 18) := ⟨⟨by decide +kernel, by decide +kernel⟩, List.mem_of_getElem? (i := 456) (by decide +kernel), List.mem_of_getElem? (i := 607) (by decide +kernel), List.mem_of_getElem? (i := 608) (by decide +kernel)⟩
theorem lw_p20 : lw_okq (⟨"ProjectionRoomModel", "plans", "()I"⟩, 18) := ⟨⟨by decide +kernel, by decide +kernel⟩, List.mem_of_getElem? (i := 456) (by decide +kernel), List.mem_of_getElem? (i := 620) (by decide +kernel), List.mem_of_getElem? (i := 621) (by decide +kernel)⟩
theorem lw_p21 : lw_okq (⟨"ProjectionRoomModel", "plansShow", "(I)V"⟩, 18) := ⟨⟨by decide +kernel, by decide +kernel⟩, List.mem_of_getElem? (i := 456) (by decide +kernel), List.mem_of_getElem? (i := 624) (by decide +kernel), List.mem_of_getElem? (i := 625) (by decide +kernel)⟩
theorem lw_p22 : lw_okq (⟨"ProjectionRoomModel", "runs", "(III)I"⟩, 18) := ⟨⟨by decide +kernel, by decide +kernel⟩, List.mem_of_getElem? (i := 456) (by decide +kernel), List.mem_of_getElem? (i := 628) (by decide +kernel), List.mem_of_getElem? (i := 629) (by decide +kernel)⟩
theorem lw_p23 : lw_okq (⟨"ProjectionRoomModel", "arrives", "(II)I"⟩, 18) := ⟨⟨by decide +kernel, by decide +kernel⟩, List.mem_of_getElem? (i := 456) (by decide +kernel), List.mem_of_getElem? (i := 632) (by decide +kernel), List.mem_of_getElem? (i := 633) (by decide +kernel)⟩
theorem lw_p24 : lw_okq (⟨"ProjectionRoomModel", "startBy", "(IIII)I"⟩, 18) := ⟨⟨by decide +kernel, by decide +kernel⟩, List.mem_of_getElem? (i := 456) (by decide +kernel), List.mem_of_getElem? (i := 636) (by decide +kernel), List.mem_of_getElem? (i := 637) (by decide +kernel)⟩
theorem lw_p25 : lw_okq (⟨"ProjectionRoomModel", "hasPlate", "(II)Z"⟩, 18) := ⟨⟨by decide +kernel, by decide +kernel⟩, List.mem_of_getElem? (i := 456) (by decide +kernel), List.mem_of_getElem? (i := 640) (by decide +kernel), List.mem_of_getElem? (i := 641) (by decide +kernel)⟩
theorem lw_p26 : lw_okq (⟨"ProjectionRoomModel", "repairs", "(II)I"⟩, 18) := ⟨⟨by decide +kernel, by decide +kernel⟩, List.mem_of_getElem? (i := 456) (by decide +kernel), List.mem_of_getElem? (i := 644) (by decide +kernel), List.mem_of_getElem? (i := 645) (by decide +kernel)⟩
theorem lw_p27 : lw_okq (⟨"ProjectionRoomModel", "setsAside", "()V"⟩, 18) := ⟨⟨by decide +kernel, by decide +kernel⟩, List.mem_of_getElem? (i := 456) (by decide +kernel), List.mem_of_getElem? (i := 684) (by decide +kernel), List.mem_of_getElem? (i := 685) (by decide +kernel)⟩
theorem lw_p28 : lw_okq (⟨"ProjectionRoomModel", "takesBack", "()V"⟩, 18) := ⟨⟨by decide +kernel, by decide +kernel⟩, List.mem_of_getElem? (i := 456) (by decide +kernel), List.mem_of_getElem? (i := 688) (by decide +kernel), List.mem_of_getElem? (i := 689) (by decide +kernel)⟩
def lw_privs_2 : List (MethodName × Nat) := [(⟨"ProjectionRoomModel", "isMachine", "(I)Z"⟩, 18), (⟨"ProjectionRoomModel", "isShow", "(I)Z"⟩, 18), (⟨"ProjectionRoomModel", "goes", "(I)V"⟩, 18), (⟨"ProjectionRoomModel", "isReel", "(II)Z"⟩, 18), (⟨"ProjectionRoomModel", "plans", "()I"⟩, 18), (⟨"ProjectionRoomModel", "plansShow", "(I)V"⟩, 18), (⟨"ProjectionRoomModel", "runs", "(III)I"⟩, 18), (⟨"ProjectionRoomModel", "arrives", "(II)I"⟩, 18), (⟨"ProjectionRoomModel", "startBy", "(IIII)I"⟩, 18), (⟨"ProjectionRoomModel", "hasPlate", "(II)Z"⟩, 18), (⟨"ProjectionRoomModel", "repairs", "(II)I"⟩, 18), (⟨"ProjectionRoomModel", "setsAside", "()V"⟩, 18), (⟨"ProjectionRoomModel", "takesBack", "()V"⟩, 18)]
theorem lw_r2 : ∀ q ∈ lw_privs_2, lw_okq q := List.forall_mem_cons.mpr ⟨lw_p16, List.forall_mem_cons.mpr ⟨lw_p17, List.forall_mem_cons.mpr ⟨lw_p18, List.forall_mem_cons.mpr ⟨lw_p19, List.forall_mem_cons.mpr ⟨lw_p20, List.forall_mem_cons.mpr ⟨lw_p21, List.forall_mem_cons.mpr ⟨lw_p22, List.forall_mem_cons.mpr ⟨lw_p23, List.forall_mem_cons.mpr ⟨lw_p24, List.forall_mem_cons.mpr ⟨lw_p25, List.forall_mem_cons.mpr ⟨lw_p26, List.forall_mem_cons.mpr ⟨lw_p27, List.forall_mem_cons.mpr ⟨lw_p28, fun _ h => absurd h List.not_mem_nil⟩⟩⟩⟩⟩⟩⟩⟩⟩⟩⟩⟩⟩
def lw_privs : List (MethodName × Nat) := lw_privs_1 ++ (lw_privs_2)
def lw_tbl : List Cond := k2_sels lw_privs ++ tables_1
theorem lw_privs_ok : ∀ q ∈ lw_privs, lw_okq q := by
  show ∀ q ∈ lw_privs_1 ++ (lw_privs_2), lw_okq q
  exact List.forall_mem_append.mpr ⟨lw_r1, lw_r2⟩
end
section
/-! ===== BEGIN words of one list among another's, by their places ===== -/
theorem goodIn_r {big : List Cond} (ws : List Cond) (ps : List Nat) (hp : ws = ps.filterMap (fun i => big[i]?)) (h : ws.all goodWord = true) : GoodIn big ws := by
  intro w hw
  have h1 := List.all_eq_true.mp h w hw
  rw [hp] at hw
  obtain ⟨i, -, hi⟩ := List.mem_filterMap.mp hw
  have hm : w ∈ big := by first | exact List.mem_of_getElem? hi | exact List.getElem?_mem hi
  exact ⟨hm, good_of_word h1⟩
theorem goodIn_app {big a b : List Cond} (ha : GoodIn big a) (hb : GoodIn big b) : GoodIn big (a ++ b) := fun w h => (List.mem_append.mp h).elim (ha w) (hb w)
theorem goodIn_ca {big a b : List Cond} {c : Cond} (ha : GoodIn big (c :: a)) (hb : GoodIn big b) : GoodIn big (c :: (a ++ b)) := fun w h => (List.mem_cons.mp h).elim (fun e => ha w (List.mem_cons.mpr (Or.inl e))) (fun h => (List.mem_append.mp h).elim (fun h => ha w (List.mem_cons.mpr (Or.inr h))) (hb w))
theorem goodIn_sub {big ws : List Cond} (hm : ∀ w ∈ ws, w ∈ big) (h : ws.all goodWord = true) : GoodIn big ws := fun w hw => ⟨hm w hw, good_of_word (List.all_eq_true.mp h w hw)⟩
/-! ===== END ===== -/

/-! ===== BEGIN printed: names, fields, word lists, decode rows ===== -/
def RX0 : String := "ProjectionRoom$Day"
def TX0 : u_T := fun k => match k with
  | 0 => ("ProjectionRoom$Day", "reelCounts", "[I", true)
  | 1 => ("ProjectionRoom$Day", "lengths", "[I", true)
  | 2 => ("ProjectionRoom$Day", "aspects", "[I", true)
  | 3 => ("ProjectionRoom$Day", "homes", "[I", true)
  | 4 => ("ProjectionRoom$Day", "machineCount", "I", false)
  | 5 => ("ProjectionRoom$Day", "machineHouses", "[I", true)
  | 6 => ("ProjectionRoom$Day", "carrierCount", "I", false)
  | 7 => ("ProjectionRoom$Day", "minutes", "[I", true)
  | 8 => ("ProjectionRoom$Day", "showCount", "I", false)
  | 9 => ("ProjectionRoom$Day", "showHouses", "[I", true)
  | 10 => ("ProjectionRoom$Day", "showFilms", "[I", true)
  | 11 => ("ProjectionRoom$Day", "showStarts", "[I", true)
  | 12 => ("ProjectionRoom$Day", "breakCount", "I", false)
  | 13 => ("ProjectionRoom$Day", "breakShows", "[I", true)
  | 14 => ("ProjectionRoom$Day", "breakReels", "[I", true)
  | _ => ("ProjectionRoom$Day", "repairs", "[I", true)
def tyX0 : Nat → FieldType := fun k => match k with
  | 0 => .array .int
  | 1 => .array .int
  | 2 => .array .int
  | 3 => .array .int
  | 4 => .int
  | 5 => .array .int
  | 6 => .int
  | 7 => .array .int
  | 8 => .int
  | 9 => .array .int
  | 10 => .array .int
  | 11 => .array .int
  | 12 => .int
  | 13 => .array .int
  | 14 => .array .int
  | _ => .array .int
abbrev wsX00 : List Cond := u_ws RX0 TX0 16
theorem nmX0 : ∀ a, a < 16 → ∀ b, b < 16 → a ≠ b → (TX0 a).2.1 ≠ (TX0 b).2.1 := by decide +kernel
theorem tyX0_ok : ∀ k, k < 16 → parseFieldDescriptor (TX0 k).2.2.1 = some (tyX0 k) := by decide +kernel
abbrev cX0_init : ByteArray := prog_2_method_1_code
def yX0_init : MethodName := ⟨RX0, "<init>", "()V"⟩
abbrev cX0_copyFrom : ByteArray := prog_2_method_2_code
def yX0_copyFrom : MethodName := ⟨RX0, "copyFrom", "(LProjectionRoom$Day;)V"⟩
abbrev cX0_appendReel : ByteArray := prog_2_method_3_code
def yX0_appendReel : MethodName := ⟨RX0, "appendReel", "(III)V"⟩
abbrev cX0_sumOfLengths : ByteArray := prog_2_method_4_code
def yX0_sumOfLengths : MethodName := ⟨RX0, "sumOfLengths", "(I)I"⟩
abbrev cX0_isShown : ByteArray := prog_2_method_5_code
def yX0_isShown : MethodName := ⟨RX0, "isShown", "(I)Z"⟩
abbrev cX0_setHomes : ByteArray := prog_2_method_6_code
def yX0_setHomes : MethodName := ⟨RX0, "setHomes", "(I)V"⟩
abbrev cX0_appendMachine : ByteArray := prog_2_method_7_code
def yX0_appendMachine : MethodName := ⟨RX0, "appendMachine", "(I)V"⟩
abbrev cX0_dropMachine : ByteArray := prog_2_method_8_code
def yX0_dropMachine : MethodName := ⟨RX0, "dropMachine", "(I)V"⟩
abbrev cX0_firstMachineIn : ByteArray := prog_2_method_9_code
def yX0_firstMachineIn : MethodName := ⟨RX0, "firstMachineIn", "(I)I"⟩
abbrev cX0_appendShow : ByteArray := prog_2_method_10_code
def yX0_appendShow : MethodName := ⟨RX0, "appendShow", "(III)V"⟩
abbrev cX0_dropShow : ByteArray := prog_2_method_11_code
def yX0_dropShow : MethodName := ⟨RX0, "dropShow", "(I)V"⟩
abbrev cX0_dropBreaksOf : ByteArray := prog_2_method_12_code
def yX0_dropBreaksOf : MethodName := ⟨RX0, "dropBreaksOf", "(I)V"⟩
abbrev cX0_appendBreak : ByteArray := prog_2_method_13_code
def yX0_appendBreak : MethodName := ⟨RX0, "appendBreak", "(III)V"⟩
abbrev cX0_repairTime : ByteArray := prog_2_method_14_code
def yX0_repairTime : MethodName := ⟨RX0, "repairTime", "(II)I"⟩
def RX1 : String := "ProjectionRoom$History"
def TX1 : u_T := fun k => match k with
  | 0 => ("ProjectionRoom$History", "days", "[LProjectionRoom$Day;", true)
  | _ => ("ProjectionRoom$History", "size", "I", false)
def tyX1 : Nat → FieldType := fun k => match k with
  | 0 => .array (.object "ProjectionRoom$Day")
  | _ => .int
abbrev wsX10 : List Cond := u_ws RX1 TX1 2
theorem nmX1 : ∀ a, a < 2 → ∀ b, b < 2 → a ≠ b → (TX1 a).2.1 ≠ (TX1 b).2.1 := by decide +kernel
theorem tyX1_ok : ∀ k, k < 2 → parseFieldDescriptor (TX1 k).2.2.1 = some (tyX1 k) := by decide +kernel
abbrev cX1_init : ByteArray := prog_3_method_1_code
def yX1_init : MethodName := ⟨RX1, "<init>", "()V"⟩
abbrev cX1_remember : ByteArray := prog_3_method_2_code
def yX1_remember : MethodName := ⟨RX1, "remember", "(LProjectionRoom$Day;)V"⟩
abbrev cX1_forgetOldest : ByteArray := prog_3_method_3_code
def yX1_forgetOldest : MethodName := ⟨RX1, "forgetOldest", "()V"⟩
abbrev cX1_restore : ByteArray := prog_3_method_4_code
def yX1_restore : MethodName := ⟨RX1, "restore", "(LProjectionRoom$Day;)V"⟩
def RX2 : String := "ProjectionRoom$Plan"
def TX2 : u_T := fun k => match k with
  | 0 => ("ProjectionRoom$Plan", "takesPlace", "[Z", true)
  | 1 => ("ProjectionRoom$Plan", "starts", "[I", true)
  | 2 => ("ProjectionRoom$Plan", "machines", "[I", true)
  | 3 => ("ProjectionRoom$Plan", "ends", "[I", true)
  | 4 => ("ProjectionRoom$Plan", "delays", "[I", true)
  | 5 => ("ProjectionRoom$Plan", "gaps", "[I", true)
  | 6 => ("ProjectionRoom$Plan", "runTimes", "[I", true)
  | 7 => ("ProjectionRoom$Plan", "carried", "I", false)
  | 8 => ("ProjectionRoom$Plan", "newPlates", "I", false)
  | 9 => ("ProjectionRoom$Plan", "lost", "I", false)
  | 10 => ("ProjectionRoom$Plan", "order", "[I", true)
  | 11 => ("ProjectionRoom$Plan", "reelHouses", "[I", true)
  | 12 => ("ProjectionRoom$Plan", "reelReady", "[I", true)
  | 13 => ("ProjectionRoom$Plan", "carrierFree", "[I", true)
  | 14 => ("ProjectionRoom$Plan", "machineFree", "[I", true)
  | _ => ("ProjectionRoom$Plan", "machineAspects", "[I", true)
def tyX2 : Nat → FieldType := fun k => match k with
  | 0 => .array .boolean
  | 1 => .array .int
  | 2 => .array .int
  | 3 => .array .int
  | 4 => .array .int
  | 5 => .array .int
  | 6 => .array .int
  | 7 => .int
  | 8 => .int
  | 9 => .int
  | 10 => .array .int
  | 11 => .array .int
  | 12 => .array .int
  | 13 => .array .int
  | 14 => .array .int
  | _ => .array .int
abbrev wsX20 : List Cond := u_ws RX2 TX2 16
theorem nmX2 : ∀ a, a < 16 → ∀ b, b < 16 → a ≠ b → (TX2 a).2.1 ≠ (TX2 b).2.1 := by decide +kernel
theorem tyX2_ok : ∀ k, k < 16 → parseFieldDescriptor (TX2 k).2.2.1 = some (tyX2 k) := by decide +kernel
abbrev cX2_init : ByteArray := prog_4_method_1_code
def yX2_init : MethodName := ⟨RX2, "<init>", "()V"⟩
abbrev cX2_make : ByteArray := prog_4_method_2_code
def yX2_make : MethodName := ⟨RX2, "make", "(LProjectionRoom$Day;)V"⟩
abbrev cX2_lossWith : ByteArray := prog_4_method_3_code
def yX2_lossWith : MethodName := ⟨RX2, "lossWith", "(LProjectionRoom$Day;)I"⟩
abbrev cX2_isSmooth : ByteArray := prog_4_method_4_code
def yX2_isSmooth : MethodName := ⟨RX2, "isSmooth", "(LProjectionRoom$Day;)Z"⟩
abbrev cX2_open : ByteArray := prog_4_method_5_code
def yX2_open : MethodName := ⟨RX2, "open", "(LProjectionRoom$Day;)V"⟩
abbrev cX2_bringHome : ByteArray := prog_4_method_6_code
def yX2_bringHome : MethodName := ⟨RX2, "bringHome", "(II)V"⟩
abbrev cX2_sortShows : ByteArray := prog_4_method_7_code
def yX2_sortShows : MethodName := ⟨RX2, "sortShows", "(LProjectionRoom$Day;)V"⟩
abbrev cX2_planShow : ByteArray := prog_4_method_8_code
def yX2_planShow : MethodName := ⟨RX2, "planShow", "(LProjectionRoom$Day;I)V"⟩
abbrev cX2_planReel : ByteArray := prog_4_method_9_code
def yX2_planReel : MethodName := ⟨RX2, "planReel", "(LProjectionRoom$Day;IIII)I"⟩
abbrev cX2_bring : ByteArray := prog_4_method_10_code
def yX2_bring : MethodName := ⟨RX2, "bring", "(LProjectionRoom$Day;II)I"⟩
abbrev cX2_soonestCarrier : ByteArray := prog_4_method_11_code
def yX2_soonestCarrier : MethodName := ⟨RX2, "soonestCarrier", "(LProjectionRoom$Day;I)I"⟩
abbrev cX2_soonestMachine : ByteArray := prog_4_method_12_code
def yX2_soonestMachine : MethodName := ⟨RX2, "soonestMachine", "(LProjectionRoom$Day;IIII)I"⟩
abbrev cX2_startOn : ByteArray := prog_4_method_13_code
def yX2_startOn : MethodName := ⟨RX2, "startOn", "(LProjectionRoom$Day;IIII)I"⟩
abbrev cX2_needsPlate : ByteArray := prog_4_method_14_code
def yX2_needsPlate : MethodName := ⟨RX2, "needsPlate", "(II)Z"⟩
def RX3 : String := "ProjectionRoom"
def TX3 : u_T := fun k => match k with
  | 0 => ("ProjectionRoom", "day", "LProjectionRoom$Day;", true)
  | 1 => ("ProjectionRoom", "trial", "LProjectionRoom$Day;", true)
  | 2 => ("ProjectionRoom", "history", "LProjectionRoom$History;", true)
  | _ => ("ProjectionRoom", "plan", "LProjectionRoom$Plan;", true)
def tyX3 : Nat → FieldType := fun k => match k with
  | 0 => .object "ProjectionRoom$Day"
  | 1 => .object "ProjectionRoom$Day"
  | 2 => .object "ProjectionRoom$History"
  | _ => .object "ProjectionRoom$Plan"
abbrev wsX30 : List Cond := u_ws RX3 TX3 4
theorem nmX3 : ∀ a, a < 4 → ∀ b, b < 4 → a ≠ b → (TX3 a).2.1 ≠ (TX3 b).2.1 := by decide +kernel
theorem tyX3_ok : ∀ k, k < 4 → parseFieldDescriptor (TX3 k).2.2.1 = some (tyX3 k) := by decide +kernel
abbrev cX3_init : ByteArray := prog_1_method_1_code
def yX3_init : MethodName := ⟨RX3, "<init>", "()V"⟩
abbrev cX3_addReel : ByteArray := prog_1_method_2_code
def yX3_addReel : MethodName := ⟨RX3, "addReel", "(III)I"⟩
abbrev cX3_removeReels : ByteArray := prog_1_method_3_code
def yX3_removeReels : MethodName := ⟨RX3, "removeReels", "(I)I"⟩
abbrev cX3_setHome : ByteArray := prog_1_method_4_code
def yX3_setHome : MethodName := ⟨RX3, "setHome", "(II)I"⟩
abbrev cX3_filmLength : ByteArray := prog_1_method_5_code
def yX3_filmLength : MethodName := ⟨RX3, "filmLength", "(I)I"⟩
abbrev cX3_addMachine : ByteArray := prog_1_method_6_code
def yX3_addMachine : MethodName := ⟨RX3, "addMachine", "(I)I"⟩
abbrev cX3_removeMachine : ByteArray := prog_1_method_7_code
def yX3_removeMachine : MethodName := ⟨RX3, "removeMachine", "(I)I"⟩
abbrev cX3_houseOf : ByteArray := prog_1_method_8_code
def yX3_houseOf : MethodName := ⟨RX3, "houseOf", "(I)I"⟩
abbrev cX3_setCarriers : ByteArray := prog_1_method_9_code
def yX3_setCarriers : MethodName := ⟨RX3, "setCarriers", "(I)I"⟩
abbrev cX3_setDuration : ByteArray := prog_1_method_10_code
def yX3_setDuration : MethodName := ⟨RX3, "setDuration", "(II)I"⟩
abbrev cX3_addShow : ByteArray := prog_1_method_11_code
def yX3_addShow : MethodName := ⟨RX3, "addShow", "(III)I"⟩
abbrev cX3_removeShow : ByteArray := prog_1_method_12_code
def yX3_removeShow : MethodName := ⟨RX3, "removeShow", "(I)I"⟩
abbrev cX3_moveShow : ByteArray := prog_1_method_13_code
def yX3_moveShow : MethodName := ⟨RX3, "moveShow", "(II)I"⟩
abbrev cX3_addBreak : ByteArray := prog_1_method_14_code
def yX3_addBreak : MethodName := ⟨RX3, "addBreak", "(III)I"⟩
abbrev cX3_clearBreaks : ByteArray := prog_1_method_15_code
def yX3_clearBreaks : MethodName := ⟨RX3, "clearBreaks", "()I"⟩
abbrev cX3_startOf : ByteArray := prog_1_method_16_code
def yX3_startOf : MethodName := ⟨RX3, "startOf", "(II)I"⟩
abbrev cX3_machineOf : ByteArray := prog_1_method_17_code
def yX3_machineOf : MethodName := ⟨RX3, "machineOf", "(II)I"⟩
abbrev cX3_endOf : ByteArray := prog_1_method_18_code
def yX3_endOf : MethodName := ⟨RX3, "endOf", "(I)I"⟩
abbrev cX3_delayOf : ByteArray := prog_1_method_19_code
def yX3_delayOf : MethodName := ⟨RX3, "delayOf", "(I)I"⟩
abbrev cX3_gapOf : ByteArray := prog_1_method_20_code
def yX3_gapOf : MethodName := ⟨RX3, "gapOf", "(I)I"⟩
abbrev cX3_loss : ByteArray := prog_1_method_21_code
def yX3_loss : MethodName := ⟨RX3, "loss", "()I"⟩
abbrev cX3_carriedReels : ByteArray := prog_1_method_22_code
def yX3_carriedReels : MethodName := ⟨RX3, "carriedReels", "()I"⟩
abbrev cX3_plateChanges : ByteArray := prog_1_method_23_code
def yX3_plateChanges : MethodName := ⟨RX3, "plateChanges", "()I"⟩
abbrev cX3_machineTime : ByteArray := prog_1_method_24_code
def yX3_machineTime : MethodName := ⟨RX3, "machineTime", "(I)I"⟩
abbrev cX3_leastShift : ByteArray := prog_1_method_25_code
def yX3_leastShift : MethodName := ⟨RX3, "leastShift", "(I)I"⟩
abbrev cX3_removalGain : ByteArray := prog_1_method_26_code
def yX3_removalGain : MethodName := ⟨RX3, "removalGain", "(I)I"⟩
abbrev cX3_bestHomes : ByteArray := prog_1_method_27_code
def yX3_bestHomes : MethodName := ⟨RX3, "bestHomes", "()I"⟩
abbrev cX3_missingMachines : ByteArray := prog_1_method_28_code
def yX3_missingMachines : MethodName := ⟨RX3, "missingMachines", "(I)I"⟩
abbrev cX3_undo : ByteArray := prog_1_method_29_code
def yX3_undo : MethodName := ⟨RX3, "undo", "()I"⟩
abbrev cX3_isIn : ByteArray := prog_1_method_30_code
def yX3_isIn : MethodName := ⟨RX3, "isIn", "(III)Z"⟩
abbrev cX3_isMachine : ByteArray := prog_1_method_31_code
def yX3_isMachine : MethodName := ⟨RX3, "isMachine", "(I)Z"⟩
abbrev cX3_isShow : ByteArray := prog_1_method_32_code
def yX3_isShow : MethodName := ⟨RX3, "isShow", "(I)Z"⟩
abbrev cX3_isReelOfShow : ByteArray := prog_1_method_33_code
def yX3_isReelOfShow : MethodName := ⟨RX3, "isReelOfShow", "(II)Z"⟩
abbrev cX3_reelPlace : ByteArray := prog_1_method_34_code
def yX3_reelPlace : MethodName := ⟨RX3, "reelPlace", "(II)I"⟩
def RX4 : String := "ProjectionRoomModel"
def TX4 : u_T := fun k => match k with
  | 0 => ("ProjectionRoomModel", "now", "[I", true)
  | 1 => ("ProjectionRoomModel", "before", "[I", true)
  | 2 => ("ProjectionRoomModel", "undoMany", "I", false)
  | 3 => ("ProjectionRoomModel", "at", "[I", true)
  | 4 => ("ProjectionRoomModel", "ready", "[I", true)
  | 5 => ("ProjectionRoomModel", "carrierFree", "[I", true)
  | 6 => ("ProjectionRoomModel", "machineFree", "[I", true)
  | 7 => ("ProjectionRoomModel", "lastAspect", "[I", true)
  | 8 => ("ProjectionRoomModel", "ran", "[I", true)
  | 9 => ("ProjectionRoomModel", "starts", "[I", true)
  | 10 => ("ProjectionRoomModel", "machines", "[I", true)
  | 11 => ("ProjectionRoomModel", "isOn", "[Z", true)
  | 12 => ("ProjectionRoomModel", "ends", "[I", true)
  | 13 => ("ProjectionRoomModel", "delays", "[I", true)
  | 14 => ("ProjectionRoomModel", "gaps", "[I", true)
  | 15 => ("ProjectionRoomModel", "carried", "I", false)
  | 16 => ("ProjectionRoomModel", "plates", "I", false)
  | _ => ("ProjectionRoomModel", "aside", "[I", true)
def tyX4 : Nat → FieldType := fun k => match k with
  | 0 => .array .int
  | 1 => .array .int
  | 2 => .int
  | 3 => .array .int
  | 4 => .array .int
  | 5 => .array .int
  | 6 => .array .int
  | 7 => .array .int
  | 8 => .array .int
  | 9 => .array .int
  | 10 => .array .int
  | 11 => .array .boolean
  | 12 => .array .int
  | 13 => .array .int
  | 14 => .array .int
  | 15 => .int
  | 16 => .int
  | _ => .array .int
abbrev wsX40 : List Cond := u_ws RX4 TX4 18
theorem nmX4 : ∀ a, a < 18 → ∀ b, b < 18 → a ≠ b → (TX4 a).2.1 ≠ (TX4 b).2.1 := by decide +kernel
theorem tyX4_ok : ∀ k, k < 18 → parseFieldDescriptor (TX4 k).2.2.1 = some (tyX4 k) := by decide +kernel
abbrev cX4_init : ByteArray := prog_6_method_1_code
def yX4_init : MethodName := ⟨RX4, "<init>", "()V"⟩
abbrev cX4_in : ByteArray := prog_6_method_2_code
def yX4_in : MethodName := ⟨RX4, "in", "(JJJ)Z"⟩
abbrev cX4_keeps : ByteArray := prog_6_method_3_code
def yX4_keeps : MethodName := ⟨RX4, "keeps", "()V"⟩
abbrev cX4_undo : ByteArray := prog_6_method_4_code
def yX4_undo : MethodName := ⟨RX4, "undo", "()I"⟩
abbrev cX4_isFilm : ByteArray := prog_6_method_5_code
def yX4_isFilm : MethodName := ⟨RX4, "isFilm", "(I)Z"⟩
abbrev cX4_isHouse : ByteArray := prog_6_method_6_code
def yX4_isHouse : MethodName := ⟨RX4, "isHouse", "(I)Z"⟩
abbrev cX4_isMachine : ByteArray := prog_6_method_7_code
def yX4_isMachine : MethodName := ⟨RX4, "isMachine", "(I)Z"⟩
abbrev cX4_isShow : ByteArray := prog_6_method_8_code
def yX4_isShow : MethodName := ⟨RX4, "isShow", "(I)Z"⟩
abbrev cX4_isStart : ByteArray := prog_6_method_9_code
def yX4_isStart : MethodName := ⟨RX4, "isStart", "(I)Z"⟩
abbrev cX4_addReel : ByteArray := prog_6_method_10_code
def yX4_addReel : MethodName := ⟨RX4, "addReel", "(III)I"⟩
abbrev cX4_removeReels : ByteArray := prog_6_method_11_code
def yX4_removeReels : MethodName := ⟨RX4, "removeReels", "(I)I"⟩
abbrev cX4_setHome : ByteArray := prog_6_method_12_code
def yX4_setHome : MethodName := ⟨RX4, "setHome", "(II)I"⟩
abbrev cX4_filmLength : ByteArray := prog_6_method_13_code
def yX4_filmLength : MethodName := ⟨RX4, "filmLength", "(I)I"⟩
abbrev cX4_addMachine : ByteArray := prog_6_method_14_code
def yX4_addMachine : MethodName := ⟨RX4, "addMachine", "(I)I"⟩
abbrev cX4_removeMachine : ByteArray := prog_6_method_15_code
def yX4_removeMachine : MethodName := ⟨RX4, "removeMachine", "(I)I"⟩
abbrev cX4_houseOf : ByteArray := prog_6_method_16_code
def yX4_houseOf : MethodName := ⟨RX4, "houseOf", "(I)I"⟩
abbrev cX4_setCarriers : ByteArray := prog_6_method_17_code
def yX4_setCarriers : MethodName := ⟨RX4, "setCarriers", "(I)I"⟩
abbrev cX4_setDuration : ByteArray := prog_6_method_18_code
def yX4_setDuration : MethodName := ⟨RX4, "setDuration", "(II)I"⟩
abbrev cX4_addShow : ByteArray := prog_6_method_19_code
def yX4_addShow : MethodName := ⟨RX4, "addShow", "(III)I"⟩
abbrev cX4_goes : ByteArray := prog_6_method_20_code
def yX4_goes : MethodName := ⟨RX4, "goes", "(I)V"⟩
abbrev cX4_removeShow : ByteArray := prog_6_method_21_code
def yX4_removeShow : MethodName := ⟨RX4, "removeShow", "(I)I"⟩
abbrev cX4_moveShow : ByteArray := prog_6_method_22_code
def yX4_moveShow : MethodName := ⟨RX4, "moveShow", "(II)I"⟩
abbrev cX4_isReel : ByteArray := prog_6_method_23_code
def yX4_isReel : MethodName := ⟨RX4, "isReel", "(II)Z"⟩
abbrev cX4_addBreak : ByteArray := prog_6_method_24_code
def yX4_addBreak : MethodName := ⟨RX4, "addBreak", "(III)I"⟩
abbrev cX4_clearBreaks : ByteArray := prog_6_method_25_code
def yX4_clearBreaks : MethodName := ⟨RX4, "clearBreaks", "()I"⟩
abbrev cX4_arrives : ByteArray := prog_6_method_26_code
def yX4_arrives : MethodName := ⟨RX4, "arrives", "(II)I"⟩
abbrev cX4_hasPlate : ByteArray := prog_6_method_27_code
def yX4_hasPlate : MethodName := ⟨RX4, "hasPlate", "(II)Z"⟩
abbrev cX4_startBy : ByteArray := prog_6_method_28_code
def yX4_startBy : MethodName := ⟨RX4, "startBy", "(IIII)I"⟩
abbrev cX4_repairs : ByteArray := prog_6_method_29_code
def yX4_repairs : MethodName := ⟨RX4, "repairs", "(II)I"⟩
abbrev cX4_runs : ByteArray := prog_6_method_30_code
def yX4_runs : MethodName := ⟨RX4, "runs", "(III)I"⟩
abbrev cX4_plansShow : ByteArray := prog_6_method_31_code
def yX4_plansShow : MethodName := ⟨RX4, "plansShow", "(I)V"⟩
abbrev cX4_plans : ByteArray := prog_6_method_32_code
def yX4_plans : MethodName := ⟨RX4, "plans", "()I"⟩
abbrev cX4_startOf : ByteArray := prog_6_method_33_code
def yX4_startOf : MethodName := ⟨RX4, "startOf", "(II)I"⟩
abbrev cX4_machineOf : ByteArray := prog_6_method_34_code
def yX4_machineOf : MethodName := ⟨RX4, "machineOf", "(II)I"⟩
abbrev cX4_endOf : ByteArray := prog_6_method_35_code
def yX4_endOf : MethodName := ⟨RX4, "endOf", "(I)I"⟩
abbrev cX4_delayOf : ByteArray := prog_6_method_36_code
def yX4_delayOf : MethodName := ⟨RX4, "delayOf", "(I)I"⟩
abbrev cX4_gapOf : ByteArray := prog_6_method_37_code
def yX4_gapOf : MethodName := ⟨RX4, "gapOf", "(I)I"⟩
abbrev cX4_loss : ByteArray := prog_6_method_38_code
def yX4_loss : MethodName := ⟨RX4, "loss", "()I"⟩
abbrev cX4_carriedReels : ByteArray := prog_6_method_39_code
def yX4_carriedReels : MethodName := ⟨RX4, "carriedReels", "()I"⟩
abbrev cX4_plateChanges : ByteArray := prog_6_method_40_code
def yX4_plateChanges : MethodName := ⟨RX4, "plateChanges", "()I"⟩
abbrev cX4_machineTime : ByteArray := prog_6_method_41_code
def yX4_machineTime : MethodName := ⟨RX4, "machineTime", "(I)I"⟩
abbrev cX4_setsAside : ByteArray := prog_6_method_42_code
def yX4_setsAside : MethodName := ⟨RX4, "setsAside", "()V"⟩
abbrev cX4_takesBack : ByteArray := prog_6_method_43_code
def yX4_takesBack : MethodName := ⟨RX4, "takesBack", "()V"⟩
abbrev cX4_leastShift : ByteArray := prog_6_method_44_code
def yX4_leastShift : MethodName := ⟨RX4, "leastShift", "(I)I"⟩
abbrev cX4_removalGain : ByteArray := prog_6_method_45_code
def yX4_removalGain : MethodName := ⟨RX4, "removalGain", "(I)I"⟩
abbrev cX4_bestHomes : ByteArray := prog_6_method_46_code
def yX4_bestHomes : MethodName := ⟨RX4, "bestHomes", "()I"⟩
abbrev cX4_missingMachines : ByteArray := prog_6_method_47_code
def yX4_missingMachines : MethodName := ⟨RX4, "missingMachines", "(I)I"⟩
def RJ9 : String := "java/lang/Math"
def TJ9 : u_T := fun k => match k with
  | _ => ("", "", "", false)
def tyJ9 : Nat → FieldType := fun k => match k with
  | _ => .int
abbrev wsJ90 : List Cond := u_ws RJ9 TJ9 0
theorem nmJ9 : ∀ a, a < 0 → ∀ b, b < 0 → a ≠ b → (TJ9 a).2.1 ≠ (TJ9 b).2.1 := by decide +kernel
theorem tyJ9_ok : ∀ k, k < 0 → parseFieldDescriptor (TJ9 k).2.2.1 = some (tyJ9 k) := by decide +kernel
abbrev cJ9_max_7cf53 : ByteArray := prog_7_method_65_code
def yJ9_max_7cf53 : MethodName := ⟨RJ9, "max", "(II)I"⟩
abbrev cJ9_min_7cf53 : ByteArray := prog_7_method_69_code
def yJ9_min_7cf53 : MethodName := ⟨RJ9, "min", "(II)I"⟩
def RJ10 : String := "java/lang/System"
def TJ10 : u_T := fun k => match k with
  | _ => ("", "", "", false)
def tyJ10 : Nat → FieldType := fun k => match k with
  | _ => .int
abbrev wsJ100 : List Cond := u_ws RJ10 TJ10 0
theorem nmJ10 : ∀ a, a < 0 → ∀ b, b < 0 → a ≠ b → (TJ10 a).2.1 ≠ (TJ10 b).2.1 := by decide +kernel
theorem tyJ10_ok : ∀ k, k < 0 → parseFieldDescriptor (TJ10 k).2.2.1 = some (tyJ10 k) := by decide +kernel
def RL : String := "ProjectionRoomLaw"
abbrev cL_law : ByteArray := code
def yL_law : MethodName := ⟨RL, "law", "([I)Z"⟩
/-! ===== END printed ===== -/
end
section
theorem dX0_init_0 : decode cX0_init 0 = .ok (.aload_n 0, 1) := by decide +kernel
theorem dX0_init_1 : decode cX0_init 1 = .ok (.invokespecial 3, 3) := by decide +kernel
theorem dX0_init_4 : decode cX0_init 4 = .ok (.aload_n 0, 1) := by decide +kernel
theorem dX0_init_5 : decode cX0_init 5 = .ok (.iconst 4, 1) := by decide +kernel
theorem dX0_init_6 : decode cX0_init 6 = .ok (.newarray .int, 2) := by decide +kernel
theorem dX0_init_8 : decode cX0_init 8 = .ok (.putfield 9, 3) := by decide +kernel
theorem dX0_init_11 : decode cX0_init 11 = .ok (.aload_n 0, 1) := by decide +kernel
theorem dX0_init_12 : decode cX0_init 12 = .ok (.bipush 24, 2) := by decide +kernel
theorem dX0_init_14 : decode cX0_init 14 = .ok (.newarray .int, 2) := by decide +kernel
theorem dX0_init_16 : decode cX0_init 16 = .ok (.putfield 15, 3) := by decide +kernel
theorem dX0_init_19 : decode cX0_init 19 = .ok (.aload_n 0, 1) := by decide +kernel
theorem dX0_init_20 : decode cX0_init 20 = .ok (.bipush 24, 2) := by decide +kernel
theorem dX0_init_22 : decode cX0_init 22 = .ok (.newarray .int, 2) := by decide +kernel
theorem dX0_init_24 : decode cX0_init 24 = .ok (.putfield 18, 3) := by decide +kernel
theorem dX0_init_27 : decode cX0_init 27 = .ok (.aload_n 0, 1) := by decide +kernel
theorem dX0_init_28 : decode cX0_init 28 = .ok (.iconst 4, 1) := by decide +kernel
theorem dX0_init_29 : decode cX0_init 29 = .ok (.newarray .int, 2) := by decide +kernel
theorem dX0_init_31 : decode cX0_init 31 = .ok (.putfield 21, 3) := by decide +kernel
theorem dX0_init_34 : decode cX0_init 34 = .ok (.aload_n 0, 1) := by decide +kernel
theorem dX0_init_35 : decode cX0_init 35 = .ok (.iconst 3, 1) := by decide +kernel
theorem dX0_init_36 : decode cX0_init 36 = .ok (.putfield 24, 3) := by decide +kernel
theorem dX0_init_39 : decode cX0_init 39 = .ok (.aload_n 0, 1) := by decide +kernel
theorem dX0_init_40 : decode cX0_init 40 = .ok (.iconst 5, 1) := by decide +kernel
theorem dX0_init_41 : decode cX0_init 41 = .ok (.newarray .int, 2) := by decide +kernel
theorem dX0_init_43 : decode cX0_init 43 = .ok (.putfield 28, 3) := by decide +kernel
theorem dX0_init_46 : decode cX0_init 46 = .ok (.aload_n 0, 1) := by decide +kernel
theorem dX0_init_47 : decode cX0_init 47 = .ok (.iconst 1, 1) := by decide +kernel
theorem dX0_init_48 : decode cX0_init 48 = .ok (.putfield 31, 3) := by decide +kernel
theorem dX0_init_51 : decode cX0_init 51 = .ok (.aload_n 0, 1) := by decide +kernel
theorem dX0_init_52 : decode cX0_init 52 = .ok (.iconst 4, 1) := by decide +kernel
theorem dX0_init_53 : decode cX0_init 53 = .ok (.newarray .int, 2) := by decide +kernel
theorem dX0_init_55 : decode cX0_init 55 = .ok (.putfield 34, 3) := by decide +kernel
theorem dX0_init_58 : decode cX0_init 58 = .ok (.aload_n 0, 1) := by decide +kernel
theorem dX0_init_59 : decode cX0_init 59 = .ok (.iconst 0, 1) := by decide +kernel
theorem dX0_init_60 : decode cX0_init 60 = .ok (.putfield 37, 3) := by decide +kernel
theorem dX0_init_63 : decode cX0_init 63 = .ok (.aload_n 0, 1) := by decide +kernel
theorem dX0_init_64 : decode cX0_init 64 = .ok (.bipush 6, 2) := by decide +kernel
theorem dX0_init_66 : decode cX0_init 66 = .ok (.newarray .int, 2) := by decide +kernel
theorem dX0_init_68 : decode cX0_init 68 = .ok (.putfield 40, 3) := by decide +kernel
theorem dX0_init_71 : decode cX0_init 71 = .ok (.aload_n 0, 1) := by decide +kernel
theorem dX0_init_72 : decode cX0_init 72 = .ok (.bipush 6, 2) := by decide +kernel
theorem dX0_init_74 : decode cX0_init 74 = .ok (.newarray .int, 2) := by decide +kernel
theorem dX0_init_76 : decode cX0_init 76 = .ok (.putfield 43, 3) := by decide +kernel
theorem dX0_init_79 : decode cX0_init 79 = .ok (.aload_n 0, 1) := by decide +kernel
theorem dX0_init_80 : decode cX0_init 80 = .ok (.bipush 6, 2) := by decide +kernel
theorem dX0_init_82 : decode cX0_init 82 = .ok (.newarray .int, 2) := by decide +kernel
theorem dX0_init_84 : decode cX0_init 84 = .ok (.putfield 46, 3) := by decide +kernel
theorem dX0_init_87 : decode cX0_init 87 = .ok (.aload_n 0, 1) := by decide +kernel
theorem dX0_init_88 : decode cX0_init 88 = .ok (.iconst 0, 1) := by decide +kernel
theorem dX0_init_89 : decode cX0_init 89 = .ok (.putfield 49, 3) := by decide +kernel
theorem dX0_init_92 : decode cX0_init 92 = .ok (.aload_n 0, 1) := by decide +kernel
theorem dX0_init_93 : decode cX0_init 93 = .ok (.bipush 8, 2) := by decide +kernel
theorem dX0_init_95 : decode cX0_init 95 = .ok (.newarray .int, 2) := by decide +kernel
theorem dX0_init_97 : decode cX0_init 97 = .ok (.putfield 52, 3) := by decide +kernel
theorem dX0_init_100 : decode cX0_init 100 = .ok (.aload_n 0, 1) := by decide +kernel
theorem dX0_init_101 : decode cX0_init 101 = .ok (.bipush 8, 2) := by decide +kernel
theorem dX0_init_103 : decode cX0_init 103 = .ok (.newarray .int, 2) := by decide +kernel
theorem dX0_init_105 : decode cX0_init 105 = .ok (.putfield 55, 3) := by decide +kernel
theorem dX0_init_108 : decode cX0_init 108 = .ok (.aload_n 0, 1) := by decide +kernel
theorem dX0_init_109 : decode cX0_init 109 = .ok (.bipush 8, 2) := by decide +kernel
theorem dX0_init_111 : decode cX0_init 111 = .ok (.newarray .int, 2) := by decide +kernel
theorem dX0_init_113 : decode cX0_init 113 = .ok (.putfield 58, 3) := by decide +kernel
theorem dX0_init_116 : decode cX0_init 116 = .ok (.aload_n 0, 1) := by decide +kernel
theorem dX0_init_117 : decode cX0_init 117 = .ok (.getfield 28, 3) := by decide +kernel
theorem dX0_init_120 : decode cX0_init 120 = .ok (.iconst 2, 1) := by decide +kernel
theorem dX0_init_121 : decode cX0_init 121 = .ok (.iconst 1, 1) := by decide +kernel
theorem dX0_init_122 : decode cX0_init 122 = .ok (.iastore, 1) := by decide +kernel
theorem dX0_init_123 : decode cX0_init 123 = .ok (.getstatic 61, 3) := by decide +kernel
theorem dX0_init_126 : decode cX0_init 126 = .ok (.iconst 0, 1) := by decide +kernel
theorem dX0_init_127 : decode cX0_init 127 = .ok (.aload_n 0, 1) := by decide +kernel
theorem dX0_init_128 : decode cX0_init 128 = .ok (.getfield 34, 3) := by decide +kernel
theorem dX0_init_131 : decode cX0_init 131 = .ok (.iconst 0, 1) := by decide +kernel
theorem dX0_init_132 : decode cX0_init 132 = .ok (.iconst 4, 1) := by decide +kernel
theorem dX0_init_133 : decode cX0_init 133 = .ok (.invokestatic 64, 3) := by decide +kernel
theorem dX0_init_136 : decode cX0_init 136 = .ok (.return_, 1) := by decide +kernel
theorem dX0_copyFrom_0 : decode cX0_copyFrom 0 = .ok (.aload_n 1, 1) := by decide +kernel
theorem dX0_copyFrom_1 : decode cX0_copyFrom 1 = .ok (.getfield 9, 3) := by decide +kernel
theorem dX0_copyFrom_4 : decode cX0_copyFrom 4 = .ok (.iconst 0, 1) := by decide +kernel
theorem dX0_copyFrom_5 : decode cX0_copyFrom 5 = .ok (.aload_n 0, 1) := by decide +kernel
theorem dX0_copyFrom_6 : decode cX0_copyFrom 6 = .ok (.getfield 9, 3) := by decide +kernel
theorem dX0_copyFrom_9 : decode cX0_copyFrom 9 = .ok (.iconst 0, 1) := by decide +kernel
theorem dX0_copyFrom_10 : decode cX0_copyFrom 10 = .ok (.iconst 4, 1) := by decide +kernel
theorem dX0_copyFrom_11 : decode cX0_copyFrom 11 = .ok (.invokestatic 64, 3) := by decide +kernel
theorem dX0_copyFrom_14 : decode cX0_copyFrom 14 = .ok (.aload_n 1, 1) := by decide +kernel
theorem dX0_copyFrom_15 : decode cX0_copyFrom 15 = .ok (.getfield 15, 3) := by decide +kernel
theorem dX0_copyFrom_18 : decode cX0_copyFrom 18 = .ok (.iconst 0, 1) := by decide +kernel
theorem dX0_copyFrom_19 : decode cX0_copyFrom 19 = .ok (.aload_n 0, 1) := by decide +kernel
theorem dX0_copyFrom_20 : decode cX0_copyFrom 20 = .ok (.getfield 15, 3) := by decide +kernel
theorem dX0_copyFrom_23 : decode cX0_copyFrom 23 = .ok (.iconst 0, 1) := by decide +kernel
theorem dX0_copyFrom_24 : decode cX0_copyFrom 24 = .ok (.bipush 24, 2) := by decide +kernel
theorem dX0_copyFrom_26 : decode cX0_copyFrom 26 = .ok (.invokestatic 64, 3) := by decide +kernel
theorem dX0_copyFrom_29 : decode cX0_copyFrom 29 = .ok (.aload_n 1, 1) := by decide +kernel
theorem dX0_copyFrom_30 : decode cX0_copyFrom 30 = .ok (.getfield 18, 3) := by decide +kernel
theorem dX0_copyFrom_33 : decode cX0_copyFrom 33 = .ok (.iconst 0, 1) := by decide +kernel
theorem dX0_copyFrom_34 : decode cX0_copyFrom 34 = .ok (.aload_n 0, 1) := by decide +kernel
theorem dX0_copyFrom_35 : decode cX0_copyFrom 35 = .ok (.getfield 18, 3) := by decide +kernel
theorem dX0_copyFrom_38 : decode cX0_copyFrom 38 = .ok (.iconst 0, 1) := by decide +kernel
theorem dX0_copyFrom_39 : decode cX0_copyFrom 39 = .ok (.bipush 24, 2) := by decide +kernel
theorem dX0_copyFrom_41 : decode cX0_copyFrom 41 = .ok (.invokestatic 64, 3) := by decide +kernel
theorem dX0_copyFrom_44 : decode cX0_copyFrom 44 = .ok (.aload_n 1, 1) := by decide +kernel
theorem dX0_copyFrom_45 : decode cX0_copyFrom 45 = .ok (.getfield 21, 3) := by decide +kernel
theorem dX0_copyFrom_48 : decode cX0_copyFrom 48 = .ok (.iconst 0, 1) := by decide +kernel
theorem dX0_copyFrom_49 : decode cX0_copyFrom 49 = .ok (.aload_n 0, 1) := by decide +kernel
theorem dX0_copyFrom_50 : decode cX0_copyFrom 50 = .ok (.getfield 21, 3) := by decide +kernel
theorem dX0_copyFrom_53 : decode cX0_copyFrom 53 = .ok (.iconst 0, 1) := by decide +kernel
theorem dX0_copyFrom_54 : decode cX0_copyFrom 54 = .ok (.iconst 4, 1) := by decide +kernel
theorem dX0_copyFrom_55 : decode cX0_copyFrom 55 = .ok (.invokestatic 64, 3) := by decide +kernel
theorem dX0_copyFrom_58 : decode cX0_copyFrom 58 = .ok (.aload_n 0, 1) := by decide +kernel
theorem dX0_copyFrom_59 : decode cX0_copyFrom 59 = .ok (.aload_n 1, 1) := by decide +kernel
theorem dX0_copyFrom_60 : decode cX0_copyFrom 60 = .ok (.getfield 24, 3) := by decide +kernel
theorem dX0_copyFrom_63 : decode cX0_copyFrom 63 = .ok (.putfield 24, 3) := by decide +kernel
theorem dX0_copyFrom_66 : decode cX0_copyFrom 66 = .ok (.aload_n 1, 1) := by decide +kernel
theorem dX0_copyFrom_67 : decode cX0_copyFrom 67 = .ok (.getfield 28, 3) := by decide +kernel
theorem dX0_copyFrom_70 : decode cX0_copyFrom 70 = .ok (.iconst 0, 1) := by decide +kernel
theorem dX0_copyFrom_71 : decode cX0_copyFrom 71 = .ok (.aload_n 0, 1) := by decide +kernel
theorem dX0_copyFrom_72 : decode cX0_copyFrom 72 = .ok (.getfield 28, 3) := by decide +kernel
theorem dX0_copyFrom_75 : decode cX0_copyFrom 75 = .ok (.iconst 0, 1) := by decide +kernel
theorem dX0_copyFrom_76 : decode cX0_copyFrom 76 = .ok (.iconst 5, 1) := by decide +kernel
theorem dX0_copyFrom_77 : decode cX0_copyFrom 77 = .ok (.invokestatic 64, 3) := by decide +kernel
theorem dX0_copyFrom_80 : decode cX0_copyFrom 80 = .ok (.aload_n 0, 1) := by decide +kernel
theorem dX0_copyFrom_81 : decode cX0_copyFrom 81 = .ok (.aload_n 1, 1) := by decide +kernel
theorem dX0_copyFrom_82 : decode cX0_copyFrom 82 = .ok (.getfield 31, 3) := by decide +kernel
theorem dX0_copyFrom_85 : decode cX0_copyFrom 85 = .ok (.putfield 31, 3) := by decide +kernel
theorem dX0_copyFrom_88 : decode cX0_copyFrom 88 = .ok (.aload_n 1, 1) := by decide +kernel
theorem dX0_copyFrom_89 : decode cX0_copyFrom 89 = .ok (.getfield 34, 3) := by decide +kernel
theorem dX0_copyFrom_92 : decode cX0_copyFrom 92 = .ok (.iconst 0, 1) := by decide +kernel
theorem dX0_copyFrom_93 : decode cX0_copyFrom 93 = .ok (.aload_n 0, 1) := by decide +kernel
theorem dX0_copyFrom_94 : decode cX0_copyFrom 94 = .ok (.getfield 34, 3) := by decide +kernel
theorem dX0_copyFrom_97 : decode cX0_copyFrom 97 = .ok (.iconst 0, 1) := by decide +kernel
theorem dX0_copyFrom_98 : decode cX0_copyFrom 98 = .ok (.iconst 4, 1) := by decide +kernel
theorem dX0_copyFrom_99 : decode cX0_copyFrom 99 = .ok (.invokestatic 64, 3) := by decide +kernel
theorem dX0_copyFrom_102 : decode cX0_copyFrom 102 = .ok (.aload_n 0, 1) := by decide +kernel
theorem dX0_copyFrom_103 : decode cX0_copyFrom 103 = .ok (.aload_n 1, 1) := by decide +kernel
theorem dX0_copyFrom_104 : decode cX0_copyFrom 104 = .ok (.getfield 37, 3) := by decide +kernel
theorem dX0_copyFrom_107 : decode cX0_copyFrom 107 = .ok (.putfield 37, 3) := by decide +kernel
theorem dX0_copyFrom_110 : decode cX0_copyFrom 110 = .ok (.aload_n 1, 1) := by decide +kernel
theorem dX0_copyFrom_111 : decode cX0_copyFrom 111 = .ok (.getfield 40, 3) := by decide +kernel
theorem dX0_copyFrom_114 : decode cX0_copyFrom 114 = .ok (.iconst 0, 1) := by decide +kernel
theorem dX0_copyFrom_115 : decode cX0_copyFrom 115 = .ok (.aload_n 0, 1) := by decide +kernel
theorem dX0_copyFrom_116 : decode cX0_copyFrom 116 = .ok (.getfield 40, 3) := by decide +kernel
theorem dX0_copyFrom_119 : decode cX0_copyFrom 119 = .ok (.iconst 0, 1) := by decide +kernel
theorem dX0_copyFrom_120 : decode cX0_copyFrom 120 = .ok (.bipush 6, 2) := by decide +kernel
theorem dX0_copyFrom_122 : decode cX0_copyFrom 122 = .ok (.invokestatic 64, 3) := by decide +kernel
theorem dX0_copyFrom_125 : decode cX0_copyFrom 125 = .ok (.aload_n 1, 1) := by decide +kernel
theorem dX0_copyFrom_126 : decode cX0_copyFrom 126 = .ok (.getfield 43, 3) := by decide +kernel
theorem dX0_copyFrom_129 : decode cX0_copyFrom 129 = .ok (.iconst 0, 1) := by decide +kernel
theorem dX0_copyFrom_130 : decode cX0_copyFrom 130 = .ok (.aload_n 0, 1) := by decide +kernel
theorem dX0_copyFrom_131 : decode cX0_copyFrom 131 = .ok (.getfield 43, 3) := by decide +kernel
theorem dX0_copyFrom_134 : decode cX0_copyFrom 134 = .ok (.iconst 0, 1) := by decide +kernel
theorem dX0_copyFrom_135 : decode cX0_copyFrom 135 = .ok (.bipush 6, 2) := by decide +kernel
theorem dX0_copyFrom_137 : decode cX0_copyFrom 137 = .ok (.invokestatic 64, 3) := by decide +kernel
theorem dX0_copyFrom_140 : decode cX0_copyFrom 140 = .ok (.aload_n 1, 1) := by decide +kernel
theorem dX0_copyFrom_141 : decode cX0_copyFrom 141 = .ok (.getfield 46, 3) := by decide +kernel
theorem dX0_copyFrom_144 : decode cX0_copyFrom 144 = .ok (.iconst 0, 1) := by decide +kernel
theorem dX0_copyFrom_145 : decode cX0_copyFrom 145 = .ok (.aload_n 0, 1) := by decide +kernel
theorem dX0_copyFrom_146 : decode cX0_copyFrom 146 = .ok (.getfield 46, 3) := by decide +kernel
theorem dX0_copyFrom_149 : decode cX0_copyFrom 149 = .ok (.iconst 0, 1) := by decide +kernel
theorem dX0_copyFrom_150 : decode cX0_copyFrom 150 = .ok (.bipush 6, 2) := by decide +kernel
theorem dX0_copyFrom_152 : decode cX0_copyFrom 152 = .ok (.invokestatic 64, 3) := by decide +kernel
theorem dX0_copyFrom_155 : decode cX0_copyFrom 155 = .ok (.aload_n 0, 1) := by decide +kernel
theorem dX0_copyFrom_156 : decode cX0_copyFrom 156 = .ok (.aload_n 1, 1) := by decide +kernel
theorem dX0_copyFrom_157 : decode cX0_copyFrom 157 = .ok (.getfield 49, 3) := by decide +kernel
theorem dX0_copyFrom_160 : decode cX0_copyFrom 160 = .ok (.putfield 49, 3) := by decide +kernel
theorem dX0_copyFrom_163 : decode cX0_copyFrom 163 = .ok (.aload_n 1, 1) := by decide +kernel
theorem dX0_copyFrom_164 : decode cX0_copyFrom 164 = .ok (.getfield 52, 3) := by decide +kernel
theorem dX0_copyFrom_167 : decode cX0_copyFrom 167 = .ok (.iconst 0, 1) := by decide +kernel
theorem dX0_copyFrom_168 : decode cX0_copyFrom 168 = .ok (.aload_n 0, 1) := by decide +kernel
theorem dX0_copyFrom_169 : decode cX0_copyFrom 169 = .ok (.getfield 52, 3) := by decide +kernel
theorem dX0_copyFrom_172 : decode cX0_copyFrom 172 = .ok (.iconst 0, 1) := by decide +kernel
theorem dX0_copyFrom_173 : decode cX0_copyFrom 173 = .ok (.bipush 8, 2) := by decide +kernel
theorem dX0_copyFrom_175 : decode cX0_copyFrom 175 = .ok (.invokestatic 64, 3) := by decide +kernel
theorem dX0_copyFrom_178 : decode cX0_copyFrom 178 = .ok (.aload_n 1, 1) := by decide +kernel
theorem dX0_copyFrom_179 : decode cX0_copyFrom 179 = .ok (.getfield 55, 3) := by decide +kernel
theorem dX0_copyFrom_182 : decode cX0_copyFrom 182 = .ok (.iconst 0, 1) := by decide +kernel
theorem dX0_copyFrom_183 : decode cX0_copyFrom 183 = .ok (.aload_n 0, 1) := by decide +kernel
theorem dX0_copyFrom_184 : decode cX0_copyFrom 184 = .ok (.getfield 55, 3) := by decide +kernel
theorem dX0_copyFrom_187 : decode cX0_copyFrom 187 = .ok (.iconst 0, 1) := by decide +kernel
theorem dX0_copyFrom_188 : decode cX0_copyFrom 188 = .ok (.bipush 8, 2) := by decide +kernel
theorem dX0_copyFrom_190 : decode cX0_copyFrom 190 = .ok (.invokestatic 64, 3) := by decide +kernel
theorem dX0_copyFrom_193 : decode cX0_copyFrom 193 = .ok (.aload_n 1, 1) := by decide +kernel
theorem dX0_copyFrom_194 : decode cX0_copyFrom 194 = .ok (.getfield 58, 3) := by decide +kernel
theorem dX0_copyFrom_197 : decode cX0_copyFrom 197 = .ok (.iconst 0, 1) := by decide +kernel
theorem dX0_copyFrom_198 : decode cX0_copyFrom 198 = .ok (.aload_n 0, 1) := by decide +kernel
theorem dX0_copyFrom_199 : decode cX0_copyFrom 199 = .ok (.getfield 58, 3) := by decide +kernel
theorem dX0_copyFrom_202 : decode cX0_copyFrom 202 = .ok (.iconst 0, 1) := by decide +kernel
theorem dX0_copyFrom_203 : decode cX0_copyFrom 203 = .ok (.bipush 8, 2) := by decide +kernel
theorem dX0_copyFrom_205 : decode cX0_copyFrom 205 = .ok (.invokestatic 64, 3) := by decide +kernel
theorem dX0_copyFrom_208 : decode cX0_copyFrom 208 = .ok (.return_, 1) := by decide +kernel
theorem dX0_appendReel_0 : decode cX0_appendReel 0 = .ok (.iload_n 1, 1) := by decide +kernel
theorem dX0_appendReel_1 : decode cX0_appendReel 1 = .ok (.aload_n 0, 1) := by decide +kernel
theorem dX0_appendReel_2 : decode cX0_appendReel 2 = .ok (.getfield 9, 3) := by decide +kernel
theorem dX0_appendReel_5 : decode cX0_appendReel 5 = .ok (.iload_n 1, 1) := by decide +kernel
theorem dX0_appendReel_6 : decode cX0_appendReel 6 = .ok (.iaload, 1) := by decide +kernel
theorem dX0_appendReel_7 : decode cX0_appendReel 7 = .ok (.invokestatic 70, 3) := by decide +kernel
theorem dX0_appendReel_10 : decode cX0_appendReel 10 = .ok (.istore 4, 2) := by decide +kernel
theorem dX0_appendReel_12 : decode cX0_appendReel 12 = .ok (.aload_n 0, 1) := by decide +kernel
theorem dX0_appendReel_13 : decode cX0_appendReel 13 = .ok (.getfield 15, 3) := by decide +kernel
theorem dX0_appendReel_16 : decode cX0_appendReel 16 = .ok (.iload 4, 2) := by decide +kernel
theorem dX0_appendReel_18 : decode cX0_appendReel 18 = .ok (.iload_n 2, 1) := by decide +kernel
theorem dX0_appendReel_19 : decode cX0_appendReel 19 = .ok (.iastore, 1) := by decide +kernel
theorem dX0_appendReel_20 : decode cX0_appendReel 20 = .ok (.aload_n 0, 1) := by decide +kernel
theorem dX0_appendReel_21 : decode cX0_appendReel 21 = .ok (.getfield 18, 3) := by decide +kernel
theorem dX0_appendReel_24 : decode cX0_appendReel 24 = .ok (.iload 4, 2) := by decide +kernel
theorem dX0_appendReel_26 : decode cX0_appendReel 26 = .ok (.iload_n 3, 1) := by decide +kernel
theorem dX0_appendReel_27 : decode cX0_appendReel 27 = .ok (.iastore, 1) := by decide +kernel
theorem dX0_appendReel_28 : decode cX0_appendReel 28 = .ok (.aload_n 0, 1) := by decide +kernel
theorem dX0_appendReel_29 : decode cX0_appendReel 29 = .ok (.getfield 9, 3) := by decide +kernel
theorem dX0_appendReel_32 : decode cX0_appendReel 32 = .ok (.iload_n 1, 1) := by decide +kernel
theorem dX0_appendReel_33 : decode cX0_appendReel 33 = .ok (.dup2, 1) := by decide +kernel
theorem dX0_appendReel_34 : decode cX0_appendReel 34 = .ok (.iaload, 1) := by decide +kernel
theorem dX0_appendReel_35 : decode cX0_appendReel 35 = .ok (.iconst 1, 1) := by decide +kernel
theorem dX0_appendReel_36 : decode cX0_appendReel 36 = .ok (.iadd, 1) := by decide +kernel
theorem dX0_appendReel_37 : decode cX0_appendReel 37 = .ok (.iastore, 1) := by decide +kernel
theorem dX0_appendReel_38 : decode cX0_appendReel 38 = .ok (.return_, 1) := by decide +kernel
theorem dX0_sumOfLengths_0 : decode cX0_sumOfLengths 0 = .ok (.iconst 0, 1) := by decide +kernel
theorem dX0_sumOfLengths_1 : decode cX0_sumOfLengths 1 = .ok (.istore_n 2, 1) := by decide +kernel
theorem dX0_sumOfLengths_2 : decode cX0_sumOfLengths 2 = .ok (.iconst 0, 1) := by decide +kernel
theorem dX0_sumOfLengths_3 : decode cX0_sumOfLengths 3 = .ok (.istore_n 3, 1) := by decide +kernel
theorem dX0_sumOfLengths_4 : decode cX0_sumOfLengths 4 = .ok (.iload_n 3, 1) := by decide +kernel
theorem dX0_sumOfLengths_5 : decode cX0_sumOfLengths 5 = .ok (.aload_n 0, 1) := by decide +kernel
theorem dX0_sumOfLengths_6 : decode cX0_sumOfLengths 6 = .ok (.getfield 9, 3) := by decide +kernel
theorem dX0_sumOfLengths_9 : decode cX0_sumOfLengths 9 = .ok (.iload_n 1, 1) := by decide +kernel
theorem dX0_sumOfLengths_10 : decode cX0_sumOfLengths 10 = .ok (.iaload, 1) := by decide +kernel
theorem dX0_sumOfLengths_11 : decode cX0_sumOfLengths 11 = .ok (.if_icmp .ge 22, 3) := by decide +kernel
theorem dX0_sumOfLengths_14 : decode cX0_sumOfLengths 14 = .ok (.iload_n 2, 1) := by decide +kernel
theorem dX0_sumOfLengths_15 : decode cX0_sumOfLengths 15 = .ok (.aload_n 0, 1) := by decide +kernel
theorem dX0_sumOfLengths_16 : decode cX0_sumOfLengths 16 = .ok (.getfield 15, 3) := by decide +kernel
theorem dX0_sumOfLengths_19 : decode cX0_sumOfLengths 19 = .ok (.iload_n 1, 1) := by decide +kernel
theorem dX0_sumOfLengths_20 : decode cX0_sumOfLengths 20 = .ok (.iload_n 3, 1) := by decide +kernel
theorem dX0_sumOfLengths_21 : decode cX0_sumOfLengths 21 = .ok (.invokestatic 70, 3) := by decide +kernel
theorem dX0_sumOfLengths_24 : decode cX0_sumOfLengths 24 = .ok (.iaload, 1) := by decide +kernel
theorem dX0_sumOfLengths_25 : decode cX0_sumOfLengths 25 = .ok (.iadd, 1) := by decide +kernel
theorem dX0_sumOfLengths_26 : decode cX0_sumOfLengths 26 = .ok (.istore_n 2, 1) := by decide +kernel
theorem dX0_sumOfLengths_27 : decode cX0_sumOfLengths 27 = .ok (.iinc 3 1, 3) := by decide +kernel
theorem dX0_sumOfLengths_30 : decode cX0_sumOfLengths 30 = .ok (.goto (-26), 3) := by decide +kernel
theorem dX0_sumOfLengths_33 : decode cX0_sumOfLengths 33 = .ok (.iload_n 2, 1) := by decide +kernel
theorem dX0_sumOfLengths_34 : decode cX0_sumOfLengths 34 = .ok (.ireturn, 1) := by decide +kernel
theorem dX0_isShown_0 : decode cX0_isShown 0 = .ok (.iconst 0, 1) := by decide +kernel
theorem dX0_isShown_1 : decode cX0_isShown 1 = .ok (.istore_n 2, 1) := by decide +kernel
theorem dX0_isShown_2 : decode cX0_isShown 2 = .ok (.iload_n 2, 1) := by decide +kernel
theorem dX0_isShown_3 : decode cX0_isShown 3 = .ok (.aload_n 0, 1) := by decide +kernel
theorem dX0_isShown_4 : decode cX0_isShown 4 = .ok (.getfield 37, 3) := by decide +kernel
theorem dX0_isShown_7 : decode cX0_isShown 7 = .ok (.if_icmp .ge 21, 3) := by decide +kernel
theorem dX0_isShown_10 : decode cX0_isShown 10 = .ok (.aload_n 0, 1) := by decide +kernel
theorem dX0_isShown_11 : decode cX0_isShown 11 = .ok (.getfield 43, 3) := by decide +kernel
theorem dX0_isShown_14 : decode cX0_isShown 14 = .ok (.iload_n 2, 1) := by decide +kernel
theorem dX0_isShown_15 : decode cX0_isShown 15 = .ok (.iaload, 1) := by decide +kernel
theorem dX0_isShown_16 : decode cX0_isShown 16 = .ok (.iload_n 1, 1) := by decide +kernel
theorem dX0_isShown_17 : decode cX0_isShown 17 = .ok (.if_icmp .ne 5, 3) := by decide +kernel
theorem dX0_isShown_20 : decode cX0_isShown 20 = .ok (.iconst 1, 1) := by decide +kernel
theorem dX0_isShown_21 : decode cX0_isShown 21 = .ok (.ireturn, 1) := by decide +kernel
theorem dX0_isShown_22 : decode cX0_isShown 22 = .ok (.iinc 2 1, 3) := by decide +kernel
theorem dX0_isShown_25 : decode cX0_isShown 25 = .ok (.goto (-23), 3) := by decide +kernel
theorem dX0_isShown_28 : decode cX0_isShown 28 = .ok (.iconst 0, 1) := by decide +kernel
theorem dX0_isShown_29 : decode cX0_isShown 29 = .ok (.ireturn, 1) := by decide +kernel
theorem dX0_setHomes_0 : decode cX0_setHomes 0 = .ok (.iconst 0, 1) := by decide +kernel
theorem dX0_setHomes_1 : decode cX0_setHomes 1 = .ok (.istore_n 2, 1) := by decide +kernel
theorem dX0_setHomes_2 : decode cX0_setHomes 2 = .ok (.iload_n 2, 1) := by decide +kernel
theorem dX0_setHomes_3 : decode cX0_setHomes 3 = .ok (.iconst 4, 1) := by decide +kernel
theorem dX0_setHomes_4 : decode cX0_setHomes 4 = .ok (.if_icmp .ge 20, 3) := by decide +kernel
theorem dX0_setHomes_7 : decode cX0_setHomes 7 = .ok (.aload_n 0, 1) := by decide +kernel
theorem dX0_setHomes_8 : decode cX0_setHomes 8 = .ok (.getfield 21, 3) := by decide +kernel
theorem dX0_setHomes_11 : decode cX0_setHomes 11 = .ok (.iload_n 2, 1) := by decide +kernel
theorem dX0_setHomes_12 : decode cX0_setHomes 12 = .ok (.iload_n 1, 1) := by decide +kernel
theorem dX0_setHomes_13 : decode cX0_setHomes 13 = .ok (.iload_n 2, 1) := by decide +kernel
theorem dX0_setHomes_14 : decode cX0_setHomes 14 = .ok (.ishr, 1) := by decide +kernel
theorem dX0_setHomes_15 : decode cX0_setHomes 15 = .ok (.iconst 1, 1) := by decide +kernel
theorem dX0_setHomes_16 : decode cX0_setHomes 16 = .ok (.iand, 1) := by decide +kernel
theorem dX0_setHomes_17 : decode cX0_setHomes 17 = .ok (.iastore, 1) := by decide +kernel
theorem dX0_setHomes_18 : decode cX0_setHomes 18 = .ok (.iinc 2 1, 3) := by decide +kernel
theorem dX0_setHomes_21 : decode cX0_setHomes 21 = .ok (.goto (-19), 3) := by decide +kernel
theorem dX0_setHomes_24 : decode cX0_setHomes 24 = .ok (.return_, 1) := by decide +kernel
theorem dX0_appendMachine_0 : decode cX0_appendMachine 0 = .ok (.aload_n 0, 1) := by decide +kernel
theorem dX0_appendMachine_1 : decode cX0_appendMachine 1 = .ok (.getfield 28, 3) := by decide +kernel
theorem dX0_appendMachine_4 : decode cX0_appendMachine 4 = .ok (.aload_n 0, 1) := by decide +kernel
theorem dX0_appendMachine_5 : decode cX0_appendMachine 5 = .ok (.getfield 24, 3) := by decide +kernel
theorem dX0_appendMachine_8 : decode cX0_appendMachine 8 = .ok (.iload_n 1, 1) := by decide +kernel
theorem dX0_appendMachine_9 : decode cX0_appendMachine 9 = .ok (.iastore, 1) := by decide +kernel
theorem dX0_appendMachine_10 : decode cX0_appendMachine 10 = .ok (.aload_n 0, 1) := by decide +kernel
theorem dX0_appendMachine_11 : decode cX0_appendMachine 11 = .ok (.dup, 1) := by decide +kernel
theorem dX0_appendMachine_12 : decode cX0_appendMachine 12 = .ok (.getfield 24, 3) := by decide +kernel
theorem dX0_appendMachine_15 : decode cX0_appendMachine 15 = .ok (.iconst 1, 1) := by decide +kernel
theorem dX0_appendMachine_16 : decode cX0_appendMachine 16 = .ok (.iadd, 1) := by decide +kernel
theorem dX0_appendMachine_17 : decode cX0_appendMachine 17 = .ok (.putfield 24, 3) := by decide +kernel
theorem dX0_appendMachine_20 : decode cX0_appendMachine 20 = .ok (.return_, 1) := by decide +kernel
theorem dX0_dropMachine_0 : decode cX0_dropMachine 0 = .ok (.aload_n 0, 1) := by decide +kernel
theorem dX0_dropMachine_1 : decode cX0_dropMachine 1 = .ok (.dup, 1) := by decide +kernel
theorem dX0_dropMachine_2 : decode cX0_dropMachine 2 = .ok (.getfield 24, 3) := by decide +kernel
theorem dX0_dropMachine_5 : decode cX0_dropMachine 5 = .ok (.iconst 1, 1) := by decide +kernel
theorem dX0_dropMachine_6 : decode cX0_dropMachine 6 = .ok (.isub, 1) := by decide +kernel
theorem dX0_dropMachine_7 : decode cX0_dropMachine 7 = .ok (.putfield 24, 3) := by decide +kernel
theorem dX0_dropMachine_10 : decode cX0_dropMachine 10 = .ok (.iload_n 1, 1) := by decide +kernel
theorem dX0_dropMachine_11 : decode cX0_dropMachine 11 = .ok (.istore_n 2, 1) := by decide +kernel
theorem dX0_dropMachine_12 : decode cX0_dropMachine 12 = .ok (.iload_n 2, 1) := by decide +kernel
theorem dX0_dropMachine_13 : decode cX0_dropMachine 13 = .ok (.aload_n 0, 1) := by decide +kernel
theorem dX0_dropMachine_14 : decode cX0_dropMachine 14 = .ok (.getfield 24, 3) := by decide +kernel
theorem dX0_dropMachine_17 : decode cX0_dropMachine 17 = .ok (.if_icmp .ge 23, 3) := by decide +kernel
theorem dX0_dropMachine_20 : decode cX0_dropMachine 20 = .ok (.aload_n 0, 1) := by decide +kernel
theorem dX0_dropMachine_21 : decode cX0_dropMachine 21 = .ok (.getfield 28, 3) := by decide +kernel
theorem dX0_dropMachine_24 : decode cX0_dropMachine 24 = .ok (.iload_n 2, 1) := by decide +kernel
theorem dX0_dropMachine_25 : decode cX0_dropMachine 25 = .ok (.aload_n 0, 1) := by decide +kernel
theorem dX0_dropMachine_26 : decode cX0_dropMachine 26 = .ok (.getfield 28, 3) := by decide +kernel
theorem dX0_dropMachine_29 : decode cX0_dropMachine 29 = .ok (.iload_n 2, 1) := by decide +kernel
theorem dX0_dropMachine_30 : decode cX0_dropMachine 30 = .ok (.iconst 1, 1) := by decide +kernel
theorem dX0_dropMachine_31 : decode cX0_dropMachine 31 = .ok (.iadd, 1) := by decide +kernel
theorem dX0_dropMachine_32 : decode cX0_dropMachine 32 = .ok (.iaload, 1) := by decide +kernel
theorem dX0_dropMachine_33 : decode cX0_dropMachine 33 = .ok (.iastore, 1) := by decide +kernel
theorem dX0_dropMachine_34 : decode cX0_dropMachine 34 = .ok (.iinc 2 1, 3) := by decide +kernel
theorem dX0_dropMachine_37 : decode cX0_dropMachine 37 = .ok (.goto (-25), 3) := by decide +kernel
theorem dX0_dropMachine_40 : decode cX0_dropMachine 40 = .ok (.return_, 1) := by decide +kernel
theorem dX0_firstMachineIn_0 : decode cX0_firstMachineIn 0 = .ok (.iconst 0, 1) := by decide +kernel
theorem dX0_firstMachineIn_1 : decode cX0_firstMachineIn 1 = .ok (.istore_n 2, 1) := by decide +kernel
theorem dX0_firstMachineIn_2 : decode cX0_firstMachineIn 2 = .ok (.iload_n 2, 1) := by decide +kernel
theorem dX0_firstMachineIn_3 : decode cX0_firstMachineIn 3 = .ok (.aload_n 0, 1) := by decide +kernel
theorem dX0_firstMachineIn_4 : decode cX0_firstMachineIn 4 = .ok (.getfield 24, 3) := by decide +kernel
theorem dX0_firstMachineIn_7 : decode cX0_firstMachineIn 7 = .ok (.if_icmp .ge 21, 3) := by decide +kernel
theorem dX0_firstMachineIn_10 : decode cX0_firstMachineIn 10 = .ok (.aload_n 0, 1) := by decide +kernel
theorem dX0_firstMachineIn_11 : decode cX0_firstMachineIn 11 = .ok (.getfield 28, 3) := by decide +kernel
theorem dX0_firstMachineIn_14 : decode cX0_firstMachineIn 14 = .ok (.iload_n 2, 1) := by decide +kernel
theorem dX0_firstMachineIn_15 : decode cX0_firstMachineIn 15 = .ok (.iaload, 1) := by decide +kernel
theorem dX0_firstMachineIn_16 : decode cX0_firstMachineIn 16 = .ok (.iload_n 1, 1) := by decide +kernel
theorem dX0_firstMachineIn_17 : decode cX0_firstMachineIn 17 = .ok (.if_icmp .ne 5, 3) := by decide +kernel
theorem dX0_firstMachineIn_20 : decode cX0_firstMachineIn 20 = .ok (.iload_n 2, 1) := by decide +kernel
theorem dX0_firstMachineIn_21 : decode cX0_firstMachineIn 21 = .ok (.ireturn, 1) := by decide +kernel
theorem dX0_firstMachineIn_22 : decode cX0_firstMachineIn 22 = .ok (.iinc 2 1, 3) := by decide +kernel
theorem dX0_firstMachineIn_25 : decode cX0_firstMachineIn 25 = .ok (.goto (-23), 3) := by decide +kernel
theorem dX0_firstMachineIn_28 : decode cX0_firstMachineIn 28 = .ok (.iconst (-1), 1) := by decide +kernel
theorem dX0_firstMachineIn_29 : decode cX0_firstMachineIn 29 = .ok (.ireturn, 1) := by decide +kernel
theorem dX0_appendShow_0 : decode cX0_appendShow 0 = .ok (.aload_n 0, 1) := by decide +kernel
theorem dX0_appendShow_1 : decode cX0_appendShow 1 = .ok (.getfield 40, 3) := by decide +kernel
theorem dX0_appendShow_4 : decode cX0_appendShow 4 = .ok (.aload_n 0, 1) := by decide +kernel
theorem dX0_appendShow_5 : decode cX0_appendShow 5 = .ok (.getfield 37, 3) := by decide +kernel
theorem dX0_appendShow_8 : decode cX0_appendShow 8 = .ok (.iload_n 1, 1) := by decide +kernel
theorem dX0_appendShow_9 : decode cX0_appendShow 9 = .ok (.iastore, 1) := by decide +kernel
theorem dX0_appendShow_10 : decode cX0_appendShow 10 = .ok (.aload_n 0, 1) := by decide +kernel
theorem dX0_appendShow_11 : decode cX0_appendShow 11 = .ok (.getfield 43, 3) := by decide +kernel
theorem dX0_appendShow_14 : decode cX0_appendShow 14 = .ok (.aload_n 0, 1) := by decide +kernel
theorem dX0_appendShow_15 : decode cX0_appendShow 15 = .ok (.getfield 37, 3) := by decide +kernel
theorem dX0_appendShow_18 : decode cX0_appendShow 18 = .ok (.iload_n 2, 1) := by decide +kernel
theorem dX0_appendShow_19 : decode cX0_appendShow 19 = .ok (.iastore, 1) := by decide +kernel
theorem dX0_appendShow_20 : decode cX0_appendShow 20 = .ok (.aload_n 0, 1) := by decide +kernel
theorem dX0_appendShow_21 : decode cX0_appendShow 21 = .ok (.getfield 46, 3) := by decide +kernel
theorem dX0_appendShow_24 : decode cX0_appendShow 24 = .ok (.aload_n 0, 1) := by decide +kernel
theorem dX0_appendShow_25 : decode cX0_appendShow 25 = .ok (.getfield 37, 3) := by decide +kernel
theorem dX0_appendShow_28 : decode cX0_appendShow 28 = .ok (.iload_n 3, 1) := by decide +kernel
theorem dX0_appendShow_29 : decode cX0_appendShow 29 = .ok (.iastore, 1) := by decide +kernel
theorem dX0_appendShow_30 : decode cX0_appendShow 30 = .ok (.aload_n 0, 1) := by decide +kernel
theorem dX0_appendShow_31 : decode cX0_appendShow 31 = .ok (.dup, 1) := by decide +kernel
theorem dX0_appendShow_32 : decode cX0_appendShow 32 = .ok (.getfield 37, 3) := by decide +kernel
theorem dX0_appendShow_35 : decode cX0_appendShow 35 = .ok (.iconst 1, 1) := by decide +kernel
theorem dX0_appendShow_36 : decode cX0_appendShow 36 = .ok (.iadd, 1) := by decide +kernel
theorem dX0_appendShow_37 : decode cX0_appendShow 37 = .ok (.putfield 37, 3) := by decide +kernel
theorem dX0_appendShow_40 : decode cX0_appendShow 40 = .ok (.return_, 1) := by decide +kernel
theorem dX0_dropShow_0 : decode cX0_dropShow 0 = .ok (.aload_n 0, 1) := by decide +kernel
theorem dX0_dropShow_1 : decode cX0_dropShow 1 = .ok (.iload_n 1, 1) := by decide +kernel
theorem dX0_dropShow_2 : decode cX0_dropShow 2 = .ok (.invokevirtual 74, 3) := by decide +kernel
theorem dX0_dropShow_5 : decode cX0_dropShow 5 = .ok (.aload_n 0, 1) := by decide +kernel
theorem dX0_dropShow_6 : decode cX0_dropShow 6 = .ok (.dup, 1) := by decide +kernel
theorem dX0_dropShow_7 : decode cX0_dropShow 7 = .ok (.getfield 37, 3) := by decide +kernel
theorem dX0_dropShow_10 : decode cX0_dropShow 10 = .ok (.iconst 1, 1) := by decide +kernel
theorem dX0_dropShow_11 : decode cX0_dropShow 11 = .ok (.isub, 1) := by decide +kernel
theorem dX0_dropShow_12 : decode cX0_dropShow 12 = .ok (.putfield 37, 3) := by decide +kernel
theorem dX0_dropShow_15 : decode cX0_dropShow 15 = .ok (.iload_n 1, 1) := by decide +kernel
theorem dX0_dropShow_16 : decode cX0_dropShow 16 = .ok (.istore_n 2, 1) := by decide +kernel
theorem dX0_dropShow_17 : decode cX0_dropShow 17 = .ok (.iload_n 2, 1) := by decide +kernel
theorem dX0_dropShow_18 : decode cX0_dropShow 18 = .ok (.aload_n 0, 1) := by decide +kernel
theorem dX0_dropShow_19 : decode cX0_dropShow 19 = .ok (.getfield 37, 3) := by decide +kernel
theorem dX0_dropShow_22 : decode cX0_dropShow 22 = .ok (.if_icmp .ge 51, 3) := by decide +kernel
theorem dX0_dropShow_25 : decode cX0_dropShow 25 = .ok (.aload_n 0, 1) := by decide +kernel
theorem dX0_dropShow_26 : decode cX0_dropShow 26 = .ok (.getfield 40, 3) := by decide +kernel
theorem dX0_dropShow_29 : decode cX0_dropShow 29 = .ok (.iload_n 2, 1) := by decide +kernel
theorem dX0_dropShow_30 : decode cX0_dropShow 30 = .ok (.aload_n 0, 1) := by decide +kernel
theorem dX0_dropShow_31 : decode cX0_dropShow 31 = .ok (.getfield 40, 3) := by decide +kernel
theorem dX0_dropShow_34 : decode cX0_dropShow 34 = .ok (.iload_n 2, 1) := by decide +kernel
theorem dX0_dropShow_35 : decode cX0_dropShow 35 = .ok (.iconst 1, 1) := by decide +kernel
theorem dX0_dropShow_36 : decode cX0_dropShow 36 = .ok (.iadd, 1) := by decide +kernel
theorem dX0_dropShow_37 : decode cX0_dropShow 37 = .ok (.iaload, 1) := by decide +kernel
theorem dX0_dropShow_38 : decode cX0_dropShow 38 = .ok (.iastore, 1) := by decide +kernel
theorem dX0_dropShow_39 : decode cX0_dropShow 39 = .ok (.aload_n 0, 1) := by decide +kernel
theorem dX0_dropShow_40 : decode cX0_dropShow 40 = .ok (.getfield 43, 3) := by decide +kernel
theorem dX0_dropShow_43 : decode cX0_dropShow 43 = .ok (.iload_n 2, 1) := by decide +kernel
theorem dX0_dropShow_44 : decode cX0_dropShow 44 = .ok (.aload_n 0, 1) := by decide +kernel
theorem dX0_dropShow_45 : decode cX0_dropShow 45 = .ok (.getfield 43, 3) := by decide +kernel
theorem dX0_dropShow_48 : decode cX0_dropShow 48 = .ok (.iload_n 2, 1) := by decide +kernel
theorem dX0_dropShow_49 : decode cX0_dropShow 49 = .ok (.iconst 1, 1) := by decide +kernel
theorem dX0_dropShow_50 : decode cX0_dropShow 50 = .ok (.iadd, 1) := by decide +kernel
theorem dX0_dropShow_51 : decode cX0_dropShow 51 = .ok (.iaload, 1) := by decide +kernel
theorem dX0_dropShow_52 : decode cX0_dropShow 52 = .ok (.iastore, 1) := by decide +kernel
theorem dX0_dropShow_53 : decode cX0_dropShow 53 = .ok (.aload_n 0, 1) := by decide +kernel
theorem dX0_dropShow_54 : decode cX0_dropShow 54 = .ok (.getfield 46, 3) := by decide +kernel
theorem dX0_dropShow_57 : decode cX0_dropShow 57 = .ok (.iload_n 2, 1) := by decide +kernel
theorem dX0_dropShow_58 : decode cX0_dropShow 58 = .ok (.aload_n 0, 1) := by decide +kernel
theorem dX0_dropShow_59 : decode cX0_dropShow 59 = .ok (.getfield 46, 3) := by decide +kernel
theorem dX0_dropShow_62 : decode cX0_dropShow 62 = .ok (.iload_n 2, 1) := by decide +kernel
theorem dX0_dropShow_63 : decode cX0_dropShow 63 = .ok (.iconst 1, 1) := by decide +kernel
theorem dX0_dropShow_64 : decode cX0_dropShow 64 = .ok (.iadd, 1) := by decide +kernel
theorem dX0_dropShow_65 : decode cX0_dropShow 65 = .ok (.iaload, 1) := by decide +kernel
theorem dX0_dropShow_66 : decode cX0_dropShow 66 = .ok (.iastore, 1) := by decide +kernel
theorem dX0_dropShow_67 : decode cX0_dropShow 67 = .ok (.iinc 2 1, 3) := by decide +kernel
theorem dX0_dropShow_70 : decode cX0_dropShow 70 = .ok (.goto (-53), 3) := by decide +kernel
theorem dX0_dropShow_73 : decode cX0_dropShow 73 = .ok (.return_, 1) := by decide +kernel
theorem dX0_dropBreaksOf_0 : decode cX0_dropBreaksOf 0 = .ok (.iconst 0, 1) := by decide +kernel
theorem dX0_dropBreaksOf_1 : decode cX0_dropBreaksOf 1 = .ok (.istore_n 2, 1) := by decide +kernel
theorem dX0_dropBreaksOf_2 : decode cX0_dropBreaksOf 2 = .ok (.iconst 0, 1) := by decide +kernel
theorem dX0_dropBreaksOf_3 : decode cX0_dropBreaksOf 3 = .ok (.istore_n 3, 1) := by decide +kernel
theorem dX0_dropBreaksOf_4 : decode cX0_dropBreaksOf 4 = .ok (.iload_n 3, 1) := by decide +kernel
theorem dX0_dropBreaksOf_5 : decode cX0_dropBreaksOf 5 = .ok (.aload_n 0, 1) := by decide +kernel
theorem dX0_dropBreaksOf_6 : decode cX0_dropBreaksOf 6 = .ok (.getfield 49, 3) := by decide +kernel
theorem dX0_dropBreaksOf_9 : decode cX0_dropBreaksOf 9 = .ok (.if_icmp .ge 71, 3) := by decide +kernel
theorem dX0_dropBreaksOf_12 : decode cX0_dropBreaksOf 12 = .ok (.aload_n 0, 1) := by decide +kernel
theorem dX0_dropBreaksOf_13 : decode cX0_dropBreaksOf 13 = .ok (.getfield 52, 3) := by decide +kernel
theorem dX0_dropBreaksOf_16 : decode cX0_dropBreaksOf 16 = .ok (.iload_n 3, 1) := by decide +kernel
theorem dX0_dropBreaksOf_17 : decode cX0_dropBreaksOf 17 = .ok (.iaload, 1) := by decide +kernel
theorem dX0_dropBreaksOf_18 : decode cX0_dropBreaksOf 18 = .ok (.istore 4, 2) := by decide +kernel
theorem dX0_dropBreaksOf_20 : decode cX0_dropBreaksOf 20 = .ok (.iload 4, 2) := by decide +kernel
theorem dX0_dropBreaksOf_22 : decode cX0_dropBreaksOf 22 = .ok (.iload_n 1, 1) := by decide +kernel
theorem dX0_dropBreaksOf_23 : decode cX0_dropBreaksOf 23 = .ok (.if_icmp .eq 51, 3) := by decide +kernel
theorem dX0_dropBreaksOf_26 : decode cX0_dropBreaksOf 26 = .ok (.aload_n 0, 1) := by decide +kernel
theorem dX0_dropBreaksOf_27 : decode cX0_dropBreaksOf 27 = .ok (.getfield 52, 3) := by decide +kernel
theorem dX0_dropBreaksOf_30 : decode cX0_dropBreaksOf 30 = .ok (.iload_n 2, 1) := by decide +kernel
theorem dX0_dropBreaksOf_31 : decode cX0_dropBreaksOf 31 = .ok (.iload 4, 2) := by decide +kernel
theorem dX0_dropBreaksOf_33 : decode cX0_dropBreaksOf 33 = .ok (.iload_n 1, 1) := by decide +kernel
theorem dX0_dropBreaksOf_34 : decode cX0_dropBreaksOf 34 = .ok (.if_icmp .le 10, 3) := by decide +kernel
theorem dX0_dropBreaksOf_37 : decode cX0_dropBreaksOf 37 = .ok (.iload 4, 2) := by decide +kernel
theorem dX0_dropBreaksOf_39 : decode cX0_dropBreaksOf 39 = .ok (.iconst 1, 1) := by decide +kernel
theorem dX0_dropBreaksOf_40 : decode cX0_dropBreaksOf 40 = .ok (.isub, 1) := by decide +kernel
theorem dX0_dropBreaksOf_41 : decode cX0_dropBreaksOf 41 = .ok (.goto 5, 3) := by decide +kernel
theorem dX0_dropBreaksOf_44 : decode cX0_dropBreaksOf 44 = .ok (.iload 4, 2) := by decide +kernel
theorem dX0_dropBreaksOf_46 : decode cX0_dropBreaksOf 46 = .ok (.iastore, 1) := by decide +kernel
theorem dX0_dropBreaksOf_47 : decode cX0_dropBreaksOf 47 = .ok (.aload_n 0, 1) := by decide +kernel
theorem dX0_dropBreaksOf_48 : decode cX0_dropBreaksOf 48 = .ok (.getfield 55, 3) := by decide +kernel
theorem dX0_dropBreaksOf_51 : decode cX0_dropBreaksOf 51 = .ok (.iload_n 2, 1) := by decide +kernel
theorem dX0_dropBreaksOf_52 : decode cX0_dropBreaksOf 52 = .ok (.aload_n 0, 1) := by decide +kernel
theorem dX0_dropBreaksOf_53 : decode cX0_dropBreaksOf 53 = .ok (.getfield 55, 3) := by decide +kernel
theorem dX0_dropBreaksOf_56 : decode cX0_dropBreaksOf 56 = .ok (.iload_n 3, 1) := by decide +kernel
theorem dX0_dropBreaksOf_57 : decode cX0_dropBreaksOf 57 = .ok (.iaload, 1) := by decide +kernel
theorem dX0_dropBreaksOf_58 : decode cX0_dropBreaksOf 58 = .ok (.iastore, 1) := by decide +kernel
theorem dX0_dropBreaksOf_59 : decode cX0_dropBreaksOf 59 = .ok (.aload_n 0, 1) := by decide +kernel
theorem dX0_dropBreaksOf_60 : decode cX0_dropBreaksOf 60 = .ok (.getfield 58, 3) := by decide +kernel
theorem dX0_dropBreaksOf_63 : decode cX0_dropBreaksOf 63 = .ok (.iload_n 2, 1) := by decide +kernel
theorem dX0_dropBreaksOf_64 : decode cX0_dropBreaksOf 64 = .ok (.aload_n 0, 1) := by decide +kernel
theorem dX0_dropBreaksOf_65 : decode cX0_dropBreaksOf 65 = .ok (.getfield 58, 3) := by decide +kernel
theorem dX0_dropBreaksOf_68 : decode cX0_dropBreaksOf 68 = .ok (.iload_n 3, 1) := by decide +kernel
theorem dX0_dropBreaksOf_69 : decode cX0_dropBreaksOf 69 = .ok (.iaload, 1) := by decide +kernel
theorem dX0_dropBreaksOf_70 : decode cX0_dropBreaksOf 70 = .ok (.iastore, 1) := by decide +kernel
theorem dX0_dropBreaksOf_71 : decode cX0_dropBreaksOf 71 = .ok (.iinc 2 1, 3) := by decide +kernel
theorem dX0_dropBreaksOf_74 : decode cX0_dropBreaksOf 74 = .ok (.iinc 3 1, 3) := by decide +kernel
theorem dX0_dropBreaksOf_77 : decode cX0_dropBreaksOf 77 = .ok (.goto (-73), 3) := by decide +kernel
theorem dX0_dropBreaksOf_80 : decode cX0_dropBreaksOf 80 = .ok (.aload_n 0, 1) := by decide +kernel
theorem dX0_dropBreaksOf_81 : decode cX0_dropBreaksOf 81 = .ok (.iload_n 2, 1) := by decide +kernel
theorem dX0_dropBreaksOf_82 : decode cX0_dropBreaksOf 82 = .ok (.putfield 49, 3) := by decide +kernel
theorem dX0_dropBreaksOf_85 : decode cX0_dropBreaksOf 85 = .ok (.return_, 1) := by decide +kernel
theorem dX0_appendBreak_0 : decode cX0_appendBreak 0 = .ok (.aload_n 0, 1) := by decide +kernel
theorem dX0_appendBreak_1 : decode cX0_appendBreak 1 = .ok (.getfield 52, 3) := by decide +kernel
theorem dX0_appendBreak_4 : decode cX0_appendBreak 4 = .ok (.aload_n 0, 1) := by decide +kernel
theorem dX0_appendBreak_5 : decode cX0_appendBreak 5 = .ok (.getfield 49, 3) := by decide +kernel
theorem dX0_appendBreak_8 : decode cX0_appendBreak 8 = .ok (.iload_n 1, 1) := by decide +kernel
theorem dX0_appendBreak_9 : decode cX0_appendBreak 9 = .ok (.iastore, 1) := by decide +kernel
theorem dX0_appendBreak_10 : decode cX0_appendBreak 10 = .ok (.aload_n 0, 1) := by decide +kernel
theorem dX0_appendBreak_11 : decode cX0_appendBreak 11 = .ok (.getfield 55, 3) := by decide +kernel
theorem dX0_appendBreak_14 : decode cX0_appendBreak 14 = .ok (.aload_n 0, 1) := by decide +kernel
theorem dX0_appendBreak_15 : decode cX0_appendBreak 15 = .ok (.getfield 49, 3) := by decide +kernel
theorem dX0_appendBreak_18 : decode cX0_appendBreak 18 = .ok (.iload_n 2, 1) := by decide +kernel
theorem dX0_appendBreak_19 : decode cX0_appendBreak 19 = .ok (.iastore, 1) := by decide +kernel
theorem dX0_appendBreak_20 : decode cX0_appendBreak 20 = .ok (.aload_n 0, 1) := by decide +kernel
theorem dX0_appendBreak_21 : decode cX0_appendBreak 21 = .ok (.getfield 58, 3) := by decide +kernel
theorem dX0_appendBreak_24 : decode cX0_appendBreak 24 = .ok (.aload_n 0, 1) := by decide +kernel
theorem dX0_appendBreak_25 : decode cX0_appendBreak 25 = .ok (.getfield 49, 3) := by decide +kernel
theorem dX0_appendBreak_28 : decode cX0_appendBreak 28 = .ok (.iload_n 3, 1) := by decide +kernel
theorem dX0_appendBreak_29 : decode cX0_appendBreak 29 = .ok (.iastore, 1) := by decide +kernel
theorem dX0_appendBreak_30 : decode cX0_appendBreak 30 = .ok (.aload_n 0, 1) := by decide +kernel
theorem dX0_appendBreak_31 : decode cX0_appendBreak 31 = .ok (.dup, 1) := by decide +kernel
theorem dX0_appendBreak_32 : decode cX0_appendBreak 32 = .ok (.getfield 49, 3) := by decide +kernel
theorem dX0_appendBreak_35 : decode cX0_appendBreak 35 = .ok (.iconst 1, 1) := by decide +kernel
theorem dX0_appendBreak_36 : decode cX0_appendBreak 36 = .ok (.iadd, 1) := by decide +kernel
theorem dX0_appendBreak_37 : decode cX0_appendBreak 37 = .ok (.putfield 49, 3) := by decide +kernel
theorem dX0_appendBreak_40 : decode cX0_appendBreak 40 = .ok (.return_, 1) := by decide +kernel
theorem dX0_repairTime_0 : decode cX0_repairTime 0 = .ok (.iconst 0, 1) := by decide +kernel
theorem dX0_repairTime_1 : decode cX0_repairTime 1 = .ok (.istore_n 3, 1) := by decide +kernel
theorem dX0_repairTime_2 : decode cX0_repairTime 2 = .ok (.iconst 0, 1) := by decide +kernel
theorem dX0_repairTime_3 : decode cX0_repairTime 3 = .ok (.istore 4, 2) := by decide +kernel
theorem dX0_repairTime_5 : decode cX0_repairTime 5 = .ok (.iload 4, 2) := by decide +kernel
theorem dX0_repairTime_7 : decode cX0_repairTime 7 = .ok (.aload_n 0, 1) := by decide +kernel
theorem dX0_repairTime_8 : decode cX0_repairTime 8 = .ok (.getfield 49, 3) := by decide +kernel
theorem dX0_repairTime_11 : decode cX0_repairTime 11 = .ok (.if_icmp .ge 41, 3) := by decide +kernel
theorem dX0_repairTime_14 : decode cX0_repairTime 14 = .ok (.aload_n 0, 1) := by decide +kernel
theorem dX0_repairTime_15 : decode cX0_repairTime 15 = .ok (.getfield 52, 3) := by decide +kernel
theorem dX0_repairTime_18 : decode cX0_repairTime 18 = .ok (.iload 4, 2) := by decide +kernel
theorem dX0_repairTime_20 : decode cX0_repairTime 20 = .ok (.iaload, 1) := by decide +kernel
theorem dX0_repairTime_21 : decode cX0_repairTime 21 = .ok (.iload_n 1, 1) := by decide +kernel
theorem dX0_repairTime_22 : decode cX0_repairTime 22 = .ok (.if_icmp .ne 24, 3) := by decide +kernel
theorem dX0_repairTime_25 : decode cX0_repairTime 25 = .ok (.aload_n 0, 1) := by decide +kernel
theorem dX0_repairTime_26 : decode cX0_repairTime 26 = .ok (.getfield 55, 3) := by decide +kernel
theorem dX0_repairTime_29 : decode cX0_repairTime 29 = .ok (.iload 4, 2) := by decide +kernel
theorem dX0_repairTime_31 : decode cX0_repairTime 31 = .ok (.iaload, 1) := by decide +kernel
theorem dX0_repairTime_32 : decode cX0_repairTime 32 = .ok (.iload_n 2, 1) := by decide +kernel
theorem dX0_repairTime_33 : decode cX0_repairTime 33 = .ok (.if_icmp .ne 13, 3) := by decide +kernel
theorem dX0_repairTime_36 : decode cX0_repairTime 36 = .ok (.iload_n 3, 1) := by decide +kernel
theorem dX0_repairTime_37 : decode cX0_repairTime 37 = .ok (.aload_n 0, 1) := by decide +kernel
theorem dX0_repairTime_38 : decode cX0_repairTime 38 = .ok (.getfield 58, 3) := by decide +kernel
theorem dX0_repairTime_41 : decode cX0_repairTime 41 = .ok (.iload 4, 2) := by decide +kernel
theorem dX0_repairTime_43 : decode cX0_repairTime 43 = .ok (.iaload, 1) := by decide +kernel
theorem dX0_repairTime_44 : decode cX0_repairTime 44 = .ok (.iadd, 1) := by decide +kernel
theorem dX0_repairTime_45 : decode cX0_repairTime 45 = .ok (.istore_n 3, 1) := by decide +kernel
theorem dX0_repairTime_46 : decode cX0_repairTime 46 = .ok (.iinc 4 1, 3) := by decide +kernel
theorem dX0_repairTime_49 : decode cX0_repairTime 49 = .ok (.goto (-44), 3) := by decide +kernel
theorem dX0_repairTime_52 : decode cX0_repairTime 52 = .ok (.iload_n 3, 1) := by decide +kernel
theorem dX0_repairTime_53 : decode cX0_repairTime 53 = .ok (.ireturn, 1) := by decide +kernel
theorem dX1_init_0 : decode cX1_init 0 = .ok (.aload_n 0, 1) := by decide +kernel
theorem dX1_init_1 : decode cX1_init 1 = .ok (.invokespecial 3, 3) := by decide +kernel
theorem dX1_init_4 : decode cX1_init 4 = .ok (.aload_n 0, 1) := by decide +kernel
theorem dX1_init_5 : decode cX1_init 5 = .ok (.iconst 5, 1) := by decide +kernel
theorem dX1_init_6 : decode cX1_init 6 = .ok (.anewarray 9, 3) := by decide +kernel
theorem dX1_init_9 : decode cX1_init 9 = .ok (.putfield 11, 3) := by decide +kernel
theorem dX1_init_12 : decode cX1_init 12 = .ok (.aload_n 0, 1) := by decide +kernel
theorem dX1_init_13 : decode cX1_init 13 = .ok (.iconst 0, 1) := by decide +kernel
theorem dX1_init_14 : decode cX1_init 14 = .ok (.putfield 17, 3) := by decide +kernel
theorem dX1_init_17 : decode cX1_init 17 = .ok (.iconst 0, 1) := by decide +kernel
theorem dX1_init_18 : decode cX1_init 18 = .ok (.istore_n 1, 1) := by decide +kernel
theorem dX1_init_19 : decode cX1_init 19 = .ok (.iload_n 1, 1) := by decide +kernel
theorem dX1_init_20 : decode cX1_init 20 = .ok (.iconst 5, 1) := by decide +kernel
theorem dX1_init_21 : decode cX1_init 21 = .ok (.if_icmp .ge 22, 3) := by decide +kernel
theorem dX1_init_24 : decode cX1_init 24 = .ok (.aload_n 0, 1) := by decide +kernel
theorem dX1_init_25 : decode cX1_init 25 = .ok (.getfield 11, 3) := by decide +kernel
theorem dX1_init_28 : decode cX1_init 28 = .ok (.iload_n 1, 1) := by decide +kernel
theorem dX1_init_29 : decode cX1_init 29 = .ok (.new 9, 3) := by decide +kernel
theorem dX1_init_32 : decode cX1_init 32 = .ok (.dup, 1) := by decide +kernel
theorem dX1_init_33 : decode cX1_init 33 = .ok (.invokespecial 21, 3) := by decide +kernel
theorem dX1_init_36 : decode cX1_init 36 = .ok (.aastore, 1) := by decide +kernel
theorem dX1_init_37 : decode cX1_init 37 = .ok (.iinc 1 1, 3) := by decide +kernel
theorem dX1_init_40 : decode cX1_init 40 = .ok (.goto (-21), 3) := by decide +kernel
theorem dX1_init_43 : decode cX1_init 43 = .ok (.return_, 1) := by decide +kernel
theorem dX1_remember_0 : decode cX1_remember 0 = .ok (.aload_n 0, 1) := by decide +kernel
theorem dX1_remember_1 : decode cX1_remember 1 = .ok (.getfield 17, 3) := by decide +kernel
theorem dX1_remember_4 : decode cX1_remember 4 = .ok (.iconst 5, 1) := by decide +kernel
theorem dX1_remember_5 : decode cX1_remember 5 = .ok (.if_icmp .ne 7, 3) := by decide +kernel
theorem dX1_remember_8 : decode cX1_remember 8 = .ok (.aload_n 0, 1) := by decide +kernel
theorem dX1_remember_9 : decode cX1_remember 9 = .ok (.invokevirtual 22, 3) := by decide +kernel
theorem dX1_remember_12 : decode cX1_remember 12 = .ok (.aload_n 0, 1) := by decide +kernel
theorem dX1_remember_13 : decode cX1_remember 13 = .ok (.getfield 11, 3) := by decide +kernel
theorem dX1_remember_16 : decode cX1_remember 16 = .ok (.aload_n 0, 1) := by decide +kernel
theorem dX1_remember_17 : decode cX1_remember 17 = .ok (.getfield 17, 3) := by decide +kernel
theorem dX1_remember_20 : decode cX1_remember 20 = .ok (.aaload, 1) := by decide +kernel
theorem dX1_remember_21 : decode cX1_remember 21 = .ok (.aload_n 1, 1) := by decide +kernel
theorem dX1_remember_22 : decode cX1_remember 22 = .ok (.invokevirtual 25, 3) := by decide +kernel
theorem dX1_remember_25 : decode cX1_remember 25 = .ok (.aload_n 0, 1) := by decide +kernel
theorem dX1_remember_26 : decode cX1_remember 26 = .ok (.dup, 1) := by decide +kernel
theorem dX1_remember_27 : decode cX1_remember 27 = .ok (.getfield 17, 3) := by decide +kernel
theorem dX1_remember_30 : decode cX1_remember 30 = .ok (.iconst 1, 1) := by decide +kernel
theorem dX1_remember_31 : decode cX1_remember 31 = .ok (.iadd, 1) := by decide +kernel
theorem dX1_remember_32 : decode cX1_remember 32 = .ok (.putfield 17, 3) := by decide +kernel
theorem dX1_remember_35 : decode cX1_remember 35 = .ok (.return_, 1) := by decide +kernel
theorem dX1_forgetOldest_0 : decode cX1_forgetOldest 0 = .ok (.aload_n 0, 1) := by decide +kernel
theorem dX1_forgetOldest_1 : decode cX1_forgetOldest 1 = .ok (.getfield 11, 3) := by decide +kernel
theorem dX1_forgetOldest_4 : decode cX1_forgetOldest 4 = .ok (.iconst 0, 1) := by decide +kernel
theorem dX1_forgetOldest_5 : decode cX1_forgetOldest 5 = .ok (.aaload, 1) := by decide +kernel
theorem dX1_forgetOldest_6 : decode cX1_forgetOldest 6 = .ok (.astore_n 1, 1) := by decide +kernel
theorem dX1_forgetOldest_7 : decode cX1_forgetOldest 7 = .ok (.iconst 1, 1) := by decide +kernel
theorem dX1_forgetOldest_8 : decode cX1_forgetOldest 8 = .ok (.istore_n 2, 1) := by decide +kernel
theorem dX1_forgetOldest_9 : decode cX1_forgetOldest 9 = .ok (.iload_n 2, 1) := by decide +kernel
theorem dX1_forgetOldest_10 : decode cX1_forgetOldest 10 = .ok (.iconst 5, 1) := by decide +kernel
theorem dX1_forgetOldest_11 : decode cX1_forgetOldest 11 = .ok (.if_icmp .ge 23, 3) := by decide +kernel
theorem dX1_forgetOldest_14 : decode cX1_forgetOldest 14 = .ok (.aload_n 0, 1) := by decide +kernel
theorem dX1_forgetOldest_15 : decode cX1_forgetOldest 15 = .ok (.getfield 11, 3) := by decide +kernel
theorem dX1_forgetOldest_18 : decode cX1_forgetOldest 18 = .ok (.iload_n 2, 1) := by decide +kernel
theorem dX1_forgetOldest_19 : decode cX1_forgetOldest 19 = .ok (.iconst 1, 1) := by decide +kernel
theorem dX1_forgetOldest_20 : decode cX1_forgetOldest 20 = .ok (.isub, 1) := by decide +kernel
theorem dX1_forgetOldest_21 : decode cX1_forgetOldest 21 = .ok (.aload_n 0, 1) := by decide +kernel
theorem dX1_forgetOldest_22 : decode cX1_forgetOldest 22 = .ok (.getfield 11, 3) := by decide +kernel
theorem dX1_forgetOldest_25 : decode cX1_forgetOldest 25 = .ok (.iload_n 2, 1) := by decide +kernel
theorem dX1_forgetOldest_26 : decode cX1_forgetOldest 26 = .ok (.aaload, 1) := by decide +kernel
theorem dX1_forgetOldest_27 : decode cX1_forgetOldest 27 = .ok (.aastore, 1) := by decide +kernel
theorem dX1_forgetOldest_28 : decode cX1_forgetOldest 28 = .ok (.iinc 2 1, 3) := by decide +kernel
theorem dX1_forgetOldest_31 : decode cX1_forgetOldest 31 = .ok (.goto (-22), 3) := by decide +kernel
theorem dX1_forgetOldest_34 : decode cX1_forgetOldest 34 = .ok (.aload_n 0, 1) := by decide +kernel
theorem dX1_forgetOldest_35 : decode cX1_forgetOldest 35 = .ok (.getfield 11, 3) := by decide +kernel
theorem dX1_forgetOldest_38 : decode cX1_forgetOldest 38 = .ok (.iconst 4, 1) := by decide +kernel
theorem dX1_forgetOldest_39 : decode cX1_forgetOldest 39 = .ok (.aload_n 1, 1) := by decide +kernel
theorem dX1_forgetOldest_40 : decode cX1_forgetOldest 40 = .ok (.aastore, 1) := by decide +kernel
theorem dX1_forgetOldest_41 : decode cX1_forgetOldest 41 = .ok (.aload_n 0, 1) := by decide +kernel
theorem dX1_forgetOldest_42 : decode cX1_forgetOldest 42 = .ok (.dup, 1) := by decide +kernel
theorem dX1_forgetOldest_43 : decode cX1_forgetOldest 43 = .ok (.getfield 17, 3) := by decide +kernel
theorem dX1_forgetOldest_46 : decode cX1_forgetOldest 46 = .ok (.iconst 1, 1) := by decide +kernel
theorem dX1_forgetOldest_47 : decode cX1_forgetOldest 47 = .ok (.isub, 1) := by decide +kernel
theorem dX1_forgetOldest_48 : decode cX1_forgetOldest 48 = .ok (.putfield 17, 3) := by decide +kernel
theorem dX1_forgetOldest_51 : decode cX1_forgetOldest 51 = .ok (.return_, 1) := by decide +kernel
theorem dX1_restore_0 : decode cX1_restore 0 = .ok (.aload_n 0, 1) := by decide +kernel
theorem dX1_restore_1 : decode cX1_restore 1 = .ok (.dup, 1) := by decide +kernel
theorem dX1_restore_2 : decode cX1_restore 2 = .ok (.getfield 17, 3) := by decide +kernel
theorem dX1_restore_5 : decode cX1_restore 5 = .ok (.iconst 1, 1) := by decide +kernel
theorem dX1_restore_6 : decode cX1_restore 6 = .ok (.isub, 1) := by decide +kernel
theorem dX1_restore_7 : decode cX1_restore 7 = .ok (.putfield 17, 3) := by decide +kernel
theorem dX1_restore_10 : decode cX1_restore 10 = .ok (.aload_n 1, 1) := by decide +kernel
theorem dX1_restore_11 : decode cX1_restore 11 = .ok (.aload_n 0, 1) := by decide +kernel
theorem dX1_restore_12 : decode cX1_restore 12 = .ok (.getfield 11, 3) := by decide +kernel
theorem dX1_restore_15 : decode cX1_restore 15 = .ok (.aload_n 0, 1) := by decide +kernel
theorem dX1_restore_16 : decode cX1_restore 16 = .ok (.getfield 17, 3) := by decide +kernel
theorem dX1_restore_19 : decode cX1_restore 19 = .ok (.aaload, 1) := by decide +kernel
theorem dX1_restore_20 : decode cX1_restore 20 = .ok (.invokevirtual 25, 3) := by decide +kernel
theorem dX1_restore_23 : decode cX1_restore 23 = .ok (.return_, 1) := by decide +kernel
theorem dX2_init_0 : decode cX2_init 0 = .ok (.aload_n 0, 1) := by decide +kernel
theorem dX2_init_1 : decode cX2_init 1 = .ok (.invokespecial 3, 3) := by decide +kernel
theorem dX2_init_4 : decode cX2_init 4 = .ok (.aload_n 0, 1) := by decide +kernel
theorem dX2_init_5 : decode cX2_init 5 = .ok (.bipush 6, 2) := by decide +kernel
theorem dX2_init_7 : decode cX2_init 7 = .ok (.newarray .boolean, 2) := by decide +kernel
theorem dX2_init_9 : decode cX2_init 9 = .ok (.putfield 9, 3) := by decide +kernel
theorem dX2_init_12 : decode cX2_init 12 = .ok (.aload_n 0, 1) := by decide +kernel
theorem dX2_init_13 : decode cX2_init 13 = .ok (.bipush 36, 2) := by decide +kernel
theorem dX2_init_15 : decode cX2_init 15 = .ok (.newarray .int, 2) := by decide +kernel
theorem dX2_init_17 : decode cX2_init 17 = .ok (.putfield 15, 3) := by decide +kernel
theorem dX2_init_20 : decode cX2_init 20 = .ok (.aload_n 0, 1) := by decide +kernel
theorem dX2_init_21 : decode cX2_init 21 = .ok (.bipush 36, 2) := by decide +kernel
theorem dX2_init_23 : decode cX2_init 23 = .ok (.newarray .int, 2) := by decide +kernel
theorem dX2_init_25 : decode cX2_init 25 = .ok (.putfield 19, 3) := by decide +kernel
theorem dX2_init_28 : decode cX2_init 28 = .ok (.aload_n 0, 1) := by decide +kernel
theorem dX2_init_29 : decode cX2_init 29 = .ok (.bipush 6, 2) := by decide +kernel
theorem dX2_init_31 : decode cX2_init 31 = .ok (.newarray .int, 2) := by decide +kernel
theorem dX2_init_33 : decode cX2_init 33 = .ok (.putfield 22, 3) := by decide +kernel
theorem dX2_init_36 : decode cX2_init 36 = .ok (.aload_n 0, 1) := by decide +kernel
theorem dX2_init_37 : decode cX2_init 37 = .ok (.bipush 6, 2) := by decide +kernel
theorem dX2_init_39 : decode cX2_init 39 = .ok (.newarray .int, 2) := by decide +kernel
theorem dX2_init_41 : decode cX2_init 41 = .ok (.putfield 25, 3) := by decide +kernel
theorem dX2_init_44 : decode cX2_init 44 = .ok (.aload_n 0, 1) := by decide +kernel
theorem dX2_init_45 : decode cX2_init 45 = .ok (.bipush 6, 2) := by decide +kernel
theorem dX2_init_47 : decode cX2_init 47 = .ok (.newarray .int, 2) := by decide +kernel
theorem dX2_init_49 : decode cX2_init 49 = .ok (.putfield 28, 3) := by decide +kernel
theorem dX2_init_52 : decode cX2_init 52 = .ok (.aload_n 0, 1) := by decide +kernel
theorem dX2_init_53 : decode cX2_init 53 = .ok (.iconst 5, 1) := by decide +kernel
theorem dX2_init_54 : decode cX2_init 54 = .ok (.newarray .int, 2) := by decide +kernel
theorem dX2_init_56 : decode cX2_init 56 = .ok (.putfield 31, 3) := by decide +kernel
theorem dX2_init_59 : decode cX2_init 59 = .ok (.aload_n 0, 1) := by decide +kernel
theorem dX2_init_60 : decode cX2_init 60 = .ok (.iconst 0, 1) := by decide +kernel
theorem dX2_init_61 : decode cX2_init 61 = .ok (.putfield 34, 3) := by decide +kernel
theorem dX2_init_64 : decode cX2_init 64 = .ok (.aload_n 0, 1) := by decide +kernel
theorem dX2_init_65 : decode cX2_init 65 = .ok (.iconst 0, 1) := by decide +kernel
theorem dX2_init_66 : decode cX2_init 66 = .ok (.putfield 38, 3) := by decide +kernel
theorem dX2_init_69 : decode cX2_init 69 = .ok (.aload_n 0, 1) := by decide +kernel
theorem dX2_init_70 : decode cX2_init 70 = .ok (.iconst 0, 1) := by decide +kernel
theorem dX2_init_71 : decode cX2_init 71 = .ok (.putfield 41, 3) := by decide +kernel
theorem dX2_init_74 : decode cX2_init 74 = .ok (.aload_n 0, 1) := by decide +kernel
theorem dX2_init_75 : decode cX2_init 75 = .ok (.bipush 6, 2) := by decide +kernel
theorem dX2_init_77 : decode cX2_init 77 = .ok (.newarray .int, 2) := by decide +kernel
theorem dX2_init_79 : decode cX2_init 79 = .ok (.putfield 44, 3) := by decide +kernel
theorem dX2_init_82 : decode cX2_init 82 = .ok (.aload_n 0, 1) := by decide +kernel
theorem dX2_init_83 : decode cX2_init 83 = .ok (.bipush 24, 2) := by decide +kernel
theorem dX2_init_85 : decode cX2_init 85 = .ok (.newarray .int, 2) := by decide +kernel
theorem dX2_init_87 : decode cX2_init 87 = .ok (.putfield 47, 3) := by decide +kernel
theorem dX2_init_90 : decode cX2_init 90 = .ok (.aload_n 0, 1) := by decide +kernel
theorem dX2_init_91 : decode cX2_init 91 = .ok (.bipush 24, 2) := by decide +kernel
theorem dX2_init_93 : decode cX2_init 93 = .ok (.newarray .int, 2) := by decide +kernel
theorem dX2_init_95 : decode cX2_init 95 = .ok (.putfield 50, 3) := by decide +kernel
theorem dX2_init_98 : decode cX2_init 98 = .ok (.aload_n 0, 1) := by decide +kernel
theorem dX2_init_99 : decode cX2_init 99 = .ok (.iconst 3, 1) := by decide +kernel
theorem dX2_init_100 : decode cX2_init 100 = .ok (.newarray .int, 2) := by decide +kernel
theorem dX2_init_102 : decode cX2_init 102 = .ok (.putfield 53, 3) := by decide +kernel
theorem dX2_init_105 : decode cX2_init 105 = .ok (.aload_n 0, 1) := by decide +kernel
theorem dX2_init_106 : decode cX2_init 106 = .ok (.iconst 5, 1) := by decide +kernel
theorem dX2_init_107 : decode cX2_init 107 = .ok (.newarray .int, 2) := by decide +kernel
theorem dX2_init_109 : decode cX2_init 109 = .ok (.putfield 56, 3) := by decide +kernel
theorem dX2_init_112 : decode cX2_init 112 = .ok (.aload_n 0, 1) := by decide +kernel
theorem dX2_init_113 : decode cX2_init 113 = .ok (.iconst 5, 1) := by decide +kernel
theorem dX2_init_114 : decode cX2_init 114 = .ok (.newarray .int, 2) := by decide +kernel
theorem dX2_init_116 : decode cX2_init 116 = .ok (.putfield 59, 3) := by decide +kernel
theorem dX2_init_119 : decode cX2_init 119 = .ok (.return_, 1) := by decide +kernel
theorem dX2_make_0 : decode cX2_make 0 = .ok (.aload_n 0, 1) := by decide +kernel
theorem dX2_make_1 : decode cX2_make 1 = .ok (.aload_n 1, 1) := by decide +kernel
theorem dX2_make_2 : decode cX2_make 2 = .ok (.invokevirtual 62, 3) := by decide +kernel
theorem dX2_make_5 : decode cX2_make 5 = .ok (.iconst 0, 1) := by decide +kernel
theorem dX2_make_6 : decode cX2_make 6 = .ok (.istore_n 2, 1) := by decide +kernel
theorem dX2_make_7 : decode cX2_make 7 = .ok (.iload_n 2, 1) := by decide +kernel
theorem dX2_make_8 : decode cX2_make 8 = .ok (.aload_n 1, 1) := by decide +kernel
theorem dX2_make_9 : decode cX2_make 9 = .ok (.getfield 66, 3) := by decide +kernel
theorem dX2_make_12 : decode cX2_make 12 = .ok (.if_icmp .ge 20, 3) := by decide +kernel
theorem dX2_make_15 : decode cX2_make 15 = .ok (.aload_n 0, 1) := by decide +kernel
theorem dX2_make_16 : decode cX2_make 16 = .ok (.aload_n 1, 1) := by decide +kernel
theorem dX2_make_17 : decode cX2_make 17 = .ok (.aload_n 0, 1) := by decide +kernel
theorem dX2_make_18 : decode cX2_make 18 = .ok (.getfield 44, 3) := by decide +kernel
theorem dX2_make_21 : decode cX2_make 21 = .ok (.iload_n 2, 1) := by decide +kernel
theorem dX2_make_22 : decode cX2_make 22 = .ok (.iaload, 1) := by decide +kernel
theorem dX2_make_23 : decode cX2_make 23 = .ok (.invokevirtual 71, 3) := by decide +kernel
theorem dX2_make_26 : decode cX2_make 26 = .ok (.iinc 2 1, 3) := by decide +kernel
theorem dX2_make_29 : decode cX2_make 29 = .ok (.goto (-22), 3) := by decide +kernel
theorem dX2_make_32 : decode cX2_make 32 = .ok (.return_, 1) := by decide +kernel
theorem dX2_lossWith_0 : decode cX2_lossWith 0 = .ok (.aload_n 0, 1) := by decide +kernel
theorem dX2_lossWith_1 : decode cX2_lossWith 1 = .ok (.aload_n 1, 1) := by decide +kernel
theorem dX2_lossWith_2 : decode cX2_lossWith 2 = .ok (.invokevirtual 75, 3) := by decide +kernel
theorem dX2_lossWith_5 : decode cX2_lossWith 5 = .ok (.aload_n 0, 1) := by decide +kernel
theorem dX2_lossWith_6 : decode cX2_lossWith 6 = .ok (.getfield 41, 3) := by decide +kernel
theorem dX2_lossWith_9 : decode cX2_lossWith 9 = .ok (.ireturn, 1) := by decide +kernel
theorem dX2_isSmooth_0 : decode cX2_isSmooth 0 = .ok (.aload_n 0, 1) := by decide +kernel
theorem dX2_isSmooth_1 : decode cX2_isSmooth 1 = .ok (.aload_n 1, 1) := by decide +kernel
theorem dX2_isSmooth_2 : decode cX2_isSmooth 2 = .ok (.invokevirtual 62, 3) := by decide +kernel
theorem dX2_isSmooth_5 : decode cX2_isSmooth 5 = .ok (.iconst 0, 1) := by decide +kernel
theorem dX2_isSmooth_6 : decode cX2_isSmooth 6 = .ok (.istore_n 2, 1) := by decide +kernel
theorem dX2_isSmooth_7 : decode cX2_isSmooth 7 = .ok (.iload_n 2, 1) := by decide +kernel
theorem dX2_isSmooth_8 : decode cX2_isSmooth 8 = .ok (.aload_n 1, 1) := by decide +kernel
theorem dX2_isSmooth_9 : decode cX2_isSmooth 9 = .ok (.getfield 66, 3) := by decide +kernel
theorem dX2_isSmooth_12 : decode cX2_isSmooth 12 = .ok (.if_icmp .ge 27, 3) := by decide +kernel
theorem dX2_isSmooth_15 : decode cX2_isSmooth 15 = .ok (.aload_n 0, 1) := by decide +kernel
theorem dX2_isSmooth_16 : decode cX2_isSmooth 16 = .ok (.getfield 41, 3) := by decide +kernel
theorem dX2_isSmooth_19 : decode cX2_isSmooth 19 = .ok (.ifCond .ne 20, 3) := by decide +kernel
theorem dX2_isSmooth_22 : decode cX2_isSmooth 22 = .ok (.aload_n 0, 1) := by decide +kernel
theorem dX2_isSmooth_23 : decode cX2_isSmooth 23 = .ok (.aload_n 1, 1) := by decide +kernel
theorem dX2_isSmooth_24 : decode cX2_isSmooth 24 = .ok (.aload_n 0, 1) := by decide +kernel
theorem dX2_isSmooth_25 : decode cX2_isSmooth 25 = .ok (.getfield 44, 3) := by decide +kernel
theorem dX2_isSmooth_28 : decode cX2_isSmooth 28 = .ok (.iload_n 2, 1) := by decide +kernel
theorem dX2_isSmooth_29 : decode cX2_isSmooth 29 = .ok (.iaload, 1) := by decide +kernel
theorem dX2_isSmooth_30 : decode cX2_isSmooth 30 = .ok (.invokevirtual 71, 3) := by decide +kernel
theorem dX2_isSmooth_33 : decode cX2_isSmooth 33 = .ok (.iinc 2 1, 3) := by decide +kernel
theorem dX2_isSmooth_36 : decode cX2_isSmooth 36 = .ok (.goto (-29), 3) := by decide +kernel
theorem dX2_isSmooth_39 : decode cX2_isSmooth 39 = .ok (.aload_n 0, 1) := by decide +kernel
theorem dX2_isSmooth_40 : decode cX2_isSmooth 40 = .ok (.getfield 41, 3) := by decide +kernel
theorem dX2_isSmooth_43 : decode cX2_isSmooth 43 = .ok (.ifCond .ne 7, 3) := by decide +kernel
theorem dX2_isSmooth_46 : decode cX2_isSmooth 46 = .ok (.iconst 1, 1) := by decide +kernel
theorem dX2_isSmooth_47 : decode cX2_isSmooth 47 = .ok (.goto 4, 3) := by decide +kernel
theorem dX2_isSmooth_50 : decode cX2_isSmooth 50 = .ok (.iconst 0, 1) := by decide +kernel
theorem dX2_isSmooth_51 : decode cX2_isSmooth 51 = .ok (.ireturn, 1) := by decide +kernel
theorem dX2_open_0 : decode cX2_open 0 = .ok (.aload_n 0, 1) := by decide +kernel
theorem dX2_open_1 : decode cX2_open 1 = .ok (.iconst 0, 1) := by decide +kernel
theorem dX2_open_2 : decode cX2_open 2 = .ok (.putfield 34, 3) := by decide +kernel
theorem dX2_open_5 : decode cX2_open 5 = .ok (.aload_n 0, 1) := by decide +kernel
theorem dX2_open_6 : decode cX2_open 6 = .ok (.iconst 0, 1) := by decide +kernel
theorem dX2_open_7 : decode cX2_open 7 = .ok (.putfield 38, 3) := by decide +kernel
theorem dX2_open_10 : decode cX2_open 10 = .ok (.aload_n 0, 1) := by decide +kernel
theorem dX2_open_11 : decode cX2_open 11 = .ok (.iconst 0, 1) := by decide +kernel
theorem dX2_open_12 : decode cX2_open 12 = .ok (.putfield 41, 3) := by decide +kernel
theorem dX2_open_15 : decode cX2_open 15 = .ok (.iconst 0, 1) := by decide +kernel
theorem dX2_open_16 : decode cX2_open 16 = .ok (.istore_n 2, 1) := by decide +kernel
theorem dX2_open_17 : decode cX2_open 17 = .ok (.iload_n 2, 1) := by decide +kernel
theorem dX2_open_18 : decode cX2_open 18 = .ok (.iconst 3, 1) := by decide +kernel
theorem dX2_open_19 : decode cX2_open 19 = .ok (.if_icmp .ge 16, 3) := by decide +kernel
theorem dX2_open_22 : decode cX2_open 22 = .ok (.aload_n 0, 1) := by decide +kernel
theorem dX2_open_23 : decode cX2_open 23 = .ok (.getfield 53, 3) := by decide +kernel
theorem dX2_open_26 : decode cX2_open 26 = .ok (.iload_n 2, 1) := by decide +kernel
theorem dX2_open_27 : decode cX2_open 27 = .ok (.iconst 0, 1) := by decide +kernel
theorem dX2_open_28 : decode cX2_open 28 = .ok (.iastore, 1) := by decide +kernel
theorem dX2_open_29 : decode cX2_open 29 = .ok (.iinc 2 1, 3) := by decide +kernel
theorem dX2_open_32 : decode cX2_open 32 = .ok (.goto (-15), 3) := by decide +kernel
theorem dX2_open_35 : decode cX2_open 35 = .ok (.iconst 0, 1) := by decide +kernel
theorem dX2_open_36 : decode cX2_open 36 = .ok (.istore_n 2, 1) := by decide +kernel
theorem dX2_open_37 : decode cX2_open 37 = .ok (.iload_n 2, 1) := by decide +kernel
theorem dX2_open_38 : decode cX2_open 38 = .ok (.iconst 5, 1) := by decide +kernel
theorem dX2_open_39 : decode cX2_open 39 = .ok (.if_icmp .ge 30, 3) := by decide +kernel
theorem dX2_open_42 : decode cX2_open 42 = .ok (.aload_n 0, 1) := by decide +kernel
theorem dX2_open_43 : decode cX2_open 43 = .ok (.getfield 56, 3) := by decide +kernel
theorem dX2_open_46 : decode cX2_open 46 = .ok (.iload_n 2, 1) := by decide +kernel
theorem dX2_open_47 : decode cX2_open 47 = .ok (.iconst 0, 1) := by decide +kernel
theorem dX2_open_48 : decode cX2_open 48 = .ok (.iastore, 1) := by decide +kernel
theorem dX2_open_49 : decode cX2_open 49 = .ok (.aload_n 0, 1) := by decide +kernel
theorem dX2_open_50 : decode cX2_open 50 = .ok (.getfield 59, 3) := by decide +kernel
theorem dX2_open_53 : decode cX2_open 53 = .ok (.iload_n 2, 1) := by decide +kernel
theorem dX2_open_54 : decode cX2_open 54 = .ok (.iconst (-1), 1) := by decide +kernel
theorem dX2_open_55 : decode cX2_open 55 = .ok (.iastore, 1) := by decide +kernel
theorem dX2_open_56 : decode cX2_open 56 = .ok (.aload_n 0, 1) := by decide +kernel
theorem dX2_open_57 : decode cX2_open 57 = .ok (.getfield 31, 3) := by decide +kernel
theorem dX2_open_60 : decode cX2_open 60 = .ok (.iload_n 2, 1) := by decide +kernel
theorem dX2_open_61 : decode cX2_open 61 = .ok (.iconst 0, 1) := by decide +kernel
theorem dX2_open_62 : decode cX2_open 62 = .ok (.iastore, 1) := by decide +kernel
theorem dX2_open_63 : decode cX2_open 63 = .ok (.iinc 2 1, 3) := by decide +kernel
theorem dX2_open_66 : decode cX2_open 66 = .ok (.goto (-29), 3) := by decide +kernel
theorem dX2_open_69 : decode cX2_open 69 = .ok (.iconst 0, 1) := by decide +kernel
theorem dX2_open_70 : decode cX2_open 70 = .ok (.istore_n 2, 1) := by decide +kernel
theorem dX2_open_71 : decode cX2_open 71 = .ok (.iload_n 2, 1) := by decide +kernel
theorem dX2_open_72 : decode cX2_open 72 = .ok (.iconst 4, 1) := by decide +kernel
theorem dX2_open_73 : decode cX2_open 73 = .ok (.if_icmp .ge 20, 3) := by decide +kernel
theorem dX2_open_76 : decode cX2_open 76 = .ok (.aload_n 0, 1) := by decide +kernel
theorem dX2_open_77 : decode cX2_open 77 = .ok (.iload_n 2, 1) := by decide +kernel
theorem dX2_open_78 : decode cX2_open 78 = .ok (.aload_n 1, 1) := by decide +kernel
theorem dX2_open_79 : decode cX2_open 79 = .ok (.getfield 78, 3) := by decide +kernel
theorem dX2_open_82 : decode cX2_open 82 = .ok (.iload_n 2, 1) := by decide +kernel
theorem dX2_open_83 : decode cX2_open 83 = .ok (.iaload, 1) := by decide +kernel
theorem dX2_open_84 : decode cX2_open 84 = .ok (.invokevirtual 81, 3) := by decide +kernel
theorem dX2_open_87 : decode cX2_open 87 = .ok (.iinc 2 1, 3) := by decide +kernel
theorem dX2_open_90 : decode cX2_open 90 = .ok (.goto (-19), 3) := by decide +kernel
theorem dX2_open_93 : decode cX2_open 93 = .ok (.aload_n 0, 1) := by decide +kernel
theorem dX2_open_94 : decode cX2_open 94 = .ok (.aload_n 1, 1) := by decide +kernel
theorem dX2_open_95 : decode cX2_open 95 = .ok (.invokevirtual 85, 3) := by decide +kernel
theorem dX2_open_98 : decode cX2_open 98 = .ok (.return_, 1) := by decide +kernel
theorem dX2_bringHome_0 : decode cX2_bringHome 0 = .ok (.iconst 0, 1) := by decide +kernel
theorem dX2_bringHome_1 : decode cX2_bringHome 1 = .ok (.istore_n 3, 1) := by decide +kernel
theorem dX2_bringHome_2 : decode cX2_bringHome 2 = .ok (.iload_n 3, 1) := by decide +kernel
theorem dX2_bringHome_3 : decode cX2_bringHome 3 = .ok (.bipush 6, 2) := by decide +kernel
theorem dX2_bringHome_5 : decode cX2_bringHome 5 = .ok (.if_icmp .ge 32, 3) := by decide +kernel
theorem dX2_bringHome_8 : decode cX2_bringHome 8 = .ok (.iload_n 1, 1) := by decide +kernel
theorem dX2_bringHome_9 : decode cX2_bringHome 9 = .ok (.iload_n 3, 1) := by decide +kernel
theorem dX2_bringHome_10 : decode cX2_bringHome 10 = .ok (.invokestatic 88, 3) := by decide +kernel
theorem dX2_bringHome_13 : decode cX2_bringHome 13 = .ok (.istore 4, 2) := by decide +kernel
theorem dX2_bringHome_15 : decode cX2_bringHome 15 = .ok (.aload_n 0, 1) := by decide +kernel
theorem dX2_bringHome_16 : decode cX2_bringHome 16 = .ok (.getfield 47, 3) := by decide +kernel
theorem dX2_bringHome_19 : decode cX2_bringHome 19 = .ok (.iload 4, 2) := by decide +kernel
theorem dX2_bringHome_21 : decode cX2_bringHome 21 = .ok (.iload_n 2, 1) := by decide +kernel
theorem dX2_bringHome_22 : decode cX2_bringHome 22 = .ok (.iastore, 1) := by decide +kernel
theorem dX2_bringHome_23 : decode cX2_bringHome 23 = .ok (.aload_n 0, 1) := by decide +kernel
theorem dX2_bringHome_24 : decode cX2_bringHome 24 = .ok (.getfield 50, 3) := by decide +kernel
theorem dX2_bringHome_27 : decode cX2_bringHome 27 = .ok (.iload 4, 2) := by decide +kernel
theorem dX2_bringHome_29 : decode cX2_bringHome 29 = .ok (.iconst 0, 1) := by decide +kernel
theorem dX2_bringHome_30 : decode cX2_bringHome 30 = .ok (.iastore, 1) := by decide +kernel
theorem dX2_bringHome_31 : decode cX2_bringHome 31 = .ok (.iinc 3 1, 3) := by decide +kernel
theorem dX2_bringHome_34 : decode cX2_bringHome 34 = .ok (.goto (-32), 3) := by decide +kernel
theorem dX2_bringHome_37 : decode cX2_bringHome 37 = .ok (.return_, 1) := by decide +kernel
theorem dX2_sortShows_0 : decode cX2_sortShows 0 = .ok (.iconst 0, 1) := by decide +kernel
theorem dX2_sortShows_1 : decode cX2_sortShows 1 = .ok (.istore_n 2, 1) := by decide +kernel
theorem dX2_sortShows_2 : decode cX2_sortShows 2 = .ok (.iload_n 2, 1) := by decide +kernel
theorem dX2_sortShows_3 : decode cX2_sortShows 3 = .ok (.aload_n 1, 1) := by decide +kernel
theorem dX2_sortShows_4 : decode cX2_sortShows 4 = .ok (.getfield 66, 3) := by decide +kernel
theorem dX2_sortShows_7 : decode cX2_sortShows 7 = .ok (.if_icmp .ge 64, 3) := by decide +kernel
theorem dX2_sortShows_10 : decode cX2_sortShows 10 = .ok (.iload_n 2, 1) := by decide +kernel
theorem dX2_sortShows_11 : decode cX2_sortShows 11 = .ok (.istore_n 3, 1) := by decide +kernel
theorem dX2_sortShows_12 : decode cX2_sortShows 12 = .ok (.iload_n 3, 1) := by decide +kernel
theorem dX2_sortShows_13 : decode cX2_sortShows 13 = .ok (.ifCond .le 45, 3) := by decide +kernel
theorem dX2_sortShows_16 : decode cX2_sortShows 16 = .ok (.aload_n 1, 1) := by decide +kernel
theorem dX2_sortShows_17 : decode cX2_sortShows 17 = .ok (.getfield 92, 3) := by decide +kernel
theorem dX2_sortShows_20 : decode cX2_sortShows 20 = .ok (.aload_n 0, 1) := by decide +kernel
theorem dX2_sortShows_21 : decode cX2_sortShows 21 = .ok (.getfield 44, 3) := by decide +kernel
theorem dX2_sortShows_24 : decode cX2_sortShows 24 = .ok (.iload_n 3, 1) := by decide +kernel
theorem dX2_sortShows_25 : decode cX2_sortShows 25 = .ok (.iconst 1, 1) := by decide +kernel
theorem dX2_sortShows_26 : decode cX2_sortShows 26 = .ok (.isub, 1) := by decide +kernel
theorem dX2_sortShows_27 : decode cX2_sortShows 27 = .ok (.iaload, 1) := by decide +kernel
theorem dX2_sortShows_28 : decode cX2_sortShows 28 = .ok (.iaload, 1) := by decide +kernel
theorem dX2_sortShows_29 : decode cX2_sortShows 29 = .ok (.aload_n 1, 1) := by decide +kernel
theorem dX2_sortShows_30 : decode cX2_sortShows 30 = .ok (.getfield 92, 3) := by decide +kernel
theorem dX2_sortShows_33 : decode cX2_sortShows 33 = .ok (.iload_n 2, 1) := by decide +kernel
theorem dX2_sortShows_34 : decode cX2_sortShows 34 = .ok (.iaload, 1) := by decide +kernel
theorem dX2_sortShows_35 : decode cX2_sortShows 35 = .ok (.if_icmp .le 23, 3) := by decide +kernel
theorem dX2_sortShows_38 : decode cX2_sortShows 38 = .ok (.aload_n 0, 1) := by decide +kernel
theorem dX2_sortShows_39 : decode cX2_sortShows 39 = .ok (.getfield 44, 3) := by decide +kernel
theorem dX2_sortShows_42 : decode cX2_sortShows 42 = .ok (.iload_n 3, 1) := by decide +kernel
theorem dX2_sortShows_43 : decode cX2_sortShows 43 = .ok (.aload_n 0, 1) := by decide +kernel
theorem dX2_sortShows_44 : decode cX2_sortShows 44 = .ok (.getfield 44, 3) := by decide +kernel
theorem dX2_sortShows_47 : decode cX2_sortShows 47 = .ok (.iload_n 3, 1) := by decide +kernel
theorem dX2_sortShows_48 : decode cX2_sortShows 48 = .ok (.iconst 1, 1) := by decide +kernel
theorem dX2_sortShows_49 : decode cX2_sortShows 49 = .ok (.isub, 1) := by decide +kernel
theorem dX2_sortShows_50 : decode cX2_sortShows 50 = .ok (.iaload, 1) := by decide +kernel
theorem dX2_sortShows_51 : decode cX2_sortShows 51 = .ok (.iastore, 1) := by decide +kernel
theorem dX2_sortShows_52 : decode cX2_sortShows 52 = .ok (.iinc 3 (-1), 3) := by decide +kernel
theorem dX2_sortShows_55 : decode cX2_sortShows 55 = .ok (.goto (-43), 3) := by decide +kernel
theorem dX2_sortShows_58 : decode cX2_sortShows 58 = .ok (.aload_n 0, 1) := by decide +kernel
theorem dX2_sortShows_59 : decode cX2_sortShows 59 = .ok (.getfield 44, 3) := by decide +kernel
theorem dX2_sortShows_62 : decode cX2_sortShows 62 = .ok (.iload_n 3, 1) := by decide +kernel
theorem dX2_sortShows_63 : decode cX2_sortShows 63 = .ok (.iload_n 2, 1) := by decide +kernel
theorem dX2_sortShows_64 : decode cX2_sortShows 64 = .ok (.iastore, 1) := by decide +kernel
theorem dX2_sortShows_65 : decode cX2_sortShows 65 = .ok (.iinc 2 1, 3) := by decide +kernel
theorem dX2_sortShows_68 : decode cX2_sortShows 68 = .ok (.goto (-66), 3) := by decide +kernel
theorem dX2_sortShows_71 : decode cX2_sortShows 71 = .ok (.return_, 1) := by decide +kernel
theorem dX2_planShow_0 : decode cX2_planShow 0 = .ok (.aload_n 1, 1) := by decide +kernel
theorem dX2_planShow_1 : decode cX2_planShow 1 = .ok (.aload_n 1, 1) := by decide +kernel
theorem dX2_planShow_2 : decode cX2_planShow 2 = .ok (.getfield 95, 3) := by decide +kernel
theorem dX2_planShow_5 : decode cX2_planShow 5 = .ok (.iload_n 2, 1) := by decide +kernel
theorem dX2_planShow_6 : decode cX2_planShow 6 = .ok (.iaload, 1) := by decide +kernel
theorem dX2_planShow_7 : decode cX2_planShow 7 = .ok (.invokevirtual 98, 3) := by decide +kernel
theorem dX2_planShow_10 : decode cX2_planShow 10 = .ok (.istore_n 3, 1) := by decide +kernel
theorem dX2_planShow_11 : decode cX2_planShow 11 = .ok (.aload_n 0, 1) := by decide +kernel
theorem dX2_planShow_12 : decode cX2_planShow 12 = .ok (.getfield 9, 3) := by decide +kernel
theorem dX2_planShow_15 : decode cX2_planShow 15 = .ok (.iload_n 2, 1) := by decide +kernel
theorem dX2_planShow_16 : decode cX2_planShow 16 = .ok (.iload_n 3, 1) := by decide +kernel
theorem dX2_planShow_17 : decode cX2_planShow 17 = .ok (.iconst (-1), 1) := by decide +kernel
theorem dX2_planShow_18 : decode cX2_planShow 18 = .ok (.if_icmp .eq 7, 3) := by decide +kernel
theorem dX2_planShow_21 : decode cX2_planShow 21 = .ok (.iconst 1, 1) := by decide +kernel
theorem dX2_planShow_22 : decode cX2_planShow 22 = .ok (.goto 4, 3) := by decide +kernel
theorem dX2_planShow_25 : decode cX2_planShow 25 = .ok (.iconst 0, 1) := by decide +kernel
theorem dX2_planShow_26 : decode cX2_planShow 26 = .ok (.bastore, 1) := by decide +kernel
theorem dX2_planShow_27 : decode cX2_planShow 27 = .ok (.aload_n 0, 1) := by decide +kernel
theorem dX2_planShow_28 : decode cX2_planShow 28 = .ok (.getfield 25, 3) := by decide +kernel
theorem dX2_planShow_31 : decode cX2_planShow 31 = .ok (.iload_n 2, 1) := by decide +kernel
theorem dX2_planShow_32 : decode cX2_planShow 32 = .ok (.iconst 0, 1) := by decide +kernel
theorem dX2_planShow_33 : decode cX2_planShow 33 = .ok (.iastore, 1) := by decide +kernel
theorem dX2_planShow_34 : decode cX2_planShow 34 = .ok (.aload_n 0, 1) := by decide +kernel
theorem dX2_planShow_35 : decode cX2_planShow 35 = .ok (.getfield 28, 3) := by decide +kernel
theorem dX2_planShow_38 : decode cX2_planShow 38 = .ok (.iload_n 2, 1) := by decide +kernel
theorem dX2_planShow_39 : decode cX2_planShow 39 = .ok (.iconst 0, 1) := by decide +kernel
theorem dX2_planShow_40 : decode cX2_planShow 40 = .ok (.iastore, 1) := by decide +kernel
theorem dX2_planShow_41 : decode cX2_planShow 41 = .ok (.iload_n 3, 1) := by decide +kernel
theorem dX2_planShow_42 : decode cX2_planShow 42 = .ok (.iconst (-1), 1) := by decide +kernel
theorem dX2_planShow_43 : decode cX2_planShow 43 = .ok (.if_icmp .ne 16, 3) := by decide +kernel
theorem dX2_planShow_46 : decode cX2_planShow 46 = .ok (.aload_n 0, 1) := by decide +kernel
theorem dX2_planShow_47 : decode cX2_planShow 47 = .ok (.dup, 1) := by decide +kernel
theorem dX2_planShow_48 : decode cX2_planShow 48 = .ok (.getfield 41, 3) := by decide +kernel
theorem dX2_planShow_51 : decode cX2_planShow 51 = .ok (.sipush 1000, 3) := by decide +kernel
theorem dX2_planShow_54 : decode cX2_planShow 54 = .ok (.iadd, 1) := by decide +kernel
theorem dX2_planShow_55 : decode cX2_planShow 55 = .ok (.putfield 41, 3) := by decide +kernel
theorem dX2_planShow_58 : decode cX2_planShow 58 = .ok (.return_, 1) := by decide +kernel
theorem dX2_planShow_59 : decode cX2_planShow 59 = .ok (.aload_n 1, 1) := by decide +kernel
theorem dX2_planShow_60 : decode cX2_planShow 60 = .ok (.getfield 92, 3) := by decide +kernel
theorem dX2_planShow_63 : decode cX2_planShow 63 = .ok (.iload_n 2, 1) := by decide +kernel
theorem dX2_planShow_64 : decode cX2_planShow 64 = .ok (.iaload, 1) := by decide +kernel
theorem dX2_planShow_65 : decode cX2_planShow 65 = .ok (.istore 4, 2) := by decide +kernel
theorem dX2_planShow_67 : decode cX2_planShow 67 = .ok (.aload_n 1, 1) := by decide +kernel
theorem dX2_planShow_68 : decode cX2_planShow 68 = .ok (.getfield 102, 3) := by decide +kernel
theorem dX2_planShow_71 : decode cX2_planShow 71 = .ok (.aload_n 1, 1) := by decide +kernel
theorem dX2_planShow_72 : decode cX2_planShow 72 = .ok (.getfield 105, 3) := by decide +kernel
theorem dX2_planShow_75 : decode cX2_planShow 75 = .ok (.iload_n 2, 1) := by decide +kernel
theorem dX2_planShow_76 : decode cX2_planShow 76 = .ok (.iaload, 1) := by decide +kernel
theorem dX2_planShow_77 : decode cX2_planShow 77 = .ok (.iaload, 1) := by decide +kernel
theorem dX2_planShow_78 : decode cX2_planShow 78 = .ok (.istore 5, 2) := by decide +kernel
theorem dX2_planShow_80 : decode cX2_planShow 80 = .ok (.iconst 0, 1) := by decide +kernel
theorem dX2_planShow_81 : decode cX2_planShow 81 = .ok (.istore 6, 2) := by decide +kernel
theorem dX2_planShow_83 : decode cX2_planShow 83 = .ok (.iload 6, 2) := by decide +kernel
theorem dX2_planShow_85 : decode cX2_planShow 85 = .ok (.iload 5, 2) := by decide +kernel
theorem dX2_planShow_87 : decode cX2_planShow 87 = .ok (.if_icmp .ge 69, 3) := by decide +kernel
theorem dX2_planShow_90 : decode cX2_planShow 90 = .ok (.aload_n 0, 1) := by decide +kernel
theorem dX2_planShow_91 : decode cX2_planShow 91 = .ok (.aload_n 1, 1) := by decide +kernel
theorem dX2_planShow_92 : decode cX2_planShow 92 = .ok (.iload_n 2, 1) := by decide +kernel
theorem dX2_planShow_93 : decode cX2_planShow 93 = .ok (.iload 6, 2) := by decide +kernel
theorem dX2_planShow_95 : decode cX2_planShow 95 = .ok (.iload 4, 2) := by decide +kernel
theorem dX2_planShow_97 : decode cX2_planShow 97 = .ok (.iload_n 3, 1) := by decide +kernel
theorem dX2_planShow_98 : decode cX2_planShow 98 = .ok (.invokevirtual 108, 3) := by decide +kernel
theorem dX2_planShow_101 : decode cX2_planShow 101 = .ok (.istore 7, 2) := by decide +kernel
theorem dX2_planShow_103 : decode cX2_planShow 103 = .ok (.aload_n 0, 1) := by decide +kernel
theorem dX2_planShow_104 : decode cX2_planShow 104 = .ok (.getfield 15, 3) := by decide +kernel
theorem dX2_planShow_107 : decode cX2_planShow 107 = .ok (.iload_n 2, 1) := by decide +kernel
theorem dX2_planShow_108 : decode cX2_planShow 108 = .ok (.iload 6, 2) := by decide +kernel
theorem dX2_planShow_110 : decode cX2_planShow 110 = .ok (.invokestatic 88, 3) := by decide +kernel
theorem dX2_planShow_113 : decode cX2_planShow 113 = .ok (.iaload, 1) := by decide +kernel
theorem dX2_planShow_114 : decode cX2_planShow 114 = .ok (.iload 4, 2) := by decide +kernel
theorem dX2_planShow_116 : decode cX2_planShow 116 = .ok (.isub, 1) := by decide +kernel
theorem dX2_planShow_117 : decode cX2_planShow 117 = .ok (.istore 8, 2) := by decide +kernel
theorem dX2_planShow_119 : decode cX2_planShow 119 = .ok (.iload 6, 2) := by decide +kernel
theorem dX2_planShow_121 : decode cX2_planShow 121 = .ok (.ifCond .ne 14, 3) := by decide +kernel
theorem dX2_planShow_124 : decode cX2_planShow 124 = .ok (.aload_n 0, 1) := by decide +kernel
theorem dX2_planShow_125 : decode cX2_planShow 125 = .ok (.getfield 25, 3) := by decide +kernel
theorem dX2_planShow_128 : decode cX2_planShow 128 = .ok (.iload_n 2, 1) := by decide +kernel
theorem dX2_planShow_129 : decode cX2_planShow 129 = .ok (.iload 8, 2) := by decide +kernel
theorem dX2_planShow_131 : decode cX2_planShow 131 = .ok (.iastore, 1) := by decide +kernel
theorem dX2_planShow_132 : decode cX2_planShow 132 = .ok (.goto 14, 3) := by decide +kernel
theorem dX2_planShow_135 : decode cX2_planShow 135 = .ok (.aload_n 0, 1) := by decide +kernel
theorem dX2_planShow_136 : decode cX2_planShow 136 = .ok (.getfield 28, 3) := by decide +kernel
theorem dX2_planShow_139 : decode cX2_planShow 139 = .ok (.iload_n 2, 1) := by decide +kernel
theorem dX2_planShow_140 : decode cX2_planShow 140 = .ok (.dup2, 1) := by decide +kernel
theorem dX2_planShow_141 : decode cX2_planShow 141 = .ok (.iaload, 1) := by decide +kernel
theorem dX2_planShow_142 : decode cX2_planShow 142 = .ok (.iload 8, 2) := by decide +kernel
theorem dX2_planShow_144 : decode cX2_planShow 144 = .ok (.iadd, 1) := by decide +kernel
theorem dX2_planShow_145 : decode cX2_planShow 145 = .ok (.iastore, 1) := by decide +kernel
theorem dX2_planShow_146 : decode cX2_planShow 146 = .ok (.iload 7, 2) := by decide +kernel
theorem dX2_planShow_148 : decode cX2_planShow 148 = .ok (.istore 4, 2) := by decide +kernel
theorem dX2_planShow_150 : decode cX2_planShow 150 = .ok (.iinc 6 1, 3) := by decide +kernel
theorem dX2_planShow_153 : decode cX2_planShow 153 = .ok (.goto (-70), 3) := by decide +kernel
theorem dX2_planShow_156 : decode cX2_planShow 156 = .ok (.aload_n 0, 1) := by decide +kernel
theorem dX2_planShow_157 : decode cX2_planShow 157 = .ok (.getfield 22, 3) := by decide +kernel
theorem dX2_planShow_160 : decode cX2_planShow 160 = .ok (.iload_n 2, 1) := by decide +kernel
theorem dX2_planShow_161 : decode cX2_planShow 161 = .ok (.iload 4, 2) := by decide +kernel
theorem dX2_planShow_163 : decode cX2_planShow 163 = .ok (.iastore, 1) := by decide +kernel
theorem dX2_planShow_164 : decode cX2_planShow 164 = .ok (.aload_n 0, 1) := by decide +kernel
theorem dX2_planShow_165 : decode cX2_planShow 165 = .ok (.dup, 1) := by decide +kernel
theorem dX2_planShow_166 : decode cX2_planShow 166 = .ok (.getfield 41, 3) := by decide +kernel
theorem dX2_planShow_169 : decode cX2_planShow 169 = .ok (.aload_n 0, 1) := by decide +kernel
theorem dX2_planShow_170 : decode cX2_planShow 170 = .ok (.getfield 25, 3) := by decide +kernel
theorem dX2_planShow_173 : decode cX2_planShow 173 = .ok (.iload_n 2, 1) := by decide +kernel
theorem dX2_planShow_174 : decode cX2_planShow 174 = .ok (.iaload, 1) := by decide +kernel
theorem dX2_planShow_175 : decode cX2_planShow 175 = .ok (.aload_n 0, 1) := by decide +kernel
theorem dX2_planShow_176 : decode cX2_planShow 176 = .ok (.getfield 28, 3) := by decide +kernel
theorem dX2_planShow_179 : decode cX2_planShow 179 = .ok (.iload_n 2, 1) := by decide +kernel
theorem dX2_planShow_180 : decode cX2_planShow 180 = .ok (.iaload, 1) := by decide +kernel
theorem dX2_planShow_181 : decode cX2_planShow 181 = .ok (.iadd, 1) := by decide +kernel
theorem dX2_planShow_182 : decode cX2_planShow 182 = .ok (.iadd, 1) := by decide +kernel
theorem dX2_planShow_183 : decode cX2_planShow 183 = .ok (.putfield 41, 3) := by decide +kernel
theorem dX2_planShow_186 : decode cX2_planShow 186 = .ok (.return_, 1) := by decide +kernel
theorem dX2_planReel_0 : decode cX2_planReel 0 = .ok (.aload_n 1, 1) := by decide +kernel
theorem dX2_planReel_1 : decode cX2_planReel 1 = .ok (.getfield 105, 3) := by decide +kernel
theorem dX2_planReel_4 : decode cX2_planReel 4 = .ok (.iload_n 2, 1) := by decide +kernel
theorem dX2_planReel_5 : decode cX2_planReel 5 = .ok (.iaload, 1) := by decide +kernel
theorem dX2_planReel_6 : decode cX2_planReel 6 = .ok (.iload_n 3, 1) := by decide +kernel
theorem dX2_planReel_7 : decode cX2_planReel 7 = .ok (.invokestatic 88, 3) := by decide +kernel
theorem dX2_planReel_10 : decode cX2_planReel 10 = .ok (.istore 6, 2) := by decide +kernel
theorem dX2_planReel_12 : decode cX2_planReel 12 = .ok (.aload_n 1, 1) := by decide +kernel
theorem dX2_planReel_13 : decode cX2_planReel 13 = .ok (.getfield 112, 3) := by decide +kernel
theorem dX2_planReel_16 : decode cX2_planReel 16 = .ok (.iload 6, 2) := by decide +kernel
theorem dX2_planReel_18 : decode cX2_planReel 18 = .ok (.iaload, 1) := by decide +kernel
theorem dX2_planReel_19 : decode cX2_planReel 19 = .ok (.istore 7, 2) := by decide +kernel
theorem dX2_planReel_21 : decode cX2_planReel 21 = .ok (.aload_n 0, 1) := by decide +kernel
theorem dX2_planReel_22 : decode cX2_planReel 22 = .ok (.aload_n 1, 1) := by decide +kernel
theorem dX2_planReel_23 : decode cX2_planReel 23 = .ok (.iload 6, 2) := by decide +kernel
theorem dX2_planReel_25 : decode cX2_planReel 25 = .ok (.aload_n 1, 1) := by decide +kernel
theorem dX2_planReel_26 : decode cX2_planReel 26 = .ok (.getfield 95, 3) := by decide +kernel
theorem dX2_planReel_29 : decode cX2_planReel 29 = .ok (.iload_n 2, 1) := by decide +kernel
theorem dX2_planReel_30 : decode cX2_planReel 30 = .ok (.iaload, 1) := by decide +kernel
theorem dX2_planReel_31 : decode cX2_planReel 31 = .ok (.invokevirtual 115, 3) := by decide +kernel
theorem dX2_planReel_34 : decode cX2_planReel 34 = .ok (.istore 8, 2) := by decide +kernel
theorem dX2_planReel_36 : decode cX2_planReel 36 = .ok (.aload_n 0, 1) := by decide +kernel
theorem dX2_planReel_37 : decode cX2_planReel 37 = .ok (.aload_n 1, 1) := by decide +kernel
theorem dX2_planReel_38 : decode cX2_planReel 38 = .ok (.iload 7, 2) := by decide +kernel
theorem dX2_planReel_40 : decode cX2_planReel 40 = .ok (.iload 8, 2) := by decide +kernel
theorem dX2_planReel_42 : decode cX2_planReel 42 = .ok (.iload 4, 2) := by decide +kernel
theorem dX2_planReel_44 : decode cX2_planReel 44 = .ok (.iload 5, 2) := by decide +kernel
theorem dX2_planReel_46 : decode cX2_planReel 46 = .ok (.invokevirtual 119, 3) := by decide +kernel
theorem dX2_planReel_49 : decode cX2_planReel 49 = .ok (.istore 9, 2) := by decide +kernel
theorem dX2_planReel_51 : decode cX2_planReel 51 = .ok (.aload_n 0, 1) := by decide +kernel
theorem dX2_planReel_52 : decode cX2_planReel 52 = .ok (.aload_n 1, 1) := by decide +kernel
theorem dX2_planReel_53 : decode cX2_planReel 53 = .ok (.iload 9, 2) := by decide +kernel
theorem dX2_planReel_55 : decode cX2_planReel 55 = .ok (.iload 7, 2) := by decide +kernel
theorem dX2_planReel_57 : decode cX2_planReel 57 = .ok (.iload 8, 2) := by decide +kernel
theorem dX2_planReel_59 : decode cX2_planReel 59 = .ok (.iload 4, 2) := by decide +kernel
theorem dX2_planReel_61 : decode cX2_planReel 61 = .ok (.invokevirtual 122, 3) := by decide +kernel
theorem dX2_planReel_64 : decode cX2_planReel 64 = .ok (.istore 10, 2) := by decide +kernel
theorem dX2_planReel_66 : decode cX2_planReel 66 = .ok (.iload 10, 2) := by decide +kernel
theorem dX2_planReel_68 : decode cX2_planReel 68 = .ok (.aload_n 1, 1) := by decide +kernel
theorem dX2_planReel_69 : decode cX2_planReel 69 = .ok (.getfield 125, 3) := by decide +kernel
theorem dX2_planReel_72 : decode cX2_planReel 72 = .ok (.iload 6, 2) := by decide +kernel
theorem dX2_planReel_74 : decode cX2_planReel 74 = .ok (.iaload, 1) := by decide +kernel
theorem dX2_planReel_75 : decode cX2_planReel 75 = .ok (.iadd, 1) := by decide +kernel
theorem dX2_planReel_76 : decode cX2_planReel 76 = .ok (.aload_n 1, 1) := by decide +kernel
theorem dX2_planReel_77 : decode cX2_planReel 77 = .ok (.iload_n 2, 1) := by decide +kernel
theorem dX2_planReel_78 : decode cX2_planReel 78 = .ok (.iload_n 3, 1) := by decide +kernel
theorem dX2_planReel_79 : decode cX2_planReel 79 = .ok (.invokevirtual 128, 3) := by decide +kernel
theorem dX2_planReel_82 : decode cX2_planReel 82 = .ok (.iadd, 1) := by decide +kernel
theorem dX2_planReel_83 : decode cX2_planReel 83 = .ok (.istore 11, 2) := by decide +kernel
theorem dX2_planReel_85 : decode cX2_planReel 85 = .ok (.aload_n 0, 1) := by decide +kernel
theorem dX2_planReel_86 : decode cX2_planReel 86 = .ok (.getfield 15, 3) := by decide +kernel
theorem dX2_planReel_89 : decode cX2_planReel 89 = .ok (.iload_n 2, 1) := by decide +kernel
theorem dX2_planReel_90 : decode cX2_planReel 90 = .ok (.iload_n 3, 1) := by decide +kernel
theorem dX2_planReel_91 : decode cX2_planReel 91 = .ok (.invokestatic 88, 3) := by decide +kernel
theorem dX2_planReel_94 : decode cX2_planReel 94 = .ok (.iload 10, 2) := by decide +kernel
theorem dX2_planReel_96 : decode cX2_planReel 96 = .ok (.iastore, 1) := by decide +kernel
theorem dX2_planReel_97 : decode cX2_planReel 97 = .ok (.aload_n 0, 1) := by decide +kernel
theorem dX2_planReel_98 : decode cX2_planReel 98 = .ok (.getfield 19, 3) := by decide +kernel
theorem dX2_planReel_101 : decode cX2_planReel 101 = .ok (.iload_n 2, 1) := by decide +kernel
theorem dX2_planReel_102 : decode cX2_planReel 102 = .ok (.iload_n 3, 1) := by decide +kernel
theorem dX2_planReel_103 : decode cX2_planReel 103 = .ok (.invokestatic 88, 3) := by decide +kernel
theorem dX2_planReel_106 : decode cX2_planReel 106 = .ok (.iload 9, 2) := by decide +kernel
theorem dX2_planReel_108 : decode cX2_planReel 108 = .ok (.iastore, 1) := by decide +kernel
theorem dX2_planReel_109 : decode cX2_planReel 109 = .ok (.aload_n 0, 1) := by decide +kernel
theorem dX2_planReel_110 : decode cX2_planReel 110 = .ok (.iload 9, 2) := by decide +kernel
theorem dX2_planReel_112 : decode cX2_planReel 112 = .ok (.iload 7, 2) := by decide +kernel
theorem dX2_planReel_114 : decode cX2_planReel 114 = .ok (.invokevirtual 131, 3) := by decide +kernel
theorem dX2_planReel_117 : decode cX2_planReel 117 = .ok (.ifCond .eq 13, 3) := by decide +kernel
theorem dX2_planReel_120 : decode cX2_planReel 120 = .ok (.aload_n 0, 1) := by decide +kernel
theorem dX2_planReel_121 : decode cX2_planReel 121 = .ok (.dup, 1) := by decide +kernel
theorem dX2_planReel_122 : decode cX2_planReel 122 = .ok (.getfield 38, 3) := by decide +kernel
theorem dX2_planReel_125 : decode cX2_planReel 125 = .ok (.iconst 1, 1) := by decide +kernel
theorem dX2_planReel_126 : decode cX2_planReel 126 = .ok (.iadd, 1) := by decide +kernel
theorem dX2_planReel_127 : decode cX2_planReel 127 = .ok (.putfield 38, 3) := by decide +kernel
theorem dX2_planReel_130 : decode cX2_planReel 130 = .ok (.aload_n 0, 1) := by decide +kernel
theorem dX2_planReel_131 : decode cX2_planReel 131 = .ok (.getfield 31, 3) := by decide +kernel
theorem dX2_planReel_134 : decode cX2_planReel 134 = .ok (.iload 9, 2) := by decide +kernel
theorem dX2_planReel_136 : decode cX2_planReel 136 = .ok (.dup2, 1) := by decide +kernel
theorem dX2_planReel_137 : decode cX2_planReel 137 = .ok (.iaload, 1) := by decide +kernel
theorem dX2_planReel_138 : decode cX2_planReel 138 = .ok (.iload 11, 2) := by decide +kernel
theorem dX2_planReel_140 : decode cX2_planReel 140 = .ok (.iload 10, 2) := by decide +kernel
theorem dX2_planReel_142 : decode cX2_planReel 142 = .ok (.isub, 1) := by decide +kernel
theorem dX2_planReel_143 : decode cX2_planReel 143 = .ok (.iadd, 1) := by decide +kernel
theorem dX2_planReel_144 : decode cX2_planReel 144 = .ok (.iastore, 1) := by decide +kernel
theorem dX2_planReel_145 : decode cX2_planReel 145 = .ok (.aload_n 0, 1) := by decide +kernel
theorem dX2_planReel_146 : decode cX2_planReel 146 = .ok (.getfield 56, 3) := by decide +kernel
theorem dX2_planReel_149 : decode cX2_planReel 149 = .ok (.iload 9, 2) := by decide +kernel
theorem dX2_planReel_151 : decode cX2_planReel 151 = .ok (.iload 11, 2) := by decide +kernel
theorem dX2_planReel_153 : decode cX2_planReel 153 = .ok (.iastore, 1) := by decide +kernel
theorem dX2_planReel_154 : decode cX2_planReel 154 = .ok (.aload_n 0, 1) := by decide +kernel
theorem dX2_planReel_155 : decode cX2_planReel 155 = .ok (.getfield 59, 3) := by decide +kernel
theorem dX2_planReel_158 : decode cX2_planReel 158 = .ok (.iload 9, 2) := by decide +kernel
theorem dX2_planReel_160 : decode cX2_planReel 160 = .ok (.iload 7, 2) := by decide +kernel
theorem dX2_planReel_162 : decode cX2_planReel 162 = .ok (.iastore, 1) := by decide +kernel
theorem dX2_planReel_163 : decode cX2_planReel 163 = .ok (.aload_n 0, 1) := by decide +kernel
theorem dX2_planReel_164 : decode cX2_planReel 164 = .ok (.getfield 50, 3) := by decide +kernel
theorem dX2_planReel_167 : decode cX2_planReel 167 = .ok (.iload 6, 2) := by decide +kernel
theorem dX2_planReel_169 : decode cX2_planReel 169 = .ok (.iload 11, 2) := by decide +kernel
theorem dX2_planReel_171 : decode cX2_planReel 171 = .ok (.aload_n 1, 1) := by decide +kernel
theorem dX2_planReel_172 : decode cX2_planReel 172 = .ok (.getfield 135, 3) := by decide +kernel
theorem dX2_planReel_175 : decode cX2_planReel 175 = .ok (.iconst 2, 1) := by decide +kernel
theorem dX2_planReel_176 : decode cX2_planReel 176 = .ok (.iaload, 1) := by decide +kernel
theorem dX2_planReel_177 : decode cX2_planReel 177 = .ok (.iadd, 1) := by decide +kernel
theorem dX2_planReel_178 : decode cX2_planReel 178 = .ok (.iastore, 1) := by decide +kernel
theorem dX2_planReel_179 : decode cX2_planReel 179 = .ok (.iload 11, 2) := by decide +kernel
theorem dX2_planReel_181 : decode cX2_planReel 181 = .ok (.ireturn, 1) := by decide +kernel
theorem dX2_bring_0 : decode cX2_bring 0 = .ok (.aload_n 0, 1) := by decide +kernel
theorem dX2_bring_1 : decode cX2_bring 1 = .ok (.getfield 47, 3) := by decide +kernel
theorem dX2_bring_4 : decode cX2_bring 4 = .ok (.iload_n 2, 1) := by decide +kernel
theorem dX2_bring_5 : decode cX2_bring 5 = .ok (.iaload, 1) := by decide +kernel
theorem dX2_bring_6 : decode cX2_bring 6 = .ok (.iload_n 3, 1) := by decide +kernel
theorem dX2_bring_7 : decode cX2_bring 7 = .ok (.if_icmp .ne 10, 3) := by decide +kernel
theorem dX2_bring_10 : decode cX2_bring 10 = .ok (.aload_n 0, 1) := by decide +kernel
theorem dX2_bring_11 : decode cX2_bring 11 = .ok (.getfield 50, 3) := by decide +kernel
theorem dX2_bring_14 : decode cX2_bring 14 = .ok (.iload_n 2, 1) := by decide +kernel
theorem dX2_bring_15 : decode cX2_bring 15 = .ok (.iaload, 1) := by decide +kernel
theorem dX2_bring_16 : decode cX2_bring 16 = .ok (.ireturn, 1) := by decide +kernel
theorem dX2_bring_17 : decode cX2_bring 17 = .ok (.aload_n 0, 1) := by decide +kernel
theorem dX2_bring_18 : decode cX2_bring 18 = .ok (.aload_n 1, 1) := by decide +kernel
theorem dX2_bring_19 : decode cX2_bring 19 = .ok (.aload_n 0, 1) := by decide +kernel
theorem dX2_bring_20 : decode cX2_bring 20 = .ok (.getfield 50, 3) := by decide +kernel
theorem dX2_bring_23 : decode cX2_bring 23 = .ok (.iload_n 2, 1) := by decide +kernel
theorem dX2_bring_24 : decode cX2_bring 24 = .ok (.iaload, 1) := by decide +kernel
theorem dX2_bring_25 : decode cX2_bring 25 = .ok (.invokevirtual 138, 3) := by decide +kernel
theorem dX2_bring_28 : decode cX2_bring 28 = .ok (.istore 4, 2) := by decide +kernel
theorem dX2_bring_30 : decode cX2_bring 30 = .ok (.aload_n 0, 1) := by decide +kernel
theorem dX2_bring_31 : decode cX2_bring 31 = .ok (.getfield 53, 3) := by decide +kernel
theorem dX2_bring_34 : decode cX2_bring 34 = .ok (.iload 4, 2) := by decide +kernel
theorem dX2_bring_36 : decode cX2_bring 36 = .ok (.iaload, 1) := by decide +kernel
theorem dX2_bring_37 : decode cX2_bring 37 = .ok (.aload_n 0, 1) := by decide +kernel
theorem dX2_bring_38 : decode cX2_bring 38 = .ok (.getfield 50, 3) := by decide +kernel
theorem dX2_bring_41 : decode cX2_bring 41 = .ok (.iload_n 2, 1) := by decide +kernel
theorem dX2_bring_42 : decode cX2_bring 42 = .ok (.iaload, 1) := by decide +kernel
theorem dX2_bring_43 : decode cX2_bring 43 = .ok (.invokestatic 142, 3) := by decide +kernel
theorem dX2_bring_46 : decode cX2_bring 46 = .ok (.aload_n 1, 1) := by decide +kernel
theorem dX2_bring_47 : decode cX2_bring 47 = .ok (.getfield 135, 3) := by decide +kernel
theorem dX2_bring_50 : decode cX2_bring 50 = .ok (.iconst 3, 1) := by decide +kernel
theorem dX2_bring_51 : decode cX2_bring 51 = .ok (.iaload, 1) := by decide +kernel
theorem dX2_bring_52 : decode cX2_bring 52 = .ok (.iadd, 1) := by decide +kernel
theorem dX2_bring_53 : decode cX2_bring 53 = .ok (.istore 5, 2) := by decide +kernel
theorem dX2_bring_55 : decode cX2_bring 55 = .ok (.aload_n 0, 1) := by decide +kernel
theorem dX2_bring_56 : decode cX2_bring 56 = .ok (.getfield 53, 3) := by decide +kernel
theorem dX2_bring_59 : decode cX2_bring 59 = .ok (.iload 4, 2) := by decide +kernel
theorem dX2_bring_61 : decode cX2_bring 61 = .ok (.iload 5, 2) := by decide +kernel
theorem dX2_bring_63 : decode cX2_bring 63 = .ok (.aload_n 1, 1) := by decide +kernel
theorem dX2_bring_64 : decode cX2_bring 64 = .ok (.getfield 135, 3) := by decide +kernel
theorem dX2_bring_67 : decode cX2_bring 67 = .ok (.iconst 3, 1) := by decide +kernel
theorem dX2_bring_68 : decode cX2_bring 68 = .ok (.iaload, 1) := by decide +kernel
theorem dX2_bring_69 : decode cX2_bring 69 = .ok (.iadd, 1) := by decide +kernel
theorem dX2_bring_70 : decode cX2_bring 70 = .ok (.iastore, 1) := by decide +kernel
theorem dX2_bring_71 : decode cX2_bring 71 = .ok (.aload_n 0, 1) := by decide +kernel
theorem dX2_bring_72 : decode cX2_bring 72 = .ok (.getfield 47, 3) := by decide +kernel
theorem dX2_bring_75 : decode cX2_bring 75 = .ok (.iload_n 2, 1) := by decide +kernel
theorem dX2_bring_76 : decode cX2_bring 76 = .ok (.iload_n 3, 1) := by decide +kernel
theorem dX2_bring_77 : decode cX2_bring 77 = .ok (.iastore, 1) := by decide +kernel
theorem dX2_bring_78 : decode cX2_bring 78 = .ok (.aload_n 0, 1) := by decide +kernel
theorem dX2_bring_79 : decode cX2_bring 79 = .ok (.dup, 1) := by decide +kernel
theorem dX2_bring_80 : decode cX2_bring 80 = .ok (.getfield 34, 3) := by decide +kernel
theorem dX2_bring_83 : decode cX2_bring 83 = .ok (.iconst 1, 1) := by decide +kernel
theorem dX2_bring_84 : decode cX2_bring 84 = .ok (.iadd, 1) := by decide +kernel
theorem dX2_bring_85 : decode cX2_bring 85 = .ok (.putfield 34, 3) := by decide +kernel
theorem dX2_bring_88 : decode cX2_bring 88 = .ok (.iload 5, 2) := by decide +kernel
theorem dX2_bring_90 : decode cX2_bring 90 = .ok (.ireturn, 1) := by decide +kernel
theorem dX2_soonestCarrier_0 : decode cX2_soonestCarrier 0 = .ok (.iconst 0, 1) := by decide +kernel
theorem dX2_soonestCarrier_1 : decode cX2_soonestCarrier 1 = .ok (.istore_n 3, 1) := by decide +kernel
theorem dX2_soonestCarrier_2 : decode cX2_soonestCarrier 2 = .ok (.iconst 1, 1) := by decide +kernel
theorem dX2_soonestCarrier_3 : decode cX2_soonestCarrier 3 = .ok (.istore 4, 2) := by decide +kernel
theorem dX2_soonestCarrier_5 : decode cX2_soonestCarrier 5 = .ok (.iload 4, 2) := by decide +kernel
theorem dX2_soonestCarrier_7 : decode cX2_soonestCarrier 7 = .ok (.aload_n 1, 1) := by decide +kernel
theorem dX2_soonestCarrier_8 : decode cX2_soonestCarrier 8 = .ok (.getfield 147, 3) := by decide +kernel
theorem dX2_soonestCarrier_11 : decode cX2_soonestCarrier 11 = .ok (.if_icmp .ge 36, 3) := by decide +kernel
theorem dX2_soonestCarrier_14 : decode cX2_soonestCarrier 14 = .ok (.aload_n 0, 1) := by decide +kernel
theorem dX2_soonestCarrier_15 : decode cX2_soonestCarrier 15 = .ok (.getfield 53, 3) := by decide +kernel
theorem dX2_soonestCarrier_18 : decode cX2_soonestCarrier 18 = .ok (.iload 4, 2) := by decide +kernel
theorem dX2_soonestCarrier_20 : decode cX2_soonestCarrier 20 = .ok (.iaload, 1) := by decide +kernel
theorem dX2_soonestCarrier_21 : decode cX2_soonestCarrier 21 = .ok (.iload_n 2, 1) := by decide +kernel
end
section
theorem dX2_soonestCarrier_22 : decode cX2_soonestCarrier 22 = .ok (.invokestatic 142, 3) := by decide +kernel
theorem dX2_soonestCarrier_25 : decode cX2_soonestCarrier 25 = .ok (.aload_n 0, 1) := by decide +kernel
theorem dX2_soonestCarrier_26 : decode cX2_soonestCarrier 26 = .ok (.getfield 53, 3) := by decide +kernel
theorem dX2_soonestCarrier_29 : decode cX2_soonestCarrier 29 = .ok (.iload_n 3, 1) := by decide +kernel
theorem dX2_soonestCarrier_30 : decode cX2_soonestCarrier 30 = .ok (.iaload, 1) := by decide +kernel
theorem dX2_soonestCarrier_31 : decode cX2_soonestCarrier 31 = .ok (.iload_n 2, 1) := by decide +kernel
theorem dX2_soonestCarrier_32 : decode cX2_soonestCarrier 32 = .ok (.invokestatic 142, 3) := by decide +kernel
theorem dX2_soonestCarrier_35 : decode cX2_soonestCarrier 35 = .ok (.if_icmp .ge 6, 3) := by decide +kernel
theorem dX2_soonestCarrier_38 : decode cX2_soonestCarrier 38 = .ok (.iload 4, 2) := by decide +kernel
theorem dX2_soonestCarrier_40 : decode cX2_soonestCarrier 40 = .ok (.istore_n 3, 1) := by decide +kernel
theorem dX2_soonestCarrier_41 : decode cX2_soonestCarrier 41 = .ok (.iinc 4 1, 3) := by decide +kernel
theorem dX2_soonestCarrier_44 : decode cX2_soonestCarrier 44 = .ok (.goto (-39), 3) := by decide +kernel
theorem dX2_soonestCarrier_47 : decode cX2_soonestCarrier 47 = .ok (.iload_n 3, 1) := by decide +kernel
theorem dX2_soonestCarrier_48 : decode cX2_soonestCarrier 48 = .ok (.ireturn, 1) := by decide +kernel
theorem dX2_soonestMachine_0 : decode cX2_soonestMachine 0 = .ok (.aload_n 1, 1) := by decide +kernel
theorem dX2_soonestMachine_1 : decode cX2_soonestMachine 1 = .ok (.getfield 150, 3) := by decide +kernel
theorem dX2_soonestMachine_4 : decode cX2_soonestMachine 4 = .ok (.iload 5, 2) := by decide +kernel
theorem dX2_soonestMachine_6 : decode cX2_soonestMachine 6 = .ok (.iaload, 1) := by decide +kernel
theorem dX2_soonestMachine_7 : decode cX2_soonestMachine 7 = .ok (.istore 6, 2) := by decide +kernel
theorem dX2_soonestMachine_9 : decode cX2_soonestMachine 9 = .ok (.iload 5, 2) := by decide +kernel
theorem dX2_soonestMachine_11 : decode cX2_soonestMachine 11 = .ok (.istore 7, 2) := by decide +kernel
theorem dX2_soonestMachine_13 : decode cX2_soonestMachine 13 = .ok (.aload_n 0, 1) := by decide +kernel
theorem dX2_soonestMachine_14 : decode cX2_soonestMachine 14 = .ok (.aload_n 1, 1) := by decide +kernel
theorem dX2_soonestMachine_15 : decode cX2_soonestMachine 15 = .ok (.iload 7, 2) := by decide +kernel
theorem dX2_soonestMachine_17 : decode cX2_soonestMachine 17 = .ok (.iload_n 2, 1) := by decide +kernel
theorem dX2_soonestMachine_18 : decode cX2_soonestMachine 18 = .ok (.iload_n 3, 1) := by decide +kernel
theorem dX2_soonestMachine_19 : decode cX2_soonestMachine 19 = .ok (.iload 4, 2) := by decide +kernel
theorem dX2_soonestMachine_21 : decode cX2_soonestMachine 21 = .ok (.invokevirtual 122, 3) := by decide +kernel
theorem dX2_soonestMachine_24 : decode cX2_soonestMachine 24 = .ok (.istore 8, 2) := by decide +kernel
theorem dX2_soonestMachine_26 : decode cX2_soonestMachine 26 = .ok (.iload 5, 2) := by decide +kernel
theorem dX2_soonestMachine_28 : decode cX2_soonestMachine 28 = .ok (.iconst 1, 1) := by decide +kernel
theorem dX2_soonestMachine_29 : decode cX2_soonestMachine 29 = .ok (.iadd, 1) := by decide +kernel
theorem dX2_soonestMachine_30 : decode cX2_soonestMachine 30 = .ok (.istore 9, 2) := by decide +kernel
theorem dX2_soonestMachine_32 : decode cX2_soonestMachine 32 = .ok (.iload 9, 2) := by decide +kernel
theorem dX2_soonestMachine_34 : decode cX2_soonestMachine 34 = .ok (.aload_n 1, 1) := by decide +kernel
theorem dX2_soonestMachine_35 : decode cX2_soonestMachine 35 = .ok (.getfield 153, 3) := by decide +kernel
theorem dX2_soonestMachine_38 : decode cX2_soonestMachine 38 = .ok (.if_icmp .ge 49, 3) := by decide +kernel
theorem dX2_soonestMachine_41 : decode cX2_soonestMachine 41 = .ok (.aload_n 1, 1) := by decide +kernel
theorem dX2_soonestMachine_42 : decode cX2_soonestMachine 42 = .ok (.getfield 150, 3) := by decide +kernel
theorem dX2_soonestMachine_45 : decode cX2_soonestMachine 45 = .ok (.iload 9, 2) := by decide +kernel
theorem dX2_soonestMachine_47 : decode cX2_soonestMachine 47 = .ok (.iaload, 1) := by decide +kernel
theorem dX2_soonestMachine_48 : decode cX2_soonestMachine 48 = .ok (.iload 6, 2) := by decide +kernel
theorem dX2_soonestMachine_50 : decode cX2_soonestMachine 50 = .ok (.if_icmp .ne 31, 3) := by decide +kernel
theorem dX2_soonestMachine_53 : decode cX2_soonestMachine 53 = .ok (.aload_n 0, 1) := by decide +kernel
theorem dX2_soonestMachine_54 : decode cX2_soonestMachine 54 = .ok (.aload_n 1, 1) := by decide +kernel
theorem dX2_soonestMachine_55 : decode cX2_soonestMachine 55 = .ok (.iload 9, 2) := by decide +kernel
theorem dX2_soonestMachine_57 : decode cX2_soonestMachine 57 = .ok (.iload_n 2, 1) := by decide +kernel
theorem dX2_soonestMachine_58 : decode cX2_soonestMachine 58 = .ok (.iload_n 3, 1) := by decide +kernel
theorem dX2_soonestMachine_59 : decode cX2_soonestMachine 59 = .ok (.iload 4, 2) := by decide +kernel
theorem dX2_soonestMachine_61 : decode cX2_soonestMachine 61 = .ok (.invokevirtual 122, 3) := by decide +kernel
theorem dX2_soonestMachine_64 : decode cX2_soonestMachine 64 = .ok (.istore 10, 2) := by decide +kernel
theorem dX2_soonestMachine_66 : decode cX2_soonestMachine 66 = .ok (.iload 10, 2) := by decide +kernel
theorem dX2_soonestMachine_68 : decode cX2_soonestMachine 68 = .ok (.iload 8, 2) := by decide +kernel
theorem dX2_soonestMachine_70 : decode cX2_soonestMachine 70 = .ok (.if_icmp .ge 11, 3) := by decide +kernel
theorem dX2_soonestMachine_73 : decode cX2_soonestMachine 73 = .ok (.iload 9, 2) := by decide +kernel
theorem dX2_soonestMachine_75 : decode cX2_soonestMachine 75 = .ok (.istore 7, 2) := by decide +kernel
theorem dX2_soonestMachine_77 : decode cX2_soonestMachine 77 = .ok (.iload 10, 2) := by decide +kernel
theorem dX2_soonestMachine_79 : decode cX2_soonestMachine 79 = .ok (.istore 8, 2) := by decide +kernel
theorem dX2_soonestMachine_81 : decode cX2_soonestMachine 81 = .ok (.iinc 9 1, 3) := by decide +kernel
theorem dX2_soonestMachine_84 : decode cX2_soonestMachine 84 = .ok (.goto (-52), 3) := by decide +kernel
theorem dX2_soonestMachine_87 : decode cX2_soonestMachine 87 = .ok (.iload 7, 2) := by decide +kernel
theorem dX2_soonestMachine_89 : decode cX2_soonestMachine 89 = .ok (.ireturn, 1) := by decide +kernel
theorem dX2_startOn_0 : decode cX2_startOn 0 = .ok (.aload_n 0, 1) := by decide +kernel
theorem dX2_startOn_1 : decode cX2_startOn 1 = .ok (.getfield 56, 3) := by decide +kernel
theorem dX2_startOn_4 : decode cX2_startOn 4 = .ok (.iload_n 2, 1) := by decide +kernel
theorem dX2_startOn_5 : decode cX2_startOn 5 = .ok (.iaload, 1) := by decide +kernel
theorem dX2_startOn_6 : decode cX2_startOn 6 = .ok (.istore 6, 2) := by decide +kernel
theorem dX2_startOn_8 : decode cX2_startOn 8 = .ok (.aload_n 0, 1) := by decide +kernel
theorem dX2_startOn_9 : decode cX2_startOn 9 = .ok (.iload_n 2, 1) := by decide +kernel
theorem dX2_startOn_10 : decode cX2_startOn 10 = .ok (.iload_n 3, 1) := by decide +kernel
theorem dX2_startOn_11 : decode cX2_startOn 11 = .ok (.invokevirtual 131, 3) := by decide +kernel
theorem dX2_startOn_14 : decode cX2_startOn 14 = .ok (.ifCond .eq 14, 3) := by decide +kernel
theorem dX2_startOn_17 : decode cX2_startOn 17 = .ok (.iload 6, 2) := by decide +kernel
theorem dX2_startOn_19 : decode cX2_startOn 19 = .ok (.aload_n 1, 1) := by decide +kernel
theorem dX2_startOn_20 : decode cX2_startOn 20 = .ok (.getfield 135, 3) := by decide +kernel
theorem dX2_startOn_23 : decode cX2_startOn 23 = .ok (.iconst 1, 1) := by decide +kernel
theorem dX2_startOn_24 : decode cX2_startOn 24 = .ok (.iaload, 1) := by decide +kernel
theorem dX2_startOn_25 : decode cX2_startOn 25 = .ok (.iadd, 1) := by decide +kernel
theorem dX2_startOn_26 : decode cX2_startOn 26 = .ok (.istore 6, 2) := by decide +kernel
theorem dX2_startOn_28 : decode cX2_startOn 28 = .ok (.iload 5, 2) := by decide +kernel
theorem dX2_startOn_30 : decode cX2_startOn 30 = .ok (.iload 4, 2) := by decide +kernel
theorem dX2_startOn_32 : decode cX2_startOn 32 = .ok (.iload 6, 2) := by decide +kernel
theorem dX2_startOn_34 : decode cX2_startOn 34 = .ok (.invokestatic 142, 3) := by decide +kernel
theorem dX2_startOn_37 : decode cX2_startOn 37 = .ok (.aload_n 1, 1) := by decide +kernel
theorem dX2_startOn_38 : decode cX2_startOn 38 = .ok (.getfield 135, 3) := by decide +kernel
theorem dX2_startOn_41 : decode cX2_startOn 41 = .ok (.iconst 0, 1) := by decide +kernel
theorem dX2_startOn_42 : decode cX2_startOn 42 = .ok (.iaload, 1) := by decide +kernel
theorem dX2_startOn_43 : decode cX2_startOn 43 = .ok (.iadd, 1) := by decide +kernel
theorem dX2_startOn_44 : decode cX2_startOn 44 = .ok (.invokestatic 142, 3) := by decide +kernel
theorem dX2_startOn_47 : decode cX2_startOn 47 = .ok (.ireturn, 1) := by decide +kernel
theorem dX2_needsPlate_0 : decode cX2_needsPlate 0 = .ok (.aload_n 0, 1) := by decide +kernel
theorem dX2_needsPlate_1 : decode cX2_needsPlate 1 = .ok (.getfield 59, 3) := by decide +kernel
theorem dX2_needsPlate_4 : decode cX2_needsPlate 4 = .ok (.iload_n 1, 1) := by decide +kernel
theorem dX2_needsPlate_5 : decode cX2_needsPlate 5 = .ok (.iaload, 1) := by decide +kernel
theorem dX2_needsPlate_6 : decode cX2_needsPlate 6 = .ok (.iconst (-1), 1) := by decide +kernel
theorem dX2_needsPlate_7 : decode cX2_needsPlate 7 = .ok (.if_icmp .eq 17, 3) := by decide +kernel
theorem dX2_needsPlate_10 : decode cX2_needsPlate 10 = .ok (.aload_n 0, 1) := by decide +kernel
theorem dX2_needsPlate_11 : decode cX2_needsPlate 11 = .ok (.getfield 59, 3) := by decide +kernel
theorem dX2_needsPlate_14 : decode cX2_needsPlate 14 = .ok (.iload_n 1, 1) := by decide +kernel
theorem dX2_needsPlate_15 : decode cX2_needsPlate 15 = .ok (.iaload, 1) := by decide +kernel
theorem dX2_needsPlate_16 : decode cX2_needsPlate 16 = .ok (.iload_n 2, 1) := by decide +kernel
theorem dX2_needsPlate_17 : decode cX2_needsPlate 17 = .ok (.if_icmp .eq 7, 3) := by decide +kernel
theorem dX2_needsPlate_20 : decode cX2_needsPlate 20 = .ok (.iconst 1, 1) := by decide +kernel
theorem dX2_needsPlate_21 : decode cX2_needsPlate 21 = .ok (.goto 4, 3) := by decide +kernel
theorem dX2_needsPlate_24 : decode cX2_needsPlate 24 = .ok (.iconst 0, 1) := by decide +kernel
theorem dX2_needsPlate_25 : decode cX2_needsPlate 25 = .ok (.ireturn, 1) := by decide +kernel
theorem dX3_init_0 : decode cX3_init 0 = .ok (.aload_n 0, 1) := by decide +kernel
theorem dX3_init_1 : decode cX3_init 1 = .ok (.invokespecial 1, 3) := by decide +kernel
theorem dX3_init_4 : decode cX3_init 4 = .ok (.aload_n 0, 1) := by decide +kernel
theorem dX3_init_5 : decode cX3_init 5 = .ok (.new 7, 3) := by decide +kernel
theorem dX3_init_8 : decode cX3_init 8 = .ok (.dup, 1) := by decide +kernel
theorem dX3_init_9 : decode cX3_init 9 = .ok (.invokespecial 9, 3) := by decide +kernel
theorem dX3_init_12 : decode cX3_init 12 = .ok (.putfield 10, 3) := by decide +kernel
theorem dX3_init_15 : decode cX3_init 15 = .ok (.aload_n 0, 1) := by decide +kernel
theorem dX3_init_16 : decode cX3_init 16 = .ok (.new 7, 3) := by decide +kernel
theorem dX3_init_19 : decode cX3_init 19 = .ok (.dup, 1) := by decide +kernel
theorem dX3_init_20 : decode cX3_init 20 = .ok (.invokespecial 9, 3) := by decide +kernel
theorem dX3_init_23 : decode cX3_init 23 = .ok (.putfield 16, 3) := by decide +kernel
theorem dX3_init_26 : decode cX3_init 26 = .ok (.aload_n 0, 1) := by decide +kernel
theorem dX3_init_27 : decode cX3_init 27 = .ok (.new 19, 3) := by decide +kernel
theorem dX3_init_30 : decode cX3_init 30 = .ok (.dup, 1) := by decide +kernel
theorem dX3_init_31 : decode cX3_init 31 = .ok (.invokespecial 21, 3) := by decide +kernel
theorem dX3_init_34 : decode cX3_init 34 = .ok (.putfield 22, 3) := by decide +kernel
theorem dX3_init_37 : decode cX3_init 37 = .ok (.aload_n 0, 1) := by decide +kernel
theorem dX3_init_38 : decode cX3_init 38 = .ok (.new 26, 3) := by decide +kernel
theorem dX3_init_41 : decode cX3_init 41 = .ok (.dup, 1) := by decide +kernel
theorem dX3_init_42 : decode cX3_init 42 = .ok (.invokespecial 28, 3) := by decide +kernel
theorem dX3_init_45 : decode cX3_init 45 = .ok (.putfield 29, 3) := by decide +kernel
theorem dX3_init_48 : decode cX3_init 48 = .ok (.return_, 1) := by decide +kernel
theorem dX3_addReel_0 : decode cX3_addReel 0 = .ok (.iload_n 1, 1) := by decide +kernel
theorem dX3_addReel_1 : decode cX3_addReel 1 = .ok (.iconst 0, 1) := by decide +kernel
theorem dX3_addReel_2 : decode cX3_addReel 2 = .ok (.iconst 3, 1) := by decide +kernel
theorem dX3_addReel_3 : decode cX3_addReel 3 = .ok (.invokestatic 33, 3) := by decide +kernel
theorem dX3_addReel_6 : decode cX3_addReel 6 = .ok (.ifCond .eq 22, 3) := by decide +kernel
theorem dX3_addReel_9 : decode cX3_addReel 9 = .ok (.iload_n 2, 1) := by decide +kernel
theorem dX3_addReel_10 : decode cX3_addReel 10 = .ok (.iconst 1, 1) := by decide +kernel
theorem dX3_addReel_11 : decode cX3_addReel 11 = .ok (.bipush 30, 2) := by decide +kernel
theorem dX3_addReel_13 : decode cX3_addReel 13 = .ok (.invokestatic 33, 3) := by decide +kernel
theorem dX3_addReel_16 : decode cX3_addReel 16 = .ok (.ifCond .eq 12, 3) := by decide +kernel
theorem dX3_addReel_19 : decode cX3_addReel 19 = .ok (.iload_n 3, 1) := by decide +kernel
theorem dX3_addReel_20 : decode cX3_addReel 20 = .ok (.iconst 0, 1) := by decide +kernel
theorem dX3_addReel_21 : decode cX3_addReel 21 = .ok (.iconst 2, 1) := by decide +kernel
theorem dX3_addReel_22 : decode cX3_addReel 22 = .ok (.invokestatic 33, 3) := by decide +kernel
theorem dX3_addReel_25 : decode cX3_addReel 25 = .ok (.ifCond .ne 5, 3) := by decide +kernel
theorem dX3_addReel_28 : decode cX3_addReel 28 = .ok (.iconst (-1), 1) := by decide +kernel
theorem dX3_addReel_29 : decode cX3_addReel 29 = .ok (.ireturn, 1) := by decide +kernel
theorem dX3_addReel_30 : decode cX3_addReel 30 = .ok (.aload_n 0, 1) := by decide +kernel
theorem dX3_addReel_31 : decode cX3_addReel 31 = .ok (.getfield 10, 3) := by decide +kernel
theorem dX3_addReel_34 : decode cX3_addReel 34 = .ok (.getfield 37, 3) := by decide +kernel
theorem dX3_addReel_37 : decode cX3_addReel 37 = .ok (.iload_n 1, 1) := by decide +kernel
theorem dX3_addReel_38 : decode cX3_addReel 38 = .ok (.iaload, 1) := by decide +kernel
theorem dX3_addReel_39 : decode cX3_addReel 39 = .ok (.bipush 6, 2) := by decide +kernel
theorem dX3_addReel_41 : decode cX3_addReel 41 = .ok (.if_icmp .lt 6, 3) := by decide +kernel
theorem dX3_addReel_44 : decode cX3_addReel 44 = .ok (.bipush (-3), 2) := by decide +kernel
theorem dX3_addReel_46 : decode cX3_addReel 46 = .ok (.ireturn, 1) := by decide +kernel
theorem dX3_addReel_47 : decode cX3_addReel 47 = .ok (.aload_n 0, 1) := by decide +kernel
theorem dX3_addReel_48 : decode cX3_addReel 48 = .ok (.getfield 22, 3) := by decide +kernel
theorem dX3_addReel_51 : decode cX3_addReel 51 = .ok (.aload_n 0, 1) := by decide +kernel
theorem dX3_addReel_52 : decode cX3_addReel 52 = .ok (.getfield 10, 3) := by decide +kernel
theorem dX3_addReel_55 : decode cX3_addReel 55 = .ok (.invokevirtual 41, 3) := by decide +kernel
theorem dX3_addReel_58 : decode cX3_addReel 58 = .ok (.aload_n 0, 1) := by decide +kernel
theorem dX3_addReel_59 : decode cX3_addReel 59 = .ok (.getfield 10, 3) := by decide +kernel
theorem dX3_addReel_62 : decode cX3_addReel 62 = .ok (.iload_n 1, 1) := by decide +kernel
theorem dX3_addReel_63 : decode cX3_addReel 63 = .ok (.iload_n 2, 1) := by decide +kernel
theorem dX3_addReel_64 : decode cX3_addReel 64 = .ok (.iload_n 3, 1) := by decide +kernel
theorem dX3_addReel_65 : decode cX3_addReel 65 = .ok (.invokevirtual 45, 3) := by decide +kernel
theorem dX3_addReel_68 : decode cX3_addReel 68 = .ok (.aload_n 0, 1) := by decide +kernel
theorem dX3_addReel_69 : decode cX3_addReel 69 = .ok (.getfield 10, 3) := by decide +kernel
theorem dX3_addReel_72 : decode cX3_addReel 72 = .ok (.getfield 37, 3) := by decide +kernel
theorem dX3_addReel_75 : decode cX3_addReel 75 = .ok (.iload_n 1, 1) := by decide +kernel
theorem dX3_addReel_76 : decode cX3_addReel 76 = .ok (.iaload, 1) := by decide +kernel
theorem dX3_addReel_77 : decode cX3_addReel 77 = .ok (.ireturn, 1) := by decide +kernel
theorem dX3_removeReels_0 : decode cX3_removeReels 0 = .ok (.iload_n 1, 1) := by decide +kernel
theorem dX3_removeReels_1 : decode cX3_removeReels 1 = .ok (.iconst 0, 1) := by decide +kernel
theorem dX3_removeReels_2 : decode cX3_removeReels 2 = .ok (.iconst 3, 1) := by decide +kernel
theorem dX3_removeReels_3 : decode cX3_removeReels 3 = .ok (.invokestatic 33, 3) := by decide +kernel
theorem dX3_removeReels_6 : decode cX3_removeReels 6 = .ok (.ifCond .ne 5, 3) := by decide +kernel
theorem dX3_removeReels_9 : decode cX3_removeReels 9 = .ok (.iconst (-1), 1) := by decide +kernel
theorem dX3_removeReels_10 : decode cX3_removeReels 10 = .ok (.ireturn, 1) := by decide +kernel
theorem dX3_removeReels_11 : decode cX3_removeReels 11 = .ok (.aload_n 0, 1) := by decide +kernel
theorem dX3_removeReels_12 : decode cX3_removeReels 12 = .ok (.getfield 10, 3) := by decide +kernel
theorem dX3_removeReels_15 : decode cX3_removeReels 15 = .ok (.iload_n 1, 1) := by decide +kernel
theorem dX3_removeReels_16 : decode cX3_removeReels 16 = .ok (.invokevirtual 49, 3) := by decide +kernel
theorem dX3_removeReels_19 : decode cX3_removeReels 19 = .ok (.ifCond .eq 6, 3) := by decide +kernel
theorem dX3_removeReels_22 : decode cX3_removeReels 22 = .ok (.bipush (-2), 2) := by decide +kernel
theorem dX3_removeReels_24 : decode cX3_removeReels 24 = .ok (.ireturn, 1) := by decide +kernel
theorem dX3_removeReels_25 : decode cX3_removeReels 25 = .ok (.aload_n 0, 1) := by decide +kernel
theorem dX3_removeReels_26 : decode cX3_removeReels 26 = .ok (.getfield 22, 3) := by decide +kernel
theorem dX3_removeReels_29 : decode cX3_removeReels 29 = .ok (.aload_n 0, 1) := by decide +kernel
theorem dX3_removeReels_30 : decode cX3_removeReels 30 = .ok (.getfield 10, 3) := by decide +kernel
theorem dX3_removeReels_33 : decode cX3_removeReels 33 = .ok (.invokevirtual 41, 3) := by decide +kernel
theorem dX3_removeReels_36 : decode cX3_removeReels 36 = .ok (.aload_n 0, 1) := by decide +kernel
theorem dX3_removeReels_37 : decode cX3_removeReels 37 = .ok (.getfield 10, 3) := by decide +kernel
theorem dX3_removeReels_40 : decode cX3_removeReels 40 = .ok (.getfield 37, 3) := by decide +kernel
theorem dX3_removeReels_43 : decode cX3_removeReels 43 = .ok (.iload_n 1, 1) := by decide +kernel
theorem dX3_removeReels_44 : decode cX3_removeReels 44 = .ok (.iaload, 1) := by decide +kernel
theorem dX3_removeReels_45 : decode cX3_removeReels 45 = .ok (.istore_n 2, 1) := by decide +kernel
theorem dX3_removeReels_46 : decode cX3_removeReels 46 = .ok (.aload_n 0, 1) := by decide +kernel
theorem dX3_removeReels_47 : decode cX3_removeReels 47 = .ok (.getfield 10, 3) := by decide +kernel
theorem dX3_removeReels_50 : decode cX3_removeReels 50 = .ok (.getfield 37, 3) := by decide +kernel
theorem dX3_removeReels_53 : decode cX3_removeReels 53 = .ok (.iload_n 1, 1) := by decide +kernel
theorem dX3_removeReels_54 : decode cX3_removeReels 54 = .ok (.iconst 0, 1) := by decide +kernel
theorem dX3_removeReels_55 : decode cX3_removeReels 55 = .ok (.iastore, 1) := by decide +kernel
theorem dX3_removeReels_56 : decode cX3_removeReels 56 = .ok (.iload_n 2, 1) := by decide +kernel
theorem dX3_removeReels_57 : decode cX3_removeReels 57 = .ok (.ireturn, 1) := by decide +kernel
theorem dX3_setHome_0 : decode cX3_setHome 0 = .ok (.iload_n 1, 1) := by decide +kernel
theorem dX3_setHome_1 : decode cX3_setHome 1 = .ok (.iconst 0, 1) := by decide +kernel
theorem dX3_setHome_2 : decode cX3_setHome 2 = .ok (.iconst 3, 1) := by decide +kernel
theorem dX3_setHome_3 : decode cX3_setHome 3 = .ok (.invokestatic 33, 3) := by decide +kernel
theorem dX3_setHome_6 : decode cX3_setHome 6 = .ok (.ifCond .eq 12, 3) := by decide +kernel
theorem dX3_setHome_9 : decode cX3_setHome 9 = .ok (.iload_n 2, 1) := by decide +kernel
theorem dX3_setHome_10 : decode cX3_setHome 10 = .ok (.iconst 0, 1) := by decide +kernel
theorem dX3_setHome_11 : decode cX3_setHome 11 = .ok (.iconst 1, 1) := by decide +kernel
theorem dX3_setHome_12 : decode cX3_setHome 12 = .ok (.invokestatic 33, 3) := by decide +kernel
theorem dX3_setHome_15 : decode cX3_setHome 15 = .ok (.ifCond .ne 5, 3) := by decide +kernel
theorem dX3_setHome_18 : decode cX3_setHome 18 = .ok (.iconst (-1), 1) := by decide +kernel
theorem dX3_setHome_19 : decode cX3_setHome 19 = .ok (.ireturn, 1) := by decide +kernel
theorem dX3_setHome_20 : decode cX3_setHome 20 = .ok (.aload_n 0, 1) := by decide +kernel
theorem dX3_setHome_21 : decode cX3_setHome 21 = .ok (.getfield 22, 3) := by decide +kernel
theorem dX3_setHome_24 : decode cX3_setHome 24 = .ok (.aload_n 0, 1) := by decide +kernel
theorem dX3_setHome_25 : decode cX3_setHome 25 = .ok (.getfield 10, 3) := by decide +kernel
theorem dX3_setHome_28 : decode cX3_setHome 28 = .ok (.invokevirtual 41, 3) := by decide +kernel
theorem dX3_setHome_31 : decode cX3_setHome 31 = .ok (.aload_n 0, 1) := by decide +kernel
theorem dX3_setHome_32 : decode cX3_setHome 32 = .ok (.getfield 10, 3) := by decide +kernel
theorem dX3_setHome_35 : decode cX3_setHome 35 = .ok (.getfield 53, 3) := by decide +kernel
theorem dX3_setHome_38 : decode cX3_setHome 38 = .ok (.iload_n 1, 1) := by decide +kernel
theorem dX3_setHome_39 : decode cX3_setHome 39 = .ok (.iaload, 1) := by decide +kernel
theorem dX3_setHome_40 : decode cX3_setHome 40 = .ok (.istore_n 3, 1) := by decide +kernel
theorem dX3_setHome_41 : decode cX3_setHome 41 = .ok (.aload_n 0, 1) := by decide +kernel
theorem dX3_setHome_42 : decode cX3_setHome 42 = .ok (.getfield 10, 3) := by decide +kernel
theorem dX3_setHome_45 : decode cX3_setHome 45 = .ok (.getfield 53, 3) := by decide +kernel
theorem dX3_setHome_48 : decode cX3_setHome 48 = .ok (.iload_n 1, 1) := by decide +kernel
theorem dX3_setHome_49 : decode cX3_setHome 49 = .ok (.iload_n 2, 1) := by decide +kernel
theorem dX3_setHome_50 : decode cX3_setHome 50 = .ok (.iastore, 1) := by decide +kernel
theorem dX3_setHome_51 : decode cX3_setHome 51 = .ok (.iload_n 3, 1) := by decide +kernel
theorem dX3_setHome_52 : decode cX3_setHome 52 = .ok (.ireturn, 1) := by decide +kernel
theorem dX3_filmLength_0 : decode cX3_filmLength 0 = .ok (.iload_n 1, 1) := by decide +kernel
theorem dX3_filmLength_1 : decode cX3_filmLength 1 = .ok (.iconst 0, 1) := by decide +kernel
theorem dX3_filmLength_2 : decode cX3_filmLength 2 = .ok (.iconst 3, 1) := by decide +kernel
theorem dX3_filmLength_3 : decode cX3_filmLength 3 = .ok (.invokestatic 33, 3) := by decide +kernel
theorem dX3_filmLength_6 : decode cX3_filmLength 6 = .ok (.ifCond .ne 5, 3) := by decide +kernel
theorem dX3_filmLength_9 : decode cX3_filmLength 9 = .ok (.iconst (-1), 1) := by decide +kernel
theorem dX3_filmLength_10 : decode cX3_filmLength 10 = .ok (.ireturn, 1) := by decide +kernel
theorem dX3_filmLength_11 : decode cX3_filmLength 11 = .ok (.aload_n 0, 1) := by decide +kernel
theorem dX3_filmLength_12 : decode cX3_filmLength 12 = .ok (.getfield 10, 3) := by decide +kernel
theorem dX3_filmLength_15 : decode cX3_filmLength 15 = .ok (.iload_n 1, 1) := by decide +kernel
theorem dX3_filmLength_16 : decode cX3_filmLength 16 = .ok (.invokevirtual 56, 3) := by decide +kernel
theorem dX3_filmLength_19 : decode cX3_filmLength 19 = .ok (.ireturn, 1) := by decide +kernel
theorem dX3_addMachine_0 : decode cX3_addMachine 0 = .ok (.iload_n 1, 1) := by decide +kernel
theorem dX3_addMachine_1 : decode cX3_addMachine 1 = .ok (.iconst 0, 1) := by decide +kernel
theorem dX3_addMachine_2 : decode cX3_addMachine 2 = .ok (.iconst 1, 1) := by decide +kernel
theorem dX3_addMachine_3 : decode cX3_addMachine 3 = .ok (.invokestatic 33, 3) := by decide +kernel
theorem dX3_addMachine_6 : decode cX3_addMachine 6 = .ok (.ifCond .ne 5, 3) := by decide +kernel
theorem dX3_addMachine_9 : decode cX3_addMachine 9 = .ok (.iconst (-1), 1) := by decide +kernel
theorem dX3_addMachine_10 : decode cX3_addMachine 10 = .ok (.ireturn, 1) := by decide +kernel
theorem dX3_addMachine_11 : decode cX3_addMachine 11 = .ok (.aload_n 0, 1) := by decide +kernel
theorem dX3_addMachine_12 : decode cX3_addMachine 12 = .ok (.getfield 10, 3) := by decide +kernel
theorem dX3_addMachine_15 : decode cX3_addMachine 15 = .ok (.getfield 60, 3) := by decide +kernel
theorem dX3_addMachine_18 : decode cX3_addMachine 18 = .ok (.iconst 5, 1) := by decide +kernel
theorem dX3_addMachine_19 : decode cX3_addMachine 19 = .ok (.if_icmp .lt 6, 3) := by decide +kernel
theorem dX3_addMachine_22 : decode cX3_addMachine 22 = .ok (.bipush (-3), 2) := by decide +kernel
theorem dX3_addMachine_24 : decode cX3_addMachine 24 = .ok (.ireturn, 1) := by decide +kernel
theorem dX3_addMachine_25 : decode cX3_addMachine 25 = .ok (.aload_n 0, 1) := by decide +kernel
theorem dX3_addMachine_26 : decode cX3_addMachine 26 = .ok (.getfield 22, 3) := by decide +kernel
theorem dX3_addMachine_29 : decode cX3_addMachine 29 = .ok (.aload_n 0, 1) := by decide +kernel
theorem dX3_addMachine_30 : decode cX3_addMachine 30 = .ok (.getfield 10, 3) := by decide +kernel
theorem dX3_addMachine_33 : decode cX3_addMachine 33 = .ok (.invokevirtual 41, 3) := by decide +kernel
theorem dX3_addMachine_36 : decode cX3_addMachine 36 = .ok (.aload_n 0, 1) := by decide +kernel
theorem dX3_addMachine_37 : decode cX3_addMachine 37 = .ok (.getfield 10, 3) := by decide +kernel
theorem dX3_addMachine_40 : decode cX3_addMachine 40 = .ok (.iload_n 1, 1) := by decide +kernel
theorem dX3_addMachine_41 : decode cX3_addMachine 41 = .ok (.invokevirtual 64, 3) := by decide +kernel
theorem dX3_addMachine_44 : decode cX3_addMachine 44 = .ok (.aload_n 0, 1) := by decide +kernel
theorem dX3_addMachine_45 : decode cX3_addMachine 45 = .ok (.getfield 10, 3) := by decide +kernel
theorem dX3_addMachine_48 : decode cX3_addMachine 48 = .ok (.getfield 60, 3) := by decide +kernel
theorem dX3_addMachine_51 : decode cX3_addMachine 51 = .ok (.iconst 1, 1) := by decide +kernel
theorem dX3_addMachine_52 : decode cX3_addMachine 52 = .ok (.isub, 1) := by decide +kernel
theorem dX3_addMachine_53 : decode cX3_addMachine 53 = .ok (.ireturn, 1) := by decide +kernel
theorem dX3_removeMachine_0 : decode cX3_removeMachine 0 = .ok (.aload_n 0, 1) := by decide +kernel
theorem dX3_removeMachine_1 : decode cX3_removeMachine 1 = .ok (.iload_n 1, 1) := by decide +kernel
theorem dX3_removeMachine_2 : decode cX3_removeMachine 2 = .ok (.invokevirtual 68, 3) := by decide +kernel
theorem dX3_removeMachine_5 : decode cX3_removeMachine 5 = .ok (.ifCond .ne 5, 3) := by decide +kernel
theorem dX3_removeMachine_8 : decode cX3_removeMachine 8 = .ok (.iconst (-1), 1) := by decide +kernel
theorem dX3_removeMachine_9 : decode cX3_removeMachine 9 = .ok (.ireturn, 1) := by decide +kernel
theorem dX3_removeMachine_10 : decode cX3_removeMachine 10 = .ok (.aload_n 0, 1) := by decide +kernel
theorem dX3_removeMachine_11 : decode cX3_removeMachine 11 = .ok (.getfield 22, 3) := by decide +kernel
theorem dX3_removeMachine_14 : decode cX3_removeMachine 14 = .ok (.aload_n 0, 1) := by decide +kernel
theorem dX3_removeMachine_15 : decode cX3_removeMachine 15 = .ok (.getfield 10, 3) := by decide +kernel
theorem dX3_removeMachine_18 : decode cX3_removeMachine 18 = .ok (.invokevirtual 41, 3) := by decide +kernel
theorem dX3_removeMachine_21 : decode cX3_removeMachine 21 = .ok (.aload_n 0, 1) := by decide +kernel
theorem dX3_removeMachine_22 : decode cX3_removeMachine 22 = .ok (.getfield 10, 3) := by decide +kernel
theorem dX3_removeMachine_25 : decode cX3_removeMachine 25 = .ok (.iload_n 1, 1) := by decide +kernel
theorem dX3_removeMachine_26 : decode cX3_removeMachine 26 = .ok (.invokevirtual 71, 3) := by decide +kernel
theorem dX3_removeMachine_29 : decode cX3_removeMachine 29 = .ok (.aload_n 0, 1) := by decide +kernel
theorem dX3_removeMachine_30 : decode cX3_removeMachine 30 = .ok (.getfield 10, 3) := by decide +kernel
theorem dX3_removeMachine_33 : decode cX3_removeMachine 33 = .ok (.getfield 60, 3) := by decide +kernel
theorem dX3_removeMachine_36 : decode cX3_removeMachine 36 = .ok (.ireturn, 1) := by decide +kernel
theorem dX3_houseOf_0 : decode cX3_houseOf 0 = .ok (.aload_n 0, 1) := by decide +kernel
theorem dX3_houseOf_1 : decode cX3_houseOf 1 = .ok (.iload_n 1, 1) := by decide +kernel
theorem dX3_houseOf_2 : decode cX3_houseOf 2 = .ok (.invokevirtual 68, 3) := by decide +kernel
theorem dX3_houseOf_5 : decode cX3_houseOf 5 = .ok (.ifCond .ne 5, 3) := by decide +kernel
theorem dX3_houseOf_8 : decode cX3_houseOf 8 = .ok (.iconst (-1), 1) := by decide +kernel
theorem dX3_houseOf_9 : decode cX3_houseOf 9 = .ok (.ireturn, 1) := by decide +kernel
theorem dX3_houseOf_10 : decode cX3_houseOf 10 = .ok (.aload_n 0, 1) := by decide +kernel
theorem dX3_houseOf_11 : decode cX3_houseOf 11 = .ok (.getfield 10, 3) := by decide +kernel
theorem dX3_houseOf_14 : decode cX3_houseOf 14 = .ok (.getfield 74, 3) := by decide +kernel
theorem dX3_houseOf_17 : decode cX3_houseOf 17 = .ok (.iload_n 1, 1) := by decide +kernel
theorem dX3_houseOf_18 : decode cX3_houseOf 18 = .ok (.iaload, 1) := by decide +kernel
theorem dX3_houseOf_19 : decode cX3_houseOf 19 = .ok (.ireturn, 1) := by decide +kernel
theorem dX3_setCarriers_0 : decode cX3_setCarriers 0 = .ok (.iload_n 1, 1) := by decide +kernel
theorem dX3_setCarriers_1 : decode cX3_setCarriers 1 = .ok (.iconst 1, 1) := by decide +kernel
theorem dX3_setCarriers_2 : decode cX3_setCarriers 2 = .ok (.iconst 3, 1) := by decide +kernel
theorem dX3_setCarriers_3 : decode cX3_setCarriers 3 = .ok (.invokestatic 33, 3) := by decide +kernel
theorem dX3_setCarriers_6 : decode cX3_setCarriers 6 = .ok (.ifCond .ne 5, 3) := by decide +kernel
theorem dX3_setCarriers_9 : decode cX3_setCarriers 9 = .ok (.iconst (-1), 1) := by decide +kernel
theorem dX3_setCarriers_10 : decode cX3_setCarriers 10 = .ok (.ireturn, 1) := by decide +kernel
theorem dX3_setCarriers_11 : decode cX3_setCarriers 11 = .ok (.aload_n 0, 1) := by decide +kernel
theorem dX3_setCarriers_12 : decode cX3_setCarriers 12 = .ok (.getfield 22, 3) := by decide +kernel
theorem dX3_setCarriers_15 : decode cX3_setCarriers 15 = .ok (.aload_n 0, 1) := by decide +kernel
theorem dX3_setCarriers_16 : decode cX3_setCarriers 16 = .ok (.getfield 10, 3) := by decide +kernel
theorem dX3_setCarriers_19 : decode cX3_setCarriers 19 = .ok (.invokevirtual 41, 3) := by decide +kernel
theorem dX3_setCarriers_22 : decode cX3_setCarriers 22 = .ok (.aload_n 0, 1) := by decide +kernel
theorem dX3_setCarriers_23 : decode cX3_setCarriers 23 = .ok (.getfield 10, 3) := by decide +kernel
theorem dX3_setCarriers_26 : decode cX3_setCarriers 26 = .ok (.getfield 77, 3) := by decide +kernel
theorem dX3_setCarriers_29 : decode cX3_setCarriers 29 = .ok (.istore_n 2, 1) := by decide +kernel
theorem dX3_setCarriers_30 : decode cX3_setCarriers 30 = .ok (.aload_n 0, 1) := by decide +kernel
theorem dX3_setCarriers_31 : decode cX3_setCarriers 31 = .ok (.getfield 10, 3) := by decide +kernel
theorem dX3_setCarriers_34 : decode cX3_setCarriers 34 = .ok (.iload_n 1, 1) := by decide +kernel
theorem dX3_setCarriers_35 : decode cX3_setCarriers 35 = .ok (.putfield 77, 3) := by decide +kernel
theorem dX3_setCarriers_38 : decode cX3_setCarriers 38 = .ok (.iload_n 2, 1) := by decide +kernel
theorem dX3_setCarriers_39 : decode cX3_setCarriers 39 = .ok (.ireturn, 1) := by decide +kernel
theorem dX3_setDuration_0 : decode cX3_setDuration 0 = .ok (.iload_n 1, 1) := by decide +kernel
theorem dX3_setDuration_1 : decode cX3_setDuration 1 = .ok (.iconst 0, 1) := by decide +kernel
theorem dX3_setDuration_2 : decode cX3_setDuration 2 = .ok (.iconst 3, 1) := by decide +kernel
theorem dX3_setDuration_3 : decode cX3_setDuration 3 = .ok (.invokestatic 33, 3) := by decide +kernel
theorem dX3_setDuration_6 : decode cX3_setDuration 6 = .ok (.ifCond .ne 5, 3) := by decide +kernel
theorem dX3_setDuration_9 : decode cX3_setDuration 9 = .ok (.iconst (-1), 1) := by decide +kernel
theorem dX3_setDuration_10 : decode cX3_setDuration 10 = .ok (.ireturn, 1) := by decide +kernel
theorem dX3_setDuration_11 : decode cX3_setDuration 11 = .ok (.iload_n 2, 1) := by decide +kernel
theorem dX3_setDuration_12 : decode cX3_setDuration 12 = .ok (.getstatic 80, 3) := by decide +kernel
theorem dX3_setDuration_15 : decode cX3_setDuration 15 = .ok (.iload_n 1, 1) := by decide +kernel
theorem dX3_setDuration_16 : decode cX3_setDuration 16 = .ok (.iaload, 1) := by decide +kernel
theorem dX3_setDuration_17 : decode cX3_setDuration 17 = .ok (.getstatic 83, 3) := by decide +kernel
theorem dX3_setDuration_20 : decode cX3_setDuration 20 = .ok (.iload_n 1, 1) := by decide +kernel
theorem dX3_setDuration_21 : decode cX3_setDuration 21 = .ok (.iaload, 1) := by decide +kernel
theorem dX3_setDuration_22 : decode cX3_setDuration 22 = .ok (.invokestatic 33, 3) := by decide +kernel
theorem dX3_setDuration_25 : decode cX3_setDuration 25 = .ok (.ifCond .ne 5, 3) := by decide +kernel
theorem dX3_setDuration_28 : decode cX3_setDuration 28 = .ok (.iconst (-1), 1) := by decide +kernel
theorem dX3_setDuration_29 : decode cX3_setDuration 29 = .ok (.ireturn, 1) := by decide +kernel
theorem dX3_setDuration_30 : decode cX3_setDuration 30 = .ok (.aload_n 0, 1) := by decide +kernel
theorem dX3_setDuration_31 : decode cX3_setDuration 31 = .ok (.getfield 22, 3) := by decide +kernel
theorem dX3_setDuration_34 : decode cX3_setDuration 34 = .ok (.aload_n 0, 1) := by decide +kernel
theorem dX3_setDuration_35 : decode cX3_setDuration 35 = .ok (.getfield 10, 3) := by decide +kernel
theorem dX3_setDuration_38 : decode cX3_setDuration 38 = .ok (.invokevirtual 41, 3) := by decide +kernel
theorem dX3_setDuration_41 : decode cX3_setDuration 41 = .ok (.aload_n 0, 1) := by decide +kernel
theorem dX3_setDuration_42 : decode cX3_setDuration 42 = .ok (.getfield 10, 3) := by decide +kernel
theorem dX3_setDuration_45 : decode cX3_setDuration 45 = .ok (.getfield 86, 3) := by decide +kernel
theorem dX3_setDuration_48 : decode cX3_setDuration 48 = .ok (.iload_n 1, 1) := by decide +kernel
theorem dX3_setDuration_49 : decode cX3_setDuration 49 = .ok (.iaload, 1) := by decide +kernel
theorem dX3_setDuration_50 : decode cX3_setDuration 50 = .ok (.istore_n 3, 1) := by decide +kernel
theorem dX3_setDuration_51 : decode cX3_setDuration 51 = .ok (.aload_n 0, 1) := by decide +kernel
theorem dX3_setDuration_52 : decode cX3_setDuration 52 = .ok (.getfield 10, 3) := by decide +kernel
theorem dX3_setDuration_55 : decode cX3_setDuration 55 = .ok (.getfield 86, 3) := by decide +kernel
theorem dX3_setDuration_58 : decode cX3_setDuration 58 = .ok (.iload_n 1, 1) := by decide +kernel
theorem dX3_setDuration_59 : decode cX3_setDuration 59 = .ok (.iload_n 2, 1) := by decide +kernel
theorem dX3_setDuration_60 : decode cX3_setDuration 60 = .ok (.iastore, 1) := by decide +kernel
theorem dX3_setDuration_61 : decode cX3_setDuration 61 = .ok (.iload_n 3, 1) := by decide +kernel
theorem dX3_setDuration_62 : decode cX3_setDuration 62 = .ok (.ireturn, 1) := by decide +kernel
theorem dX3_addShow_0 : decode cX3_addShow 0 = .ok (.iload_n 1, 1) := by decide +kernel
theorem dX3_addShow_1 : decode cX3_addShow 1 = .ok (.iconst 0, 1) := by decide +kernel
theorem dX3_addShow_2 : decode cX3_addShow 2 = .ok (.iconst 1, 1) := by decide +kernel
theorem dX3_addShow_3 : decode cX3_addShow 3 = .ok (.invokestatic 33, 3) := by decide +kernel
theorem dX3_addShow_6 : decode cX3_addShow 6 = .ok (.ifCond .eq 23, 3) := by decide +kernel
theorem dX3_addShow_9 : decode cX3_addShow 9 = .ok (.iload_n 2, 1) := by decide +kernel
theorem dX3_addShow_10 : decode cX3_addShow 10 = .ok (.iconst 0, 1) := by decide +kernel
theorem dX3_addShow_11 : decode cX3_addShow 11 = .ok (.iconst 3, 1) := by decide +kernel
theorem dX3_addShow_12 : decode cX3_addShow 12 = .ok (.invokestatic 33, 3) := by decide +kernel
theorem dX3_addShow_15 : decode cX3_addShow 15 = .ok (.ifCond .eq 14, 3) := by decide +kernel
theorem dX3_addShow_18 : decode cX3_addShow 18 = .ok (.iload_n 3, 1) := by decide +kernel
theorem dX3_addShow_19 : decode cX3_addShow 19 = .ok (.iconst 0, 1) := by decide +kernel
theorem dX3_addShow_20 : decode cX3_addShow 20 = .ok (.sipush 1439, 3) := by decide +kernel
theorem dX3_addShow_23 : decode cX3_addShow 23 = .ok (.invokestatic 33, 3) := by decide +kernel
theorem dX3_addShow_26 : decode cX3_addShow 26 = .ok (.ifCond .ne 5, 3) := by decide +kernel
theorem dX3_addShow_29 : decode cX3_addShow 29 = .ok (.iconst (-1), 1) := by decide +kernel
theorem dX3_addShow_30 : decode cX3_addShow 30 = .ok (.ireturn, 1) := by decide +kernel
theorem dX3_addShow_31 : decode cX3_addShow 31 = .ok (.aload_n 0, 1) := by decide +kernel
theorem dX3_addShow_32 : decode cX3_addShow 32 = .ok (.getfield 10, 3) := by decide +kernel
theorem dX3_addShow_35 : decode cX3_addShow 35 = .ok (.getfield 37, 3) := by decide +kernel
theorem dX3_addShow_38 : decode cX3_addShow 38 = .ok (.iload_n 2, 1) := by decide +kernel
theorem dX3_addShow_39 : decode cX3_addShow 39 = .ok (.iaload, 1) := by decide +kernel
theorem dX3_addShow_40 : decode cX3_addShow 40 = .ok (.ifCond .ne 6, 3) := by decide +kernel
theorem dX3_addShow_43 : decode cX3_addShow 43 = .ok (.bipush (-2), 2) := by decide +kernel
theorem dX3_addShow_45 : decode cX3_addShow 45 = .ok (.ireturn, 1) := by decide +kernel
theorem dX3_addShow_46 : decode cX3_addShow 46 = .ok (.aload_n 0, 1) := by decide +kernel
theorem dX3_addShow_47 : decode cX3_addShow 47 = .ok (.getfield 10, 3) := by decide +kernel
theorem dX3_addShow_50 : decode cX3_addShow 50 = .ok (.getfield 89, 3) := by decide +kernel
theorem dX3_addShow_53 : decode cX3_addShow 53 = .ok (.bipush 6, 2) := by decide +kernel
theorem dX3_addShow_55 : decode cX3_addShow 55 = .ok (.if_icmp .lt 6, 3) := by decide +kernel
theorem dX3_addShow_58 : decode cX3_addShow 58 = .ok (.bipush (-3), 2) := by decide +kernel
theorem dX3_addShow_60 : decode cX3_addShow 60 = .ok (.ireturn, 1) := by decide +kernel
theorem dX3_addShow_61 : decode cX3_addShow 61 = .ok (.aload_n 0, 1) := by decide +kernel
theorem dX3_addShow_62 : decode cX3_addShow 62 = .ok (.getfield 22, 3) := by decide +kernel
theorem dX3_addShow_65 : decode cX3_addShow 65 = .ok (.aload_n 0, 1) := by decide +kernel
theorem dX3_addShow_66 : decode cX3_addShow 66 = .ok (.getfield 10, 3) := by decide +kernel
theorem dX3_addShow_69 : decode cX3_addShow 69 = .ok (.invokevirtual 41, 3) := by decide +kernel
theorem dX3_addShow_72 : decode cX3_addShow 72 = .ok (.aload_n 0, 1) := by decide +kernel
theorem dX3_addShow_73 : decode cX3_addShow 73 = .ok (.getfield 10, 3) := by decide +kernel
theorem dX3_addShow_76 : decode cX3_addShow 76 = .ok (.iload_n 1, 1) := by decide +kernel
theorem dX3_addShow_77 : decode cX3_addShow 77 = .ok (.iload_n 2, 1) := by decide +kernel
theorem dX3_addShow_78 : decode cX3_addShow 78 = .ok (.iload_n 3, 1) := by decide +kernel
theorem dX3_addShow_79 : decode cX3_addShow 79 = .ok (.invokevirtual 92, 3) := by decide +kernel
theorem dX3_addShow_82 : decode cX3_addShow 82 = .ok (.aload_n 0, 1) := by decide +kernel
theorem dX3_addShow_83 : decode cX3_addShow 83 = .ok (.getfield 10, 3) := by decide +kernel
theorem dX3_addShow_86 : decode cX3_addShow 86 = .ok (.getfield 89, 3) := by decide +kernel
theorem dX3_addShow_89 : decode cX3_addShow 89 = .ok (.iconst 1, 1) := by decide +kernel
theorem dX3_addShow_90 : decode cX3_addShow 90 = .ok (.isub, 1) := by decide +kernel
theorem dX3_addShow_91 : decode cX3_addShow 91 = .ok (.ireturn, 1) := by decide +kernel
theorem dX3_removeShow_0 : decode cX3_removeShow 0 = .ok (.aload_n 0, 1) := by decide +kernel
theorem dX3_removeShow_1 : decode cX3_removeShow 1 = .ok (.iload_n 1, 1) := by decide +kernel
theorem dX3_removeShow_2 : decode cX3_removeShow 2 = .ok (.invokevirtual 95, 3) := by decide +kernel
theorem dX3_removeShow_5 : decode cX3_removeShow 5 = .ok (.ifCond .ne 5, 3) := by decide +kernel
theorem dX3_removeShow_8 : decode cX3_removeShow 8 = .ok (.iconst (-1), 1) := by decide +kernel
theorem dX3_removeShow_9 : decode cX3_removeShow 9 = .ok (.ireturn, 1) := by decide +kernel
theorem dX3_removeShow_10 : decode cX3_removeShow 10 = .ok (.aload_n 0, 1) := by decide +kernel
theorem dX3_removeShow_11 : decode cX3_removeShow 11 = .ok (.getfield 22, 3) := by decide +kernel
theorem dX3_removeShow_14 : decode cX3_removeShow 14 = .ok (.aload_n 0, 1) := by decide +kernel
theorem dX3_removeShow_15 : decode cX3_removeShow 15 = .ok (.getfield 10, 3) := by decide +kernel
theorem dX3_removeShow_18 : decode cX3_removeShow 18 = .ok (.invokevirtual 41, 3) := by decide +kernel
theorem dX3_removeShow_21 : decode cX3_removeShow 21 = .ok (.aload_n 0, 1) := by decide +kernel
theorem dX3_removeShow_22 : decode cX3_removeShow 22 = .ok (.getfield 10, 3) := by decide +kernel
theorem dX3_removeShow_25 : decode cX3_removeShow 25 = .ok (.iload_n 1, 1) := by decide +kernel
theorem dX3_removeShow_26 : decode cX3_removeShow 26 = .ok (.invokevirtual 98, 3) := by decide +kernel
theorem dX3_removeShow_29 : decode cX3_removeShow 29 = .ok (.aload_n 0, 1) := by decide +kernel
theorem dX3_removeShow_30 : decode cX3_removeShow 30 = .ok (.getfield 10, 3) := by decide +kernel
theorem dX3_removeShow_33 : decode cX3_removeShow 33 = .ok (.getfield 89, 3) := by decide +kernel
theorem dX3_removeShow_36 : decode cX3_removeShow 36 = .ok (.ireturn, 1) := by decide +kernel
theorem dX3_moveShow_0 : decode cX3_moveShow 0 = .ok (.aload_n 0, 1) := by decide +kernel
theorem dX3_moveShow_1 : decode cX3_moveShow 1 = .ok (.iload_n 1, 1) := by decide +kernel
theorem dX3_moveShow_2 : decode cX3_moveShow 2 = .ok (.invokevirtual 95, 3) := by decide +kernel
theorem dX3_moveShow_5 : decode cX3_moveShow 5 = .ok (.ifCond .eq 14, 3) := by decide +kernel
theorem dX3_moveShow_8 : decode cX3_moveShow 8 = .ok (.iload_n 2, 1) := by decide +kernel
theorem dX3_moveShow_9 : decode cX3_moveShow 9 = .ok (.iconst 0, 1) := by decide +kernel
theorem dX3_moveShow_10 : decode cX3_moveShow 10 = .ok (.sipush 1439, 3) := by decide +kernel
theorem dX3_moveShow_13 : decode cX3_moveShow 13 = .ok (.invokestatic 33, 3) := by decide +kernel
theorem dX3_moveShow_16 : decode cX3_moveShow 16 = .ok (.ifCond .ne 5, 3) := by decide +kernel
theorem dX3_moveShow_19 : decode cX3_moveShow 19 = .ok (.iconst (-1), 1) := by decide +kernel
theorem dX3_moveShow_20 : decode cX3_moveShow 20 = .ok (.ireturn, 1) := by decide +kernel
theorem dX3_moveShow_21 : decode cX3_moveShow 21 = .ok (.aload_n 0, 1) := by decide +kernel
theorem dX3_moveShow_22 : decode cX3_moveShow 22 = .ok (.getfield 22, 3) := by decide +kernel
theorem dX3_moveShow_25 : decode cX3_moveShow 25 = .ok (.aload_n 0, 1) := by decide +kernel
theorem dX3_moveShow_26 : decode cX3_moveShow 26 = .ok (.getfield 10, 3) := by decide +kernel
theorem dX3_moveShow_29 : decode cX3_moveShow 29 = .ok (.invokevirtual 41, 3) := by decide +kernel
theorem dX3_moveShow_32 : decode cX3_moveShow 32 = .ok (.aload_n 0, 1) := by decide +kernel
theorem dX3_moveShow_33 : decode cX3_moveShow 33 = .ok (.getfield 10, 3) := by decide +kernel
theorem dX3_moveShow_36 : decode cX3_moveShow 36 = .ok (.getfield 101, 3) := by decide +kernel
theorem dX3_moveShow_39 : decode cX3_moveShow 39 = .ok (.iload_n 1, 1) := by decide +kernel
theorem dX3_moveShow_40 : decode cX3_moveShow 40 = .ok (.iaload, 1) := by decide +kernel
theorem dX3_moveShow_41 : decode cX3_moveShow 41 = .ok (.istore_n 3, 1) := by decide +kernel
theorem dX3_moveShow_42 : decode cX3_moveShow 42 = .ok (.aload_n 0, 1) := by decide +kernel
theorem dX3_moveShow_43 : decode cX3_moveShow 43 = .ok (.getfield 10, 3) := by decide +kernel
theorem dX3_moveShow_46 : decode cX3_moveShow 46 = .ok (.getfield 101, 3) := by decide +kernel
theorem dX3_moveShow_49 : decode cX3_moveShow 49 = .ok (.iload_n 1, 1) := by decide +kernel
theorem dX3_moveShow_50 : decode cX3_moveShow 50 = .ok (.iload_n 2, 1) := by decide +kernel
theorem dX3_moveShow_51 : decode cX3_moveShow 51 = .ok (.iastore, 1) := by decide +kernel
theorem dX3_moveShow_52 : decode cX3_moveShow 52 = .ok (.iload_n 3, 1) := by decide +kernel
theorem dX3_moveShow_53 : decode cX3_moveShow 53 = .ok (.ireturn, 1) := by decide +kernel
theorem dX3_addBreak_0 : decode cX3_addBreak 0 = .ok (.aload_n 0, 1) := by decide +kernel
theorem dX3_addBreak_1 : decode cX3_addBreak 1 = .ok (.iload_n 1, 1) := by decide +kernel
theorem dX3_addBreak_2 : decode cX3_addBreak 2 = .ok (.iload_n 2, 1) := by decide +kernel
theorem dX3_addBreak_3 : decode cX3_addBreak 3 = .ok (.invokevirtual 104, 3) := by decide +kernel
theorem dX3_addBreak_6 : decode cX3_addBreak 6 = .ok (.ifCond .eq 13, 3) := by decide +kernel
theorem dX3_addBreak_9 : decode cX3_addBreak 9 = .ok (.iload_n 3, 1) := by decide +kernel
theorem dX3_addBreak_10 : decode cX3_addBreak 10 = .ok (.iconst 1, 1) := by decide +kernel
theorem dX3_addBreak_11 : decode cX3_addBreak 11 = .ok (.bipush 60, 2) := by decide +kernel
theorem dX3_addBreak_13 : decode cX3_addBreak 13 = .ok (.invokestatic 33, 3) := by decide +kernel
theorem dX3_addBreak_16 : decode cX3_addBreak 16 = .ok (.ifCond .ne 5, 3) := by decide +kernel
theorem dX3_addBreak_19 : decode cX3_addBreak 19 = .ok (.iconst (-1), 1) := by decide +kernel
theorem dX3_addBreak_20 : decode cX3_addBreak 20 = .ok (.ireturn, 1) := by decide +kernel
theorem dX3_addBreak_21 : decode cX3_addBreak 21 = .ok (.aload_n 0, 1) := by decide +kernel
theorem dX3_addBreak_22 : decode cX3_addBreak 22 = .ok (.getfield 10, 3) := by decide +kernel
theorem dX3_addBreak_25 : decode cX3_addBreak 25 = .ok (.getfield 108, 3) := by decide +kernel
theorem dX3_addBreak_28 : decode cX3_addBreak 28 = .ok (.bipush 8, 2) := by decide +kernel
theorem dX3_addBreak_30 : decode cX3_addBreak 30 = .ok (.if_icmp .lt 6, 3) := by decide +kernel
theorem dX3_addBreak_33 : decode cX3_addBreak 33 = .ok (.bipush (-3), 2) := by decide +kernel
theorem dX3_addBreak_35 : decode cX3_addBreak 35 = .ok (.ireturn, 1) := by decide +kernel
theorem dX3_addBreak_36 : decode cX3_addBreak 36 = .ok (.aload_n 0, 1) := by decide +kernel
theorem dX3_addBreak_37 : decode cX3_addBreak 37 = .ok (.getfield 22, 3) := by decide +kernel
theorem dX3_addBreak_40 : decode cX3_addBreak 40 = .ok (.aload_n 0, 1) := by decide +kernel
theorem dX3_addBreak_41 : decode cX3_addBreak 41 = .ok (.getfield 10, 3) := by decide +kernel
theorem dX3_addBreak_44 : decode cX3_addBreak 44 = .ok (.invokevirtual 41, 3) := by decide +kernel
theorem dX3_addBreak_47 : decode cX3_addBreak 47 = .ok (.aload_n 0, 1) := by decide +kernel
theorem dX3_addBreak_48 : decode cX3_addBreak 48 = .ok (.getfield 10, 3) := by decide +kernel
theorem dX3_addBreak_51 : decode cX3_addBreak 51 = .ok (.iload_n 1, 1) := by decide +kernel
theorem dX3_addBreak_52 : decode cX3_addBreak 52 = .ok (.iload_n 2, 1) := by decide +kernel
theorem dX3_addBreak_53 : decode cX3_addBreak 53 = .ok (.iload_n 3, 1) := by decide +kernel
theorem dX3_addBreak_54 : decode cX3_addBreak 54 = .ok (.invokevirtual 111, 3) := by decide +kernel
theorem dX3_addBreak_57 : decode cX3_addBreak 57 = .ok (.aload_n 0, 1) := by decide +kernel
theorem dX3_addBreak_58 : decode cX3_addBreak 58 = .ok (.getfield 10, 3) := by decide +kernel
theorem dX3_addBreak_61 : decode cX3_addBreak 61 = .ok (.getfield 108, 3) := by decide +kernel
theorem dX3_addBreak_64 : decode cX3_addBreak 64 = .ok (.ireturn, 1) := by decide +kernel
theorem dX3_clearBreaks_0 : decode cX3_clearBreaks 0 = .ok (.aload_n 0, 1) := by decide +kernel
theorem dX3_clearBreaks_1 : decode cX3_clearBreaks 1 = .ok (.getfield 22, 3) := by decide +kernel
theorem dX3_clearBreaks_4 : decode cX3_clearBreaks 4 = .ok (.aload_n 0, 1) := by decide +kernel
theorem dX3_clearBreaks_5 : decode cX3_clearBreaks 5 = .ok (.getfield 10, 3) := by decide +kernel
theorem dX3_clearBreaks_8 : decode cX3_clearBreaks 8 = .ok (.invokevirtual 41, 3) := by decide +kernel
theorem dX3_clearBreaks_11 : decode cX3_clearBreaks 11 = .ok (.aload_n 0, 1) := by decide +kernel
theorem dX3_clearBreaks_12 : decode cX3_clearBreaks 12 = .ok (.getfield 10, 3) := by decide +kernel
theorem dX3_clearBreaks_15 : decode cX3_clearBreaks 15 = .ok (.getfield 108, 3) := by decide +kernel
theorem dX3_clearBreaks_18 : decode cX3_clearBreaks 18 = .ok (.istore_n 1, 1) := by decide +kernel
theorem dX3_clearBreaks_19 : decode cX3_clearBreaks 19 = .ok (.aload_n 0, 1) := by decide +kernel
theorem dX3_clearBreaks_20 : decode cX3_clearBreaks 20 = .ok (.getfield 10, 3) := by decide +kernel
theorem dX3_clearBreaks_23 : decode cX3_clearBreaks 23 = .ok (.iconst 0, 1) := by decide +kernel
theorem dX3_clearBreaks_24 : decode cX3_clearBreaks 24 = .ok (.putfield 108, 3) := by decide +kernel
theorem dX3_clearBreaks_27 : decode cX3_clearBreaks 27 = .ok (.iload_n 1, 1) := by decide +kernel
theorem dX3_clearBreaks_28 : decode cX3_clearBreaks 28 = .ok (.ireturn, 1) := by decide +kernel
theorem dX3_startOf_0 : decode cX3_startOf 0 = .ok (.aload_n 0, 1) := by decide +kernel
theorem dX3_startOf_1 : decode cX3_startOf 1 = .ok (.iload_n 1, 1) := by decide +kernel
theorem dX3_startOf_2 : decode cX3_startOf 2 = .ok (.iload_n 2, 1) := by decide +kernel
theorem dX3_startOf_3 : decode cX3_startOf 3 = .ok (.invokevirtual 104, 3) := by decide +kernel
theorem dX3_startOf_6 : decode cX3_startOf 6 = .ok (.ifCond .ne 5, 3) := by decide +kernel
theorem dX3_startOf_9 : decode cX3_startOf 9 = .ok (.iconst (-1), 1) := by decide +kernel
theorem dX3_startOf_10 : decode cX3_startOf 10 = .ok (.ireturn, 1) := by decide +kernel
theorem dX3_startOf_11 : decode cX3_startOf 11 = .ok (.aload_n 0, 1) := by decide +kernel
theorem dX3_startOf_12 : decode cX3_startOf 12 = .ok (.getfield 29, 3) := by decide +kernel
theorem dX3_startOf_15 : decode cX3_startOf 15 = .ok (.aload_n 0, 1) := by decide +kernel
theorem dX3_startOf_16 : decode cX3_startOf 16 = .ok (.getfield 10, 3) := by decide +kernel
theorem dX3_startOf_19 : decode cX3_startOf 19 = .ok (.invokevirtual 114, 3) := by decide +kernel
theorem dX3_startOf_22 : decode cX3_startOf 22 = .ok (.aload_n 0, 1) := by decide +kernel
theorem dX3_startOf_23 : decode cX3_startOf 23 = .ok (.getfield 29, 3) := by decide +kernel
theorem dX3_startOf_26 : decode cX3_startOf 26 = .ok (.getfield 117, 3) := by decide +kernel
theorem dX3_startOf_29 : decode cX3_startOf 29 = .ok (.iload_n 1, 1) := by decide +kernel
theorem dX3_startOf_30 : decode cX3_startOf 30 = .ok (.baload, 1) := by decide +kernel
theorem dX3_startOf_31 : decode cX3_startOf 31 = .ok (.ifCond .eq 19, 3) := by decide +kernel
theorem dX3_startOf_34 : decode cX3_startOf 34 = .ok (.aload_n 0, 1) := by decide +kernel
theorem dX3_startOf_35 : decode cX3_startOf 35 = .ok (.getfield 29, 3) := by decide +kernel
theorem dX3_startOf_38 : decode cX3_startOf 38 = .ok (.getfield 121, 3) := by decide +kernel
theorem dX3_startOf_41 : decode cX3_startOf 41 = .ok (.iload_n 1, 1) := by decide +kernel
theorem dX3_startOf_42 : decode cX3_startOf 42 = .ok (.iload_n 2, 1) := by decide +kernel
theorem dX3_startOf_43 : decode cX3_startOf 43 = .ok (.invokestatic 124, 3) := by decide +kernel
theorem dX3_startOf_46 : decode cX3_startOf 46 = .ok (.iaload, 1) := by decide +kernel
theorem dX3_startOf_47 : decode cX3_startOf 47 = .ok (.goto 5, 3) := by decide +kernel
theorem dX3_startOf_50 : decode cX3_startOf 50 = .ok (.bipush (-4), 2) := by decide +kernel
theorem dX3_startOf_52 : decode cX3_startOf 52 = .ok (.ireturn, 1) := by decide +kernel
theorem dX3_machineOf_0 : decode cX3_machineOf 0 = .ok (.aload_n 0, 1) := by decide +kernel
theorem dX3_machineOf_1 : decode cX3_machineOf 1 = .ok (.iload_n 1, 1) := by decide +kernel
theorem dX3_machineOf_2 : decode cX3_machineOf 2 = .ok (.iload_n 2, 1) := by decide +kernel
theorem dX3_machineOf_3 : decode cX3_machineOf 3 = .ok (.invokevirtual 104, 3) := by decide +kernel
theorem dX3_machineOf_6 : decode cX3_machineOf 6 = .ok (.ifCond .ne 5, 3) := by decide +kernel
theorem dX3_machineOf_9 : decode cX3_machineOf 9 = .ok (.iconst (-1), 1) := by decide +kernel
theorem dX3_machineOf_10 : decode cX3_machineOf 10 = .ok (.ireturn, 1) := by decide +kernel
theorem dX3_machineOf_11 : decode cX3_machineOf 11 = .ok (.aload_n 0, 1) := by decide +kernel
theorem dX3_machineOf_12 : decode cX3_machineOf 12 = .ok (.getfield 29, 3) := by decide +kernel
theorem dX3_machineOf_15 : decode cX3_machineOf 15 = .ok (.aload_n 0, 1) := by decide +kernel
theorem dX3_machineOf_16 : decode cX3_machineOf 16 = .ok (.getfield 10, 3) := by decide +kernel
theorem dX3_machineOf_19 : decode cX3_machineOf 19 = .ok (.invokevirtual 114, 3) := by decide +kernel
theorem dX3_machineOf_22 : decode cX3_machineOf 22 = .ok (.aload_n 0, 1) := by decide +kernel
theorem dX3_machineOf_23 : decode cX3_machineOf 23 = .ok (.getfield 29, 3) := by decide +kernel
theorem dX3_machineOf_26 : decode cX3_machineOf 26 = .ok (.getfield 117, 3) := by decide +kernel
theorem dX3_machineOf_29 : decode cX3_machineOf 29 = .ok (.iload_n 1, 1) := by decide +kernel
theorem dX3_machineOf_30 : decode cX3_machineOf 30 = .ok (.baload, 1) := by decide +kernel
theorem dX3_machineOf_31 : decode cX3_machineOf 31 = .ok (.ifCond .eq 19, 3) := by decide +kernel
theorem dX3_machineOf_34 : decode cX3_machineOf 34 = .ok (.aload_n 0, 1) := by decide +kernel
theorem dX3_machineOf_35 : decode cX3_machineOf 35 = .ok (.getfield 29, 3) := by decide +kernel
theorem dX3_machineOf_38 : decode cX3_machineOf 38 = .ok (.getfield 128, 3) := by decide +kernel
theorem dX3_machineOf_41 : decode cX3_machineOf 41 = .ok (.iload_n 1, 1) := by decide +kernel
theorem dX3_machineOf_42 : decode cX3_machineOf 42 = .ok (.iload_n 2, 1) := by decide +kernel
theorem dX3_machineOf_43 : decode cX3_machineOf 43 = .ok (.invokestatic 124, 3) := by decide +kernel
theorem dX3_machineOf_46 : decode cX3_machineOf 46 = .ok (.iaload, 1) := by decide +kernel
theorem dX3_machineOf_47 : decode cX3_machineOf 47 = .ok (.goto 5, 3) := by decide +kernel
theorem dX3_machineOf_50 : decode cX3_machineOf 50 = .ok (.bipush (-4), 2) := by decide +kernel
theorem dX3_machineOf_52 : decode cX3_machineOf 52 = .ok (.ireturn, 1) := by decide +kernel
theorem dX3_endOf_0 : decode cX3_endOf 0 = .ok (.aload_n 0, 1) := by decide +kernel
theorem dX3_endOf_1 : decode cX3_endOf 1 = .ok (.iload_n 1, 1) := by decide +kernel
theorem dX3_endOf_2 : decode cX3_endOf 2 = .ok (.invokevirtual 95, 3) := by decide +kernel
theorem dX3_endOf_5 : decode cX3_endOf 5 = .ok (.ifCond .ne 5, 3) := by decide +kernel
theorem dX3_endOf_8 : decode cX3_endOf 8 = .ok (.iconst (-1), 1) := by decide +kernel
theorem dX3_endOf_9 : decode cX3_endOf 9 = .ok (.ireturn, 1) := by decide +kernel
theorem dX3_endOf_10 : decode cX3_endOf 10 = .ok (.aload_n 0, 1) := by decide +kernel
theorem dX3_endOf_11 : decode cX3_endOf 11 = .ok (.getfield 29, 3) := by decide +kernel
theorem dX3_endOf_14 : decode cX3_endOf 14 = .ok (.aload_n 0, 1) := by decide +kernel
theorem dX3_endOf_15 : decode cX3_endOf 15 = .ok (.getfield 10, 3) := by decide +kernel
theorem dX3_endOf_18 : decode cX3_endOf 18 = .ok (.invokevirtual 114, 3) := by decide +kernel
theorem dX3_endOf_21 : decode cX3_endOf 21 = .ok (.aload_n 0, 1) := by decide +kernel
theorem dX3_endOf_22 : decode cX3_endOf 22 = .ok (.getfield 29, 3) := by decide +kernel
theorem dX3_endOf_25 : decode cX3_endOf 25 = .ok (.getfield 117, 3) := by decide +kernel
theorem dX3_endOf_28 : decode cX3_endOf 28 = .ok (.iload_n 1, 1) := by decide +kernel
theorem dX3_endOf_29 : decode cX3_endOf 29 = .ok (.baload, 1) := by decide +kernel
theorem dX3_endOf_30 : decode cX3_endOf 30 = .ok (.ifCond .eq 15, 3) := by decide +kernel
theorem dX3_endOf_33 : decode cX3_endOf 33 = .ok (.aload_n 0, 1) := by decide +kernel
theorem dX3_endOf_34 : decode cX3_endOf 34 = .ok (.getfield 29, 3) := by decide +kernel
theorem dX3_endOf_37 : decode cX3_endOf 37 = .ok (.getfield 131, 3) := by decide +kernel
theorem dX3_endOf_40 : decode cX3_endOf 40 = .ok (.iload_n 1, 1) := by decide +kernel
theorem dX3_endOf_41 : decode cX3_endOf 41 = .ok (.iaload, 1) := by decide +kernel
theorem dX3_endOf_42 : decode cX3_endOf 42 = .ok (.goto 5, 3) := by decide +kernel
theorem dX3_endOf_45 : decode cX3_endOf 45 = .ok (.bipush (-4), 2) := by decide +kernel
theorem dX3_endOf_47 : decode cX3_endOf 47 = .ok (.ireturn, 1) := by decide +kernel
theorem dX3_delayOf_0 : decode cX3_delayOf 0 = .ok (.aload_n 0, 1) := by decide +kernel
theorem dX3_delayOf_1 : decode cX3_delayOf 1 = .ok (.iload_n 1, 1) := by decide +kernel
theorem dX3_delayOf_2 : decode cX3_delayOf 2 = .ok (.invokevirtual 95, 3) := by decide +kernel
theorem dX3_delayOf_5 : decode cX3_delayOf 5 = .ok (.ifCond .ne 5, 3) := by decide +kernel
theorem dX3_delayOf_8 : decode cX3_delayOf 8 = .ok (.iconst (-1), 1) := by decide +kernel
theorem dX3_delayOf_9 : decode cX3_delayOf 9 = .ok (.ireturn, 1) := by decide +kernel
theorem dX3_delayOf_10 : decode cX3_delayOf 10 = .ok (.aload_n 0, 1) := by decide +kernel
theorem dX3_delayOf_11 : decode cX3_delayOf 11 = .ok (.getfield 29, 3) := by decide +kernel
theorem dX3_delayOf_14 : decode cX3_delayOf 14 = .ok (.aload_n 0, 1) := by decide +kernel
theorem dX3_delayOf_15 : decode cX3_delayOf 15 = .ok (.getfield 10, 3) := by decide +kernel
theorem dX3_delayOf_18 : decode cX3_delayOf 18 = .ok (.invokevirtual 114, 3) := by decide +kernel
theorem dX3_delayOf_21 : decode cX3_delayOf 21 = .ok (.aload_n 0, 1) := by decide +kernel
theorem dX3_delayOf_22 : decode cX3_delayOf 22 = .ok (.getfield 29, 3) := by decide +kernel
theorem dX3_delayOf_25 : decode cX3_delayOf 25 = .ok (.getfield 134, 3) := by decide +kernel
theorem dX3_delayOf_28 : decode cX3_delayOf 28 = .ok (.iload_n 1, 1) := by decide +kernel
theorem dX3_delayOf_29 : decode cX3_delayOf 29 = .ok (.iaload, 1) := by decide +kernel
theorem dX3_delayOf_30 : decode cX3_delayOf 30 = .ok (.ireturn, 1) := by decide +kernel
theorem dX3_gapOf_0 : decode cX3_gapOf 0 = .ok (.aload_n 0, 1) := by decide +kernel
theorem dX3_gapOf_1 : decode cX3_gapOf 1 = .ok (.iload_n 1, 1) := by decide +kernel
theorem dX3_gapOf_2 : decode cX3_gapOf 2 = .ok (.invokevirtual 95, 3) := by decide +kernel
theorem dX3_gapOf_5 : decode cX3_gapOf 5 = .ok (.ifCond .ne 5, 3) := by decide +kernel
theorem dX3_gapOf_8 : decode cX3_gapOf 8 = .ok (.iconst (-1), 1) := by decide +kernel
theorem dX3_gapOf_9 : decode cX3_gapOf 9 = .ok (.ireturn, 1) := by decide +kernel
theorem dX3_gapOf_10 : decode cX3_gapOf 10 = .ok (.aload_n 0, 1) := by decide +kernel
theorem dX3_gapOf_11 : decode cX3_gapOf 11 = .ok (.getfield 29, 3) := by decide +kernel
theorem dX3_gapOf_14 : decode cX3_gapOf 14 = .ok (.aload_n 0, 1) := by decide +kernel
theorem dX3_gapOf_15 : decode cX3_gapOf 15 = .ok (.getfield 10, 3) := by decide +kernel
theorem dX3_gapOf_18 : decode cX3_gapOf 18 = .ok (.invokevirtual 114, 3) := by decide +kernel
theorem dX3_gapOf_21 : decode cX3_gapOf 21 = .ok (.aload_n 0, 1) := by decide +kernel
theorem dX3_gapOf_22 : decode cX3_gapOf 22 = .ok (.getfield 29, 3) := by decide +kernel
theorem dX3_gapOf_25 : decode cX3_gapOf 25 = .ok (.getfield 137, 3) := by decide +kernel
theorem dX3_gapOf_28 : decode cX3_gapOf 28 = .ok (.iload_n 1, 1) := by decide +kernel
theorem dX3_gapOf_29 : decode cX3_gapOf 29 = .ok (.iaload, 1) := by decide +kernel
theorem dX3_gapOf_30 : decode cX3_gapOf 30 = .ok (.ireturn, 1) := by decide +kernel
theorem dX3_loss_0 : decode cX3_loss 0 = .ok (.aload_n 0, 1) := by decide +kernel
theorem dX3_loss_1 : decode cX3_loss 1 = .ok (.getfield 29, 3) := by decide +kernel
theorem dX3_loss_4 : decode cX3_loss 4 = .ok (.aload_n 0, 1) := by decide +kernel
theorem dX3_loss_5 : decode cX3_loss 5 = .ok (.getfield 10, 3) := by decide +kernel
theorem dX3_loss_8 : decode cX3_loss 8 = .ok (.invokevirtual 140, 3) := by decide +kernel
theorem dX3_loss_11 : decode cX3_loss 11 = .ok (.ireturn, 1) := by decide +kernel
theorem dX3_carriedReels_0 : decode cX3_carriedReels 0 = .ok (.aload_n 0, 1) := by decide +kernel
theorem dX3_carriedReels_1 : decode cX3_carriedReels 1 = .ok (.getfield 29, 3) := by decide +kernel
theorem dX3_carriedReels_4 : decode cX3_carriedReels 4 = .ok (.aload_n 0, 1) := by decide +kernel
theorem dX3_carriedReels_5 : decode cX3_carriedReels 5 = .ok (.getfield 10, 3) := by decide +kernel
theorem dX3_carriedReels_8 : decode cX3_carriedReels 8 = .ok (.invokevirtual 114, 3) := by decide +kernel
theorem dX3_carriedReels_11 : decode cX3_carriedReels 11 = .ok (.aload_n 0, 1) := by decide +kernel
theorem dX3_carriedReels_12 : decode cX3_carriedReels 12 = .ok (.getfield 29, 3) := by decide +kernel
theorem dX3_carriedReels_15 : decode cX3_carriedReels 15 = .ok (.getfield 144, 3) := by decide +kernel
theorem dX3_carriedReels_18 : decode cX3_carriedReels 18 = .ok (.ireturn, 1) := by decide +kernel
theorem dX3_plateChanges_0 : decode cX3_plateChanges 0 = .ok (.aload_n 0, 1) := by decide +kernel
theorem dX3_plateChanges_1 : decode cX3_plateChanges 1 = .ok (.getfield 29, 3) := by decide +kernel
theorem dX3_plateChanges_4 : decode cX3_plateChanges 4 = .ok (.aload_n 0, 1) := by decide +kernel
theorem dX3_plateChanges_5 : decode cX3_plateChanges 5 = .ok (.getfield 10, 3) := by decide +kernel
theorem dX3_plateChanges_8 : decode cX3_plateChanges 8 = .ok (.invokevirtual 114, 3) := by decide +kernel
theorem dX3_plateChanges_11 : decode cX3_plateChanges 11 = .ok (.aload_n 0, 1) := by decide +kernel
theorem dX3_plateChanges_12 : decode cX3_plateChanges 12 = .ok (.getfield 29, 3) := by decide +kernel
theorem dX3_plateChanges_15 : decode cX3_plateChanges 15 = .ok (.getfield 147, 3) := by decide +kernel
theorem dX3_plateChanges_18 : decode cX3_plateChanges 18 = .ok (.ireturn, 1) := by decide +kernel
theorem dX3_machineTime_0 : decode cX3_machineTime 0 = .ok (.aload_n 0, 1) := by decide +kernel
theorem dX3_machineTime_1 : decode cX3_machineTime 1 = .ok (.iload_n 1, 1) := by decide +kernel
theorem dX3_machineTime_2 : decode cX3_machineTime 2 = .ok (.invokevirtual 68, 3) := by decide +kernel
theorem dX3_machineTime_5 : decode cX3_machineTime 5 = .ok (.ifCond .ne 5, 3) := by decide +kernel
theorem dX3_machineTime_8 : decode cX3_machineTime 8 = .ok (.iconst (-1), 1) := by decide +kernel
theorem dX3_machineTime_9 : decode cX3_machineTime 9 = .ok (.ireturn, 1) := by decide +kernel
theorem dX3_machineTime_10 : decode cX3_machineTime 10 = .ok (.aload_n 0, 1) := by decide +kernel
theorem dX3_machineTime_11 : decode cX3_machineTime 11 = .ok (.getfield 29, 3) := by decide +kernel
theorem dX3_machineTime_14 : decode cX3_machineTime 14 = .ok (.aload_n 0, 1) := by decide +kernel
theorem dX3_machineTime_15 : decode cX3_machineTime 15 = .ok (.getfield 10, 3) := by decide +kernel
theorem dX3_machineTime_18 : decode cX3_machineTime 18 = .ok (.invokevirtual 114, 3) := by decide +kernel
theorem dX3_machineTime_21 : decode cX3_machineTime 21 = .ok (.aload_n 0, 1) := by decide +kernel
theorem dX3_machineTime_22 : decode cX3_machineTime 22 = .ok (.getfield 29, 3) := by decide +kernel
theorem dX3_machineTime_25 : decode cX3_machineTime 25 = .ok (.getfield 150, 3) := by decide +kernel
theorem dX3_machineTime_28 : decode cX3_machineTime 28 = .ok (.iload_n 1, 1) := by decide +kernel
theorem dX3_machineTime_29 : decode cX3_machineTime 29 = .ok (.iaload, 1) := by decide +kernel
theorem dX3_machineTime_30 : decode cX3_machineTime 30 = .ok (.ireturn, 1) := by decide +kernel
theorem dX3_leastShift_0 : decode cX3_leastShift 0 = .ok (.aload_n 0, 1) := by decide +kernel
theorem dX3_leastShift_1 : decode cX3_leastShift 1 = .ok (.iload_n 1, 1) := by decide +kernel
theorem dX3_leastShift_2 : decode cX3_leastShift 2 = .ok (.invokevirtual 95, 3) := by decide +kernel
theorem dX3_leastShift_5 : decode cX3_leastShift 5 = .ok (.ifCond .ne 5, 3) := by decide +kernel
theorem dX3_leastShift_8 : decode cX3_leastShift 8 = .ok (.iconst (-1), 1) := by decide +kernel
theorem dX3_leastShift_9 : decode cX3_leastShift 9 = .ok (.ireturn, 1) := by decide +kernel
theorem dX3_leastShift_10 : decode cX3_leastShift 10 = .ok (.aload_n 0, 1) := by decide +kernel
theorem dX3_leastShift_11 : decode cX3_leastShift 11 = .ok (.getfield 16, 3) := by decide +kernel
theorem dX3_leastShift_14 : decode cX3_leastShift 14 = .ok (.aload_n 0, 1) := by decide +kernel
theorem dX3_leastShift_15 : decode cX3_leastShift 15 = .ok (.getfield 10, 3) := by decide +kernel
theorem dX3_leastShift_18 : decode cX3_leastShift 18 = .ok (.invokevirtual 153, 3) := by decide +kernel
theorem dX3_leastShift_21 : decode cX3_leastShift 21 = .ok (.sipush 180, 3) := by decide +kernel
theorem dX3_leastShift_24 : decode cX3_leastShift 24 = .ok (.sipush 1439, 3) := by decide +kernel
theorem dX3_leastShift_27 : decode cX3_leastShift 27 = .ok (.aload_n 0, 1) := by decide +kernel
theorem dX3_leastShift_28 : decode cX3_leastShift 28 = .ok (.getfield 10, 3) := by decide +kernel
theorem dX3_leastShift_31 : decode cX3_leastShift 31 = .ok (.getfield 101, 3) := by decide +kernel
theorem dX3_leastShift_34 : decode cX3_leastShift 34 = .ok (.iload_n 1, 1) := by decide +kernel
theorem dX3_leastShift_35 : decode cX3_leastShift 35 = .ok (.iaload, 1) := by decide +kernel
theorem dX3_leastShift_36 : decode cX3_leastShift 36 = .ok (.isub, 1) := by decide +kernel
theorem dX3_leastShift_37 : decode cX3_leastShift 37 = .ok (.invokestatic 156, 3) := by decide +kernel
theorem dX3_leastShift_40 : decode cX3_leastShift 40 = .ok (.istore_n 2, 1) := by decide +kernel
theorem dX3_leastShift_41 : decode cX3_leastShift 41 = .ok (.iconst 0, 1) := by decide +kernel
theorem dX3_leastShift_42 : decode cX3_leastShift 42 = .ok (.istore_n 3, 1) := by decide +kernel
theorem dX3_leastShift_43 : decode cX3_leastShift 43 = .ok (.iload_n 3, 1) := by decide +kernel
theorem dX3_leastShift_44 : decode cX3_leastShift 44 = .ok (.iload_n 2, 1) := by decide +kernel
theorem dX3_leastShift_45 : decode cX3_leastShift 45 = .ok (.if_icmp .gt 45, 3) := by decide +kernel
theorem dX3_leastShift_48 : decode cX3_leastShift 48 = .ok (.aload_n 0, 1) := by decide +kernel
theorem dX3_leastShift_49 : decode cX3_leastShift 49 = .ok (.getfield 16, 3) := by decide +kernel
theorem dX3_leastShift_52 : decode cX3_leastShift 52 = .ok (.getfield 101, 3) := by decide +kernel
theorem dX3_leastShift_55 : decode cX3_leastShift 55 = .ok (.iload_n 1, 1) := by decide +kernel
theorem dX3_leastShift_56 : decode cX3_leastShift 56 = .ok (.aload_n 0, 1) := by decide +kernel
theorem dX3_leastShift_57 : decode cX3_leastShift 57 = .ok (.getfield 10, 3) := by decide +kernel
theorem dX3_leastShift_60 : decode cX3_leastShift 60 = .ok (.getfield 101, 3) := by decide +kernel
theorem dX3_leastShift_63 : decode cX3_leastShift 63 = .ok (.iload_n 1, 1) := by decide +kernel
theorem dX3_leastShift_64 : decode cX3_leastShift 64 = .ok (.iaload, 1) := by decide +kernel
theorem dX3_leastShift_65 : decode cX3_leastShift 65 = .ok (.iload_n 3, 1) := by decide +kernel
theorem dX3_leastShift_66 : decode cX3_leastShift 66 = .ok (.iadd, 1) := by decide +kernel
theorem dX3_leastShift_67 : decode cX3_leastShift 67 = .ok (.iastore, 1) := by decide +kernel
theorem dX3_leastShift_68 : decode cX3_leastShift 68 = .ok (.aload_n 0, 1) := by decide +kernel
theorem dX3_leastShift_69 : decode cX3_leastShift 69 = .ok (.getfield 29, 3) := by decide +kernel
theorem dX3_leastShift_72 : decode cX3_leastShift 72 = .ok (.aload_n 0, 1) := by decide +kernel
theorem dX3_leastShift_73 : decode cX3_leastShift 73 = .ok (.getfield 16, 3) := by decide +kernel
theorem dX3_leastShift_76 : decode cX3_leastShift 76 = .ok (.invokevirtual 161, 3) := by decide +kernel
theorem dX3_leastShift_79 : decode cX3_leastShift 79 = .ok (.ifCond .eq 5, 3) := by decide +kernel
theorem dX3_leastShift_82 : decode cX3_leastShift 82 = .ok (.iload_n 3, 1) := by decide +kernel
theorem dX3_leastShift_83 : decode cX3_leastShift 83 = .ok (.ireturn, 1) := by decide +kernel
theorem dX3_leastShift_84 : decode cX3_leastShift 84 = .ok (.iinc 3 1, 3) := by decide +kernel
theorem dX3_leastShift_87 : decode cX3_leastShift 87 = .ok (.goto (-44), 3) := by decide +kernel
theorem dX3_leastShift_90 : decode cX3_leastShift 90 = .ok (.bipush (-4), 2) := by decide +kernel
theorem dX3_leastShift_92 : decode cX3_leastShift 92 = .ok (.ireturn, 1) := by decide +kernel
theorem dX3_removalGain_0 : decode cX3_removalGain 0 = .ok (.aload_n 0, 1) := by decide +kernel
theorem dX3_removalGain_1 : decode cX3_removalGain 1 = .ok (.iload_n 1, 1) := by decide +kernel
theorem dX3_removalGain_2 : decode cX3_removalGain 2 = .ok (.invokevirtual 95, 3) := by decide +kernel
theorem dX3_removalGain_5 : decode cX3_removalGain 5 = .ok (.ifCond .ne 6, 3) := by decide +kernel
theorem dX3_removalGain_8 : decode cX3_removalGain 8 = .ok (.ldc 165, 2) := by decide +kernel
theorem dX3_removalGain_10 : decode cX3_removalGain 10 = .ok (.ireturn, 1) := by decide +kernel
theorem dX3_removalGain_11 : decode cX3_removalGain 11 = .ok (.aload_n 0, 1) := by decide +kernel
theorem dX3_removalGain_12 : decode cX3_removalGain 12 = .ok (.getfield 16, 3) := by decide +kernel
theorem dX3_removalGain_15 : decode cX3_removalGain 15 = .ok (.aload_n 0, 1) := by decide +kernel
theorem dX3_removalGain_16 : decode cX3_removalGain 16 = .ok (.getfield 10, 3) := by decide +kernel
theorem dX3_removalGain_19 : decode cX3_removalGain 19 = .ok (.invokevirtual 153, 3) := by decide +kernel
theorem dX3_removalGain_22 : decode cX3_removalGain 22 = .ok (.aload_n 0, 1) := by decide +kernel
theorem dX3_removalGain_23 : decode cX3_removalGain 23 = .ok (.getfield 16, 3) := by decide +kernel
theorem dX3_removalGain_26 : decode cX3_removalGain 26 = .ok (.iload_n 1, 1) := by decide +kernel
theorem dX3_removalGain_27 : decode cX3_removalGain 27 = .ok (.invokevirtual 98, 3) := by decide +kernel
theorem dX3_removalGain_30 : decode cX3_removalGain 30 = .ok (.aload_n 0, 1) := by decide +kernel
theorem dX3_removalGain_31 : decode cX3_removalGain 31 = .ok (.getfield 29, 3) := by decide +kernel
theorem dX3_removalGain_34 : decode cX3_removalGain 34 = .ok (.aload_n 0, 1) := by decide +kernel
theorem dX3_removalGain_35 : decode cX3_removalGain 35 = .ok (.getfield 10, 3) := by decide +kernel
theorem dX3_removalGain_38 : decode cX3_removalGain 38 = .ok (.invokevirtual 140, 3) := by decide +kernel
theorem dX3_removalGain_41 : decode cX3_removalGain 41 = .ok (.aload_n 0, 1) := by decide +kernel
theorem dX3_removalGain_42 : decode cX3_removalGain 42 = .ok (.getfield 29, 3) := by decide +kernel
theorem dX3_removalGain_45 : decode cX3_removalGain 45 = .ok (.aload_n 0, 1) := by decide +kernel
theorem dX3_removalGain_46 : decode cX3_removalGain 46 = .ok (.getfield 16, 3) := by decide +kernel
theorem dX3_removalGain_49 : decode cX3_removalGain 49 = .ok (.invokevirtual 140, 3) := by decide +kernel
theorem dX3_removalGain_52 : decode cX3_removalGain 52 = .ok (.isub, 1) := by decide +kernel
theorem dX3_removalGain_53 : decode cX3_removalGain 53 = .ok (.ireturn, 1) := by decide +kernel
theorem dX3_bestHomes_0 : decode cX3_bestHomes 0 = .ok (.aload_n 0, 1) := by decide +kernel
theorem dX3_bestHomes_1 : decode cX3_bestHomes 1 = .ok (.getfield 16, 3) := by decide +kernel
theorem dX3_bestHomes_4 : decode cX3_bestHomes 4 = .ok (.aload_n 0, 1) := by decide +kernel
theorem dX3_bestHomes_5 : decode cX3_bestHomes 5 = .ok (.getfield 10, 3) := by decide +kernel
theorem dX3_bestHomes_8 : decode cX3_bestHomes 8 = .ok (.invokevirtual 153, 3) := by decide +kernel
theorem dX3_bestHomes_11 : decode cX3_bestHomes 11 = .ok (.aload_n 0, 1) := by decide +kernel
theorem dX3_bestHomes_12 : decode cX3_bestHomes 12 = .ok (.getfield 16, 3) := by decide +kernel
theorem dX3_bestHomes_15 : decode cX3_bestHomes 15 = .ok (.iconst 0, 1) := by decide +kernel
theorem dX3_bestHomes_16 : decode cX3_bestHomes 16 = .ok (.invokevirtual 166, 3) := by decide +kernel
theorem dX3_bestHomes_19 : decode cX3_bestHomes 19 = .ok (.iconst 0, 1) := by decide +kernel
theorem dX3_bestHomes_20 : decode cX3_bestHomes 20 = .ok (.istore_n 1, 1) := by decide +kernel
theorem dX3_bestHomes_21 : decode cX3_bestHomes 21 = .ok (.aload_n 0, 1) := by decide +kernel
theorem dX3_bestHomes_22 : decode cX3_bestHomes 22 = .ok (.getfield 29, 3) := by decide +kernel
theorem dX3_bestHomes_25 : decode cX3_bestHomes 25 = .ok (.aload_n 0, 1) := by decide +kernel
theorem dX3_bestHomes_26 : decode cX3_bestHomes 26 = .ok (.getfield 16, 3) := by decide +kernel
theorem dX3_bestHomes_29 : decode cX3_bestHomes 29 = .ok (.invokevirtual 140, 3) := by decide +kernel
theorem dX3_bestHomes_32 : decode cX3_bestHomes 32 = .ok (.istore_n 2, 1) := by decide +kernel
theorem dX3_bestHomes_33 : decode cX3_bestHomes 33 = .ok (.iconst 1, 1) := by decide +kernel
theorem dX3_bestHomes_34 : decode cX3_bestHomes 34 = .ok (.istore_n 3, 1) := by decide +kernel
theorem dX3_bestHomes_35 : decode cX3_bestHomes 35 = .ok (.iload_n 3, 1) := by decide +kernel
theorem dX3_bestHomes_36 : decode cX3_bestHomes 36 = .ok (.bipush 16, 2) := by decide +kernel
theorem dX3_bestHomes_38 : decode cX3_bestHomes 38 = .ok (.if_icmp .ge 41, 3) := by decide +kernel
theorem dX3_bestHomes_41 : decode cX3_bestHomes 41 = .ok (.aload_n 0, 1) := by decide +kernel
theorem dX3_bestHomes_42 : decode cX3_bestHomes 42 = .ok (.getfield 16, 3) := by decide +kernel
theorem dX3_bestHomes_45 : decode cX3_bestHomes 45 = .ok (.iload_n 3, 1) := by decide +kernel
theorem dX3_bestHomes_46 : decode cX3_bestHomes 46 = .ok (.invokevirtual 166, 3) := by decide +kernel
theorem dX3_bestHomes_49 : decode cX3_bestHomes 49 = .ok (.aload_n 0, 1) := by decide +kernel
theorem dX3_bestHomes_50 : decode cX3_bestHomes 50 = .ok (.getfield 29, 3) := by decide +kernel
theorem dX3_bestHomes_53 : decode cX3_bestHomes 53 = .ok (.aload_n 0, 1) := by decide +kernel
theorem dX3_bestHomes_54 : decode cX3_bestHomes 54 = .ok (.getfield 16, 3) := by decide +kernel
theorem dX3_bestHomes_57 : decode cX3_bestHomes 57 = .ok (.invokevirtual 140, 3) := by decide +kernel
theorem dX3_bestHomes_60 : decode cX3_bestHomes 60 = .ok (.istore 4, 2) := by decide +kernel
theorem dX3_bestHomes_62 : decode cX3_bestHomes 62 = .ok (.iload 4, 2) := by decide +kernel
theorem dX3_bestHomes_64 : decode cX3_bestHomes 64 = .ok (.iload_n 2, 1) := by decide +kernel
theorem dX3_bestHomes_65 : decode cX3_bestHomes 65 = .ok (.if_icmp .ge 8, 3) := by decide +kernel
theorem dX3_bestHomes_68 : decode cX3_bestHomes 68 = .ok (.iload_n 3, 1) := by decide +kernel
theorem dX3_bestHomes_69 : decode cX3_bestHomes 69 = .ok (.istore_n 1, 1) := by decide +kernel
theorem dX3_bestHomes_70 : decode cX3_bestHomes 70 = .ok (.iload 4, 2) := by decide +kernel
theorem dX3_bestHomes_72 : decode cX3_bestHomes 72 = .ok (.istore_n 2, 1) := by decide +kernel
theorem dX3_bestHomes_73 : decode cX3_bestHomes 73 = .ok (.iinc 3 1, 3) := by decide +kernel
theorem dX3_bestHomes_76 : decode cX3_bestHomes 76 = .ok (.goto (-41), 3) := by decide +kernel
theorem dX3_bestHomes_79 : decode cX3_bestHomes 79 = .ok (.iload_n 1, 1) := by decide +kernel
theorem dX3_bestHomes_80 : decode cX3_bestHomes 80 = .ok (.ireturn, 1) := by decide +kernel
theorem dX3_missingMachines_0 : decode cX3_missingMachines 0 = .ok (.iload_n 1, 1) := by decide +kernel
theorem dX3_missingMachines_1 : decode cX3_missingMachines 1 = .ok (.iconst 0, 1) := by decide +kernel
theorem dX3_missingMachines_2 : decode cX3_missingMachines 2 = .ok (.iconst 1, 1) := by decide +kernel
theorem dX3_missingMachines_3 : decode cX3_missingMachines 3 = .ok (.invokestatic 33, 3) := by decide +kernel
theorem dX3_missingMachines_6 : decode cX3_missingMachines 6 = .ok (.ifCond .ne 5, 3) := by decide +kernel
theorem dX3_missingMachines_9 : decode cX3_missingMachines 9 = .ok (.iconst (-1), 1) := by decide +kernel
theorem dX3_missingMachines_10 : decode cX3_missingMachines 10 = .ok (.ireturn, 1) := by decide +kernel
theorem dX3_missingMachines_11 : decode cX3_missingMachines 11 = .ok (.aload_n 0, 1) := by decide +kernel
theorem dX3_missingMachines_12 : decode cX3_missingMachines 12 = .ok (.getfield 16, 3) := by decide +kernel
theorem dX3_missingMachines_15 : decode cX3_missingMachines 15 = .ok (.aload_n 0, 1) := by decide +kernel
theorem dX3_missingMachines_16 : decode cX3_missingMachines 16 = .ok (.getfield 10, 3) := by decide +kernel
theorem dX3_missingMachines_19 : decode cX3_missingMachines 19 = .ok (.invokevirtual 153, 3) := by decide +kernel
theorem dX3_missingMachines_22 : decode cX3_missingMachines 22 = .ok (.aload_n 0, 1) := by decide +kernel
theorem dX3_missingMachines_23 : decode cX3_missingMachines 23 = .ok (.getfield 29, 3) := by decide +kernel
theorem dX3_missingMachines_26 : decode cX3_missingMachines 26 = .ok (.aload_n 0, 1) := by decide +kernel
theorem dX3_missingMachines_27 : decode cX3_missingMachines 27 = .ok (.getfield 16, 3) := by decide +kernel
theorem dX3_missingMachines_30 : decode cX3_missingMachines 30 = .ok (.invokevirtual 161, 3) := by decide +kernel
theorem dX3_missingMachines_33 : decode cX3_missingMachines 33 = .ok (.ifCond .eq 5, 3) := by decide +kernel
theorem dX3_missingMachines_36 : decode cX3_missingMachines 36 = .ok (.iconst 0, 1) := by decide +kernel
theorem dX3_missingMachines_37 : decode cX3_missingMachines 37 = .ok (.ireturn, 1) := by decide +kernel
theorem dX3_missingMachines_38 : decode cX3_missingMachines 38 = .ok (.iconst 5, 1) := by decide +kernel
theorem dX3_missingMachines_39 : decode cX3_missingMachines 39 = .ok (.aload_n 0, 1) := by decide +kernel
theorem dX3_missingMachines_40 : decode cX3_missingMachines 40 = .ok (.getfield 10, 3) := by decide +kernel
theorem dX3_missingMachines_43 : decode cX3_missingMachines 43 = .ok (.getfield 60, 3) := by decide +kernel
theorem dX3_missingMachines_46 : decode cX3_missingMachines 46 = .ok (.isub, 1) := by decide +kernel
theorem dX3_missingMachines_47 : decode cX3_missingMachines 47 = .ok (.istore_n 2, 1) := by decide +kernel
theorem dX3_missingMachines_48 : decode cX3_missingMachines 48 = .ok (.iconst 1, 1) := by decide +kernel
theorem dX3_missingMachines_49 : decode cX3_missingMachines 49 = .ok (.istore_n 3, 1) := by decide +kernel
theorem dX3_missingMachines_50 : decode cX3_missingMachines 50 = .ok (.iload_n 3, 1) := by decide +kernel
theorem dX3_missingMachines_51 : decode cX3_missingMachines 51 = .ok (.iload_n 2, 1) := by decide +kernel
theorem dX3_missingMachines_52 : decode cX3_missingMachines 52 = .ok (.if_icmp .gt 33, 3) := by decide +kernel
theorem dX3_missingMachines_55 : decode cX3_missingMachines 55 = .ok (.aload_n 0, 1) := by decide +kernel
theorem dX3_missingMachines_56 : decode cX3_missingMachines 56 = .ok (.getfield 16, 3) := by decide +kernel
theorem dX3_missingMachines_59 : decode cX3_missingMachines 59 = .ok (.iload_n 1, 1) := by decide +kernel
theorem dX3_missingMachines_60 : decode cX3_missingMachines 60 = .ok (.invokevirtual 64, 3) := by decide +kernel
theorem dX3_missingMachines_63 : decode cX3_missingMachines 63 = .ok (.aload_n 0, 1) := by decide +kernel
theorem dX3_missingMachines_64 : decode cX3_missingMachines 64 = .ok (.getfield 29, 3) := by decide +kernel
theorem dX3_missingMachines_67 : decode cX3_missingMachines 67 = .ok (.aload_n 0, 1) := by decide +kernel
theorem dX3_missingMachines_68 : decode cX3_missingMachines 68 = .ok (.getfield 16, 3) := by decide +kernel
theorem dX3_missingMachines_71 : decode cX3_missingMachines 71 = .ok (.invokevirtual 161, 3) := by decide +kernel
theorem dX3_missingMachines_74 : decode cX3_missingMachines 74 = .ok (.ifCond .eq 5, 3) := by decide +kernel
theorem dX3_missingMachines_77 : decode cX3_missingMachines 77 = .ok (.iload_n 3, 1) := by decide +kernel
theorem dX3_missingMachines_78 : decode cX3_missingMachines 78 = .ok (.ireturn, 1) := by decide +kernel
theorem dX3_missingMachines_79 : decode cX3_missingMachines 79 = .ok (.iinc 3 1, 3) := by decide +kernel
theorem dX3_missingMachines_82 : decode cX3_missingMachines 82 = .ok (.goto (-32), 3) := by decide +kernel
theorem dX3_missingMachines_85 : decode cX3_missingMachines 85 = .ok (.bipush (-4), 2) := by decide +kernel
theorem dX3_missingMachines_87 : decode cX3_missingMachines 87 = .ok (.ireturn, 1) := by decide +kernel
theorem dX3_undo_0 : decode cX3_undo 0 = .ok (.aload_n 0, 1) := by decide +kernel
theorem dX3_undo_1 : decode cX3_undo 1 = .ok (.getfield 22, 3) := by decide +kernel
theorem dX3_undo_4 : decode cX3_undo 4 = .ok (.getfield 169, 3) := by decide +kernel
theorem dX3_undo_7 : decode cX3_undo 7 = .ok (.ifCond .ne 6, 3) := by decide +kernel
theorem dX3_undo_10 : decode cX3_undo 10 = .ok (.bipush (-2), 2) := by decide +kernel
theorem dX3_undo_12 : decode cX3_undo 12 = .ok (.ireturn, 1) := by decide +kernel
theorem dX3_undo_13 : decode cX3_undo 13 = .ok (.aload_n 0, 1) := by decide +kernel
theorem dX3_undo_14 : decode cX3_undo 14 = .ok (.getfield 22, 3) := by decide +kernel
theorem dX3_undo_17 : decode cX3_undo 17 = .ok (.aload_n 0, 1) := by decide +kernel
theorem dX3_undo_18 : decode cX3_undo 18 = .ok (.getfield 10, 3) := by decide +kernel
theorem dX3_undo_21 : decode cX3_undo 21 = .ok (.invokevirtual 172, 3) := by decide +kernel
theorem dX3_undo_24 : decode cX3_undo 24 = .ok (.aload_n 0, 1) := by decide +kernel
theorem dX3_undo_25 : decode cX3_undo 25 = .ok (.getfield 22, 3) := by decide +kernel
theorem dX3_undo_28 : decode cX3_undo 28 = .ok (.getfield 169, 3) := by decide +kernel
theorem dX3_undo_31 : decode cX3_undo 31 = .ok (.ireturn, 1) := by decide +kernel
theorem dX3_isIn_0 : decode cX3_isIn 0 = .ok (.iload_n 1, 1) := by decide +kernel
theorem dX3_isIn_1 : decode cX3_isIn 1 = .ok (.iload_n 0, 1) := by decide +kernel
theorem dX3_isIn_2 : decode cX3_isIn 2 = .ok (.if_icmp .gt 12, 3) := by decide +kernel
theorem dX3_isIn_5 : decode cX3_isIn 5 = .ok (.iload_n 0, 1) := by decide +kernel
theorem dX3_isIn_6 : decode cX3_isIn 6 = .ok (.iload_n 2, 1) := by decide +kernel
theorem dX3_isIn_7 : decode cX3_isIn 7 = .ok (.if_icmp .gt 7, 3) := by decide +kernel
theorem dX3_isIn_10 : decode cX3_isIn 10 = .ok (.iconst 1, 1) := by decide +kernel
theorem dX3_isIn_11 : decode cX3_isIn 11 = .ok (.goto 4, 3) := by decide +kernel
theorem dX3_isIn_14 : decode cX3_isIn 14 = .ok (.iconst 0, 1) := by decide +kernel
theorem dX3_isIn_15 : decode cX3_isIn 15 = .ok (.ireturn, 1) := by decide +kernel
theorem dX3_isMachine_0 : decode cX3_isMachine 0 = .ok (.iload_n 1, 1) := by decide +kernel
theorem dX3_isMachine_1 : decode cX3_isMachine 1 = .ok (.iconst 0, 1) := by decide +kernel
theorem dX3_isMachine_2 : decode cX3_isMachine 2 = .ok (.aload_n 0, 1) := by decide +kernel
theorem dX3_isMachine_3 : decode cX3_isMachine 3 = .ok (.getfield 10, 3) := by decide +kernel
theorem dX3_isMachine_6 : decode cX3_isMachine 6 = .ok (.getfield 60, 3) := by decide +kernel
theorem dX3_isMachine_9 : decode cX3_isMachine 9 = .ok (.iconst 1, 1) := by decide +kernel
theorem dX3_isMachine_10 : decode cX3_isMachine 10 = .ok (.isub, 1) := by decide +kernel
theorem dX3_isMachine_11 : decode cX3_isMachine 11 = .ok (.invokestatic 33, 3) := by decide +kernel
theorem dX3_isMachine_14 : decode cX3_isMachine 14 = .ok (.ireturn, 1) := by decide +kernel
theorem dX3_isShow_0 : decode cX3_isShow 0 = .ok (.iload_n 1, 1) := by decide +kernel
theorem dX3_isShow_1 : decode cX3_isShow 1 = .ok (.iconst 0, 1) := by decide +kernel
theorem dX3_isShow_2 : decode cX3_isShow 2 = .ok (.aload_n 0, 1) := by decide +kernel
theorem dX3_isShow_3 : decode cX3_isShow 3 = .ok (.getfield 10, 3) := by decide +kernel
theorem dX3_isShow_6 : decode cX3_isShow 6 = .ok (.getfield 89, 3) := by decide +kernel
theorem dX3_isShow_9 : decode cX3_isShow 9 = .ok (.iconst 1, 1) := by decide +kernel
theorem dX3_isShow_10 : decode cX3_isShow 10 = .ok (.isub, 1) := by decide +kernel
theorem dX3_isShow_11 : decode cX3_isShow 11 = .ok (.invokestatic 33, 3) := by decide +kernel
theorem dX3_isShow_14 : decode cX3_isShow 14 = .ok (.ireturn, 1) := by decide +kernel
theorem dX3_isReelOfShow_0 : decode cX3_isReelOfShow 0 = .ok (.aload_n 0, 1) := by decide +kernel
theorem dX3_isReelOfShow_1 : decode cX3_isReelOfShow 1 = .ok (.iload_n 1, 1) := by decide +kernel
theorem dX3_isReelOfShow_2 : decode cX3_isReelOfShow 2 = .ok (.invokevirtual 95, 3) := by decide +kernel
theorem dX3_isReelOfShow_5 : decode cX3_isReelOfShow 5 = .ok (.ifCond .eq 34, 3) := by decide +kernel
theorem dX3_isReelOfShow_8 : decode cX3_isReelOfShow 8 = .ok (.iload_n 2, 1) := by decide +kernel
theorem dX3_isReelOfShow_9 : decode cX3_isReelOfShow 9 = .ok (.iconst 0, 1) := by decide +kernel
theorem dX3_isReelOfShow_10 : decode cX3_isReelOfShow 10 = .ok (.aload_n 0, 1) := by decide +kernel
theorem dX3_isReelOfShow_11 : decode cX3_isReelOfShow 11 = .ok (.getfield 10, 3) := by decide +kernel
theorem dX3_isReelOfShow_14 : decode cX3_isReelOfShow 14 = .ok (.getfield 37, 3) := by decide +kernel
theorem dX3_isReelOfShow_17 : decode cX3_isReelOfShow 17 = .ok (.aload_n 0, 1) := by decide +kernel
theorem dX3_isReelOfShow_18 : decode cX3_isReelOfShow 18 = .ok (.getfield 10, 3) := by decide +kernel
theorem dX3_isReelOfShow_21 : decode cX3_isReelOfShow 21 = .ok (.getfield 175, 3) := by decide +kernel
theorem dX3_isReelOfShow_24 : decode cX3_isReelOfShow 24 = .ok (.iload_n 1, 1) := by decide +kernel
theorem dX3_isReelOfShow_25 : decode cX3_isReelOfShow 25 = .ok (.iaload, 1) := by decide +kernel
theorem dX3_isReelOfShow_26 : decode cX3_isReelOfShow 26 = .ok (.iaload, 1) := by decide +kernel
theorem dX3_isReelOfShow_27 : decode cX3_isReelOfShow 27 = .ok (.iconst 1, 1) := by decide +kernel
theorem dX3_isReelOfShow_28 : decode cX3_isReelOfShow 28 = .ok (.isub, 1) := by decide +kernel
theorem dX3_isReelOfShow_29 : decode cX3_isReelOfShow 29 = .ok (.invokestatic 33, 3) := by decide +kernel
theorem dX3_isReelOfShow_32 : decode cX3_isReelOfShow 32 = .ok (.ifCond .eq 7, 3) := by decide +kernel
theorem dX3_isReelOfShow_35 : decode cX3_isReelOfShow 35 = .ok (.iconst 1, 1) := by decide +kernel
theorem dX3_isReelOfShow_36 : decode cX3_isReelOfShow 36 = .ok (.goto 4, 3) := by decide +kernel
theorem dX3_isReelOfShow_39 : decode cX3_isReelOfShow 39 = .ok (.iconst 0, 1) := by decide +kernel
theorem dX3_isReelOfShow_40 : decode cX3_isReelOfShow 40 = .ok (.ireturn, 1) := by decide +kernel
theorem dX3_reelPlace_0 : decode cX3_reelPlace 0 = .ok (.iload_n 0, 1) := by decide +kernel
theorem dX3_reelPlace_1 : decode cX3_reelPlace 1 = .ok (.bipush 6, 2) := by decide +kernel
theorem dX3_reelPlace_3 : decode cX3_reelPlace 3 = .ok (.imul, 1) := by decide +kernel
theorem dX3_reelPlace_4 : decode cX3_reelPlace 4 = .ok (.iload_n 1, 1) := by decide +kernel
theorem dX3_reelPlace_5 : decode cX3_reelPlace 5 = .ok (.iadd, 1) := by decide +kernel
theorem dX3_reelPlace_6 : decode cX3_reelPlace 6 = .ok (.ireturn, 1) := by decide +kernel
theorem dX4_init_0 : decode cX4_init 0 = .ok (.aload_n 0, 1) := by decide +kernel
theorem dX4_init_1 : decode cX4_init 1 = .ok (.invokespecial 1, 3) := by decide +kernel
theorem dX4_init_4 : decode cX4_init 4 = .ok (.aload_n 0, 1) := by decide +kernel
theorem dX4_init_5 : decode cX4_init 5 = .ok (.bipush 111, 2) := by decide +kernel
theorem dX4_init_7 : decode cX4_init 7 = .ok (.newarray .int, 2) := by decide +kernel
theorem dX4_init_9 : decode cX4_init 9 = .ok (.putfield 7, 3) := by decide +kernel
theorem dX4_init_12 : decode cX4_init 12 = .ok (.aload_n 0, 1) := by decide +kernel
theorem dX4_init_13 : decode cX4_init 13 = .ok (.sipush 555, 3) := by decide +kernel
theorem dX4_init_16 : decode cX4_init 16 = .ok (.newarray .int, 2) := by decide +kernel
theorem dX4_init_18 : decode cX4_init 18 = .ok (.putfield 13, 3) := by decide +kernel
theorem dX4_init_21 : decode cX4_init 21 = .ok (.aload_n 0, 1) := by decide +kernel
theorem dX4_init_22 : decode cX4_init 22 = .ok (.bipush 24, 2) := by decide +kernel
theorem dX4_init_24 : decode cX4_init 24 = .ok (.newarray .int, 2) := by decide +kernel
theorem dX4_init_26 : decode cX4_init 26 = .ok (.putfield 16, 3) := by decide +kernel
theorem dX4_init_29 : decode cX4_init 29 = .ok (.aload_n 0, 1) := by decide +kernel
theorem dX4_init_30 : decode cX4_init 30 = .ok (.bipush 24, 2) := by decide +kernel
theorem dX4_init_32 : decode cX4_init 32 = .ok (.newarray .int, 2) := by decide +kernel
theorem dX4_init_34 : decode cX4_init 34 = .ok (.putfield 19, 3) := by decide +kernel
theorem dX4_init_37 : decode cX4_init 37 = .ok (.aload_n 0, 1) := by decide +kernel
theorem dX4_init_38 : decode cX4_init 38 = .ok (.iconst 3, 1) := by decide +kernel
theorem dX4_init_39 : decode cX4_init 39 = .ok (.newarray .int, 2) := by decide +kernel
theorem dX4_init_41 : decode cX4_init 41 = .ok (.putfield 22, 3) := by decide +kernel
theorem dX4_init_44 : decode cX4_init 44 = .ok (.aload_n 0, 1) := by decide +kernel
theorem dX4_init_45 : decode cX4_init 45 = .ok (.iconst 5, 1) := by decide +kernel
theorem dX4_init_46 : decode cX4_init 46 = .ok (.newarray .int, 2) := by decide +kernel
theorem dX4_init_48 : decode cX4_init 48 = .ok (.putfield 25, 3) := by decide +kernel
theorem dX4_init_51 : decode cX4_init 51 = .ok (.aload_n 0, 1) := by decide +kernel
theorem dX4_init_52 : decode cX4_init 52 = .ok (.iconst 5, 1) := by decide +kernel
theorem dX4_init_53 : decode cX4_init 53 = .ok (.newarray .int, 2) := by decide +kernel
theorem dX4_init_55 : decode cX4_init 55 = .ok (.putfield 28, 3) := by decide +kernel
theorem dX4_init_58 : decode cX4_init 58 = .ok (.aload_n 0, 1) := by decide +kernel
theorem dX4_init_59 : decode cX4_init 59 = .ok (.iconst 5, 1) := by decide +kernel
theorem dX4_init_60 : decode cX4_init 60 = .ok (.newarray .int, 2) := by decide +kernel
theorem dX4_init_62 : decode cX4_init 62 = .ok (.putfield 31, 3) := by decide +kernel
theorem dX4_init_65 : decode cX4_init 65 = .ok (.aload_n 0, 1) := by decide +kernel
theorem dX4_init_66 : decode cX4_init 66 = .ok (.bipush 36, 2) := by decide +kernel
theorem dX4_init_68 : decode cX4_init 68 = .ok (.newarray .int, 2) := by decide +kernel
theorem dX4_init_70 : decode cX4_init 70 = .ok (.putfield 34, 3) := by decide +kernel
theorem dX4_init_73 : decode cX4_init 73 = .ok (.aload_n 0, 1) := by decide +kernel
theorem dX4_init_74 : decode cX4_init 74 = .ok (.bipush 36, 2) := by decide +kernel
theorem dX4_init_76 : decode cX4_init 76 = .ok (.newarray .int, 2) := by decide +kernel
theorem dX4_init_78 : decode cX4_init 78 = .ok (.putfield 37, 3) := by decide +kernel
theorem dX4_init_81 : decode cX4_init 81 = .ok (.aload_n 0, 1) := by decide +kernel
theorem dX4_init_82 : decode cX4_init 82 = .ok (.bipush 6, 2) := by decide +kernel
theorem dX4_init_84 : decode cX4_init 84 = .ok (.newarray .boolean, 2) := by decide +kernel
theorem dX4_init_86 : decode cX4_init 86 = .ok (.putfield 40, 3) := by decide +kernel
theorem dX4_init_89 : decode cX4_init 89 = .ok (.aload_n 0, 1) := by decide +kernel
theorem dX4_init_90 : decode cX4_init 90 = .ok (.bipush 6, 2) := by decide +kernel
theorem dX4_init_92 : decode cX4_init 92 = .ok (.newarray .int, 2) := by decide +kernel
theorem dX4_init_94 : decode cX4_init 94 = .ok (.putfield 44, 3) := by decide +kernel
theorem dX4_init_97 : decode cX4_init 97 = .ok (.aload_n 0, 1) := by decide +kernel
theorem dX4_init_98 : decode cX4_init 98 = .ok (.bipush 6, 2) := by decide +kernel
theorem dX4_init_100 : decode cX4_init 100 = .ok (.newarray .int, 2) := by decide +kernel
theorem dX4_init_102 : decode cX4_init 102 = .ok (.putfield 47, 3) := by decide +kernel
theorem dX4_init_105 : decode cX4_init 105 = .ok (.aload_n 0, 1) := by decide +kernel
theorem dX4_init_106 : decode cX4_init 106 = .ok (.bipush 6, 2) := by decide +kernel
theorem dX4_init_108 : decode cX4_init 108 = .ok (.newarray .int, 2) := by decide +kernel
theorem dX4_init_110 : decode cX4_init 110 = .ok (.putfield 50, 3) := by decide +kernel
theorem dX4_init_113 : decode cX4_init 113 = .ok (.aload_n 0, 1) := by decide +kernel
theorem dX4_init_114 : decode cX4_init 114 = .ok (.bipush 111, 2) := by decide +kernel
theorem dX4_init_116 : decode cX4_init 116 = .ok (.newarray .int, 2) := by decide +kernel
theorem dX4_init_118 : decode cX4_init 118 = .ok (.putfield 53, 3) := by decide +kernel
theorem dX4_init_121 : decode cX4_init 121 = .ok (.aload_n 0, 1) := by decide +kernel
theorem dX4_init_122 : decode cX4_init 122 = .ok (.getfield 7, 3) := by decide +kernel
theorem dX4_init_125 : decode cX4_init 125 = .ok (.bipush 56, 2) := by decide +kernel
theorem dX4_init_127 : decode cX4_init 127 = .ok (.iconst 3, 1) := by decide +kernel
theorem dX4_init_128 : decode cX4_init 128 = .ok (.iastore, 1) := by decide +kernel
theorem dX4_init_129 : decode cX4_init 129 = .ok (.aload_n 0, 1) := by decide +kernel
theorem dX4_init_130 : decode cX4_init 130 = .ok (.getfield 7, 3) := by decide +kernel
theorem dX4_init_133 : decode cX4_init 133 = .ok (.bipush 59, 2) := by decide +kernel
theorem dX4_init_135 : decode cX4_init 135 = .ok (.iconst 1, 1) := by decide +kernel
theorem dX4_init_136 : decode cX4_init 136 = .ok (.iastore, 1) := by decide +kernel
theorem dX4_init_137 : decode cX4_init 137 = .ok (.aload_n 0, 1) := by decide +kernel
theorem dX4_init_138 : decode cX4_init 138 = .ok (.getfield 7, 3) := by decide +kernel
theorem dX4_init_141 : decode cX4_init 141 = .ok (.bipush 62, 2) := by decide +kernel
theorem dX4_init_143 : decode cX4_init 143 = .ok (.iconst 1, 1) := by decide +kernel
theorem dX4_init_144 : decode cX4_init 144 = .ok (.iastore, 1) := by decide +kernel
theorem dX4_init_145 : decode cX4_init 145 = .ok (.aload_n 0, 1) := by decide +kernel
theorem dX4_init_146 : decode cX4_init 146 = .ok (.getfield 7, 3) := by decide +kernel
theorem dX4_init_149 : decode cX4_init 149 = .ok (.bipush 63, 2) := by decide +kernel
theorem dX4_init_151 : decode cX4_init 151 = .ok (.iconst 3, 1) := by decide +kernel
theorem dX4_init_152 : decode cX4_init 152 = .ok (.iastore, 1) := by decide +kernel
theorem dX4_init_153 : decode cX4_init 153 = .ok (.aload_n 0, 1) := by decide +kernel
theorem dX4_init_154 : decode cX4_init 154 = .ok (.getfield 7, 3) := by decide +kernel
theorem dX4_init_157 : decode cX4_init 157 = .ok (.bipush 64, 2) := by decide +kernel
theorem dX4_init_159 : decode cX4_init 159 = .ok (.iconst 2, 1) := by decide +kernel
theorem dX4_init_160 : decode cX4_init 160 = .ok (.iastore, 1) := by decide +kernel
theorem dX4_init_161 : decode cX4_init 161 = .ok (.aload_n 0, 1) := by decide +kernel
theorem dX4_init_162 : decode cX4_init 162 = .ok (.getfield 7, 3) := by decide +kernel
theorem dX4_init_165 : decode cX4_init 165 = .ok (.bipush 65, 2) := by decide +kernel
theorem dX4_init_167 : decode cX4_init 167 = .ok (.iconst 4, 1) := by decide +kernel
theorem dX4_init_168 : decode cX4_init 168 = .ok (.iastore, 1) := by decide +kernel
theorem dX4_init_169 : decode cX4_init 169 = .ok (.aload_n 0, 1) := by decide +kernel
theorem dX4_init_170 : decode cX4_init 170 = .ok (.getfield 7, 3) := by decide +kernel
theorem dX4_init_173 : decode cX4_init 173 = .ok (.bipush 66, 2) := by decide +kernel
theorem dX4_init_175 : decode cX4_init 175 = .ok (.bipush 10, 2) := by decide +kernel
theorem dX4_init_177 : decode cX4_init 177 = .ok (.iastore, 1) := by decide +kernel
theorem dX4_init_178 : decode cX4_init 178 = .ok (.return_, 1) := by decide +kernel
theorem dX4_in_0 : decode cX4_in 0 = .ok (.lload_n 0, 1) := by decide +kernel
theorem dX4_in_1 : decode cX4_in 1 = .ok (.lload_n 2, 1) := by decide +kernel
theorem dX4_in_2 : decode cX4_in 2 = .ok (.lcmp, 1) := by decide +kernel
theorem dX4_in_3 : decode cX4_in 3 = .ok (.ifCond .lt 14, 3) := by decide +kernel
theorem dX4_in_6 : decode cX4_in 6 = .ok (.lload_n 0, 1) := by decide +kernel
theorem dX4_in_7 : decode cX4_in 7 = .ok (.lload 4, 2) := by decide +kernel
theorem dX4_in_9 : decode cX4_in 9 = .ok (.lcmp, 1) := by decide +kernel
theorem dX4_in_10 : decode cX4_in 10 = .ok (.ifCond .gt 7, 3) := by decide +kernel
theorem dX4_in_13 : decode cX4_in 13 = .ok (.iconst 1, 1) := by decide +kernel
theorem dX4_in_14 : decode cX4_in 14 = .ok (.goto 4, 3) := by decide +kernel
theorem dX4_in_17 : decode cX4_in 17 = .ok (.iconst 0, 1) := by decide +kernel
theorem dX4_in_18 : decode cX4_in 18 = .ok (.ireturn, 1) := by decide +kernel
theorem dX4_keeps_0 : decode cX4_keeps 0 = .ok (.aload_n 0, 1) := by decide +kernel
theorem dX4_keeps_1 : decode cX4_keeps 1 = .ok (.getfield 56, 3) := by decide +kernel
theorem dX4_keeps_4 : decode cX4_keeps 4 = .ok (.iconst 5, 1) := by decide +kernel
theorem dX4_keeps_5 : decode cX4_keeps 5 = .ok (.if_icmp .ne 43, 3) := by decide +kernel
theorem dX4_keeps_8 : decode cX4_keeps 8 = .ok (.iconst 0, 1) := by decide +kernel
theorem dX4_keeps_9 : decode cX4_keeps 9 = .ok (.istore_n 1, 1) := by decide +kernel
theorem dX4_keeps_10 : decode cX4_keeps 10 = .ok (.iload_n 1, 1) := by decide +kernel
theorem dX4_keeps_11 : decode cX4_keeps 11 = .ok (.sipush 444, 3) := by decide +kernel
theorem dX4_keeps_14 : decode cX4_keeps 14 = .ok (.if_icmp .ge 24, 3) := by decide +kernel
theorem dX4_keeps_17 : decode cX4_keeps 17 = .ok (.aload_n 0, 1) := by decide +kernel
theorem dX4_keeps_18 : decode cX4_keeps 18 = .ok (.getfield 13, 3) := by decide +kernel
theorem dX4_keeps_21 : decode cX4_keeps 21 = .ok (.iload_n 1, 1) := by decide +kernel
theorem dX4_keeps_22 : decode cX4_keeps 22 = .ok (.aload_n 0, 1) := by decide +kernel
theorem dX4_keeps_23 : decode cX4_keeps 23 = .ok (.getfield 13, 3) := by decide +kernel
theorem dX4_keeps_26 : decode cX4_keeps 26 = .ok (.bipush 111, 2) := by decide +kernel
theorem dX4_keeps_28 : decode cX4_keeps 28 = .ok (.iload_n 1, 1) := by decide +kernel
theorem dX4_keeps_29 : decode cX4_keeps 29 = .ok (.iadd, 1) := by decide +kernel
theorem dX4_keeps_30 : decode cX4_keeps 30 = .ok (.iaload, 1) := by decide +kernel
theorem dX4_keeps_31 : decode cX4_keeps 31 = .ok (.iastore, 1) := by decide +kernel
theorem dX4_keeps_32 : decode cX4_keeps 32 = .ok (.iinc 1 1, 3) := by decide +kernel
theorem dX4_keeps_35 : decode cX4_keeps 35 = .ok (.goto (-25), 3) := by decide +kernel
theorem dX4_keeps_38 : decode cX4_keeps 38 = .ok (.aload_n 0, 1) := by decide +kernel
theorem dX4_keeps_39 : decode cX4_keeps 39 = .ok (.dup, 1) := by decide +kernel
theorem dX4_keeps_40 : decode cX4_keeps 40 = .ok (.getfield 56, 3) := by decide +kernel
theorem dX4_keeps_43 : decode cX4_keeps 43 = .ok (.iconst 1, 1) := by decide +kernel
theorem dX4_keeps_44 : decode cX4_keeps 44 = .ok (.isub, 1) := by decide +kernel
theorem dX4_keeps_45 : decode cX4_keeps 45 = .ok (.putfield 56, 3) := by decide +kernel
theorem dX4_keeps_48 : decode cX4_keeps 48 = .ok (.iconst 0, 1) := by decide +kernel
theorem dX4_keeps_49 : decode cX4_keeps 49 = .ok (.istore_n 1, 1) := by decide +kernel
theorem dX4_keeps_50 : decode cX4_keeps 50 = .ok (.iload_n 1, 1) := by decide +kernel
theorem dX4_keeps_51 : decode cX4_keeps 51 = .ok (.bipush 111, 2) := by decide +kernel
theorem dX4_keeps_53 : decode cX4_keeps 53 = .ok (.if_icmp .ge 29, 3) := by decide +kernel
theorem dX4_keeps_56 : decode cX4_keeps 56 = .ok (.aload_n 0, 1) := by decide +kernel
theorem dX4_keeps_57 : decode cX4_keeps 57 = .ok (.getfield 13, 3) := by decide +kernel
theorem dX4_keeps_60 : decode cX4_keeps 60 = .ok (.bipush 111, 2) := by decide +kernel
theorem dX4_keeps_62 : decode cX4_keeps 62 = .ok (.aload_n 0, 1) := by decide +kernel
theorem dX4_keeps_63 : decode cX4_keeps 63 = .ok (.getfield 56, 3) := by decide +kernel
theorem dX4_keeps_66 : decode cX4_keeps 66 = .ok (.imul, 1) := by decide +kernel
theorem dX4_keeps_67 : decode cX4_keeps 67 = .ok (.iload_n 1, 1) := by decide +kernel
theorem dX4_keeps_68 : decode cX4_keeps 68 = .ok (.iadd, 1) := by decide +kernel
theorem dX4_keeps_69 : decode cX4_keeps 69 = .ok (.aload_n 0, 1) := by decide +kernel
theorem dX4_keeps_70 : decode cX4_keeps 70 = .ok (.getfield 7, 3) := by decide +kernel
theorem dX4_keeps_73 : decode cX4_keeps 73 = .ok (.iload_n 1, 1) := by decide +kernel
theorem dX4_keeps_74 : decode cX4_keeps 74 = .ok (.iaload, 1) := by decide +kernel
theorem dX4_keeps_75 : decode cX4_keeps 75 = .ok (.iastore, 1) := by decide +kernel
theorem dX4_keeps_76 : decode cX4_keeps 76 = .ok (.iinc 1 1, 3) := by decide +kernel
theorem dX4_keeps_79 : decode cX4_keeps 79 = .ok (.goto (-29), 3) := by decide +kernel
theorem dX4_keeps_82 : decode cX4_keeps 82 = .ok (.aload_n 0, 1) := by decide +kernel
theorem dX4_keeps_83 : decode cX4_keeps 83 = .ok (.dup, 1) := by decide +kernel
theorem dX4_keeps_84 : decode cX4_keeps 84 = .ok (.getfield 56, 3) := by decide +kernel
theorem dX4_keeps_87 : decode cX4_keeps 87 = .ok (.iconst 1, 1) := by decide +kernel
theorem dX4_keeps_88 : decode cX4_keeps 88 = .ok (.iadd, 1) := by decide +kernel
theorem dX4_keeps_89 : decode cX4_keeps 89 = .ok (.putfield 56, 3) := by decide +kernel
theorem dX4_keeps_92 : decode cX4_keeps 92 = .ok (.return_, 1) := by decide +kernel
theorem dX4_undo_0 : decode cX4_undo 0 = .ok (.aload_n 0, 1) := by decide +kernel
theorem dX4_undo_1 : decode cX4_undo 1 = .ok (.getfield 56, 3) := by decide +kernel
theorem dX4_undo_4 : decode cX4_undo 4 = .ok (.ifCond .ne 6, 3) := by decide +kernel
theorem dX4_undo_7 : decode cX4_undo 7 = .ok (.bipush (-2), 2) := by decide +kernel
theorem dX4_undo_9 : decode cX4_undo 9 = .ok (.ireturn, 1) := by decide +kernel
theorem dX4_undo_10 : decode cX4_undo 10 = .ok (.aload_n 0, 1) := by decide +kernel
theorem dX4_undo_11 : decode cX4_undo 11 = .ok (.dup, 1) := by decide +kernel
theorem dX4_undo_12 : decode cX4_undo 12 = .ok (.getfield 56, 3) := by decide +kernel
theorem dX4_undo_15 : decode cX4_undo 15 = .ok (.iconst 1, 1) := by decide +kernel
theorem dX4_undo_16 : decode cX4_undo 16 = .ok (.isub, 1) := by decide +kernel
theorem dX4_undo_17 : decode cX4_undo 17 = .ok (.putfield 56, 3) := by decide +kernel
theorem dX4_undo_20 : decode cX4_undo 20 = .ok (.iconst 0, 1) := by decide +kernel
theorem dX4_undo_21 : decode cX4_undo 21 = .ok (.istore_n 1, 1) := by decide +kernel
theorem dX4_undo_22 : decode cX4_undo 22 = .ok (.iload_n 1, 1) := by decide +kernel
theorem dX4_undo_23 : decode cX4_undo 23 = .ok (.bipush 111, 2) := by decide +kernel
theorem dX4_undo_25 : decode cX4_undo 25 = .ok (.if_icmp .ge 29, 3) := by decide +kernel
theorem dX4_undo_28 : decode cX4_undo 28 = .ok (.aload_n 0, 1) := by decide +kernel
theorem dX4_undo_29 : decode cX4_undo 29 = .ok (.getfield 7, 3) := by decide +kernel
theorem dX4_undo_32 : decode cX4_undo 32 = .ok (.iload_n 1, 1) := by decide +kernel
theorem dX4_undo_33 : decode cX4_undo 33 = .ok (.aload_n 0, 1) := by decide +kernel
theorem dX4_undo_34 : decode cX4_undo 34 = .ok (.getfield 13, 3) := by decide +kernel
theorem dX4_undo_37 : decode cX4_undo 37 = .ok (.bipush 111, 2) := by decide +kernel
theorem dX4_undo_39 : decode cX4_undo 39 = .ok (.aload_n 0, 1) := by decide +kernel
theorem dX4_undo_40 : decode cX4_undo 40 = .ok (.getfield 56, 3) := by decide +kernel
theorem dX4_undo_43 : decode cX4_undo 43 = .ok (.imul, 1) := by decide +kernel
theorem dX4_undo_44 : decode cX4_undo 44 = .ok (.iload_n 1, 1) := by decide +kernel
theorem dX4_undo_45 : decode cX4_undo 45 = .ok (.iadd, 1) := by decide +kernel
theorem dX4_undo_46 : decode cX4_undo 46 = .ok (.iaload, 1) := by decide +kernel
theorem dX4_undo_47 : decode cX4_undo 47 = .ok (.iastore, 1) := by decide +kernel
theorem dX4_undo_48 : decode cX4_undo 48 = .ok (.iinc 1 1, 3) := by decide +kernel
theorem dX4_undo_51 : decode cX4_undo 51 = .ok (.goto (-29), 3) := by decide +kernel
theorem dX4_undo_54 : decode cX4_undo 54 = .ok (.aload_n 0, 1) := by decide +kernel
theorem dX4_undo_55 : decode cX4_undo 55 = .ok (.getfield 56, 3) := by decide +kernel
theorem dX4_undo_58 : decode cX4_undo 58 = .ok (.ireturn, 1) := by decide +kernel
theorem dX4_isFilm_0 : decode cX4_isFilm 0 = .ok (.iload_n 0, 1) := by decide +kernel
theorem dX4_isFilm_1 : decode cX4_isFilm 1 = .ok (.i2l, 1) := by decide +kernel
theorem dX4_isFilm_2 : decode cX4_isFilm 2 = .ok (.lconst 0, 1) := by decide +kernel
theorem dX4_isFilm_3 : decode cX4_isFilm 3 = .ok (.ldc2_w 60, 3) := by decide +kernel
theorem dX4_isFilm_6 : decode cX4_isFilm 6 = .ok (.invokestatic 62, 3) := by decide +kernel
theorem dX4_isFilm_9 : decode cX4_isFilm 9 = .ok (.ireturn, 1) := by decide +kernel
theorem dX4_isHouse_0 : decode cX4_isHouse 0 = .ok (.iload_n 0, 1) := by decide +kernel
theorem dX4_isHouse_1 : decode cX4_isHouse 1 = .ok (.i2l, 1) := by decide +kernel
theorem dX4_isHouse_2 : decode cX4_isHouse 2 = .ok (.lconst 0, 1) := by decide +kernel
theorem dX4_isHouse_3 : decode cX4_isHouse 3 = .ok (.lconst 1, 1) := by decide +kernel
theorem dX4_isHouse_4 : decode cX4_isHouse 4 = .ok (.invokestatic 62, 3) := by decide +kernel
theorem dX4_isHouse_7 : decode cX4_isHouse 7 = .ok (.ireturn, 1) := by decide +kernel
theorem dX4_isMachine_0 : decode cX4_isMachine 0 = .ok (.iload_n 1, 1) := by decide +kernel
theorem dX4_isMachine_1 : decode cX4_isMachine 1 = .ok (.i2l, 1) := by decide +kernel
theorem dX4_isMachine_2 : decode cX4_isMachine 2 = .ok (.lconst 0, 1) := by decide +kernel
theorem dX4_isMachine_3 : decode cX4_isMachine 3 = .ok (.aload_n 0, 1) := by decide +kernel
theorem dX4_isMachine_4 : decode cX4_isMachine 4 = .ok (.getfield 7, 3) := by decide +kernel
theorem dX4_isMachine_7 : decode cX4_isMachine 7 = .ok (.bipush 56, 2) := by decide +kernel
theorem dX4_isMachine_9 : decode cX4_isMachine 9 = .ok (.iaload, 1) := by decide +kernel
theorem dX4_isMachine_10 : decode cX4_isMachine 10 = .ok (.iconst 1, 1) := by decide +kernel
theorem dX4_isMachine_11 : decode cX4_isMachine 11 = .ok (.isub, 1) := by decide +kernel
theorem dX4_isMachine_12 : decode cX4_isMachine 12 = .ok (.i2l, 1) := by decide +kernel
theorem dX4_isMachine_13 : decode cX4_isMachine 13 = .ok (.invokestatic 62, 3) := by decide +kernel
theorem dX4_isMachine_16 : decode cX4_isMachine 16 = .ok (.ireturn, 1) := by decide +kernel
theorem dX4_isShow_0 : decode cX4_isShow 0 = .ok (.iload_n 1, 1) := by decide +kernel
end
section
theorem dX4_isShow_1 : decode cX4_isShow 1 = .ok (.i2l, 1) := by decide +kernel
theorem dX4_isShow_2 : decode cX4_isShow 2 = .ok (.lconst 0, 1) := by decide +kernel
theorem dX4_isShow_3 : decode cX4_isShow 3 = .ok (.aload_n 0, 1) := by decide +kernel
theorem dX4_isShow_4 : decode cX4_isShow 4 = .ok (.getfield 7, 3) := by decide +kernel
theorem dX4_isShow_7 : decode cX4_isShow 7 = .ok (.bipush 67, 2) := by decide +kernel
theorem dX4_isShow_9 : decode cX4_isShow 9 = .ok (.iaload, 1) := by decide +kernel
theorem dX4_isShow_10 : decode cX4_isShow 10 = .ok (.iconst 1, 1) := by decide +kernel
theorem dX4_isShow_11 : decode cX4_isShow 11 = .ok (.isub, 1) := by decide +kernel
theorem dX4_isShow_12 : decode cX4_isShow 12 = .ok (.i2l, 1) := by decide +kernel
theorem dX4_isShow_13 : decode cX4_isShow 13 = .ok (.invokestatic 62, 3) := by decide +kernel
theorem dX4_isShow_16 : decode cX4_isShow 16 = .ok (.ireturn, 1) := by decide +kernel
theorem dX4_isStart_0 : decode cX4_isStart 0 = .ok (.iload_n 0, 1) := by decide +kernel
theorem dX4_isStart_1 : decode cX4_isStart 1 = .ok (.i2l, 1) := by decide +kernel
theorem dX4_isStart_2 : decode cX4_isStart 2 = .ok (.lconst 0, 1) := by decide +kernel
theorem dX4_isStart_3 : decode cX4_isStart 3 = .ok (.ldc2_w 66, 3) := by decide +kernel
theorem dX4_isStart_6 : decode cX4_isStart 6 = .ok (.invokestatic 62, 3) := by decide +kernel
theorem dX4_isStart_9 : decode cX4_isStart 9 = .ok (.ireturn, 1) := by decide +kernel
theorem dX4_addReel_0 : decode cX4_addReel 0 = .ok (.iload_n 1, 1) := by decide +kernel
theorem dX4_addReel_1 : decode cX4_addReel 1 = .ok (.invokestatic 68, 3) := by decide +kernel
theorem dX4_addReel_4 : decode cX4_addReel 4 = .ok (.ifCond .eq 27, 3) := by decide +kernel
theorem dX4_addReel_7 : decode cX4_addReel 7 = .ok (.iload_n 2, 1) := by decide +kernel
theorem dX4_addReel_8 : decode cX4_addReel 8 = .ok (.i2l, 1) := by decide +kernel
theorem dX4_addReel_9 : decode cX4_addReel 9 = .ok (.lconst 1, 1) := by decide +kernel
theorem dX4_addReel_10 : decode cX4_addReel 10 = .ok (.ldc2_w 72, 3) := by decide +kernel
theorem dX4_addReel_13 : decode cX4_addReel 13 = .ok (.invokestatic 62, 3) := by decide +kernel
theorem dX4_addReel_16 : decode cX4_addReel 16 = .ok (.ifCond .eq 15, 3) := by decide +kernel
theorem dX4_addReel_19 : decode cX4_addReel 19 = .ok (.iload_n 3, 1) := by decide +kernel
theorem dX4_addReel_20 : decode cX4_addReel 20 = .ok (.i2l, 1) := by decide +kernel
theorem dX4_addReel_21 : decode cX4_addReel 21 = .ok (.lconst 0, 1) := by decide +kernel
theorem dX4_addReel_22 : decode cX4_addReel 22 = .ok (.ldc2_w 74, 3) := by decide +kernel
theorem dX4_addReel_25 : decode cX4_addReel 25 = .ok (.invokestatic 62, 3) := by decide +kernel
theorem dX4_addReel_28 : decode cX4_addReel 28 = .ok (.ifCond .ne 5, 3) := by decide +kernel
theorem dX4_addReel_31 : decode cX4_addReel 31 = .ok (.iconst (-1), 1) := by decide +kernel
theorem dX4_addReel_32 : decode cX4_addReel 32 = .ok (.ireturn, 1) := by decide +kernel
theorem dX4_addReel_33 : decode cX4_addReel 33 = .ok (.aload_n 0, 1) := by decide +kernel
theorem dX4_addReel_34 : decode cX4_addReel 34 = .ok (.getfield 7, 3) := by decide +kernel
theorem dX4_addReel_37 : decode cX4_addReel 37 = .ok (.iconst 0, 1) := by decide +kernel
theorem dX4_addReel_38 : decode cX4_addReel 38 = .ok (.iload_n 1, 1) := by decide +kernel
theorem dX4_addReel_39 : decode cX4_addReel 39 = .ok (.iadd, 1) := by decide +kernel
theorem dX4_addReel_40 : decode cX4_addReel 40 = .ok (.iaload, 1) := by decide +kernel
theorem dX4_addReel_41 : decode cX4_addReel 41 = .ok (.bipush 6, 2) := by decide +kernel
theorem dX4_addReel_43 : decode cX4_addReel 43 = .ok (.if_icmp .ne 6, 3) := by decide +kernel
theorem dX4_addReel_46 : decode cX4_addReel 46 = .ok (.bipush (-3), 2) := by decide +kernel
theorem dX4_addReel_48 : decode cX4_addReel 48 = .ok (.ireturn, 1) := by decide +kernel
theorem dX4_addReel_49 : decode cX4_addReel 49 = .ok (.aload_n 0, 1) := by decide +kernel
theorem dX4_addReel_50 : decode cX4_addReel 50 = .ok (.invokevirtual 76, 3) := by decide +kernel
theorem dX4_addReel_53 : decode cX4_addReel 53 = .ok (.bipush 6, 2) := by decide +kernel
theorem dX4_addReel_55 : decode cX4_addReel 55 = .ok (.iload_n 1, 1) := by decide +kernel
theorem dX4_addReel_56 : decode cX4_addReel 56 = .ok (.imul, 1) := by decide +kernel
theorem dX4_addReel_57 : decode cX4_addReel 57 = .ok (.aload_n 0, 1) := by decide +kernel
theorem dX4_addReel_58 : decode cX4_addReel 58 = .ok (.getfield 7, 3) := by decide +kernel
theorem dX4_addReel_61 : decode cX4_addReel 61 = .ok (.iconst 0, 1) := by decide +kernel
theorem dX4_addReel_62 : decode cX4_addReel 62 = .ok (.iload_n 1, 1) := by decide +kernel
theorem dX4_addReel_63 : decode cX4_addReel 63 = .ok (.iadd, 1) := by decide +kernel
theorem dX4_addReel_64 : decode cX4_addReel 64 = .ok (.iaload, 1) := by decide +kernel
theorem dX4_addReel_65 : decode cX4_addReel 65 = .ok (.iadd, 1) := by decide +kernel
theorem dX4_addReel_66 : decode cX4_addReel 66 = .ok (.istore 4, 2) := by decide +kernel
theorem dX4_addReel_68 : decode cX4_addReel 68 = .ok (.aload_n 0, 1) := by decide +kernel
theorem dX4_addReel_69 : decode cX4_addReel 69 = .ok (.getfield 7, 3) := by decide +kernel
theorem dX4_addReel_72 : decode cX4_addReel 72 = .ok (.iconst 4, 1) := by decide +kernel
theorem dX4_addReel_73 : decode cX4_addReel 73 = .ok (.iload 4, 2) := by decide +kernel
theorem dX4_addReel_75 : decode cX4_addReel 75 = .ok (.iadd, 1) := by decide +kernel
theorem dX4_addReel_76 : decode cX4_addReel 76 = .ok (.iload_n 2, 1) := by decide +kernel
theorem dX4_addReel_77 : decode cX4_addReel 77 = .ok (.iastore, 1) := by decide +kernel
theorem dX4_addReel_78 : decode cX4_addReel 78 = .ok (.aload_n 0, 1) := by decide +kernel
theorem dX4_addReel_79 : decode cX4_addReel 79 = .ok (.getfield 7, 3) := by decide +kernel
theorem dX4_addReel_82 : decode cX4_addReel 82 = .ok (.bipush 28, 2) := by decide +kernel
theorem dX4_addReel_84 : decode cX4_addReel 84 = .ok (.iload 4, 2) := by decide +kernel
theorem dX4_addReel_86 : decode cX4_addReel 86 = .ok (.iadd, 1) := by decide +kernel
theorem dX4_addReel_87 : decode cX4_addReel 87 = .ok (.iload_n 3, 1) := by decide +kernel
theorem dX4_addReel_88 : decode cX4_addReel 88 = .ok (.iastore, 1) := by decide +kernel
theorem dX4_addReel_89 : decode cX4_addReel 89 = .ok (.aload_n 0, 1) := by decide +kernel
theorem dX4_addReel_90 : decode cX4_addReel 90 = .ok (.getfield 7, 3) := by decide +kernel
theorem dX4_addReel_93 : decode cX4_addReel 93 = .ok (.iconst 0, 1) := by decide +kernel
theorem dX4_addReel_94 : decode cX4_addReel 94 = .ok (.iload_n 1, 1) := by decide +kernel
theorem dX4_addReel_95 : decode cX4_addReel 95 = .ok (.iadd, 1) := by decide +kernel
theorem dX4_addReel_96 : decode cX4_addReel 96 = .ok (.dup2, 1) := by decide +kernel
theorem dX4_addReel_97 : decode cX4_addReel 97 = .ok (.iaload, 1) := by decide +kernel
theorem dX4_addReel_98 : decode cX4_addReel 98 = .ok (.iconst 1, 1) := by decide +kernel
theorem dX4_addReel_99 : decode cX4_addReel 99 = .ok (.iadd, 1) := by decide +kernel
theorem dX4_addReel_100 : decode cX4_addReel 100 = .ok (.iastore, 1) := by decide +kernel
theorem dX4_addReel_101 : decode cX4_addReel 101 = .ok (.aload_n 0, 1) := by decide +kernel
theorem dX4_addReel_102 : decode cX4_addReel 102 = .ok (.getfield 7, 3) := by decide +kernel
theorem dX4_addReel_105 : decode cX4_addReel 105 = .ok (.iconst 0, 1) := by decide +kernel
theorem dX4_addReel_106 : decode cX4_addReel 106 = .ok (.iload_n 1, 1) := by decide +kernel
theorem dX4_addReel_107 : decode cX4_addReel 107 = .ok (.iadd, 1) := by decide +kernel
theorem dX4_addReel_108 : decode cX4_addReel 108 = .ok (.iaload, 1) := by decide +kernel
theorem dX4_addReel_109 : decode cX4_addReel 109 = .ok (.ireturn, 1) := by decide +kernel
theorem dX4_removeReels_0 : decode cX4_removeReels 0 = .ok (.iload_n 1, 1) := by decide +kernel
theorem dX4_removeReels_1 : decode cX4_removeReels 1 = .ok (.invokestatic 68, 3) := by decide +kernel
theorem dX4_removeReels_4 : decode cX4_removeReels 4 = .ok (.ifCond .ne 5, 3) := by decide +kernel
theorem dX4_removeReels_7 : decode cX4_removeReels 7 = .ok (.iconst (-1), 1) := by decide +kernel
theorem dX4_removeReels_8 : decode cX4_removeReels 8 = .ok (.ireturn, 1) := by decide +kernel
theorem dX4_removeReels_9 : decode cX4_removeReels 9 = .ok (.iconst 0, 1) := by decide +kernel
theorem dX4_removeReels_10 : decode cX4_removeReels 10 = .ok (.istore_n 2, 1) := by decide +kernel
theorem dX4_removeReels_11 : decode cX4_removeReels 11 = .ok (.iload_n 2, 1) := by decide +kernel
theorem dX4_removeReels_12 : decode cX4_removeReels 12 = .ok (.aload_n 0, 1) := by decide +kernel
theorem dX4_removeReels_13 : decode cX4_removeReels 13 = .ok (.getfield 7, 3) := by decide +kernel
theorem dX4_removeReels_16 : decode cX4_removeReels 16 = .ok (.bipush 67, 2) := by decide +kernel
theorem dX4_removeReels_18 : decode cX4_removeReels 18 = .ok (.iaload, 1) := by decide +kernel
theorem dX4_removeReels_19 : decode cX4_removeReels 19 = .ok (.if_icmp .ge 25, 3) := by decide +kernel
theorem dX4_removeReels_22 : decode cX4_removeReels 22 = .ok (.aload_n 0, 1) := by decide +kernel
theorem dX4_removeReels_23 : decode cX4_removeReels 23 = .ok (.getfield 7, 3) := by decide +kernel
theorem dX4_removeReels_26 : decode cX4_removeReels 26 = .ok (.bipush 74, 2) := by decide +kernel
theorem dX4_removeReels_28 : decode cX4_removeReels 28 = .ok (.iload_n 2, 1) := by decide +kernel
theorem dX4_removeReels_29 : decode cX4_removeReels 29 = .ok (.iadd, 1) := by decide +kernel
theorem dX4_removeReels_30 : decode cX4_removeReels 30 = .ok (.iaload, 1) := by decide +kernel
theorem dX4_removeReels_31 : decode cX4_removeReels 31 = .ok (.iload_n 1, 1) := by decide +kernel
theorem dX4_removeReels_32 : decode cX4_removeReels 32 = .ok (.if_icmp .ne 6, 3) := by decide +kernel
theorem dX4_removeReels_35 : decode cX4_removeReels 35 = .ok (.bipush (-2), 2) := by decide +kernel
theorem dX4_removeReels_37 : decode cX4_removeReels 37 = .ok (.ireturn, 1) := by decide +kernel
theorem dX4_removeReels_38 : decode cX4_removeReels 38 = .ok (.iinc 2 1, 3) := by decide +kernel
theorem dX4_removeReels_41 : decode cX4_removeReels 41 = .ok (.goto (-30), 3) := by decide +kernel
theorem dX4_removeReels_44 : decode cX4_removeReels 44 = .ok (.aload_n 0, 1) := by decide +kernel
theorem dX4_removeReels_45 : decode cX4_removeReels 45 = .ok (.invokevirtual 76, 3) := by decide +kernel
theorem dX4_removeReels_48 : decode cX4_removeReels 48 = .ok (.aload_n 0, 1) := by decide +kernel
theorem dX4_removeReels_49 : decode cX4_removeReels 49 = .ok (.getfield 7, 3) := by decide +kernel
theorem dX4_removeReels_52 : decode cX4_removeReels 52 = .ok (.iconst 0, 1) := by decide +kernel
theorem dX4_removeReels_53 : decode cX4_removeReels 53 = .ok (.iload_n 1, 1) := by decide +kernel
theorem dX4_removeReels_54 : decode cX4_removeReels 54 = .ok (.iadd, 1) := by decide +kernel
theorem dX4_removeReels_55 : decode cX4_removeReels 55 = .ok (.iaload, 1) := by decide +kernel
theorem dX4_removeReels_56 : decode cX4_removeReels 56 = .ok (.istore_n 2, 1) := by decide +kernel
theorem dX4_removeReels_57 : decode cX4_removeReels 57 = .ok (.aload_n 0, 1) := by decide +kernel
theorem dX4_removeReels_58 : decode cX4_removeReels 58 = .ok (.getfield 7, 3) := by decide +kernel
theorem dX4_removeReels_61 : decode cX4_removeReels 61 = .ok (.iconst 0, 1) := by decide +kernel
theorem dX4_removeReels_62 : decode cX4_removeReels 62 = .ok (.iload_n 1, 1) := by decide +kernel
theorem dX4_removeReels_63 : decode cX4_removeReels 63 = .ok (.iadd, 1) := by decide +kernel
theorem dX4_removeReels_64 : decode cX4_removeReels 64 = .ok (.iconst 0, 1) := by decide +kernel
theorem dX4_removeReels_65 : decode cX4_removeReels 65 = .ok (.iastore, 1) := by decide +kernel
theorem dX4_removeReels_66 : decode cX4_removeReels 66 = .ok (.iload_n 2, 1) := by decide +kernel
theorem dX4_removeReels_67 : decode cX4_removeReels 67 = .ok (.ireturn, 1) := by decide +kernel
theorem dX4_setHome_0 : decode cX4_setHome 0 = .ok (.iload_n 1, 1) := by decide +kernel
theorem dX4_setHome_1 : decode cX4_setHome 1 = .ok (.invokestatic 68, 3) := by decide +kernel
theorem dX4_setHome_4 : decode cX4_setHome 4 = .ok (.ifCond .eq 10, 3) := by decide +kernel
theorem dX4_setHome_7 : decode cX4_setHome 7 = .ok (.iload_n 2, 1) := by decide +kernel
theorem dX4_setHome_8 : decode cX4_setHome 8 = .ok (.invokestatic 79, 3) := by decide +kernel
theorem dX4_setHome_11 : decode cX4_setHome 11 = .ok (.ifCond .ne 5, 3) := by decide +kernel
theorem dX4_setHome_14 : decode cX4_setHome 14 = .ok (.iconst (-1), 1) := by decide +kernel
theorem dX4_setHome_15 : decode cX4_setHome 15 = .ok (.ireturn, 1) := by decide +kernel
theorem dX4_setHome_16 : decode cX4_setHome 16 = .ok (.aload_n 0, 1) := by decide +kernel
theorem dX4_setHome_17 : decode cX4_setHome 17 = .ok (.invokevirtual 76, 3) := by decide +kernel
theorem dX4_setHome_20 : decode cX4_setHome 20 = .ok (.aload_n 0, 1) := by decide +kernel
theorem dX4_setHome_21 : decode cX4_setHome 21 = .ok (.getfield 7, 3) := by decide +kernel
theorem dX4_setHome_24 : decode cX4_setHome 24 = .ok (.bipush 52, 2) := by decide +kernel
theorem dX4_setHome_26 : decode cX4_setHome 26 = .ok (.iload_n 1, 1) := by decide +kernel
theorem dX4_setHome_27 : decode cX4_setHome 27 = .ok (.iadd, 1) := by decide +kernel
theorem dX4_setHome_28 : decode cX4_setHome 28 = .ok (.iaload, 1) := by decide +kernel
theorem dX4_setHome_29 : decode cX4_setHome 29 = .ok (.istore_n 3, 1) := by decide +kernel
theorem dX4_setHome_30 : decode cX4_setHome 30 = .ok (.aload_n 0, 1) := by decide +kernel
theorem dX4_setHome_31 : decode cX4_setHome 31 = .ok (.getfield 7, 3) := by decide +kernel
theorem dX4_setHome_34 : decode cX4_setHome 34 = .ok (.bipush 52, 2) := by decide +kernel
theorem dX4_setHome_36 : decode cX4_setHome 36 = .ok (.iload_n 1, 1) := by decide +kernel
theorem dX4_setHome_37 : decode cX4_setHome 37 = .ok (.iadd, 1) := by decide +kernel
theorem dX4_setHome_38 : decode cX4_setHome 38 = .ok (.iload_n 2, 1) := by decide +kernel
theorem dX4_setHome_39 : decode cX4_setHome 39 = .ok (.iastore, 1) := by decide +kernel
theorem dX4_setHome_40 : decode cX4_setHome 40 = .ok (.iload_n 3, 1) := by decide +kernel
theorem dX4_setHome_41 : decode cX4_setHome 41 = .ok (.ireturn, 1) := by decide +kernel
theorem dX4_filmLength_0 : decode cX4_filmLength 0 = .ok (.iload_n 1, 1) := by decide +kernel
theorem dX4_filmLength_1 : decode cX4_filmLength 1 = .ok (.invokestatic 68, 3) := by decide +kernel
theorem dX4_filmLength_4 : decode cX4_filmLength 4 = .ok (.ifCond .ne 5, 3) := by decide +kernel
theorem dX4_filmLength_7 : decode cX4_filmLength 7 = .ok (.iconst (-1), 1) := by decide +kernel
theorem dX4_filmLength_8 : decode cX4_filmLength 8 = .ok (.ireturn, 1) := by decide +kernel
theorem dX4_filmLength_9 : decode cX4_filmLength 9 = .ok (.iconst 0, 1) := by decide +kernel
theorem dX4_filmLength_10 : decode cX4_filmLength 10 = .ok (.istore_n 2, 1) := by decide +kernel
theorem dX4_filmLength_11 : decode cX4_filmLength 11 = .ok (.iconst 0, 1) := by decide +kernel
theorem dX4_filmLength_12 : decode cX4_filmLength 12 = .ok (.istore_n 3, 1) := by decide +kernel
theorem dX4_filmLength_13 : decode cX4_filmLength 13 = .ok (.iload_n 3, 1) := by decide +kernel
theorem dX4_filmLength_14 : decode cX4_filmLength 14 = .ok (.aload_n 0, 1) := by decide +kernel
theorem dX4_filmLength_15 : decode cX4_filmLength 15 = .ok (.getfield 7, 3) := by decide +kernel
theorem dX4_filmLength_18 : decode cX4_filmLength 18 = .ok (.iconst 0, 1) := by decide +kernel
theorem dX4_filmLength_19 : decode cX4_filmLength 19 = .ok (.iload_n 1, 1) := by decide +kernel
theorem dX4_filmLength_20 : decode cX4_filmLength 20 = .ok (.iadd, 1) := by decide +kernel
theorem dX4_filmLength_21 : decode cX4_filmLength 21 = .ok (.iaload, 1) := by decide +kernel
theorem dX4_filmLength_22 : decode cX4_filmLength 22 = .ok (.if_icmp .ge 25, 3) := by decide +kernel
theorem dX4_filmLength_25 : decode cX4_filmLength 25 = .ok (.iload_n 2, 1) := by decide +kernel
theorem dX4_filmLength_26 : decode cX4_filmLength 26 = .ok (.aload_n 0, 1) := by decide +kernel
theorem dX4_filmLength_27 : decode cX4_filmLength 27 = .ok (.getfield 7, 3) := by decide +kernel
theorem dX4_filmLength_30 : decode cX4_filmLength 30 = .ok (.iconst 4, 1) := by decide +kernel
theorem dX4_filmLength_31 : decode cX4_filmLength 31 = .ok (.bipush 6, 2) := by decide +kernel
theorem dX4_filmLength_33 : decode cX4_filmLength 33 = .ok (.iload_n 1, 1) := by decide +kernel
theorem dX4_filmLength_34 : decode cX4_filmLength 34 = .ok (.imul, 1) := by decide +kernel
theorem dX4_filmLength_35 : decode cX4_filmLength 35 = .ok (.iadd, 1) := by decide +kernel
theorem dX4_filmLength_36 : decode cX4_filmLength 36 = .ok (.iload_n 3, 1) := by decide +kernel
theorem dX4_filmLength_37 : decode cX4_filmLength 37 = .ok (.iadd, 1) := by decide +kernel
theorem dX4_filmLength_38 : decode cX4_filmLength 38 = .ok (.iaload, 1) := by decide +kernel
theorem dX4_filmLength_39 : decode cX4_filmLength 39 = .ok (.iadd, 1) := by decide +kernel
theorem dX4_filmLength_40 : decode cX4_filmLength 40 = .ok (.istore_n 2, 1) := by decide +kernel
theorem dX4_filmLength_41 : decode cX4_filmLength 41 = .ok (.iinc 3 1, 3) := by decide +kernel
theorem dX4_filmLength_44 : decode cX4_filmLength 44 = .ok (.goto (-31), 3) := by decide +kernel
theorem dX4_filmLength_47 : decode cX4_filmLength 47 = .ok (.iload_n 2, 1) := by decide +kernel
theorem dX4_filmLength_48 : decode cX4_filmLength 48 = .ok (.ireturn, 1) := by decide +kernel
theorem dX4_addMachine_0 : decode cX4_addMachine 0 = .ok (.iload_n 1, 1) := by decide +kernel
theorem dX4_addMachine_1 : decode cX4_addMachine 1 = .ok (.invokestatic 79, 3) := by decide +kernel
theorem dX4_addMachine_4 : decode cX4_addMachine 4 = .ok (.ifCond .ne 5, 3) := by decide +kernel
theorem dX4_addMachine_7 : decode cX4_addMachine 7 = .ok (.iconst (-1), 1) := by decide +kernel
theorem dX4_addMachine_8 : decode cX4_addMachine 8 = .ok (.ireturn, 1) := by decide +kernel
theorem dX4_addMachine_9 : decode cX4_addMachine 9 = .ok (.aload_n 0, 1) := by decide +kernel
theorem dX4_addMachine_10 : decode cX4_addMachine 10 = .ok (.getfield 7, 3) := by decide +kernel
theorem dX4_addMachine_13 : decode cX4_addMachine 13 = .ok (.bipush 56, 2) := by decide +kernel
theorem dX4_addMachine_15 : decode cX4_addMachine 15 = .ok (.iaload, 1) := by decide +kernel
theorem dX4_addMachine_16 : decode cX4_addMachine 16 = .ok (.iconst 5, 1) := by decide +kernel
theorem dX4_addMachine_17 : decode cX4_addMachine 17 = .ok (.if_icmp .ne 6, 3) := by decide +kernel
theorem dX4_addMachine_20 : decode cX4_addMachine 20 = .ok (.bipush (-3), 2) := by decide +kernel
theorem dX4_addMachine_22 : decode cX4_addMachine 22 = .ok (.ireturn, 1) := by decide +kernel
theorem dX4_addMachine_23 : decode cX4_addMachine 23 = .ok (.aload_n 0, 1) := by decide +kernel
theorem dX4_addMachine_24 : decode cX4_addMachine 24 = .ok (.invokevirtual 76, 3) := by decide +kernel
theorem dX4_addMachine_27 : decode cX4_addMachine 27 = .ok (.aload_n 0, 1) := by decide +kernel
theorem dX4_addMachine_28 : decode cX4_addMachine 28 = .ok (.getfield 7, 3) := by decide +kernel
theorem dX4_addMachine_31 : decode cX4_addMachine 31 = .ok (.bipush 57, 2) := by decide +kernel
theorem dX4_addMachine_33 : decode cX4_addMachine 33 = .ok (.aload_n 0, 1) := by decide +kernel
theorem dX4_addMachine_34 : decode cX4_addMachine 34 = .ok (.getfield 7, 3) := by decide +kernel
theorem dX4_addMachine_37 : decode cX4_addMachine 37 = .ok (.bipush 56, 2) := by decide +kernel
theorem dX4_addMachine_39 : decode cX4_addMachine 39 = .ok (.iaload, 1) := by decide +kernel
theorem dX4_addMachine_40 : decode cX4_addMachine 40 = .ok (.iadd, 1) := by decide +kernel
theorem dX4_addMachine_41 : decode cX4_addMachine 41 = .ok (.iload_n 1, 1) := by decide +kernel
theorem dX4_addMachine_42 : decode cX4_addMachine 42 = .ok (.iastore, 1) := by decide +kernel
theorem dX4_addMachine_43 : decode cX4_addMachine 43 = .ok (.aload_n 0, 1) := by decide +kernel
theorem dX4_addMachine_44 : decode cX4_addMachine 44 = .ok (.getfield 7, 3) := by decide +kernel
theorem dX4_addMachine_47 : decode cX4_addMachine 47 = .ok (.bipush 56, 2) := by decide +kernel
theorem dX4_addMachine_49 : decode cX4_addMachine 49 = .ok (.dup2, 1) := by decide +kernel
theorem dX4_addMachine_50 : decode cX4_addMachine 50 = .ok (.iaload, 1) := by decide +kernel
theorem dX4_addMachine_51 : decode cX4_addMachine 51 = .ok (.iconst 1, 1) := by decide +kernel
theorem dX4_addMachine_52 : decode cX4_addMachine 52 = .ok (.iadd, 1) := by decide +kernel
theorem dX4_addMachine_53 : decode cX4_addMachine 53 = .ok (.iastore, 1) := by decide +kernel
theorem dX4_addMachine_54 : decode cX4_addMachine 54 = .ok (.aload_n 0, 1) := by decide +kernel
theorem dX4_addMachine_55 : decode cX4_addMachine 55 = .ok (.getfield 7, 3) := by decide +kernel
theorem dX4_addMachine_58 : decode cX4_addMachine 58 = .ok (.bipush 56, 2) := by decide +kernel
theorem dX4_addMachine_60 : decode cX4_addMachine 60 = .ok (.iaload, 1) := by decide +kernel
theorem dX4_addMachine_61 : decode cX4_addMachine 61 = .ok (.iconst 1, 1) := by decide +kernel
theorem dX4_addMachine_62 : decode cX4_addMachine 62 = .ok (.isub, 1) := by decide +kernel
theorem dX4_addMachine_63 : decode cX4_addMachine 63 = .ok (.ireturn, 1) := by decide +kernel
theorem dX4_removeMachine_0 : decode cX4_removeMachine 0 = .ok (.aload_n 0, 1) := by decide +kernel
theorem dX4_removeMachine_1 : decode cX4_removeMachine 1 = .ok (.iload_n 1, 1) := by decide +kernel
theorem dX4_removeMachine_2 : decode cX4_removeMachine 2 = .ok (.invokevirtual 82, 3) := by decide +kernel
theorem dX4_removeMachine_5 : decode cX4_removeMachine 5 = .ok (.ifCond .ne 5, 3) := by decide +kernel
theorem dX4_removeMachine_8 : decode cX4_removeMachine 8 = .ok (.iconst (-1), 1) := by decide +kernel
theorem dX4_removeMachine_9 : decode cX4_removeMachine 9 = .ok (.ireturn, 1) := by decide +kernel
theorem dX4_removeMachine_10 : decode cX4_removeMachine 10 = .ok (.aload_n 0, 1) := by decide +kernel
theorem dX4_removeMachine_11 : decode cX4_removeMachine 11 = .ok (.invokevirtual 76, 3) := by decide +kernel
theorem dX4_removeMachine_14 : decode cX4_removeMachine 14 = .ok (.aload_n 0, 1) := by decide +kernel
theorem dX4_removeMachine_15 : decode cX4_removeMachine 15 = .ok (.getfield 7, 3) := by decide +kernel
theorem dX4_removeMachine_18 : decode cX4_removeMachine 18 = .ok (.bipush 56, 2) := by decide +kernel
theorem dX4_removeMachine_20 : decode cX4_removeMachine 20 = .ok (.dup2, 1) := by decide +kernel
theorem dX4_removeMachine_21 : decode cX4_removeMachine 21 = .ok (.iaload, 1) := by decide +kernel
theorem dX4_removeMachine_22 : decode cX4_removeMachine 22 = .ok (.iconst 1, 1) := by decide +kernel
theorem dX4_removeMachine_23 : decode cX4_removeMachine 23 = .ok (.isub, 1) := by decide +kernel
theorem dX4_removeMachine_24 : decode cX4_removeMachine 24 = .ok (.iastore, 1) := by decide +kernel
theorem dX4_removeMachine_25 : decode cX4_removeMachine 25 = .ok (.iload_n 1, 1) := by decide +kernel
theorem dX4_removeMachine_26 : decode cX4_removeMachine 26 = .ok (.istore_n 2, 1) := by decide +kernel
theorem dX4_removeMachine_27 : decode cX4_removeMachine 27 = .ok (.iload_n 2, 1) := by decide +kernel
theorem dX4_removeMachine_28 : decode cX4_removeMachine 28 = .ok (.aload_n 0, 1) := by decide +kernel
theorem dX4_removeMachine_29 : decode cX4_removeMachine 29 = .ok (.getfield 7, 3) := by decide +kernel
theorem dX4_removeMachine_32 : decode cX4_removeMachine 32 = .ok (.bipush 56, 2) := by decide +kernel
theorem dX4_removeMachine_34 : decode cX4_removeMachine 34 = .ok (.iaload, 1) := by decide +kernel
theorem dX4_removeMachine_35 : decode cX4_removeMachine 35 = .ok (.if_icmp .ge 29, 3) := by decide +kernel
theorem dX4_removeMachine_38 : decode cX4_removeMachine 38 = .ok (.aload_n 0, 1) := by decide +kernel
theorem dX4_removeMachine_39 : decode cX4_removeMachine 39 = .ok (.getfield 7, 3) := by decide +kernel
theorem dX4_removeMachine_42 : decode cX4_removeMachine 42 = .ok (.bipush 57, 2) := by decide +kernel
theorem dX4_removeMachine_44 : decode cX4_removeMachine 44 = .ok (.iload_n 2, 1) := by decide +kernel
theorem dX4_removeMachine_45 : decode cX4_removeMachine 45 = .ok (.iadd, 1) := by decide +kernel
theorem dX4_removeMachine_46 : decode cX4_removeMachine 46 = .ok (.aload_n 0, 1) := by decide +kernel
theorem dX4_removeMachine_47 : decode cX4_removeMachine 47 = .ok (.getfield 7, 3) := by decide +kernel
theorem dX4_removeMachine_50 : decode cX4_removeMachine 50 = .ok (.bipush 57, 2) := by decide +kernel
theorem dX4_removeMachine_52 : decode cX4_removeMachine 52 = .ok (.iload_n 2, 1) := by decide +kernel
theorem dX4_removeMachine_53 : decode cX4_removeMachine 53 = .ok (.iadd, 1) := by decide +kernel
theorem dX4_removeMachine_54 : decode cX4_removeMachine 54 = .ok (.iconst 1, 1) := by decide +kernel
theorem dX4_removeMachine_55 : decode cX4_removeMachine 55 = .ok (.iadd, 1) := by decide +kernel
theorem dX4_removeMachine_56 : decode cX4_removeMachine 56 = .ok (.iaload, 1) := by decide +kernel
theorem dX4_removeMachine_57 : decode cX4_removeMachine 57 = .ok (.iastore, 1) := by decide +kernel
theorem dX4_removeMachine_58 : decode cX4_removeMachine 58 = .ok (.iinc 2 1, 3) := by decide +kernel
theorem dX4_removeMachine_61 : decode cX4_removeMachine 61 = .ok (.goto (-34), 3) := by decide +kernel
theorem dX4_removeMachine_64 : decode cX4_removeMachine 64 = .ok (.aload_n 0, 1) := by decide +kernel
theorem dX4_removeMachine_65 : decode cX4_removeMachine 65 = .ok (.getfield 7, 3) := by decide +kernel
theorem dX4_removeMachine_68 : decode cX4_removeMachine 68 = .ok (.bipush 56, 2) := by decide +kernel
theorem dX4_removeMachine_70 : decode cX4_removeMachine 70 = .ok (.iaload, 1) := by decide +kernel
theorem dX4_removeMachine_71 : decode cX4_removeMachine 71 = .ok (.ireturn, 1) := by decide +kernel
theorem dX4_houseOf_0 : decode cX4_houseOf 0 = .ok (.aload_n 0, 1) := by decide +kernel
theorem dX4_houseOf_1 : decode cX4_houseOf 1 = .ok (.iload_n 1, 1) := by decide +kernel
theorem dX4_houseOf_2 : decode cX4_houseOf 2 = .ok (.invokevirtual 82, 3) := by decide +kernel
theorem dX4_houseOf_5 : decode cX4_houseOf 5 = .ok (.ifCond .eq 15, 3) := by decide +kernel
theorem dX4_houseOf_8 : decode cX4_houseOf 8 = .ok (.aload_n 0, 1) := by decide +kernel
theorem dX4_houseOf_9 : decode cX4_houseOf 9 = .ok (.getfield 7, 3) := by decide +kernel
theorem dX4_houseOf_12 : decode cX4_houseOf 12 = .ok (.bipush 57, 2) := by decide +kernel
theorem dX4_houseOf_14 : decode cX4_houseOf 14 = .ok (.iload_n 1, 1) := by decide +kernel
theorem dX4_houseOf_15 : decode cX4_houseOf 15 = .ok (.iadd, 1) := by decide +kernel
theorem dX4_houseOf_16 : decode cX4_houseOf 16 = .ok (.iaload, 1) := by decide +kernel
theorem dX4_houseOf_17 : decode cX4_houseOf 17 = .ok (.goto 4, 3) := by decide +kernel
theorem dX4_houseOf_20 : decode cX4_houseOf 20 = .ok (.iconst (-1), 1) := by decide +kernel
theorem dX4_houseOf_21 : decode cX4_houseOf 21 = .ok (.ireturn, 1) := by decide +kernel
theorem dX4_setCarriers_0 : decode cX4_setCarriers 0 = .ok (.iload_n 1, 1) := by decide +kernel
theorem dX4_setCarriers_1 : decode cX4_setCarriers 1 = .ok (.i2l, 1) := by decide +kernel
theorem dX4_setCarriers_2 : decode cX4_setCarriers 2 = .ok (.lconst 1, 1) := by decide +kernel
theorem dX4_setCarriers_3 : decode cX4_setCarriers 3 = .ok (.ldc2_w 60, 3) := by decide +kernel
theorem dX4_setCarriers_6 : decode cX4_setCarriers 6 = .ok (.invokestatic 62, 3) := by decide +kernel
theorem dX4_setCarriers_9 : decode cX4_setCarriers 9 = .ok (.ifCond .ne 5, 3) := by decide +kernel
theorem dX4_setCarriers_12 : decode cX4_setCarriers 12 = .ok (.iconst (-1), 1) := by decide +kernel
theorem dX4_setCarriers_13 : decode cX4_setCarriers 13 = .ok (.ireturn, 1) := by decide +kernel
theorem dX4_setCarriers_14 : decode cX4_setCarriers 14 = .ok (.aload_n 0, 1) := by decide +kernel
theorem dX4_setCarriers_15 : decode cX4_setCarriers 15 = .ok (.invokevirtual 76, 3) := by decide +kernel
theorem dX4_setCarriers_18 : decode cX4_setCarriers 18 = .ok (.aload_n 0, 1) := by decide +kernel
theorem dX4_setCarriers_19 : decode cX4_setCarriers 19 = .ok (.getfield 7, 3) := by decide +kernel
theorem dX4_setCarriers_22 : decode cX4_setCarriers 22 = .ok (.bipush 62, 2) := by decide +kernel
theorem dX4_setCarriers_24 : decode cX4_setCarriers 24 = .ok (.iaload, 1) := by decide +kernel
theorem dX4_setCarriers_25 : decode cX4_setCarriers 25 = .ok (.istore_n 2, 1) := by decide +kernel
theorem dX4_setCarriers_26 : decode cX4_setCarriers 26 = .ok (.aload_n 0, 1) := by decide +kernel
theorem dX4_setCarriers_27 : decode cX4_setCarriers 27 = .ok (.getfield 7, 3) := by decide +kernel
theorem dX4_setCarriers_30 : decode cX4_setCarriers 30 = .ok (.bipush 62, 2) := by decide +kernel
theorem dX4_setCarriers_32 : decode cX4_setCarriers 32 = .ok (.iload_n 1, 1) := by decide +kernel
theorem dX4_setCarriers_33 : decode cX4_setCarriers 33 = .ok (.iastore, 1) := by decide +kernel
theorem dX4_setCarriers_34 : decode cX4_setCarriers 34 = .ok (.iload_n 2, 1) := by decide +kernel
theorem dX4_setCarriers_35 : decode cX4_setCarriers 35 = .ok (.ireturn, 1) := by decide +kernel
theorem dX4_setDuration_0 : decode cX4_setDuration 0 = .ok (.iload_n 1, 1) := by decide +kernel
theorem dX4_setDuration_1 : decode cX4_setDuration 1 = .ok (.i2l, 1) := by decide +kernel
theorem dX4_setDuration_2 : decode cX4_setDuration 2 = .ok (.lconst 0, 1) := by decide +kernel
theorem dX4_setDuration_3 : decode cX4_setDuration 3 = .ok (.ldc2_w 60, 3) := by decide +kernel
theorem dX4_setDuration_6 : decode cX4_setDuration 6 = .ok (.invokestatic 62, 3) := by decide +kernel
theorem dX4_setDuration_9 : decode cX4_setDuration 9 = .ok (.ifCond .eq 46, 3) := by decide +kernel
theorem dX4_setDuration_12 : decode cX4_setDuration 12 = .ok (.iload_n 2, 1) := by decide +kernel
theorem dX4_setDuration_13 : decode cX4_setDuration 13 = .ok (.i2l, 1) := by decide +kernel
theorem dX4_setDuration_14 : decode cX4_setDuration 14 = .ok (.iload_n 1, 1) := by decide +kernel
theorem dX4_setDuration_15 : decode cX4_setDuration 15 = .ok (.iconst 3, 1) := by decide +kernel
theorem dX4_setDuration_16 : decode cX4_setDuration 16 = .ok (.if_icmp .ne 7, 3) := by decide +kernel
theorem dX4_setDuration_19 : decode cX4_setDuration 19 = .ok (.lconst 1, 1) := by decide +kernel
theorem dX4_setDuration_20 : decode cX4_setDuration 20 = .ok (.goto 4, 3) := by decide +kernel
theorem dX4_setDuration_23 : decode cX4_setDuration 23 = .ok (.lconst 0, 1) := by decide +kernel
theorem dX4_setDuration_24 : decode cX4_setDuration 24 = .ok (.iload_n 1, 1) := by decide +kernel
theorem dX4_setDuration_25 : decode cX4_setDuration 25 = .ok (.iconst 2, 1) := by decide +kernel
theorem dX4_setDuration_26 : decode cX4_setDuration 26 = .ok (.if_icmp .ge 9, 3) := by decide +kernel
theorem dX4_setDuration_29 : decode cX4_setDuration 29 = .ok (.ldc2_w 85, 3) := by decide +kernel
theorem dX4_setDuration_32 : decode cX4_setDuration 32 = .ok (.goto 17, 3) := by decide +kernel
theorem dX4_setDuration_35 : decode cX4_setDuration 35 = .ok (.iload_n 1, 1) := by decide +kernel
theorem dX4_setDuration_36 : decode cX4_setDuration 36 = .ok (.iconst 2, 1) := by decide +kernel
theorem dX4_setDuration_37 : decode cX4_setDuration 37 = .ok (.if_icmp .ne 9, 3) := by decide +kernel
theorem dX4_setDuration_40 : decode cX4_setDuration 40 = .ok (.ldc2_w 87, 3) := by decide +kernel
theorem dX4_setDuration_43 : decode cX4_setDuration 43 = .ok (.goto 6, 3) := by decide +kernel
theorem dX4_setDuration_46 : decode cX4_setDuration 46 = .ok (.ldc2_w 72, 3) := by decide +kernel
theorem dX4_setDuration_49 : decode cX4_setDuration 49 = .ok (.invokestatic 62, 3) := by decide +kernel
theorem dX4_setDuration_52 : decode cX4_setDuration 52 = .ok (.ifCond .ne 5, 3) := by decide +kernel
theorem dX4_setDuration_55 : decode cX4_setDuration 55 = .ok (.iconst (-1), 1) := by decide +kernel
theorem dX4_setDuration_56 : decode cX4_setDuration 56 = .ok (.ireturn, 1) := by decide +kernel
theorem dX4_setDuration_57 : decode cX4_setDuration 57 = .ok (.aload_n 0, 1) := by decide +kernel
theorem dX4_setDuration_58 : decode cX4_setDuration 58 = .ok (.invokevirtual 76, 3) := by decide +kernel
theorem dX4_setDuration_61 : decode cX4_setDuration 61 = .ok (.aload_n 0, 1) := by decide +kernel
theorem dX4_setDuration_62 : decode cX4_setDuration 62 = .ok (.getfield 7, 3) := by decide +kernel
theorem dX4_setDuration_65 : decode cX4_setDuration 65 = .ok (.bipush 63, 2) := by decide +kernel
theorem dX4_setDuration_67 : decode cX4_setDuration 67 = .ok (.iload_n 1, 1) := by decide +kernel
theorem dX4_setDuration_68 : decode cX4_setDuration 68 = .ok (.iadd, 1) := by decide +kernel
theorem dX4_setDuration_69 : decode cX4_setDuration 69 = .ok (.iaload, 1) := by decide +kernel
theorem dX4_setDuration_70 : decode cX4_setDuration 70 = .ok (.istore_n 3, 1) := by decide +kernel
theorem dX4_setDuration_71 : decode cX4_setDuration 71 = .ok (.aload_n 0, 1) := by decide +kernel
theorem dX4_setDuration_72 : decode cX4_setDuration 72 = .ok (.getfield 7, 3) := by decide +kernel
theorem dX4_setDuration_75 : decode cX4_setDuration 75 = .ok (.bipush 63, 2) := by decide +kernel
theorem dX4_setDuration_77 : decode cX4_setDuration 77 = .ok (.iload_n 1, 1) := by decide +kernel
theorem dX4_setDuration_78 : decode cX4_setDuration 78 = .ok (.iadd, 1) := by decide +kernel
theorem dX4_setDuration_79 : decode cX4_setDuration 79 = .ok (.iload_n 2, 1) := by decide +kernel
theorem dX4_setDuration_80 : decode cX4_setDuration 80 = .ok (.iastore, 1) := by decide +kernel
theorem dX4_setDuration_81 : decode cX4_setDuration 81 = .ok (.iload_n 3, 1) := by decide +kernel
theorem dX4_setDuration_82 : decode cX4_setDuration 82 = .ok (.ireturn, 1) := by decide +kernel
theorem dX4_addShow_0 : decode cX4_addShow 0 = .ok (.iload_n 1, 1) := by decide +kernel
theorem dX4_addShow_1 : decode cX4_addShow 1 = .ok (.invokestatic 79, 3) := by decide +kernel
theorem dX4_addShow_4 : decode cX4_addShow 4 = .ok (.ifCond .eq 17, 3) := by decide +kernel
theorem dX4_addShow_7 : decode cX4_addShow 7 = .ok (.iload_n 2, 1) := by decide +kernel
theorem dX4_addShow_8 : decode cX4_addShow 8 = .ok (.invokestatic 68, 3) := by decide +kernel
theorem dX4_addShow_11 : decode cX4_addShow 11 = .ok (.ifCond .eq 10, 3) := by decide +kernel
theorem dX4_addShow_14 : decode cX4_addShow 14 = .ok (.iload_n 3, 1) := by decide +kernel
theorem dX4_addShow_15 : decode cX4_addShow 15 = .ok (.invokestatic 89, 3) := by decide +kernel
theorem dX4_addShow_18 : decode cX4_addShow 18 = .ok (.ifCond .ne 5, 3) := by decide +kernel
theorem dX4_addShow_21 : decode cX4_addShow 21 = .ok (.iconst (-1), 1) := by decide +kernel
theorem dX4_addShow_22 : decode cX4_addShow 22 = .ok (.ireturn, 1) := by decide +kernel
theorem dX4_addShow_23 : decode cX4_addShow 23 = .ok (.aload_n 0, 1) := by decide +kernel
theorem dX4_addShow_24 : decode cX4_addShow 24 = .ok (.getfield 7, 3) := by decide +kernel
theorem dX4_addShow_27 : decode cX4_addShow 27 = .ok (.iconst 0, 1) := by decide +kernel
theorem dX4_addShow_28 : decode cX4_addShow 28 = .ok (.iload_n 2, 1) := by decide +kernel
theorem dX4_addShow_29 : decode cX4_addShow 29 = .ok (.iadd, 1) := by decide +kernel
theorem dX4_addShow_30 : decode cX4_addShow 30 = .ok (.iaload, 1) := by decide +kernel
theorem dX4_addShow_31 : decode cX4_addShow 31 = .ok (.ifCond .ne 6, 3) := by decide +kernel
theorem dX4_addShow_34 : decode cX4_addShow 34 = .ok (.bipush (-2), 2) := by decide +kernel
theorem dX4_addShow_36 : decode cX4_addShow 36 = .ok (.ireturn, 1) := by decide +kernel
theorem dX4_addShow_37 : decode cX4_addShow 37 = .ok (.aload_n 0, 1) := by decide +kernel
theorem dX4_addShow_38 : decode cX4_addShow 38 = .ok (.getfield 7, 3) := by decide +kernel
theorem dX4_addShow_41 : decode cX4_addShow 41 = .ok (.bipush 67, 2) := by decide +kernel
theorem dX4_addShow_43 : decode cX4_addShow 43 = .ok (.iaload, 1) := by decide +kernel
theorem dX4_addShow_44 : decode cX4_addShow 44 = .ok (.bipush 6, 2) := by decide +kernel
theorem dX4_addShow_46 : decode cX4_addShow 46 = .ok (.if_icmp .ne 6, 3) := by decide +kernel
theorem dX4_addShow_49 : decode cX4_addShow 49 = .ok (.bipush (-3), 2) := by decide +kernel
theorem dX4_addShow_51 : decode cX4_addShow 51 = .ok (.ireturn, 1) := by decide +kernel
theorem dX4_addShow_52 : decode cX4_addShow 52 = .ok (.aload_n 0, 1) := by decide +kernel
theorem dX4_addShow_53 : decode cX4_addShow 53 = .ok (.invokevirtual 76, 3) := by decide +kernel
theorem dX4_addShow_56 : decode cX4_addShow 56 = .ok (.aload_n 0, 1) := by decide +kernel
theorem dX4_addShow_57 : decode cX4_addShow 57 = .ok (.getfield 7, 3) := by decide +kernel
theorem dX4_addShow_60 : decode cX4_addShow 60 = .ok (.bipush 67, 2) := by decide +kernel
theorem dX4_addShow_62 : decode cX4_addShow 62 = .ok (.iaload, 1) := by decide +kernel
theorem dX4_addShow_63 : decode cX4_addShow 63 = .ok (.istore 4, 2) := by decide +kernel
theorem dX4_addShow_65 : decode cX4_addShow 65 = .ok (.aload_n 0, 1) := by decide +kernel
theorem dX4_addShow_66 : decode cX4_addShow 66 = .ok (.getfield 7, 3) := by decide +kernel
theorem dX4_addShow_69 : decode cX4_addShow 69 = .ok (.bipush 68, 2) := by decide +kernel
theorem dX4_addShow_71 : decode cX4_addShow 71 = .ok (.iload 4, 2) := by decide +kernel
theorem dX4_addShow_73 : decode cX4_addShow 73 = .ok (.iadd, 1) := by decide +kernel
theorem dX4_addShow_74 : decode cX4_addShow 74 = .ok (.iload_n 1, 1) := by decide +kernel
theorem dX4_addShow_75 : decode cX4_addShow 75 = .ok (.iastore, 1) := by decide +kernel
theorem dX4_addShow_76 : decode cX4_addShow 76 = .ok (.aload_n 0, 1) := by decide +kernel
theorem dX4_addShow_77 : decode cX4_addShow 77 = .ok (.getfield 7, 3) := by decide +kernel
theorem dX4_addShow_80 : decode cX4_addShow 80 = .ok (.bipush 74, 2) := by decide +kernel
theorem dX4_addShow_82 : decode cX4_addShow 82 = .ok (.iload 4, 2) := by decide +kernel
theorem dX4_addShow_84 : decode cX4_addShow 84 = .ok (.iadd, 1) := by decide +kernel
theorem dX4_addShow_85 : decode cX4_addShow 85 = .ok (.iload_n 2, 1) := by decide +kernel
theorem dX4_addShow_86 : decode cX4_addShow 86 = .ok (.iastore, 1) := by decide +kernel
theorem dX4_addShow_87 : decode cX4_addShow 87 = .ok (.aload_n 0, 1) := by decide +kernel
theorem dX4_addShow_88 : decode cX4_addShow 88 = .ok (.getfield 7, 3) := by decide +kernel
theorem dX4_addShow_91 : decode cX4_addShow 91 = .ok (.bipush 80, 2) := by decide +kernel
theorem dX4_addShow_93 : decode cX4_addShow 93 = .ok (.iload 4, 2) := by decide +kernel
theorem dX4_addShow_95 : decode cX4_addShow 95 = .ok (.iadd, 1) := by decide +kernel
theorem dX4_addShow_96 : decode cX4_addShow 96 = .ok (.iload_n 3, 1) := by decide +kernel
theorem dX4_addShow_97 : decode cX4_addShow 97 = .ok (.iastore, 1) := by decide +kernel
theorem dX4_addShow_98 : decode cX4_addShow 98 = .ok (.aload_n 0, 1) := by decide +kernel
theorem dX4_addShow_99 : decode cX4_addShow 99 = .ok (.getfield 7, 3) := by decide +kernel
theorem dX4_addShow_102 : decode cX4_addShow 102 = .ok (.bipush 67, 2) := by decide +kernel
theorem dX4_addShow_104 : decode cX4_addShow 104 = .ok (.dup2, 1) := by decide +kernel
theorem dX4_addShow_105 : decode cX4_addShow 105 = .ok (.iaload, 1) := by decide +kernel
theorem dX4_addShow_106 : decode cX4_addShow 106 = .ok (.iconst 1, 1) := by decide +kernel
theorem dX4_addShow_107 : decode cX4_addShow 107 = .ok (.iadd, 1) := by decide +kernel
theorem dX4_addShow_108 : decode cX4_addShow 108 = .ok (.iastore, 1) := by decide +kernel
theorem dX4_addShow_109 : decode cX4_addShow 109 = .ok (.iload 4, 2) := by decide +kernel
theorem dX4_addShow_111 : decode cX4_addShow 111 = .ok (.ireturn, 1) := by decide +kernel
theorem dX4_goes_0 : decode cX4_goes 0 = .ok (.aload_n 0, 1) := by decide +kernel
theorem dX4_goes_1 : decode cX4_goes 1 = .ok (.getfield 7, 3) := by decide +kernel
theorem dX4_goes_4 : decode cX4_goes 4 = .ok (.bipush 67, 2) := by decide +kernel
theorem dX4_goes_6 : decode cX4_goes 6 = .ok (.dup2, 1) := by decide +kernel
theorem dX4_goes_7 : decode cX4_goes 7 = .ok (.iaload, 1) := by decide +kernel
theorem dX4_goes_8 : decode cX4_goes 8 = .ok (.iconst 1, 1) := by decide +kernel
theorem dX4_goes_9 : decode cX4_goes 9 = .ok (.isub, 1) := by decide +kernel
theorem dX4_goes_10 : decode cX4_goes 10 = .ok (.iastore, 1) := by decide +kernel
theorem dX4_goes_11 : decode cX4_goes 11 = .ok (.iload_n 1, 1) := by decide +kernel
theorem dX4_goes_12 : decode cX4_goes 12 = .ok (.istore_n 2, 1) := by decide +kernel
theorem dX4_goes_13 : decode cX4_goes 13 = .ok (.iload_n 2, 1) := by decide +kernel
theorem dX4_goes_14 : decode cX4_goes 14 = .ok (.aload_n 0, 1) := by decide +kernel
theorem dX4_goes_15 : decode cX4_goes 15 = .ok (.getfield 7, 3) := by decide +kernel
theorem dX4_goes_18 : decode cX4_goes 18 = .ok (.bipush 67, 2) := by decide +kernel
theorem dX4_goes_20 : decode cX4_goes 20 = .ok (.iaload, 1) := by decide +kernel
theorem dX4_goes_21 : decode cX4_goes 21 = .ok (.if_icmp .ge 69, 3) := by decide +kernel
theorem dX4_goes_24 : decode cX4_goes 24 = .ok (.aload_n 0, 1) := by decide +kernel
theorem dX4_goes_25 : decode cX4_goes 25 = .ok (.getfield 7, 3) := by decide +kernel
theorem dX4_goes_28 : decode cX4_goes 28 = .ok (.bipush 68, 2) := by decide +kernel
theorem dX4_goes_30 : decode cX4_goes 30 = .ok (.iload_n 2, 1) := by decide +kernel
theorem dX4_goes_31 : decode cX4_goes 31 = .ok (.iadd, 1) := by decide +kernel
theorem dX4_goes_32 : decode cX4_goes 32 = .ok (.aload_n 0, 1) := by decide +kernel
theorem dX4_goes_33 : decode cX4_goes 33 = .ok (.getfield 7, 3) := by decide +kernel
theorem dX4_goes_36 : decode cX4_goes 36 = .ok (.bipush 68, 2) := by decide +kernel
theorem dX4_goes_38 : decode cX4_goes 38 = .ok (.iload_n 2, 1) := by decide +kernel
theorem dX4_goes_39 : decode cX4_goes 39 = .ok (.iadd, 1) := by decide +kernel
theorem dX4_goes_40 : decode cX4_goes 40 = .ok (.iconst 1, 1) := by decide +kernel
theorem dX4_goes_41 : decode cX4_goes 41 = .ok (.iadd, 1) := by decide +kernel
theorem dX4_goes_42 : decode cX4_goes 42 = .ok (.iaload, 1) := by decide +kernel
theorem dX4_goes_43 : decode cX4_goes 43 = .ok (.iastore, 1) := by decide +kernel
theorem dX4_goes_44 : decode cX4_goes 44 = .ok (.aload_n 0, 1) := by decide +kernel
theorem dX4_goes_45 : decode cX4_goes 45 = .ok (.getfield 7, 3) := by decide +kernel
theorem dX4_goes_48 : decode cX4_goes 48 = .ok (.bipush 74, 2) := by decide +kernel
theorem dX4_goes_50 : decode cX4_goes 50 = .ok (.iload_n 2, 1) := by decide +kernel
theorem dX4_goes_51 : decode cX4_goes 51 = .ok (.iadd, 1) := by decide +kernel
theorem dX4_goes_52 : decode cX4_goes 52 = .ok (.aload_n 0, 1) := by decide +kernel
theorem dX4_goes_53 : decode cX4_goes 53 = .ok (.getfield 7, 3) := by decide +kernel
theorem dX4_goes_56 : decode cX4_goes 56 = .ok (.bipush 74, 2) := by decide +kernel
theorem dX4_goes_58 : decode cX4_goes 58 = .ok (.iload_n 2, 1) := by decide +kernel
theorem dX4_goes_59 : decode cX4_goes 59 = .ok (.iadd, 1) := by decide +kernel
theorem dX4_goes_60 : decode cX4_goes 60 = .ok (.iconst 1, 1) := by decide +kernel
theorem dX4_goes_61 : decode cX4_goes 61 = .ok (.iadd, 1) := by decide +kernel
theorem dX4_goes_62 : decode cX4_goes 62 = .ok (.iaload, 1) := by decide +kernel
theorem dX4_goes_63 : decode cX4_goes 63 = .ok (.iastore, 1) := by decide +kernel
theorem dX4_goes_64 : decode cX4_goes 64 = .ok (.aload_n 0, 1) := by decide +kernel
theorem dX4_goes_65 : decode cX4_goes 65 = .ok (.getfield 7, 3) := by decide +kernel
theorem dX4_goes_68 : decode cX4_goes 68 = .ok (.bipush 80, 2) := by decide +kernel
theorem dX4_goes_70 : decode cX4_goes 70 = .ok (.iload_n 2, 1) := by decide +kernel
theorem dX4_goes_71 : decode cX4_goes 71 = .ok (.iadd, 1) := by decide +kernel
theorem dX4_goes_72 : decode cX4_goes 72 = .ok (.aload_n 0, 1) := by decide +kernel
theorem dX4_goes_73 : decode cX4_goes 73 = .ok (.getfield 7, 3) := by decide +kernel
theorem dX4_goes_76 : decode cX4_goes 76 = .ok (.bipush 80, 2) := by decide +kernel
theorem dX4_goes_78 : decode cX4_goes 78 = .ok (.iload_n 2, 1) := by decide +kernel
theorem dX4_goes_79 : decode cX4_goes 79 = .ok (.iadd, 1) := by decide +kernel
theorem dX4_goes_80 : decode cX4_goes 80 = .ok (.iconst 1, 1) := by decide +kernel
theorem dX4_goes_81 : decode cX4_goes 81 = .ok (.iadd, 1) := by decide +kernel
theorem dX4_goes_82 : decode cX4_goes 82 = .ok (.iaload, 1) := by decide +kernel
theorem dX4_goes_83 : decode cX4_goes 83 = .ok (.iastore, 1) := by decide +kernel
theorem dX4_goes_84 : decode cX4_goes 84 = .ok (.iinc 2 1, 3) := by decide +kernel
theorem dX4_goes_87 : decode cX4_goes 87 = .ok (.goto (-74), 3) := by decide +kernel
theorem dX4_goes_90 : decode cX4_goes 90 = .ok (.iconst 0, 1) := by decide +kernel
theorem dX4_goes_91 : decode cX4_goes 91 = .ok (.istore_n 2, 1) := by decide +kernel
theorem dX4_goes_92 : decode cX4_goes 92 = .ok (.iconst 0, 1) := by decide +kernel
theorem dX4_goes_93 : decode cX4_goes 93 = .ok (.istore_n 3, 1) := by decide +kernel
theorem dX4_goes_94 : decode cX4_goes 94 = .ok (.iload_n 3, 1) := by decide +kernel
theorem dX4_goes_95 : decode cX4_goes 95 = .ok (.aload_n 0, 1) := by decide +kernel
theorem dX4_goes_96 : decode cX4_goes 96 = .ok (.getfield 7, 3) := by decide +kernel
theorem dX4_goes_99 : decode cX4_goes 99 = .ok (.bipush 86, 2) := by decide +kernel
theorem dX4_goes_101 : decode cX4_goes 101 = .ok (.iaload, 1) := by decide +kernel
theorem dX4_goes_102 : decode cX4_goes 102 = .ok (.if_icmp .ge 89, 3) := by decide +kernel
theorem dX4_goes_105 : decode cX4_goes 105 = .ok (.aload_n 0, 1) := by decide +kernel
theorem dX4_goes_106 : decode cX4_goes 106 = .ok (.getfield 7, 3) := by decide +kernel
theorem dX4_goes_109 : decode cX4_goes 109 = .ok (.bipush 87, 2) := by decide +kernel
theorem dX4_goes_111 : decode cX4_goes 111 = .ok (.iload_n 3, 1) := by decide +kernel
theorem dX4_goes_112 : decode cX4_goes 112 = .ok (.iadd, 1) := by decide +kernel
theorem dX4_goes_113 : decode cX4_goes 113 = .ok (.iaload, 1) := by decide +kernel
theorem dX4_goes_114 : decode cX4_goes 114 = .ok (.istore 4, 2) := by decide +kernel
theorem dX4_goes_116 : decode cX4_goes 116 = .ok (.iload 4, 2) := by decide +kernel
theorem dX4_goes_118 : decode cX4_goes 118 = .ok (.iload_n 1, 1) := by decide +kernel
theorem dX4_goes_119 : decode cX4_goes 119 = .ok (.if_icmp .eq 66, 3) := by decide +kernel
theorem dX4_goes_122 : decode cX4_goes 122 = .ok (.aload_n 0, 1) := by decide +kernel
theorem dX4_goes_123 : decode cX4_goes 123 = .ok (.getfield 7, 3) := by decide +kernel
theorem dX4_goes_126 : decode cX4_goes 126 = .ok (.bipush 87, 2) := by decide +kernel
theorem dX4_goes_128 : decode cX4_goes 128 = .ok (.iload_n 2, 1) := by decide +kernel
theorem dX4_goes_129 : decode cX4_goes 129 = .ok (.iadd, 1) := by decide +kernel
theorem dX4_goes_130 : decode cX4_goes 130 = .ok (.iload 4, 2) := by decide +kernel
theorem dX4_goes_132 : decode cX4_goes 132 = .ok (.iload_n 1, 1) := by decide +kernel
theorem dX4_goes_133 : decode cX4_goes 133 = .ok (.if_icmp .le 10, 3) := by decide +kernel
theorem dX4_goes_136 : decode cX4_goes 136 = .ok (.iload 4, 2) := by decide +kernel
theorem dX4_goes_138 : decode cX4_goes 138 = .ok (.iconst 1, 1) := by decide +kernel
theorem dX4_goes_139 : decode cX4_goes 139 = .ok (.isub, 1) := by decide +kernel
theorem dX4_goes_140 : decode cX4_goes 140 = .ok (.goto 5, 3) := by decide +kernel
theorem dX4_goes_143 : decode cX4_goes 143 = .ok (.iload 4, 2) := by decide +kernel
theorem dX4_goes_145 : decode cX4_goes 145 = .ok (.iastore, 1) := by decide +kernel
theorem dX4_goes_146 : decode cX4_goes 146 = .ok (.aload_n 0, 1) := by decide +kernel
theorem dX4_goes_147 : decode cX4_goes 147 = .ok (.getfield 7, 3) := by decide +kernel
theorem dX4_goes_150 : decode cX4_goes 150 = .ok (.bipush 95, 2) := by decide +kernel
theorem dX4_goes_152 : decode cX4_goes 152 = .ok (.iload_n 2, 1) := by decide +kernel
theorem dX4_goes_153 : decode cX4_goes 153 = .ok (.iadd, 1) := by decide +kernel
theorem dX4_goes_154 : decode cX4_goes 154 = .ok (.aload_n 0, 1) := by decide +kernel
theorem dX4_goes_155 : decode cX4_goes 155 = .ok (.getfield 7, 3) := by decide +kernel
theorem dX4_goes_158 : decode cX4_goes 158 = .ok (.bipush 95, 2) := by decide +kernel
theorem dX4_goes_160 : decode cX4_goes 160 = .ok (.iload_n 3, 1) := by decide +kernel
theorem dX4_goes_161 : decode cX4_goes 161 = .ok (.iadd, 1) := by decide +kernel
theorem dX4_goes_162 : decode cX4_goes 162 = .ok (.iaload, 1) := by decide +kernel
theorem dX4_goes_163 : decode cX4_goes 163 = .ok (.iastore, 1) := by decide +kernel
theorem dX4_goes_164 : decode cX4_goes 164 = .ok (.aload_n 0, 1) := by decide +kernel
theorem dX4_goes_165 : decode cX4_goes 165 = .ok (.getfield 7, 3) := by decide +kernel
theorem dX4_goes_168 : decode cX4_goes 168 = .ok (.bipush 103, 2) := by decide +kernel
theorem dX4_goes_170 : decode cX4_goes 170 = .ok (.iload_n 2, 1) := by decide +kernel
theorem dX4_goes_171 : decode cX4_goes 171 = .ok (.iadd, 1) := by decide +kernel
theorem dX4_goes_172 : decode cX4_goes 172 = .ok (.aload_n 0, 1) := by decide +kernel
theorem dX4_goes_173 : decode cX4_goes 173 = .ok (.getfield 7, 3) := by decide +kernel
theorem dX4_goes_176 : decode cX4_goes 176 = .ok (.bipush 103, 2) := by decide +kernel
theorem dX4_goes_178 : decode cX4_goes 178 = .ok (.iload_n 3, 1) := by decide +kernel
theorem dX4_goes_179 : decode cX4_goes 179 = .ok (.iadd, 1) := by decide +kernel
theorem dX4_goes_180 : decode cX4_goes 180 = .ok (.iaload, 1) := by decide +kernel
theorem dX4_goes_181 : decode cX4_goes 181 = .ok (.iastore, 1) := by decide +kernel
theorem dX4_goes_182 : decode cX4_goes 182 = .ok (.iinc 2 1, 3) := by decide +kernel
theorem dX4_goes_185 : decode cX4_goes 185 = .ok (.iinc 3 1, 3) := by decide +kernel
theorem dX4_goes_188 : decode cX4_goes 188 = .ok (.goto (-94), 3) := by decide +kernel
theorem dX4_goes_191 : decode cX4_goes 191 = .ok (.aload_n 0, 1) := by decide +kernel
theorem dX4_goes_192 : decode cX4_goes 192 = .ok (.getfield 7, 3) := by decide +kernel
theorem dX4_goes_195 : decode cX4_goes 195 = .ok (.bipush 86, 2) := by decide +kernel
theorem dX4_goes_197 : decode cX4_goes 197 = .ok (.iload_n 2, 1) := by decide +kernel
theorem dX4_goes_198 : decode cX4_goes 198 = .ok (.iastore, 1) := by decide +kernel
theorem dX4_goes_199 : decode cX4_goes 199 = .ok (.return_, 1) := by decide +kernel
theorem dX4_removeShow_0 : decode cX4_removeShow 0 = .ok (.aload_n 0, 1) := by decide +kernel
theorem dX4_removeShow_1 : decode cX4_removeShow 1 = .ok (.iload_n 1, 1) := by decide +kernel
theorem dX4_removeShow_2 : decode cX4_removeShow 2 = .ok (.invokevirtual 92, 3) := by decide +kernel
theorem dX4_removeShow_5 : decode cX4_removeShow 5 = .ok (.ifCond .ne 5, 3) := by decide +kernel
theorem dX4_removeShow_8 : decode cX4_removeShow 8 = .ok (.iconst (-1), 1) := by decide +kernel
theorem dX4_removeShow_9 : decode cX4_removeShow 9 = .ok (.ireturn, 1) := by decide +kernel
theorem dX4_removeShow_10 : decode cX4_removeShow 10 = .ok (.aload_n 0, 1) := by decide +kernel
theorem dX4_removeShow_11 : decode cX4_removeShow 11 = .ok (.invokevirtual 76, 3) := by decide +kernel
theorem dX4_removeShow_14 : decode cX4_removeShow 14 = .ok (.aload_n 0, 1) := by decide +kernel
theorem dX4_removeShow_15 : decode cX4_removeShow 15 = .ok (.iload_n 1, 1) := by decide +kernel
theorem dX4_removeShow_16 : decode cX4_removeShow 16 = .ok (.invokevirtual 95, 3) := by decide +kernel
theorem dX4_removeShow_19 : decode cX4_removeShow 19 = .ok (.aload_n 0, 1) := by decide +kernel
theorem dX4_removeShow_20 : decode cX4_removeShow 20 = .ok (.getfield 7, 3) := by decide +kernel
theorem dX4_removeShow_23 : decode cX4_removeShow 23 = .ok (.bipush 67, 2) := by decide +kernel
theorem dX4_removeShow_25 : decode cX4_removeShow 25 = .ok (.iaload, 1) := by decide +kernel
theorem dX4_removeShow_26 : decode cX4_removeShow 26 = .ok (.ireturn, 1) := by decide +kernel
theorem dX4_moveShow_0 : decode cX4_moveShow 0 = .ok (.aload_n 0, 1) := by decide +kernel
theorem dX4_moveShow_1 : decode cX4_moveShow 1 = .ok (.iload_n 1, 1) := by decide +kernel
theorem dX4_moveShow_2 : decode cX4_moveShow 2 = .ok (.invokevirtual 92, 3) := by decide +kernel
theorem dX4_moveShow_5 : decode cX4_moveShow 5 = .ok (.ifCond .eq 10, 3) := by decide +kernel
theorem dX4_moveShow_8 : decode cX4_moveShow 8 = .ok (.iload_n 2, 1) := by decide +kernel
theorem dX4_moveShow_9 : decode cX4_moveShow 9 = .ok (.invokestatic 89, 3) := by decide +kernel
theorem dX4_moveShow_12 : decode cX4_moveShow 12 = .ok (.ifCond .ne 5, 3) := by decide +kernel
theorem dX4_moveShow_15 : decode cX4_moveShow 15 = .ok (.iconst (-1), 1) := by decide +kernel
theorem dX4_moveShow_16 : decode cX4_moveShow 16 = .ok (.ireturn, 1) := by decide +kernel
theorem dX4_moveShow_17 : decode cX4_moveShow 17 = .ok (.aload_n 0, 1) := by decide +kernel
theorem dX4_moveShow_18 : decode cX4_moveShow 18 = .ok (.invokevirtual 76, 3) := by decide +kernel
theorem dX4_moveShow_21 : decode cX4_moveShow 21 = .ok (.aload_n 0, 1) := by decide +kernel
theorem dX4_moveShow_22 : decode cX4_moveShow 22 = .ok (.getfield 7, 3) := by decide +kernel
theorem dX4_moveShow_25 : decode cX4_moveShow 25 = .ok (.bipush 80, 2) := by decide +kernel
theorem dX4_moveShow_27 : decode cX4_moveShow 27 = .ok (.iload_n 1, 1) := by decide +kernel
theorem dX4_moveShow_28 : decode cX4_moveShow 28 = .ok (.iadd, 1) := by decide +kernel
theorem dX4_moveShow_29 : decode cX4_moveShow 29 = .ok (.iaload, 1) := by decide +kernel
theorem dX4_moveShow_30 : decode cX4_moveShow 30 = .ok (.istore_n 3, 1) := by decide +kernel
theorem dX4_moveShow_31 : decode cX4_moveShow 31 = .ok (.aload_n 0, 1) := by decide +kernel
theorem dX4_moveShow_32 : decode cX4_moveShow 32 = .ok (.getfield 7, 3) := by decide +kernel
theorem dX4_moveShow_35 : decode cX4_moveShow 35 = .ok (.bipush 80, 2) := by decide +kernel
theorem dX4_moveShow_37 : decode cX4_moveShow 37 = .ok (.iload_n 1, 1) := by decide +kernel
theorem dX4_moveShow_38 : decode cX4_moveShow 38 = .ok (.iadd, 1) := by decide +kernel
theorem dX4_moveShow_39 : decode cX4_moveShow 39 = .ok (.iload_n 2, 1) := by decide +kernel
theorem dX4_moveShow_40 : decode cX4_moveShow 40 = .ok (.iastore, 1) := by decide +kernel
theorem dX4_moveShow_41 : decode cX4_moveShow 41 = .ok (.iload_n 3, 1) := by decide +kernel
theorem dX4_moveShow_42 : decode cX4_moveShow 42 = .ok (.ireturn, 1) := by decide +kernel
theorem dX4_isReel_0 : decode cX4_isReel 0 = .ok (.aload_n 0, 1) := by decide +kernel
theorem dX4_isReel_1 : decode cX4_isReel 1 = .ok (.iload_n 1, 1) := by decide +kernel
theorem dX4_isReel_2 : decode cX4_isReel 2 = .ok (.invokevirtual 92, 3) := by decide +kernel
theorem dX4_isReel_5 : decode cX4_isReel 5 = .ok (.ifCond .eq 35, 3) := by decide +kernel
theorem dX4_isReel_8 : decode cX4_isReel 8 = .ok (.iload_n 2, 1) := by decide +kernel
theorem dX4_isReel_9 : decode cX4_isReel 9 = .ok (.i2l, 1) := by decide +kernel
theorem dX4_isReel_10 : decode cX4_isReel 10 = .ok (.lconst 0, 1) := by decide +kernel
theorem dX4_isReel_11 : decode cX4_isReel 11 = .ok (.aload_n 0, 1) := by decide +kernel
theorem dX4_isReel_12 : decode cX4_isReel 12 = .ok (.getfield 7, 3) := by decide +kernel
theorem dX4_isReel_15 : decode cX4_isReel 15 = .ok (.iconst 0, 1) := by decide +kernel
theorem dX4_isReel_16 : decode cX4_isReel 16 = .ok (.aload_n 0, 1) := by decide +kernel
theorem dX4_isReel_17 : decode cX4_isReel 17 = .ok (.getfield 7, 3) := by decide +kernel
theorem dX4_isReel_20 : decode cX4_isReel 20 = .ok (.bipush 74, 2) := by decide +kernel
theorem dX4_isReel_22 : decode cX4_isReel 22 = .ok (.iload_n 1, 1) := by decide +kernel
theorem dX4_isReel_23 : decode cX4_isReel 23 = .ok (.iadd, 1) := by decide +kernel
theorem dX4_isReel_24 : decode cX4_isReel 24 = .ok (.iaload, 1) := by decide +kernel
theorem dX4_isReel_25 : decode cX4_isReel 25 = .ok (.iadd, 1) := by decide +kernel
theorem dX4_isReel_26 : decode cX4_isReel 26 = .ok (.iaload, 1) := by decide +kernel
theorem dX4_isReel_27 : decode cX4_isReel 27 = .ok (.iconst 1, 1) := by decide +kernel
theorem dX4_isReel_28 : decode cX4_isReel 28 = .ok (.isub, 1) := by decide +kernel
theorem dX4_isReel_29 : decode cX4_isReel 29 = .ok (.i2l, 1) := by decide +kernel
theorem dX4_isReel_30 : decode cX4_isReel 30 = .ok (.invokestatic 62, 3) := by decide +kernel
theorem dX4_isReel_33 : decode cX4_isReel 33 = .ok (.ifCond .eq 7, 3) := by decide +kernel
theorem dX4_isReel_36 : decode cX4_isReel 36 = .ok (.iconst 1, 1) := by decide +kernel
theorem dX4_isReel_37 : decode cX4_isReel 37 = .ok (.goto 4, 3) := by decide +kernel
theorem dX4_isReel_40 : decode cX4_isReel 40 = .ok (.iconst 0, 1) := by decide +kernel
theorem dX4_isReel_41 : decode cX4_isReel 41 = .ok (.ireturn, 1) := by decide +kernel
theorem dX4_addBreak_0 : decode cX4_addBreak 0 = .ok (.aload_n 0, 1) := by decide +kernel
theorem dX4_addBreak_1 : decode cX4_addBreak 1 = .ok (.iload_n 1, 1) := by decide +kernel
theorem dX4_addBreak_2 : decode cX4_addBreak 2 = .ok (.iload_n 2, 1) := by decide +kernel
theorem dX4_addBreak_3 : decode cX4_addBreak 3 = .ok (.invokevirtual 99, 3) := by decide +kernel
theorem dX4_addBreak_6 : decode cX4_addBreak 6 = .ok (.ifCond .eq 15, 3) := by decide +kernel
theorem dX4_addBreak_9 : decode cX4_addBreak 9 = .ok (.iload_n 3, 1) := by decide +kernel
theorem dX4_addBreak_10 : decode cX4_addBreak 10 = .ok (.i2l, 1) := by decide +kernel
theorem dX4_addBreak_11 : decode cX4_addBreak 11 = .ok (.lconst 1, 1) := by decide +kernel
theorem dX4_addBreak_12 : decode cX4_addBreak 12 = .ok (.ldc2_w 103, 3) := by decide +kernel
theorem dX4_addBreak_15 : decode cX4_addBreak 15 = .ok (.invokestatic 62, 3) := by decide +kernel
theorem dX4_addBreak_18 : decode cX4_addBreak 18 = .ok (.ifCond .ne 5, 3) := by decide +kernel
theorem dX4_addBreak_21 : decode cX4_addBreak 21 = .ok (.iconst (-1), 1) := by decide +kernel
theorem dX4_addBreak_22 : decode cX4_addBreak 22 = .ok (.ireturn, 1) := by decide +kernel
theorem dX4_addBreak_23 : decode cX4_addBreak 23 = .ok (.aload_n 0, 1) := by decide +kernel
theorem dX4_addBreak_24 : decode cX4_addBreak 24 = .ok (.getfield 7, 3) := by decide +kernel
theorem dX4_addBreak_27 : decode cX4_addBreak 27 = .ok (.bipush 86, 2) := by decide +kernel
theorem dX4_addBreak_29 : decode cX4_addBreak 29 = .ok (.iaload, 1) := by decide +kernel
theorem dX4_addBreak_30 : decode cX4_addBreak 30 = .ok (.bipush 8, 2) := by decide +kernel
theorem dX4_addBreak_32 : decode cX4_addBreak 32 = .ok (.if_icmp .ne 6, 3) := by decide +kernel
theorem dX4_addBreak_35 : decode cX4_addBreak 35 = .ok (.bipush (-3), 2) := by decide +kernel
theorem dX4_addBreak_37 : decode cX4_addBreak 37 = .ok (.ireturn, 1) := by decide +kernel
theorem dX4_addBreak_38 : decode cX4_addBreak 38 = .ok (.aload_n 0, 1) := by decide +kernel
theorem dX4_addBreak_39 : decode cX4_addBreak 39 = .ok (.invokevirtual 76, 3) := by decide +kernel
theorem dX4_addBreak_42 : decode cX4_addBreak 42 = .ok (.aload_n 0, 1) := by decide +kernel
theorem dX4_addBreak_43 : decode cX4_addBreak 43 = .ok (.getfield 7, 3) := by decide +kernel
theorem dX4_addBreak_46 : decode cX4_addBreak 46 = .ok (.bipush 87, 2) := by decide +kernel
theorem dX4_addBreak_48 : decode cX4_addBreak 48 = .ok (.aload_n 0, 1) := by decide +kernel
theorem dX4_addBreak_49 : decode cX4_addBreak 49 = .ok (.getfield 7, 3) := by decide +kernel
theorem dX4_addBreak_52 : decode cX4_addBreak 52 = .ok (.bipush 86, 2) := by decide +kernel
theorem dX4_addBreak_54 : decode cX4_addBreak 54 = .ok (.iaload, 1) := by decide +kernel
theorem dX4_addBreak_55 : decode cX4_addBreak 55 = .ok (.iadd, 1) := by decide +kernel
theorem dX4_addBreak_56 : decode cX4_addBreak 56 = .ok (.iload_n 1, 1) := by decide +kernel
theorem dX4_addBreak_57 : decode cX4_addBreak 57 = .ok (.iastore, 1) := by decide +kernel
theorem dX4_addBreak_58 : decode cX4_addBreak 58 = .ok (.aload_n 0, 1) := by decide +kernel
theorem dX4_addBreak_59 : decode cX4_addBreak 59 = .ok (.getfield 7, 3) := by decide +kernel
theorem dX4_addBreak_62 : decode cX4_addBreak 62 = .ok (.bipush 95, 2) := by decide +kernel
theorem dX4_addBreak_64 : decode cX4_addBreak 64 = .ok (.aload_n 0, 1) := by decide +kernel
theorem dX4_addBreak_65 : decode cX4_addBreak 65 = .ok (.getfield 7, 3) := by decide +kernel
theorem dX4_addBreak_68 : decode cX4_addBreak 68 = .ok (.bipush 86, 2) := by decide +kernel
theorem dX4_addBreak_70 : decode cX4_addBreak 70 = .ok (.iaload, 1) := by decide +kernel
theorem dX4_addBreak_71 : decode cX4_addBreak 71 = .ok (.iadd, 1) := by decide +kernel
theorem dX4_addBreak_72 : decode cX4_addBreak 72 = .ok (.iload_n 2, 1) := by decide +kernel
theorem dX4_addBreak_73 : decode cX4_addBreak 73 = .ok (.iastore, 1) := by decide +kernel
theorem dX4_addBreak_74 : decode cX4_addBreak 74 = .ok (.aload_n 0, 1) := by decide +kernel
theorem dX4_addBreak_75 : decode cX4_addBreak 75 = .ok (.getfield 7, 3) := by decide +kernel
theorem dX4_addBreak_78 : decode cX4_addBreak 78 = .ok (.bipush 103, 2) := by decide +kernel
theorem dX4_addBreak_80 : decode cX4_addBreak 80 = .ok (.aload_n 0, 1) := by decide +kernel
theorem dX4_addBreak_81 : decode cX4_addBreak 81 = .ok (.getfield 7, 3) := by decide +kernel
theorem dX4_addBreak_84 : decode cX4_addBreak 84 = .ok (.bipush 86, 2) := by decide +kernel
theorem dX4_addBreak_86 : decode cX4_addBreak 86 = .ok (.iaload, 1) := by decide +kernel
theorem dX4_addBreak_87 : decode cX4_addBreak 87 = .ok (.iadd, 1) := by decide +kernel
theorem dX4_addBreak_88 : decode cX4_addBreak 88 = .ok (.iload_n 3, 1) := by decide +kernel
theorem dX4_addBreak_89 : decode cX4_addBreak 89 = .ok (.iastore, 1) := by decide +kernel
theorem dX4_addBreak_90 : decode cX4_addBreak 90 = .ok (.aload_n 0, 1) := by decide +kernel
theorem dX4_addBreak_91 : decode cX4_addBreak 91 = .ok (.getfield 7, 3) := by decide +kernel
theorem dX4_addBreak_94 : decode cX4_addBreak 94 = .ok (.bipush 86, 2) := by decide +kernel
theorem dX4_addBreak_96 : decode cX4_addBreak 96 = .ok (.dup2, 1) := by decide +kernel
theorem dX4_addBreak_97 : decode cX4_addBreak 97 = .ok (.iaload, 1) := by decide +kernel
theorem dX4_addBreak_98 : decode cX4_addBreak 98 = .ok (.iconst 1, 1) := by decide +kernel
theorem dX4_addBreak_99 : decode cX4_addBreak 99 = .ok (.iadd, 1) := by decide +kernel
theorem dX4_addBreak_100 : decode cX4_addBreak 100 = .ok (.iastore, 1) := by decide +kernel
theorem dX4_addBreak_101 : decode cX4_addBreak 101 = .ok (.aload_n 0, 1) := by decide +kernel
theorem dX4_addBreak_102 : decode cX4_addBreak 102 = .ok (.getfield 7, 3) := by decide +kernel
theorem dX4_addBreak_105 : decode cX4_addBreak 105 = .ok (.bipush 86, 2) := by decide +kernel
theorem dX4_addBreak_107 : decode cX4_addBreak 107 = .ok (.iaload, 1) := by decide +kernel
theorem dX4_addBreak_108 : decode cX4_addBreak 108 = .ok (.ireturn, 1) := by decide +kernel
theorem dX4_clearBreaks_0 : decode cX4_clearBreaks 0 = .ok (.aload_n 0, 1) := by decide +kernel
theorem dX4_clearBreaks_1 : decode cX4_clearBreaks 1 = .ok (.invokevirtual 76, 3) := by decide +kernel
theorem dX4_clearBreaks_4 : decode cX4_clearBreaks 4 = .ok (.aload_n 0, 1) := by decide +kernel
theorem dX4_clearBreaks_5 : decode cX4_clearBreaks 5 = .ok (.getfield 7, 3) := by decide +kernel
theorem dX4_clearBreaks_8 : decode cX4_clearBreaks 8 = .ok (.bipush 86, 2) := by decide +kernel
theorem dX4_clearBreaks_10 : decode cX4_clearBreaks 10 = .ok (.iaload, 1) := by decide +kernel
theorem dX4_clearBreaks_11 : decode cX4_clearBreaks 11 = .ok (.istore_n 1, 1) := by decide +kernel
theorem dX4_clearBreaks_12 : decode cX4_clearBreaks 12 = .ok (.aload_n 0, 1) := by decide +kernel
theorem dX4_clearBreaks_13 : decode cX4_clearBreaks 13 = .ok (.getfield 7, 3) := by decide +kernel
theorem dX4_clearBreaks_16 : decode cX4_clearBreaks 16 = .ok (.bipush 86, 2) := by decide +kernel
theorem dX4_clearBreaks_18 : decode cX4_clearBreaks 18 = .ok (.iconst 0, 1) := by decide +kernel
theorem dX4_clearBreaks_19 : decode cX4_clearBreaks 19 = .ok (.iastore, 1) := by decide +kernel
theorem dX4_clearBreaks_20 : decode cX4_clearBreaks 20 = .ok (.iload_n 1, 1) := by decide +kernel
theorem dX4_clearBreaks_21 : decode cX4_clearBreaks 21 = .ok (.ireturn, 1) := by decide +kernel
theorem dX4_arrives_0 : decode cX4_arrives 0 = .ok (.aload_n 0, 1) := by decide +kernel
theorem dX4_arrives_1 : decode cX4_arrives 1 = .ok (.getfield 16, 3) := by decide +kernel
theorem dX4_arrives_4 : decode cX4_arrives 4 = .ok (.iload_n 1, 1) := by decide +kernel
theorem dX4_arrives_5 : decode cX4_arrives 5 = .ok (.iaload, 1) := by decide +kernel
theorem dX4_arrives_6 : decode cX4_arrives 6 = .ok (.iload_n 2, 1) := by decide +kernel
theorem dX4_arrives_7 : decode cX4_arrives 7 = .ok (.if_icmp .ne 10, 3) := by decide +kernel
theorem dX4_arrives_10 : decode cX4_arrives 10 = .ok (.aload_n 0, 1) := by decide +kernel
theorem dX4_arrives_11 : decode cX4_arrives 11 = .ok (.getfield 19, 3) := by decide +kernel
theorem dX4_arrives_14 : decode cX4_arrives 14 = .ok (.iload_n 1, 1) := by decide +kernel
theorem dX4_arrives_15 : decode cX4_arrives 15 = .ok (.iaload, 1) := by decide +kernel
theorem dX4_arrives_16 : decode cX4_arrives 16 = .ok (.ireturn, 1) := by decide +kernel
theorem dX4_arrives_17 : decode cX4_arrives 17 = .ok (.iconst 0, 1) := by decide +kernel
theorem dX4_arrives_18 : decode cX4_arrives 18 = .ok (.istore_n 3, 1) := by decide +kernel
theorem dX4_arrives_19 : decode cX4_arrives 19 = .ok (.iconst 1, 1) := by decide +kernel
theorem dX4_arrives_20 : decode cX4_arrives 20 = .ok (.istore 4, 2) := by decide +kernel
theorem dX4_arrives_22 : decode cX4_arrives 22 = .ok (.iload 4, 2) := by decide +kernel
theorem dX4_arrives_24 : decode cX4_arrives 24 = .ok (.aload_n 0, 1) := by decide +kernel
theorem dX4_arrives_25 : decode cX4_arrives 25 = .ok (.getfield 7, 3) := by decide +kernel
theorem dX4_arrives_28 : decode cX4_arrives 28 = .ok (.bipush 62, 2) := by decide +kernel
theorem dX4_arrives_30 : decode cX4_arrives 30 = .ok (.iaload, 1) := by decide +kernel
theorem dX4_arrives_31 : decode cX4_arrives 31 = .ok (.if_icmp .ge 89, 3) := by decide +kernel
theorem dX4_arrives_34 : decode cX4_arrives 34 = .ok (.aload_n 0, 1) := by decide +kernel
theorem dX4_arrives_35 : decode cX4_arrives 35 = .ok (.getfield 22, 3) := by decide +kernel
theorem dX4_arrives_38 : decode cX4_arrives 38 = .ok (.iload 4, 2) := by decide +kernel
theorem dX4_arrives_40 : decode cX4_arrives 40 = .ok (.iaload, 1) := by decide +kernel
theorem dX4_arrives_41 : decode cX4_arrives 41 = .ok (.aload_n 0, 1) := by decide +kernel
theorem dX4_arrives_42 : decode cX4_arrives 42 = .ok (.getfield 19, 3) := by decide +kernel
theorem dX4_arrives_45 : decode cX4_arrives 45 = .ok (.iload_n 1, 1) := by decide +kernel
theorem dX4_arrives_46 : decode cX4_arrives 46 = .ok (.iaload, 1) := by decide +kernel
theorem dX4_arrives_47 : decode cX4_arrives 47 = .ok (.if_icmp .le 13, 3) := by decide +kernel
theorem dX4_arrives_50 : decode cX4_arrives 50 = .ok (.aload_n 0, 1) := by decide +kernel
theorem dX4_arrives_51 : decode cX4_arrives 51 = .ok (.getfield 22, 3) := by decide +kernel
theorem dX4_arrives_54 : decode cX4_arrives 54 = .ok (.iload 4, 2) := by decide +kernel
theorem dX4_arrives_56 : decode cX4_arrives 56 = .ok (.iaload, 1) := by decide +kernel
theorem dX4_arrives_57 : decode cX4_arrives 57 = .ok (.goto 9, 3) := by decide +kernel
theorem dX4_arrives_60 : decode cX4_arrives 60 = .ok (.aload_n 0, 1) := by decide +kernel
theorem dX4_arrives_61 : decode cX4_arrives 61 = .ok (.getfield 19, 3) := by decide +kernel
theorem dX4_arrives_64 : decode cX4_arrives 64 = .ok (.iload_n 1, 1) := by decide +kernel
theorem dX4_arrives_65 : decode cX4_arrives 65 = .ok (.iaload, 1) := by decide +kernel
theorem dX4_arrives_66 : decode cX4_arrives 66 = .ok (.istore 5, 2) := by decide +kernel
theorem dX4_arrives_68 : decode cX4_arrives 68 = .ok (.aload_n 0, 1) := by decide +kernel
theorem dX4_arrives_69 : decode cX4_arrives 69 = .ok (.getfield 22, 3) := by decide +kernel
theorem dX4_arrives_72 : decode cX4_arrives 72 = .ok (.iload_n 3, 1) := by decide +kernel
theorem dX4_arrives_73 : decode cX4_arrives 73 = .ok (.iaload, 1) := by decide +kernel
theorem dX4_arrives_74 : decode cX4_arrives 74 = .ok (.aload_n 0, 1) := by decide +kernel
theorem dX4_arrives_75 : decode cX4_arrives 75 = .ok (.getfield 19, 3) := by decide +kernel
theorem dX4_arrives_78 : decode cX4_arrives 78 = .ok (.iload_n 1, 1) := by decide +kernel
theorem dX4_arrives_79 : decode cX4_arrives 79 = .ok (.iaload, 1) := by decide +kernel
theorem dX4_arrives_80 : decode cX4_arrives 80 = .ok (.if_icmp .le 12, 3) := by decide +kernel
theorem dX4_arrives_83 : decode cX4_arrives 83 = .ok (.aload_n 0, 1) := by decide +kernel
theorem dX4_arrives_84 : decode cX4_arrives 84 = .ok (.getfield 22, 3) := by decide +kernel
theorem dX4_arrives_87 : decode cX4_arrives 87 = .ok (.iload_n 3, 1) := by decide +kernel
theorem dX4_arrives_88 : decode cX4_arrives 88 = .ok (.iaload, 1) := by decide +kernel
theorem dX4_arrives_89 : decode cX4_arrives 89 = .ok (.goto 9, 3) := by decide +kernel
theorem dX4_arrives_92 : decode cX4_arrives 92 = .ok (.aload_n 0, 1) := by decide +kernel
theorem dX4_arrives_93 : decode cX4_arrives 93 = .ok (.getfield 19, 3) := by decide +kernel
theorem dX4_arrives_96 : decode cX4_arrives 96 = .ok (.iload_n 1, 1) := by decide +kernel
theorem dX4_arrives_97 : decode cX4_arrives 97 = .ok (.iaload, 1) := by decide +kernel
theorem dX4_arrives_98 : decode cX4_arrives 98 = .ok (.istore 6, 2) := by decide +kernel
theorem dX4_arrives_100 : decode cX4_arrives 100 = .ok (.iload 5, 2) := by decide +kernel
theorem dX4_arrives_102 : decode cX4_arrives 102 = .ok (.iload 6, 2) := by decide +kernel
theorem dX4_arrives_104 : decode cX4_arrives 104 = .ok (.if_icmp .ge 8, 3) := by decide +kernel
theorem dX4_arrives_107 : decode cX4_arrives 107 = .ok (.iload 4, 2) := by decide +kernel
theorem dX4_arrives_109 : decode cX4_arrives 109 = .ok (.goto 4, 3) := by decide +kernel
theorem dX4_arrives_112 : decode cX4_arrives 112 = .ok (.iload_n 3, 1) := by decide +kernel
theorem dX4_arrives_113 : decode cX4_arrives 113 = .ok (.istore_n 3, 1) := by decide +kernel
theorem dX4_arrives_114 : decode cX4_arrives 114 = .ok (.iinc 4 1, 3) := by decide +kernel
theorem dX4_arrives_117 : decode cX4_arrives 117 = .ok (.goto (-95), 3) := by decide +kernel
theorem dX4_arrives_120 : decode cX4_arrives 120 = .ok (.aload_n 0, 1) := by decide +kernel
theorem dX4_arrives_121 : decode cX4_arrives 121 = .ok (.getfield 22, 3) := by decide +kernel
theorem dX4_arrives_124 : decode cX4_arrives 124 = .ok (.iload_n 3, 1) := by decide +kernel
theorem dX4_arrives_125 : decode cX4_arrives 125 = .ok (.iaload, 1) := by decide +kernel
theorem dX4_arrives_126 : decode cX4_arrives 126 = .ok (.aload_n 0, 1) := by decide +kernel
theorem dX4_arrives_127 : decode cX4_arrives 127 = .ok (.getfield 19, 3) := by decide +kernel
theorem dX4_arrives_130 : decode cX4_arrives 130 = .ok (.iload_n 1, 1) := by decide +kernel
theorem dX4_arrives_131 : decode cX4_arrives 131 = .ok (.iaload, 1) := by decide +kernel
theorem dX4_arrives_132 : decode cX4_arrives 132 = .ok (.if_icmp .le 12, 3) := by decide +kernel
theorem dX4_arrives_135 : decode cX4_arrives 135 = .ok (.aload_n 0, 1) := by decide +kernel
theorem dX4_arrives_136 : decode cX4_arrives 136 = .ok (.getfield 22, 3) := by decide +kernel
theorem dX4_arrives_139 : decode cX4_arrives 139 = .ok (.iload_n 3, 1) := by decide +kernel
theorem dX4_arrives_140 : decode cX4_arrives 140 = .ok (.iaload, 1) := by decide +kernel
theorem dX4_arrives_141 : decode cX4_arrives 141 = .ok (.goto 9, 3) := by decide +kernel
theorem dX4_arrives_144 : decode cX4_arrives 144 = .ok (.aload_n 0, 1) := by decide +kernel
theorem dX4_arrives_145 : decode cX4_arrives 145 = .ok (.getfield 19, 3) := by decide +kernel
theorem dX4_arrives_148 : decode cX4_arrives 148 = .ok (.iload_n 1, 1) := by decide +kernel
theorem dX4_arrives_149 : decode cX4_arrives 149 = .ok (.iaload, 1) := by decide +kernel
theorem dX4_arrives_150 : decode cX4_arrives 150 = .ok (.aload_n 0, 1) := by decide +kernel
theorem dX4_arrives_151 : decode cX4_arrives 151 = .ok (.getfield 7, 3) := by decide +kernel
theorem dX4_arrives_154 : decode cX4_arrives 154 = .ok (.bipush 66, 2) := by decide +kernel
theorem dX4_arrives_156 : decode cX4_arrives 156 = .ok (.iaload, 1) := by decide +kernel
theorem dX4_arrives_157 : decode cX4_arrives 157 = .ok (.iadd, 1) := by decide +kernel
theorem dX4_arrives_158 : decode cX4_arrives 158 = .ok (.istore 4, 2) := by decide +kernel
theorem dX4_arrives_160 : decode cX4_arrives 160 = .ok (.aload_n 0, 1) := by decide +kernel
theorem dX4_arrives_161 : decode cX4_arrives 161 = .ok (.getfield 22, 3) := by decide +kernel
theorem dX4_arrives_164 : decode cX4_arrives 164 = .ok (.iload_n 3, 1) := by decide +kernel
theorem dX4_arrives_165 : decode cX4_arrives 165 = .ok (.iload 4, 2) := by decide +kernel
theorem dX4_arrives_167 : decode cX4_arrives 167 = .ok (.aload_n 0, 1) := by decide +kernel
theorem dX4_arrives_168 : decode cX4_arrives 168 = .ok (.getfield 7, 3) := by decide +kernel
theorem dX4_arrives_171 : decode cX4_arrives 171 = .ok (.bipush 66, 2) := by decide +kernel
theorem dX4_arrives_173 : decode cX4_arrives 173 = .ok (.iaload, 1) := by decide +kernel
theorem dX4_arrives_174 : decode cX4_arrives 174 = .ok (.iadd, 1) := by decide +kernel
theorem dX4_arrives_175 : decode cX4_arrives 175 = .ok (.iastore, 1) := by decide +kernel
theorem dX4_arrives_176 : decode cX4_arrives 176 = .ok (.aload_n 0, 1) := by decide +kernel
theorem dX4_arrives_177 : decode cX4_arrives 177 = .ok (.getfield 16, 3) := by decide +kernel
theorem dX4_arrives_180 : decode cX4_arrives 180 = .ok (.iload_n 1, 1) := by decide +kernel
theorem dX4_arrives_181 : decode cX4_arrives 181 = .ok (.iload_n 2, 1) := by decide +kernel
theorem dX4_arrives_182 : decode cX4_arrives 182 = .ok (.iastore, 1) := by decide +kernel
theorem dX4_arrives_183 : decode cX4_arrives 183 = .ok (.aload_n 0, 1) := by decide +kernel
theorem dX4_arrives_184 : decode cX4_arrives 184 = .ok (.dup, 1) := by decide +kernel
theorem dX4_arrives_185 : decode cX4_arrives 185 = .ok (.getfield 105, 3) := by decide +kernel
theorem dX4_arrives_188 : decode cX4_arrives 188 = .ok (.iconst 1, 1) := by decide +kernel
theorem dX4_arrives_189 : decode cX4_arrives 189 = .ok (.iadd, 1) := by decide +kernel
theorem dX4_arrives_190 : decode cX4_arrives 190 = .ok (.putfield 105, 3) := by decide +kernel
theorem dX4_arrives_193 : decode cX4_arrives 193 = .ok (.iload 4, 2) := by decide +kernel
theorem dX4_arrives_195 : decode cX4_arrives 195 = .ok (.ireturn, 1) := by decide +kernel
theorem dX4_hasPlate_0 : decode cX4_hasPlate 0 = .ok (.aload_n 0, 1) := by decide +kernel
theorem dX4_hasPlate_1 : decode cX4_hasPlate 1 = .ok (.getfield 28, 3) := by decide +kernel
theorem dX4_hasPlate_4 : decode cX4_hasPlate 4 = .ok (.iload_n 1, 1) := by decide +kernel
theorem dX4_hasPlate_5 : decode cX4_hasPlate 5 = .ok (.iaload, 1) := by decide +kernel
theorem dX4_hasPlate_6 : decode cX4_hasPlate 6 = .ok (.ifCond .lt 17, 3) := by decide +kernel
theorem dX4_hasPlate_9 : decode cX4_hasPlate 9 = .ok (.aload_n 0, 1) := by decide +kernel
theorem dX4_hasPlate_10 : decode cX4_hasPlate 10 = .ok (.getfield 28, 3) := by decide +kernel
theorem dX4_hasPlate_13 : decode cX4_hasPlate 13 = .ok (.iload_n 1, 1) := by decide +kernel
theorem dX4_hasPlate_14 : decode cX4_hasPlate 14 = .ok (.iaload, 1) := by decide +kernel
theorem dX4_hasPlate_15 : decode cX4_hasPlate 15 = .ok (.iload_n 2, 1) := by decide +kernel
theorem dX4_hasPlate_16 : decode cX4_hasPlate 16 = .ok (.if_icmp .eq 7, 3) := by decide +kernel
theorem dX4_hasPlate_19 : decode cX4_hasPlate 19 = .ok (.iconst 1, 1) := by decide +kernel
theorem dX4_hasPlate_20 : decode cX4_hasPlate 20 = .ok (.goto 4, 3) := by decide +kernel
theorem dX4_hasPlate_23 : decode cX4_hasPlate 23 = .ok (.iconst 0, 1) := by decide +kernel
theorem dX4_hasPlate_24 : decode cX4_hasPlate 24 = .ok (.ireturn, 1) := by decide +kernel
theorem dX4_startBy_0 : decode cX4_startBy 0 = .ok (.aload_n 0, 1) := by decide +kernel
theorem dX4_startBy_1 : decode cX4_startBy 1 = .ok (.getfield 25, 3) := by decide +kernel
theorem dX4_startBy_4 : decode cX4_startBy 4 = .ok (.iload_n 1, 1) := by decide +kernel
theorem dX4_startBy_5 : decode cX4_startBy 5 = .ok (.iaload, 1) := by decide +kernel
theorem dX4_startBy_6 : decode cX4_startBy 6 = .ok (.aload_n 0, 1) := by decide +kernel
theorem dX4_startBy_7 : decode cX4_startBy 7 = .ok (.iload_n 1, 1) := by decide +kernel
theorem dX4_startBy_8 : decode cX4_startBy 8 = .ok (.iload 4, 2) := by decide +kernel
theorem dX4_startBy_10 : decode cX4_startBy 10 = .ok (.invokevirtual 108, 3) := by decide +kernel
theorem dX4_startBy_13 : decode cX4_startBy 13 = .ok (.ifCond .eq 13, 3) := by decide +kernel
theorem dX4_startBy_16 : decode cX4_startBy 16 = .ok (.aload_n 0, 1) := by decide +kernel
theorem dX4_startBy_17 : decode cX4_startBy 17 = .ok (.getfield 7, 3) := by decide +kernel
theorem dX4_startBy_20 : decode cX4_startBy 20 = .ok (.bipush 64, 2) := by decide +kernel
theorem dX4_startBy_22 : decode cX4_startBy 22 = .ok (.iaload, 1) := by decide +kernel
theorem dX4_startBy_23 : decode cX4_startBy 23 = .ok (.goto 4, 3) := by decide +kernel
theorem dX4_startBy_26 : decode cX4_startBy 26 = .ok (.iconst 0, 1) := by decide +kernel
theorem dX4_startBy_27 : decode cX4_startBy 27 = .ok (.iadd, 1) := by decide +kernel
theorem dX4_startBy_28 : decode cX4_startBy 28 = .ok (.istore 5, 2) := by decide +kernel
theorem dX4_startBy_30 : decode cX4_startBy 30 = .ok (.iload_n 3, 1) := by decide +kernel
theorem dX4_startBy_31 : decode cX4_startBy 31 = .ok (.iload 5, 2) := by decide +kernel
theorem dX4_startBy_33 : decode cX4_startBy 33 = .ok (.if_icmp .le 7, 3) := by decide +kernel
theorem dX4_startBy_36 : decode cX4_startBy 36 = .ok (.iload_n 3, 1) := by decide +kernel
theorem dX4_startBy_37 : decode cX4_startBy 37 = .ok (.goto 5, 3) := by decide +kernel
theorem dX4_startBy_40 : decode cX4_startBy 40 = .ok (.iload 5, 2) := by decide +kernel
theorem dX4_startBy_42 : decode cX4_startBy 42 = .ok (.aload_n 0, 1) := by decide +kernel
theorem dX4_startBy_43 : decode cX4_startBy 43 = .ok (.getfield 7, 3) := by decide +kernel
theorem dX4_startBy_46 : decode cX4_startBy 46 = .ok (.bipush 63, 2) := by decide +kernel
theorem dX4_startBy_48 : decode cX4_startBy 48 = .ok (.iaload, 1) := by decide +kernel
theorem dX4_startBy_49 : decode cX4_startBy 49 = .ok (.iadd, 1) := by decide +kernel
theorem dX4_startBy_50 : decode cX4_startBy 50 = .ok (.istore 5, 2) := by decide +kernel
theorem dX4_startBy_52 : decode cX4_startBy 52 = .ok (.iload_n 2, 1) := by decide +kernel
theorem dX4_startBy_53 : decode cX4_startBy 53 = .ok (.iload 5, 2) := by decide +kernel
theorem dX4_startBy_55 : decode cX4_startBy 55 = .ok (.if_icmp .le 7, 3) := by decide +kernel
theorem dX4_startBy_58 : decode cX4_startBy 58 = .ok (.iload_n 2, 1) := by decide +kernel
theorem dX4_startBy_59 : decode cX4_startBy 59 = .ok (.goto 5, 3) := by decide +kernel
theorem dX4_startBy_62 : decode cX4_startBy 62 = .ok (.iload 5, 2) := by decide +kernel
theorem dX4_startBy_64 : decode cX4_startBy 64 = .ok (.ireturn, 1) := by decide +kernel
theorem dX4_repairs_0 : decode cX4_repairs 0 = .ok (.iconst 0, 1) := by decide +kernel
theorem dX4_repairs_1 : decode cX4_repairs 1 = .ok (.istore_n 3, 1) := by decide +kernel
theorem dX4_repairs_2 : decode cX4_repairs 2 = .ok (.iconst 0, 1) := by decide +kernel
theorem dX4_repairs_3 : decode cX4_repairs 3 = .ok (.istore 4, 2) := by decide +kernel
theorem dX4_repairs_5 : decode cX4_repairs 5 = .ok (.iload 4, 2) := by decide +kernel
theorem dX4_repairs_7 : decode cX4_repairs 7 = .ok (.aload_n 0, 1) := by decide +kernel
theorem dX4_repairs_8 : decode cX4_repairs 8 = .ok (.getfield 7, 3) := by decide +kernel
theorem dX4_repairs_11 : decode cX4_repairs 11 = .ok (.bipush 86, 2) := by decide +kernel
theorem dX4_repairs_13 : decode cX4_repairs 13 = .ok (.iaload, 1) := by decide +kernel
theorem dX4_repairs_14 : decode cX4_repairs 14 = .ok (.if_icmp .ge 54, 3) := by decide +kernel
theorem dX4_repairs_17 : decode cX4_repairs 17 = .ok (.iload_n 3, 1) := by decide +kernel
theorem dX4_repairs_18 : decode cX4_repairs 18 = .ok (.aload_n 0, 1) := by decide +kernel
theorem dX4_repairs_19 : decode cX4_repairs 19 = .ok (.getfield 7, 3) := by decide +kernel
theorem dX4_repairs_22 : decode cX4_repairs 22 = .ok (.bipush 87, 2) := by decide +kernel
theorem dX4_repairs_24 : decode cX4_repairs 24 = .ok (.iload 4, 2) := by decide +kernel
theorem dX4_repairs_26 : decode cX4_repairs 26 = .ok (.iadd, 1) := by decide +kernel
theorem dX4_repairs_27 : decode cX4_repairs 27 = .ok (.iaload, 1) := by decide +kernel
theorem dX4_repairs_28 : decode cX4_repairs 28 = .ok (.iload_n 1, 1) := by decide +kernel
theorem dX4_repairs_29 : decode cX4_repairs 29 = .ok (.if_icmp .ne 30, 3) := by decide +kernel
theorem dX4_repairs_32 : decode cX4_repairs 32 = .ok (.aload_n 0, 1) := by decide +kernel
theorem dX4_repairs_33 : decode cX4_repairs 33 = .ok (.getfield 7, 3) := by decide +kernel
theorem dX4_repairs_36 : decode cX4_repairs 36 = .ok (.bipush 95, 2) := by decide +kernel
theorem dX4_repairs_38 : decode cX4_repairs 38 = .ok (.iload 4, 2) := by decide +kernel
theorem dX4_repairs_40 : decode cX4_repairs 40 = .ok (.iadd, 1) := by decide +kernel
theorem dX4_repairs_41 : decode cX4_repairs 41 = .ok (.iaload, 1) := by decide +kernel
theorem dX4_repairs_42 : decode cX4_repairs 42 = .ok (.iload_n 2, 1) := by decide +kernel
theorem dX4_repairs_43 : decode cX4_repairs 43 = .ok (.if_icmp .ne 16, 3) := by decide +kernel
theorem dX4_repairs_46 : decode cX4_repairs 46 = .ok (.aload_n 0, 1) := by decide +kernel
theorem dX4_repairs_47 : decode cX4_repairs 47 = .ok (.getfield 7, 3) := by decide +kernel
theorem dX4_repairs_50 : decode cX4_repairs 50 = .ok (.bipush 103, 2) := by decide +kernel
theorem dX4_repairs_52 : decode cX4_repairs 52 = .ok (.iload 4, 2) := by decide +kernel
theorem dX4_repairs_54 : decode cX4_repairs 54 = .ok (.iadd, 1) := by decide +kernel
theorem dX4_repairs_55 : decode cX4_repairs 55 = .ok (.iaload, 1) := by decide +kernel
theorem dX4_repairs_56 : decode cX4_repairs 56 = .ok (.goto 4, 3) := by decide +kernel
theorem dX4_repairs_59 : decode cX4_repairs 59 = .ok (.iconst 0, 1) := by decide +kernel
theorem dX4_repairs_60 : decode cX4_repairs 60 = .ok (.iadd, 1) := by decide +kernel
theorem dX4_repairs_61 : decode cX4_repairs 61 = .ok (.istore_n 3, 1) := by decide +kernel
theorem dX4_repairs_62 : decode cX4_repairs 62 = .ok (.iinc 4 1, 3) := by decide +kernel
theorem dX4_repairs_65 : decode cX4_repairs 65 = .ok (.goto (-60), 3) := by decide +kernel
theorem dX4_repairs_68 : decode cX4_repairs 68 = .ok (.iload_n 3, 1) := by decide +kernel
theorem dX4_repairs_69 : decode cX4_repairs 69 = .ok (.ireturn, 1) := by decide +kernel
theorem dX4_runs_0 : decode cX4_runs 0 = .ok (.aload_n 0, 1) := by decide +kernel
theorem dX4_runs_1 : decode cX4_runs 1 = .ok (.getfield 7, 3) := by decide +kernel
theorem dX4_runs_4 : decode cX4_runs 4 = .ok (.bipush 68, 2) := by decide +kernel
theorem dX4_runs_6 : decode cX4_runs 6 = .ok (.iload_n 1, 1) := by decide +kernel
theorem dX4_runs_7 : decode cX4_runs 7 = .ok (.iadd, 1) := by decide +kernel
theorem dX4_runs_8 : decode cX4_runs 8 = .ok (.iaload, 1) := by decide +kernel
theorem dX4_runs_9 : decode cX4_runs 9 = .ok (.istore 4, 2) := by decide +kernel
theorem dX4_runs_11 : decode cX4_runs 11 = .ok (.bipush 6, 2) := by decide +kernel
theorem dX4_runs_13 : decode cX4_runs 13 = .ok (.aload_n 0, 1) := by decide +kernel
theorem dX4_runs_14 : decode cX4_runs 14 = .ok (.getfield 7, 3) := by decide +kernel
theorem dX4_runs_17 : decode cX4_runs 17 = .ok (.bipush 74, 2) := by decide +kernel
theorem dX4_runs_19 : decode cX4_runs 19 = .ok (.iload_n 1, 1) := by decide +kernel
theorem dX4_runs_20 : decode cX4_runs 20 = .ok (.iadd, 1) := by decide +kernel
theorem dX4_runs_21 : decode cX4_runs 21 = .ok (.iaload, 1) := by decide +kernel
theorem dX4_runs_22 : decode cX4_runs 22 = .ok (.imul, 1) := by decide +kernel
theorem dX4_runs_23 : decode cX4_runs 23 = .ok (.iload_n 2, 1) := by decide +kernel
theorem dX4_runs_24 : decode cX4_runs 24 = .ok (.iadd, 1) := by decide +kernel
theorem dX4_runs_25 : decode cX4_runs 25 = .ok (.istore 5, 2) := by decide +kernel
theorem dX4_runs_27 : decode cX4_runs 27 = .ok (.aload_n 0, 1) := by decide +kernel
theorem dX4_runs_28 : decode cX4_runs 28 = .ok (.getfield 7, 3) := by decide +kernel
theorem dX4_runs_31 : decode cX4_runs 31 = .ok (.bipush 28, 2) := by decide +kernel
theorem dX4_runs_33 : decode cX4_runs 33 = .ok (.iload 5, 2) := by decide +kernel
theorem dX4_runs_35 : decode cX4_runs 35 = .ok (.iadd, 1) := by decide +kernel
theorem dX4_runs_36 : decode cX4_runs 36 = .ok (.iaload, 1) := by decide +kernel
theorem dX4_runs_37 : decode cX4_runs 37 = .ok (.istore 6, 2) := by decide +kernel
theorem dX4_runs_39 : decode cX4_runs 39 = .ok (.aload_n 0, 1) := by decide +kernel
theorem dX4_runs_40 : decode cX4_runs 40 = .ok (.iload 5, 2) := by decide +kernel
theorem dX4_runs_42 : decode cX4_runs 42 = .ok (.iload 4, 2) := by decide +kernel
theorem dX4_runs_44 : decode cX4_runs 44 = .ok (.invokevirtual 111, 3) := by decide +kernel
theorem dX4_runs_47 : decode cX4_runs 47 = .ok (.istore 7, 2) := by decide +kernel
theorem dX4_runs_49 : decode cX4_runs 49 = .ok (.bipush (-4), 2) := by decide +kernel
theorem dX4_runs_51 : decode cX4_runs 51 = .ok (.istore 8, 2) := by decide +kernel
theorem dX4_runs_53 : decode cX4_runs 53 = .ok (.iconst 0, 1) := by decide +kernel
theorem dX4_runs_54 : decode cX4_runs 54 = .ok (.istore 9, 2) := by decide +kernel
theorem dX4_runs_56 : decode cX4_runs 56 = .ok (.iload 9, 2) := by decide +kernel
theorem dX4_runs_58 : decode cX4_runs 58 = .ok (.aload_n 0, 1) := by decide +kernel
theorem dX4_runs_59 : decode cX4_runs 59 = .ok (.getfield 7, 3) := by decide +kernel
theorem dX4_runs_62 : decode cX4_runs 62 = .ok (.bipush 56, 2) := by decide +kernel
theorem dX4_runs_64 : decode cX4_runs 64 = .ok (.iaload, 1) := by decide +kernel
theorem dX4_runs_65 : decode cX4_runs 65 = .ok (.if_icmp .ge 75, 3) := by decide +kernel
theorem dX4_runs_68 : decode cX4_runs 68 = .ok (.aload_n 0, 1) := by decide +kernel
theorem dX4_runs_69 : decode cX4_runs 69 = .ok (.getfield 7, 3) := by decide +kernel
theorem dX4_runs_72 : decode cX4_runs 72 = .ok (.bipush 57, 2) := by decide +kernel
theorem dX4_runs_74 : decode cX4_runs 74 = .ok (.iload 9, 2) := by decide +kernel
theorem dX4_runs_76 : decode cX4_runs 76 = .ok (.iadd, 1) := by decide +kernel
theorem dX4_runs_77 : decode cX4_runs 77 = .ok (.iaload, 1) := by decide +kernel
theorem dX4_runs_78 : decode cX4_runs 78 = .ok (.iload 4, 2) := by decide +kernel
theorem dX4_runs_80 : decode cX4_runs 80 = .ok (.if_icmp .ne 7, 3) := by decide +kernel
theorem dX4_runs_83 : decode cX4_runs 83 = .ok (.iconst 1, 1) := by decide +kernel
theorem dX4_runs_84 : decode cX4_runs 84 = .ok (.goto 4, 3) := by decide +kernel
theorem dX4_runs_87 : decode cX4_runs 87 = .ok (.iconst 0, 1) := by decide +kernel
theorem dX4_runs_88 : decode cX4_runs 88 = .ok (.istore 10, 2) := by decide +kernel
theorem dX4_runs_90 : decode cX4_runs 90 = .ok (.iload 10, 2) := by decide +kernel
theorem dX4_runs_92 : decode cX4_runs 92 = .ok (.ifCond .eq 38, 3) := by decide +kernel
theorem dX4_runs_95 : decode cX4_runs 95 = .ok (.iload 8, 2) := by decide +kernel
theorem dX4_runs_97 : decode cX4_runs 97 = .ok (.ifCond .lt 28, 3) := by decide +kernel
theorem dX4_runs_100 : decode cX4_runs 100 = .ok (.aload_n 0, 1) := by decide +kernel
theorem dX4_runs_101 : decode cX4_runs 101 = .ok (.iload 9, 2) := by decide +kernel
theorem dX4_runs_103 : decode cX4_runs 103 = .ok (.iload_n 3, 1) := by decide +kernel
theorem dX4_runs_104 : decode cX4_runs 104 = .ok (.iload 7, 2) := by decide +kernel
theorem dX4_runs_106 : decode cX4_runs 106 = .ok (.iload 6, 2) := by decide +kernel
theorem dX4_runs_108 : decode cX4_runs 108 = .ok (.invokevirtual 115, 3) := by decide +kernel
theorem dX4_runs_111 : decode cX4_runs 111 = .ok (.aload_n 0, 1) := by decide +kernel
theorem dX4_runs_112 : decode cX4_runs 112 = .ok (.iload 8, 2) := by decide +kernel
theorem dX4_runs_114 : decode cX4_runs 114 = .ok (.iload_n 3, 1) := by decide +kernel
theorem dX4_runs_115 : decode cX4_runs 115 = .ok (.iload 7, 2) := by decide +kernel
theorem dX4_runs_117 : decode cX4_runs 117 = .ok (.iload 6, 2) := by decide +kernel
theorem dX4_runs_119 : decode cX4_runs 119 = .ok (.invokevirtual 115, 3) := by decide +kernel
theorem dX4_runs_122 : decode cX4_runs 122 = .ok (.if_icmp .ge 8, 3) := by decide +kernel
theorem dX4_runs_125 : decode cX4_runs 125 = .ok (.iload 9, 2) := by decide +kernel
theorem dX4_runs_127 : decode cX4_runs 127 = .ok (.goto 5, 3) := by decide +kernel
theorem dX4_runs_130 : decode cX4_runs 130 = .ok (.iload 8, 2) := by decide +kernel
theorem dX4_runs_132 : decode cX4_runs 132 = .ok (.istore 8, 2) := by decide +kernel
theorem dX4_runs_134 : decode cX4_runs 134 = .ok (.iinc 9 1, 3) := by decide +kernel
theorem dX4_runs_137 : decode cX4_runs 137 = .ok (.goto (-81), 3) := by decide +kernel
theorem dX4_runs_140 : decode cX4_runs 140 = .ok (.aload_n 0, 1) := by decide +kernel
theorem dX4_runs_141 : decode cX4_runs 141 = .ok (.iload 8, 2) := by decide +kernel
theorem dX4_runs_143 : decode cX4_runs 143 = .ok (.iload_n 3, 1) := by decide +kernel
theorem dX4_runs_144 : decode cX4_runs 144 = .ok (.iload 7, 2) := by decide +kernel
theorem dX4_runs_146 : decode cX4_runs 146 = .ok (.iload 6, 2) := by decide +kernel
theorem dX4_runs_148 : decode cX4_runs 148 = .ok (.invokevirtual 115, 3) := by decide +kernel
theorem dX4_runs_151 : decode cX4_runs 151 = .ok (.istore 9, 2) := by decide +kernel
theorem dX4_runs_153 : decode cX4_runs 153 = .ok (.iload 9, 2) := by decide +kernel
theorem dX4_runs_155 : decode cX4_runs 155 = .ok (.aload_n 0, 1) := by decide +kernel
theorem dX4_runs_156 : decode cX4_runs 156 = .ok (.getfield 7, 3) := by decide +kernel
theorem dX4_runs_159 : decode cX4_runs 159 = .ok (.iconst 4, 1) := by decide +kernel
theorem dX4_runs_160 : decode cX4_runs 160 = .ok (.iload 5, 2) := by decide +kernel
theorem dX4_runs_162 : decode cX4_runs 162 = .ok (.iadd, 1) := by decide +kernel
theorem dX4_runs_163 : decode cX4_runs 163 = .ok (.iaload, 1) := by decide +kernel
theorem dX4_runs_164 : decode cX4_runs 164 = .ok (.iadd, 1) := by decide +kernel
theorem dX4_runs_165 : decode cX4_runs 165 = .ok (.aload_n 0, 1) := by decide +kernel
theorem dX4_runs_166 : decode cX4_runs 166 = .ok (.iload_n 1, 1) := by decide +kernel
theorem dX4_runs_167 : decode cX4_runs 167 = .ok (.iload_n 2, 1) := by decide +kernel
theorem dX4_runs_168 : decode cX4_runs 168 = .ok (.invokevirtual 119, 3) := by decide +kernel
theorem dX4_runs_171 : decode cX4_runs 171 = .ok (.iadd, 1) := by decide +kernel
theorem dX4_runs_172 : decode cX4_runs 172 = .ok (.istore 10, 2) := by decide +kernel
theorem dX4_runs_174 : decode cX4_runs 174 = .ok (.aload_n 0, 1) := by decide +kernel
theorem dX4_runs_175 : decode cX4_runs 175 = .ok (.dup, 1) := by decide +kernel
theorem dX4_runs_176 : decode cX4_runs 176 = .ok (.getfield 122, 3) := by decide +kernel
theorem dX4_runs_179 : decode cX4_runs 179 = .ok (.aload_n 0, 1) := by decide +kernel
theorem dX4_runs_180 : decode cX4_runs 180 = .ok (.iload 8, 2) := by decide +kernel
theorem dX4_runs_182 : decode cX4_runs 182 = .ok (.iload 6, 2) := by decide +kernel
theorem dX4_runs_184 : decode cX4_runs 184 = .ok (.invokevirtual 108, 3) := by decide +kernel
theorem dX4_runs_187 : decode cX4_runs 187 = .ok (.ifCond .eq 7, 3) := by decide +kernel
theorem dX4_runs_190 : decode cX4_runs 190 = .ok (.iconst 1, 1) := by decide +kernel
theorem dX4_runs_191 : decode cX4_runs 191 = .ok (.goto 4, 3) := by decide +kernel
theorem dX4_runs_194 : decode cX4_runs 194 = .ok (.iconst 0, 1) := by decide +kernel
theorem dX4_runs_195 : decode cX4_runs 195 = .ok (.iadd, 1) := by decide +kernel
theorem dX4_runs_196 : decode cX4_runs 196 = .ok (.putfield 122, 3) := by decide +kernel
theorem dX4_runs_199 : decode cX4_runs 199 = .ok (.aload_n 0, 1) := by decide +kernel
theorem dX4_runs_200 : decode cX4_runs 200 = .ok (.getfield 28, 3) := by decide +kernel
theorem dX4_runs_203 : decode cX4_runs 203 = .ok (.iload 8, 2) := by decide +kernel
theorem dX4_runs_205 : decode cX4_runs 205 = .ok (.iload 6, 2) := by decide +kernel
theorem dX4_runs_207 : decode cX4_runs 207 = .ok (.iastore, 1) := by decide +kernel
theorem dX4_runs_208 : decode cX4_runs 208 = .ok (.aload_n 0, 1) := by decide +kernel
theorem dX4_runs_209 : decode cX4_runs 209 = .ok (.getfield 25, 3) := by decide +kernel
theorem dX4_runs_212 : decode cX4_runs 212 = .ok (.iload 8, 2) := by decide +kernel
theorem dX4_runs_214 : decode cX4_runs 214 = .ok (.iload 10, 2) := by decide +kernel
theorem dX4_runs_216 : decode cX4_runs 216 = .ok (.iastore, 1) := by decide +kernel
theorem dX4_runs_217 : decode cX4_runs 217 = .ok (.aload_n 0, 1) := by decide +kernel
theorem dX4_runs_218 : decode cX4_runs 218 = .ok (.getfield 31, 3) := by decide +kernel
theorem dX4_runs_221 : decode cX4_runs 221 = .ok (.iload 8, 2) := by decide +kernel
theorem dX4_runs_223 : decode cX4_runs 223 = .ok (.dup2, 1) := by decide +kernel
theorem dX4_runs_224 : decode cX4_runs 224 = .ok (.iaload, 1) := by decide +kernel
theorem dX4_runs_225 : decode cX4_runs 225 = .ok (.iload 10, 2) := by decide +kernel
theorem dX4_runs_227 : decode cX4_runs 227 = .ok (.iload 9, 2) := by decide +kernel
theorem dX4_runs_229 : decode cX4_runs 229 = .ok (.isub, 1) := by decide +kernel
theorem dX4_runs_230 : decode cX4_runs 230 = .ok (.iadd, 1) := by decide +kernel
theorem dX4_runs_231 : decode cX4_runs 231 = .ok (.iastore, 1) := by decide +kernel
theorem dX4_runs_232 : decode cX4_runs 232 = .ok (.aload_n 0, 1) := by decide +kernel
theorem dX4_runs_233 : decode cX4_runs 233 = .ok (.getfield 19, 3) := by decide +kernel
theorem dX4_runs_236 : decode cX4_runs 236 = .ok (.iload 5, 2) := by decide +kernel
theorem dX4_runs_238 : decode cX4_runs 238 = .ok (.iload 10, 2) := by decide +kernel
theorem dX4_runs_240 : decode cX4_runs 240 = .ok (.aload_n 0, 1) := by decide +kernel
theorem dX4_runs_241 : decode cX4_runs 241 = .ok (.getfield 7, 3) := by decide +kernel
theorem dX4_runs_244 : decode cX4_runs 244 = .ok (.bipush 65, 2) := by decide +kernel
theorem dX4_runs_246 : decode cX4_runs 246 = .ok (.iaload, 1) := by decide +kernel
theorem dX4_runs_247 : decode cX4_runs 247 = .ok (.iadd, 1) := by decide +kernel
theorem dX4_runs_248 : decode cX4_runs 248 = .ok (.iastore, 1) := by decide +kernel
theorem dX4_runs_249 : decode cX4_runs 249 = .ok (.aload_n 0, 1) := by decide +kernel
theorem dX4_runs_250 : decode cX4_runs 250 = .ok (.getfield 34, 3) := by decide +kernel
theorem dX4_runs_253 : decode cX4_runs 253 = .ok (.bipush 6, 2) := by decide +kernel
theorem dX4_runs_255 : decode cX4_runs 255 = .ok (.iload_n 1, 1) := by decide +kernel
theorem dX4_runs_256 : decode cX4_runs 256 = .ok (.imul, 1) := by decide +kernel
theorem dX4_runs_257 : decode cX4_runs 257 = .ok (.iload_n 2, 1) := by decide +kernel
theorem dX4_runs_258 : decode cX4_runs 258 = .ok (.iadd, 1) := by decide +kernel
theorem dX4_runs_259 : decode cX4_runs 259 = .ok (.iload 9, 2) := by decide +kernel
theorem dX4_runs_261 : decode cX4_runs 261 = .ok (.iastore, 1) := by decide +kernel
theorem dX4_runs_262 : decode cX4_runs 262 = .ok (.aload_n 0, 1) := by decide +kernel
theorem dX4_runs_263 : decode cX4_runs 263 = .ok (.getfield 37, 3) := by decide +kernel
theorem dX4_runs_266 : decode cX4_runs 266 = .ok (.bipush 6, 2) := by decide +kernel
theorem dX4_runs_268 : decode cX4_runs 268 = .ok (.iload_n 1, 1) := by decide +kernel
theorem dX4_runs_269 : decode cX4_runs 269 = .ok (.imul, 1) := by decide +kernel
theorem dX4_runs_270 : decode cX4_runs 270 = .ok (.iload_n 2, 1) := by decide +kernel
theorem dX4_runs_271 : decode cX4_runs 271 = .ok (.iadd, 1) := by decide +kernel
theorem dX4_runs_272 : decode cX4_runs 272 = .ok (.iload 8, 2) := by decide +kernel
theorem dX4_runs_274 : decode cX4_runs 274 = .ok (.iastore, 1) := by decide +kernel
theorem dX4_runs_275 : decode cX4_runs 275 = .ok (.iload 10, 2) := by decide +kernel
theorem dX4_runs_277 : decode cX4_runs 277 = .ok (.ireturn, 1) := by decide +kernel
theorem dX4_plansShow_0 : decode cX4_plansShow 0 = .ok (.aload_n 0, 1) := by decide +kernel
theorem dX4_plansShow_1 : decode cX4_plansShow 1 = .ok (.getfield 40, 3) := by decide +kernel
theorem dX4_plansShow_4 : decode cX4_plansShow 4 = .ok (.iload_n 1, 1) := by decide +kernel
theorem dX4_plansShow_5 : decode cX4_plansShow 5 = .ok (.iconst 0, 1) := by decide +kernel
theorem dX4_plansShow_6 : decode cX4_plansShow 6 = .ok (.bastore, 1) := by decide +kernel
theorem dX4_plansShow_7 : decode cX4_plansShow 7 = .ok (.iconst 0, 1) := by decide +kernel
theorem dX4_plansShow_8 : decode cX4_plansShow 8 = .ok (.istore_n 2, 1) := by decide +kernel
theorem dX4_plansShow_9 : decode cX4_plansShow 9 = .ok (.iload_n 2, 1) := by decide +kernel
theorem dX4_plansShow_10 : decode cX4_plansShow 10 = .ok (.aload_n 0, 1) := by decide +kernel
theorem dX4_plansShow_11 : decode cX4_plansShow 11 = .ok (.getfield 7, 3) := by decide +kernel
theorem dX4_plansShow_14 : decode cX4_plansShow 14 = .ok (.bipush 56, 2) := by decide +kernel
theorem dX4_plansShow_16 : decode cX4_plansShow 16 = .ok (.iaload, 1) := by decide +kernel
theorem dX4_plansShow_17 : decode cX4_plansShow 17 = .ok (.if_icmp .ge 50, 3) := by decide +kernel
theorem dX4_plansShow_20 : decode cX4_plansShow 20 = .ok (.aload_n 0, 1) := by decide +kernel
theorem dX4_plansShow_21 : decode cX4_plansShow 21 = .ok (.getfield 40, 3) := by decide +kernel
theorem dX4_plansShow_24 : decode cX4_plansShow 24 = .ok (.iload_n 1, 1) := by decide +kernel
theorem dX4_plansShow_25 : decode cX4_plansShow 25 = .ok (.aload_n 0, 1) := by decide +kernel
theorem dX4_plansShow_26 : decode cX4_plansShow 26 = .ok (.getfield 40, 3) := by decide +kernel
theorem dX4_plansShow_29 : decode cX4_plansShow 29 = .ok (.iload_n 1, 1) := by decide +kernel
theorem dX4_plansShow_30 : decode cX4_plansShow 30 = .ok (.baload, 1) := by decide +kernel
theorem dX4_plansShow_31 : decode cX4_plansShow 31 = .ok (.ifCond .ne 24, 3) := by decide +kernel
theorem dX4_plansShow_34 : decode cX4_plansShow 34 = .ok (.aload_n 0, 1) := by decide +kernel
theorem dX4_plansShow_35 : decode cX4_plansShow 35 = .ok (.getfield 7, 3) := by decide +kernel
theorem dX4_plansShow_38 : decode cX4_plansShow 38 = .ok (.bipush 57, 2) := by decide +kernel
theorem dX4_plansShow_40 : decode cX4_plansShow 40 = .ok (.iload_n 2, 1) := by decide +kernel
theorem dX4_plansShow_41 : decode cX4_plansShow 41 = .ok (.iadd, 1) := by decide +kernel
theorem dX4_plansShow_42 : decode cX4_plansShow 42 = .ok (.iaload, 1) := by decide +kernel
theorem dX4_plansShow_43 : decode cX4_plansShow 43 = .ok (.aload_n 0, 1) := by decide +kernel
theorem dX4_plansShow_44 : decode cX4_plansShow 44 = .ok (.getfield 7, 3) := by decide +kernel
theorem dX4_plansShow_47 : decode cX4_plansShow 47 = .ok (.bipush 68, 2) := by decide +kernel
theorem dX4_plansShow_49 : decode cX4_plansShow 49 = .ok (.iload_n 1, 1) := by decide +kernel
theorem dX4_plansShow_50 : decode cX4_plansShow 50 = .ok (.iadd, 1) := by decide +kernel
theorem dX4_plansShow_51 : decode cX4_plansShow 51 = .ok (.iaload, 1) := by decide +kernel
theorem dX4_plansShow_52 : decode cX4_plansShow 52 = .ok (.if_icmp .ne 7, 3) := by decide +kernel
theorem dX4_plansShow_55 : decode cX4_plansShow 55 = .ok (.iconst 1, 1) := by decide +kernel
theorem dX4_plansShow_56 : decode cX4_plansShow 56 = .ok (.goto 4, 3) := by decide +kernel
theorem dX4_plansShow_59 : decode cX4_plansShow 59 = .ok (.iconst 0, 1) := by decide +kernel
theorem dX4_plansShow_60 : decode cX4_plansShow 60 = .ok (.bastore, 1) := by decide +kernel
theorem dX4_plansShow_61 : decode cX4_plansShow 61 = .ok (.iinc 2 1, 3) := by decide +kernel
theorem dX4_plansShow_64 : decode cX4_plansShow 64 = .ok (.goto (-55), 3) := by decide +kernel
theorem dX4_plansShow_67 : decode cX4_plansShow 67 = .ok (.aload_n 0, 1) := by decide +kernel
theorem dX4_plansShow_68 : decode cX4_plansShow 68 = .ok (.getfield 47, 3) := by decide +kernel
theorem dX4_plansShow_71 : decode cX4_plansShow 71 = .ok (.iload_n 1, 1) := by decide +kernel
theorem dX4_plansShow_72 : decode cX4_plansShow 72 = .ok (.iconst 0, 1) := by decide +kernel
theorem dX4_plansShow_73 : decode cX4_plansShow 73 = .ok (.iastore, 1) := by decide +kernel
theorem dX4_plansShow_74 : decode cX4_plansShow 74 = .ok (.aload_n 0, 1) := by decide +kernel
theorem dX4_plansShow_75 : decode cX4_plansShow 75 = .ok (.getfield 50, 3) := by decide +kernel
theorem dX4_plansShow_78 : decode cX4_plansShow 78 = .ok (.iload_n 1, 1) := by decide +kernel
theorem dX4_plansShow_79 : decode cX4_plansShow 79 = .ok (.iconst 0, 1) := by decide +kernel
theorem dX4_plansShow_80 : decode cX4_plansShow 80 = .ok (.iastore, 1) := by decide +kernel
theorem dX4_plansShow_81 : decode cX4_plansShow 81 = .ok (.aload_n 0, 1) := by decide +kernel
theorem dX4_plansShow_82 : decode cX4_plansShow 82 = .ok (.getfield 40, 3) := by decide +kernel
theorem dX4_plansShow_85 : decode cX4_plansShow 85 = .ok (.iload_n 1, 1) := by decide +kernel
theorem dX4_plansShow_86 : decode cX4_plansShow 86 = .ok (.baload, 1) := by decide +kernel
theorem dX4_plansShow_87 : decode cX4_plansShow 87 = .ok (.ifCond .ne 4, 3) := by decide +kernel
theorem dX4_plansShow_90 : decode cX4_plansShow 90 = .ok (.return_, 1) := by decide +kernel
theorem dX4_plansShow_91 : decode cX4_plansShow 91 = .ok (.aload_n 0, 1) := by decide +kernel
theorem dX4_plansShow_92 : decode cX4_plansShow 92 = .ok (.getfield 7, 3) := by decide +kernel
theorem dX4_plansShow_95 : decode cX4_plansShow 95 = .ok (.bipush 80, 2) := by decide +kernel
theorem dX4_plansShow_97 : decode cX4_plansShow 97 = .ok (.iload_n 1, 1) := by decide +kernel
theorem dX4_plansShow_98 : decode cX4_plansShow 98 = .ok (.iadd, 1) := by decide +kernel
theorem dX4_plansShow_99 : decode cX4_plansShow 99 = .ok (.iaload, 1) := by decide +kernel
theorem dX4_plansShow_100 : decode cX4_plansShow 100 = .ok (.istore_n 2, 1) := by decide +kernel
theorem dX4_plansShow_101 : decode cX4_plansShow 101 = .ok (.iconst 0, 1) := by decide +kernel
theorem dX4_plansShow_102 : decode cX4_plansShow 102 = .ok (.istore_n 3, 1) := by decide +kernel
end
section
theorem dX4_plansShow_103 : decode cX4_plansShow 103 = .ok (.iload_n 3, 1) := by decide +kernel
theorem dX4_plansShow_104 : decode cX4_plansShow 104 = .ok (.aload_n 0, 1) := by decide +kernel
theorem dX4_plansShow_105 : decode cX4_plansShow 105 = .ok (.getfield 7, 3) := by decide +kernel
theorem dX4_plansShow_108 : decode cX4_plansShow 108 = .ok (.iconst 0, 1) := by decide +kernel
theorem dX4_plansShow_109 : decode cX4_plansShow 109 = .ok (.aload_n 0, 1) := by decide +kernel
theorem dX4_plansShow_110 : decode cX4_plansShow 110 = .ok (.getfield 7, 3) := by decide +kernel
theorem dX4_plansShow_113 : decode cX4_plansShow 113 = .ok (.bipush 74, 2) := by decide +kernel
theorem dX4_plansShow_115 : decode cX4_plansShow 115 = .ok (.iload_n 1, 1) := by decide +kernel
theorem dX4_plansShow_116 : decode cX4_plansShow 116 = .ok (.iadd, 1) := by decide +kernel
theorem dX4_plansShow_117 : decode cX4_plansShow 117 = .ok (.iaload, 1) := by decide +kernel
theorem dX4_plansShow_118 : decode cX4_plansShow 118 = .ok (.iadd, 1) := by decide +kernel
theorem dX4_plansShow_119 : decode cX4_plansShow 119 = .ok (.iaload, 1) := by decide +kernel
theorem dX4_plansShow_120 : decode cX4_plansShow 120 = .ok (.if_icmp .ge 81, 3) := by decide +kernel
theorem dX4_plansShow_123 : decode cX4_plansShow 123 = .ok (.iload_n 2, 1) := by decide +kernel
theorem dX4_plansShow_124 : decode cX4_plansShow 124 = .ok (.istore 4, 2) := by decide +kernel
theorem dX4_plansShow_126 : decode cX4_plansShow 126 = .ok (.aload_n 0, 1) := by decide +kernel
theorem dX4_plansShow_127 : decode cX4_plansShow 127 = .ok (.iload_n 1, 1) := by decide +kernel
theorem dX4_plansShow_128 : decode cX4_plansShow 128 = .ok (.iload_n 3, 1) := by decide +kernel
theorem dX4_plansShow_129 : decode cX4_plansShow 129 = .ok (.iload 4, 2) := by decide +kernel
theorem dX4_plansShow_131 : decode cX4_plansShow 131 = .ok (.invokevirtual 125, 3) := by decide +kernel
theorem dX4_plansShow_134 : decode cX4_plansShow 134 = .ok (.istore_n 2, 1) := by decide +kernel
theorem dX4_plansShow_135 : decode cX4_plansShow 135 = .ok (.aload_n 0, 1) := by decide +kernel
theorem dX4_plansShow_136 : decode cX4_plansShow 136 = .ok (.getfield 47, 3) := by decide +kernel
theorem dX4_plansShow_139 : decode cX4_plansShow 139 = .ok (.iload_n 1, 1) := by decide +kernel
theorem dX4_plansShow_140 : decode cX4_plansShow 140 = .ok (.dup2, 1) := by decide +kernel
theorem dX4_plansShow_141 : decode cX4_plansShow 141 = .ok (.iaload, 1) := by decide +kernel
theorem dX4_plansShow_142 : decode cX4_plansShow 142 = .ok (.iload_n 3, 1) := by decide +kernel
theorem dX4_plansShow_143 : decode cX4_plansShow 143 = .ok (.ifCond .ne 18, 3) := by decide +kernel
theorem dX4_plansShow_146 : decode cX4_plansShow 146 = .ok (.aload_n 0, 1) := by decide +kernel
theorem dX4_plansShow_147 : decode cX4_plansShow 147 = .ok (.getfield 34, 3) := by decide +kernel
theorem dX4_plansShow_150 : decode cX4_plansShow 150 = .ok (.bipush 6, 2) := by decide +kernel
theorem dX4_plansShow_152 : decode cX4_plansShow 152 = .ok (.iload_n 1, 1) := by decide +kernel
theorem dX4_plansShow_153 : decode cX4_plansShow 153 = .ok (.imul, 1) := by decide +kernel
theorem dX4_plansShow_154 : decode cX4_plansShow 154 = .ok (.iaload, 1) := by decide +kernel
theorem dX4_plansShow_155 : decode cX4_plansShow 155 = .ok (.iload 4, 2) := by decide +kernel
theorem dX4_plansShow_157 : decode cX4_plansShow 157 = .ok (.isub, 1) := by decide +kernel
theorem dX4_plansShow_158 : decode cX4_plansShow 158 = .ok (.goto 4, 3) := by decide +kernel
theorem dX4_plansShow_161 : decode cX4_plansShow 161 = .ok (.iconst 0, 1) := by decide +kernel
theorem dX4_plansShow_162 : decode cX4_plansShow 162 = .ok (.iadd, 1) := by decide +kernel
theorem dX4_plansShow_163 : decode cX4_plansShow 163 = .ok (.iastore, 1) := by decide +kernel
theorem dX4_plansShow_164 : decode cX4_plansShow 164 = .ok (.aload_n 0, 1) := by decide +kernel
theorem dX4_plansShow_165 : decode cX4_plansShow 165 = .ok (.getfield 50, 3) := by decide +kernel
theorem dX4_plansShow_168 : decode cX4_plansShow 168 = .ok (.iload_n 1, 1) := by decide +kernel
theorem dX4_plansShow_169 : decode cX4_plansShow 169 = .ok (.dup2, 1) := by decide +kernel
theorem dX4_plansShow_170 : decode cX4_plansShow 170 = .ok (.iaload, 1) := by decide +kernel
theorem dX4_plansShow_171 : decode cX4_plansShow 171 = .ok (.iload_n 3, 1) := by decide +kernel
theorem dX4_plansShow_172 : decode cX4_plansShow 172 = .ok (.ifCond .ne 7, 3) := by decide +kernel
theorem dX4_plansShow_175 : decode cX4_plansShow 175 = .ok (.iconst 0, 1) := by decide +kernel
theorem dX4_plansShow_176 : decode cX4_plansShow 176 = .ok (.goto 17, 3) := by decide +kernel
theorem dX4_plansShow_179 : decode cX4_plansShow 179 = .ok (.aload_n 0, 1) := by decide +kernel
theorem dX4_plansShow_180 : decode cX4_plansShow 180 = .ok (.getfield 34, 3) := by decide +kernel
theorem dX4_plansShow_183 : decode cX4_plansShow 183 = .ok (.bipush 6, 2) := by decide +kernel
theorem dX4_plansShow_185 : decode cX4_plansShow 185 = .ok (.iload_n 1, 1) := by decide +kernel
theorem dX4_plansShow_186 : decode cX4_plansShow 186 = .ok (.imul, 1) := by decide +kernel
theorem dX4_plansShow_187 : decode cX4_plansShow 187 = .ok (.iload_n 3, 1) := by decide +kernel
theorem dX4_plansShow_188 : decode cX4_plansShow 188 = .ok (.iadd, 1) := by decide +kernel
theorem dX4_plansShow_189 : decode cX4_plansShow 189 = .ok (.iaload, 1) := by decide +kernel
theorem dX4_plansShow_190 : decode cX4_plansShow 190 = .ok (.iload 4, 2) := by decide +kernel
theorem dX4_plansShow_192 : decode cX4_plansShow 192 = .ok (.isub, 1) := by decide +kernel
theorem dX4_plansShow_193 : decode cX4_plansShow 193 = .ok (.iadd, 1) := by decide +kernel
theorem dX4_plansShow_194 : decode cX4_plansShow 194 = .ok (.iastore, 1) := by decide +kernel
theorem dX4_plansShow_195 : decode cX4_plansShow 195 = .ok (.iinc 3 1, 3) := by decide +kernel
theorem dX4_plansShow_198 : decode cX4_plansShow 198 = .ok (.goto (-95), 3) := by decide +kernel
theorem dX4_plansShow_201 : decode cX4_plansShow 201 = .ok (.aload_n 0, 1) := by decide +kernel
theorem dX4_plansShow_202 : decode cX4_plansShow 202 = .ok (.getfield 44, 3) := by decide +kernel
theorem dX4_plansShow_205 : decode cX4_plansShow 205 = .ok (.iload_n 1, 1) := by decide +kernel
theorem dX4_plansShow_206 : decode cX4_plansShow 206 = .ok (.iload_n 2, 1) := by decide +kernel
theorem dX4_plansShow_207 : decode cX4_plansShow 207 = .ok (.iastore, 1) := by decide +kernel
theorem dX4_plansShow_208 : decode cX4_plansShow 208 = .ok (.return_, 1) := by decide +kernel
theorem dX4_plans_0 : decode cX4_plans 0 = .ok (.iconst 0, 1) := by decide +kernel
theorem dX4_plans_1 : decode cX4_plans 1 = .ok (.istore_n 1, 1) := by decide +kernel
theorem dX4_plans_2 : decode cX4_plans 2 = .ok (.iload_n 1, 1) := by decide +kernel
theorem dX4_plans_3 : decode cX4_plans 3 = .ok (.bipush 24, 2) := by decide +kernel
theorem dX4_plans_5 : decode cX4_plans 5 = .ok (.if_icmp .ge 34, 3) := by decide +kernel
theorem dX4_plans_8 : decode cX4_plans 8 = .ok (.aload_n 0, 1) := by decide +kernel
theorem dX4_plans_9 : decode cX4_plans 9 = .ok (.getfield 16, 3) := by decide +kernel
theorem dX4_plans_12 : decode cX4_plans 12 = .ok (.iload_n 1, 1) := by decide +kernel
theorem dX4_plans_13 : decode cX4_plans 13 = .ok (.aload_n 0, 1) := by decide +kernel
theorem dX4_plans_14 : decode cX4_plans 14 = .ok (.getfield 7, 3) := by decide +kernel
theorem dX4_plans_17 : decode cX4_plans 17 = .ok (.bipush 52, 2) := by decide +kernel
theorem dX4_plans_19 : decode cX4_plans 19 = .ok (.iload_n 1, 1) := by decide +kernel
theorem dX4_plans_20 : decode cX4_plans 20 = .ok (.bipush 6, 2) := by decide +kernel
theorem dX4_plans_22 : decode cX4_plans 22 = .ok (.idiv, 1) := by decide +kernel
theorem dX4_plans_23 : decode cX4_plans 23 = .ok (.iadd, 1) := by decide +kernel
theorem dX4_plans_24 : decode cX4_plans 24 = .ok (.iaload, 1) := by decide +kernel
theorem dX4_plans_25 : decode cX4_plans 25 = .ok (.iastore, 1) := by decide +kernel
theorem dX4_plans_26 : decode cX4_plans 26 = .ok (.aload_n 0, 1) := by decide +kernel
theorem dX4_plans_27 : decode cX4_plans 27 = .ok (.getfield 19, 3) := by decide +kernel
theorem dX4_plans_30 : decode cX4_plans 30 = .ok (.iload_n 1, 1) := by decide +kernel
theorem dX4_plans_31 : decode cX4_plans 31 = .ok (.iconst 0, 1) := by decide +kernel
theorem dX4_plans_32 : decode cX4_plans 32 = .ok (.iastore, 1) := by decide +kernel
theorem dX4_plans_33 : decode cX4_plans 33 = .ok (.iinc 1 1, 3) := by decide +kernel
theorem dX4_plans_36 : decode cX4_plans 36 = .ok (.goto (-34), 3) := by decide +kernel
theorem dX4_plans_39 : decode cX4_plans 39 = .ok (.iconst 0, 1) := by decide +kernel
theorem dX4_plans_40 : decode cX4_plans 40 = .ok (.istore_n 1, 1) := by decide +kernel
theorem dX4_plans_41 : decode cX4_plans 41 = .ok (.iload_n 1, 1) := by decide +kernel
theorem dX4_plans_42 : decode cX4_plans 42 = .ok (.iconst 3, 1) := by decide +kernel
theorem dX4_plans_43 : decode cX4_plans 43 = .ok (.if_icmp .ge 16, 3) := by decide +kernel
theorem dX4_plans_46 : decode cX4_plans 46 = .ok (.aload_n 0, 1) := by decide +kernel
theorem dX4_plans_47 : decode cX4_plans 47 = .ok (.getfield 22, 3) := by decide +kernel
theorem dX4_plans_50 : decode cX4_plans 50 = .ok (.iload_n 1, 1) := by decide +kernel
theorem dX4_plans_51 : decode cX4_plans 51 = .ok (.iconst 0, 1) := by decide +kernel
theorem dX4_plans_52 : decode cX4_plans 52 = .ok (.iastore, 1) := by decide +kernel
theorem dX4_plans_53 : decode cX4_plans 53 = .ok (.iinc 1 1, 3) := by decide +kernel
theorem dX4_plans_56 : decode cX4_plans 56 = .ok (.goto (-15), 3) := by decide +kernel
theorem dX4_plans_59 : decode cX4_plans 59 = .ok (.iconst 0, 1) := by decide +kernel
theorem dX4_plans_60 : decode cX4_plans 60 = .ok (.istore_n 1, 1) := by decide +kernel
theorem dX4_plans_61 : decode cX4_plans 61 = .ok (.iload_n 1, 1) := by decide +kernel
theorem dX4_plans_62 : decode cX4_plans 62 = .ok (.iconst 5, 1) := by decide +kernel
theorem dX4_plans_63 : decode cX4_plans 63 = .ok (.if_icmp .ge 30, 3) := by decide +kernel
theorem dX4_plans_66 : decode cX4_plans 66 = .ok (.aload_n 0, 1) := by decide +kernel
theorem dX4_plans_67 : decode cX4_plans 67 = .ok (.getfield 25, 3) := by decide +kernel
theorem dX4_plans_70 : decode cX4_plans 70 = .ok (.iload_n 1, 1) := by decide +kernel
theorem dX4_plans_71 : decode cX4_plans 71 = .ok (.iconst 0, 1) := by decide +kernel
theorem dX4_plans_72 : decode cX4_plans 72 = .ok (.iastore, 1) := by decide +kernel
theorem dX4_plans_73 : decode cX4_plans 73 = .ok (.aload_n 0, 1) := by decide +kernel
theorem dX4_plans_74 : decode cX4_plans 74 = .ok (.getfield 28, 3) := by decide +kernel
theorem dX4_plans_77 : decode cX4_plans 77 = .ok (.iload_n 1, 1) := by decide +kernel
theorem dX4_plans_78 : decode cX4_plans 78 = .ok (.iconst (-1), 1) := by decide +kernel
theorem dX4_plans_79 : decode cX4_plans 79 = .ok (.iastore, 1) := by decide +kernel
theorem dX4_plans_80 : decode cX4_plans 80 = .ok (.aload_n 0, 1) := by decide +kernel
theorem dX4_plans_81 : decode cX4_plans 81 = .ok (.getfield 31, 3) := by decide +kernel
theorem dX4_plans_84 : decode cX4_plans 84 = .ok (.iload_n 1, 1) := by decide +kernel
theorem dX4_plans_85 : decode cX4_plans 85 = .ok (.iconst 0, 1) := by decide +kernel
theorem dX4_plans_86 : decode cX4_plans 86 = .ok (.iastore, 1) := by decide +kernel
theorem dX4_plans_87 : decode cX4_plans 87 = .ok (.iinc 1 1, 3) := by decide +kernel
theorem dX4_plans_90 : decode cX4_plans 90 = .ok (.goto (-29), 3) := by decide +kernel
theorem dX4_plans_93 : decode cX4_plans 93 = .ok (.aload_n 0, 1) := by decide +kernel
theorem dX4_plans_94 : decode cX4_plans 94 = .ok (.iconst 0, 1) := by decide +kernel
theorem dX4_plans_95 : decode cX4_plans 95 = .ok (.putfield 105, 3) := by decide +kernel
theorem dX4_plans_98 : decode cX4_plans 98 = .ok (.aload_n 0, 1) := by decide +kernel
theorem dX4_plans_99 : decode cX4_plans 99 = .ok (.iconst 0, 1) := by decide +kernel
theorem dX4_plans_100 : decode cX4_plans 100 = .ok (.putfield 122, 3) := by decide +kernel
theorem dX4_plans_103 : decode cX4_plans 103 = .ok (.iconst 0, 1) := by decide +kernel
theorem dX4_plans_104 : decode cX4_plans 104 = .ok (.istore_n 1, 1) := by decide +kernel
theorem dX4_plans_105 : decode cX4_plans 105 = .ok (.iconst 0, 1) := by decide +kernel
theorem dX4_plans_106 : decode cX4_plans 106 = .ok (.istore_n 2, 1) := by decide +kernel
theorem dX4_plans_107 : decode cX4_plans 107 = .ok (.iconst 0, 1) := by decide +kernel
theorem dX4_plans_108 : decode cX4_plans 108 = .ok (.istore_n 3, 1) := by decide +kernel
theorem dX4_plans_109 : decode cX4_plans 109 = .ok (.iload_n 3, 1) := by decide +kernel
theorem dX4_plans_110 : decode cX4_plans 110 = .ok (.aload_n 0, 1) := by decide +kernel
theorem dX4_plans_111 : decode cX4_plans 111 = .ok (.getfield 7, 3) := by decide +kernel
theorem dX4_plans_114 : decode cX4_plans 114 = .ok (.bipush 67, 2) := by decide +kernel
theorem dX4_plans_116 : decode cX4_plans 116 = .ok (.iaload, 1) := by decide +kernel
theorem dX4_plans_117 : decode cX4_plans 117 = .ok (.if_icmp .ge 139, 3) := by decide +kernel
theorem dX4_plans_120 : decode cX4_plans 120 = .ok (.bipush (-4), 2) := by decide +kernel
theorem dX4_plans_122 : decode cX4_plans 122 = .ok (.istore 4, 2) := by decide +kernel
theorem dX4_plans_124 : decode cX4_plans 124 = .ok (.iconst 0, 1) := by decide +kernel
theorem dX4_plans_125 : decode cX4_plans 125 = .ok (.istore 5, 2) := by decide +kernel
theorem dX4_plans_127 : decode cX4_plans 127 = .ok (.iload 5, 2) := by decide +kernel
theorem dX4_plans_129 : decode cX4_plans 129 = .ok (.aload_n 0, 1) := by decide +kernel
theorem dX4_plans_130 : decode cX4_plans 130 = .ok (.getfield 7, 3) := by decide +kernel
theorem dX4_plans_133 : decode cX4_plans 133 = .ok (.bipush 67, 2) := by decide +kernel
theorem dX4_plans_135 : decode cX4_plans 135 = .ok (.iaload, 1) := by decide +kernel
theorem dX4_plans_136 : decode cX4_plans 136 = .ok (.if_icmp .ge 67, 3) := by decide +kernel
theorem dX4_plans_139 : decode cX4_plans 139 = .ok (.iload_n 1, 1) := by decide +kernel
theorem dX4_plans_140 : decode cX4_plans 140 = .ok (.iload 5, 2) := by decide +kernel
theorem dX4_plans_142 : decode cX4_plans 142 = .ok (.ishr, 1) := by decide +kernel
theorem dX4_plans_143 : decode cX4_plans 143 = .ok (.iconst 1, 1) := by decide +kernel
theorem dX4_plans_144 : decode cX4_plans 144 = .ok (.iand, 1) := by decide +kernel
theorem dX4_plans_145 : decode cX4_plans 145 = .ok (.ifCond .ne 7, 3) := by decide +kernel
theorem dX4_plans_148 : decode cX4_plans 148 = .ok (.iconst 1, 1) := by decide +kernel
theorem dX4_plans_149 : decode cX4_plans 149 = .ok (.goto 4, 3) := by decide +kernel
theorem dX4_plans_152 : decode cX4_plans 152 = .ok (.iconst 0, 1) := by decide +kernel
theorem dX4_plans_153 : decode cX4_plans 153 = .ok (.istore 6, 2) := by decide +kernel
theorem dX4_plans_155 : decode cX4_plans 155 = .ok (.iload 6, 2) := by decide +kernel
theorem dX4_plans_157 : decode cX4_plans 157 = .ok (.ifCond .eq 36, 3) := by decide +kernel
theorem dX4_plans_160 : decode cX4_plans 160 = .ok (.iload 4, 2) := by decide +kernel
theorem dX4_plans_162 : decode cX4_plans 162 = .ok (.ifCond .lt 26, 3) := by decide +kernel
theorem dX4_plans_165 : decode cX4_plans 165 = .ok (.aload_n 0, 1) := by decide +kernel
theorem dX4_plans_166 : decode cX4_plans 166 = .ok (.getfield 7, 3) := by decide +kernel
theorem dX4_plans_169 : decode cX4_plans 169 = .ok (.bipush 80, 2) := by decide +kernel
theorem dX4_plans_171 : decode cX4_plans 171 = .ok (.iload 5, 2) := by decide +kernel
theorem dX4_plans_173 : decode cX4_plans 173 = .ok (.iadd, 1) := by decide +kernel
theorem dX4_plans_174 : decode cX4_plans 174 = .ok (.iaload, 1) := by decide +kernel
theorem dX4_plans_175 : decode cX4_plans 175 = .ok (.aload_n 0, 1) := by decide +kernel
theorem dX4_plans_176 : decode cX4_plans 176 = .ok (.getfield 7, 3) := by decide +kernel
theorem dX4_plans_179 : decode cX4_plans 179 = .ok (.bipush 80, 2) := by decide +kernel
theorem dX4_plans_181 : decode cX4_plans 181 = .ok (.iload 4, 2) := by decide +kernel
theorem dX4_plans_183 : decode cX4_plans 183 = .ok (.iadd, 1) := by decide +kernel
theorem dX4_plans_184 : decode cX4_plans 184 = .ok (.iaload, 1) := by decide +kernel
theorem dX4_plans_185 : decode cX4_plans 185 = .ok (.if_icmp .ge 8, 3) := by decide +kernel
theorem dX4_plans_188 : decode cX4_plans 188 = .ok (.iload 5, 2) := by decide +kernel
theorem dX4_plans_190 : decode cX4_plans 190 = .ok (.goto 5, 3) := by decide +kernel
theorem dX4_plans_193 : decode cX4_plans 193 = .ok (.iload 4, 2) := by decide +kernel
theorem dX4_plans_195 : decode cX4_plans 195 = .ok (.istore 4, 2) := by decide +kernel
theorem dX4_plans_197 : decode cX4_plans 197 = .ok (.iinc 5 1, 3) := by decide +kernel
theorem dX4_plans_200 : decode cX4_plans 200 = .ok (.goto (-73), 3) := by decide +kernel
theorem dX4_plans_203 : decode cX4_plans 203 = .ok (.iload_n 1, 1) := by decide +kernel
theorem dX4_plans_204 : decode cX4_plans 204 = .ok (.iconst 1, 1) := by decide +kernel
theorem dX4_plans_205 : decode cX4_plans 205 = .ok (.iload 4, 2) := by decide +kernel
theorem dX4_plans_207 : decode cX4_plans 207 = .ok (.ishl, 1) := by decide +kernel
theorem dX4_plans_208 : decode cX4_plans 208 = .ok (.ior, 1) := by decide +kernel
theorem dX4_plans_209 : decode cX4_plans 209 = .ok (.istore_n 1, 1) := by decide +kernel
theorem dX4_plans_210 : decode cX4_plans 210 = .ok (.aload_n 0, 1) := by decide +kernel
theorem dX4_plans_211 : decode cX4_plans 211 = .ok (.iload 4, 2) := by decide +kernel
theorem dX4_plans_213 : decode cX4_plans 213 = .ok (.invokevirtual 129, 3) := by decide +kernel
theorem dX4_plans_216 : decode cX4_plans 216 = .ok (.iload_n 2, 1) := by decide +kernel
theorem dX4_plans_217 : decode cX4_plans 217 = .ok (.aload_n 0, 1) := by decide +kernel
theorem dX4_plans_218 : decode cX4_plans 218 = .ok (.getfield 40, 3) := by decide +kernel
theorem dX4_plans_221 : decode cX4_plans 221 = .ok (.iload 4, 2) := by decide +kernel
theorem dX4_plans_223 : decode cX4_plans 223 = .ok (.baload, 1) := by decide +kernel
theorem dX4_plans_224 : decode cX4_plans 224 = .ok (.ifCond .eq 21, 3) := by decide +kernel
theorem dX4_plans_227 : decode cX4_plans 227 = .ok (.aload_n 0, 1) := by decide +kernel
theorem dX4_plans_228 : decode cX4_plans 228 = .ok (.getfield 47, 3) := by decide +kernel
theorem dX4_plans_231 : decode cX4_plans 231 = .ok (.iload 4, 2) := by decide +kernel
theorem dX4_plans_233 : decode cX4_plans 233 = .ok (.iaload, 1) := by decide +kernel
theorem dX4_plans_234 : decode cX4_plans 234 = .ok (.aload_n 0, 1) := by decide +kernel
theorem dX4_plans_235 : decode cX4_plans 235 = .ok (.getfield 50, 3) := by decide +kernel
theorem dX4_plans_238 : decode cX4_plans 238 = .ok (.iload 4, 2) := by decide +kernel
theorem dX4_plans_240 : decode cX4_plans 240 = .ok (.iaload, 1) := by decide +kernel
theorem dX4_plans_241 : decode cX4_plans 241 = .ok (.iadd, 1) := by decide +kernel
theorem dX4_plans_242 : decode cX4_plans 242 = .ok (.goto 6, 3) := by decide +kernel
theorem dX4_plans_245 : decode cX4_plans 245 = .ok (.sipush 1000, 3) := by decide +kernel
theorem dX4_plans_248 : decode cX4_plans 248 = .ok (.iadd, 1) := by decide +kernel
theorem dX4_plans_249 : decode cX4_plans 249 = .ok (.istore_n 2, 1) := by decide +kernel
theorem dX4_plans_250 : decode cX4_plans 250 = .ok (.iinc 3 1, 3) := by decide +kernel
theorem dX4_plans_253 : decode cX4_plans 253 = .ok (.goto (-144), 3) := by decide +kernel
theorem dX4_plans_256 : decode cX4_plans 256 = .ok (.iload_n 2, 1) := by decide +kernel
theorem dX4_plans_257 : decode cX4_plans 257 = .ok (.ireturn, 1) := by decide +kernel
theorem dX4_startOf_0 : decode cX4_startOf 0 = .ok (.aload_n 0, 1) := by decide +kernel
theorem dX4_startOf_1 : decode cX4_startOf 1 = .ok (.iload_n 1, 1) := by decide +kernel
theorem dX4_startOf_2 : decode cX4_startOf 2 = .ok (.iload_n 2, 1) := by decide +kernel
theorem dX4_startOf_3 : decode cX4_startOf 3 = .ok (.invokevirtual 99, 3) := by decide +kernel
theorem dX4_startOf_6 : decode cX4_startOf 6 = .ok (.ifCond .ne 5, 3) := by decide +kernel
theorem dX4_startOf_9 : decode cX4_startOf 9 = .ok (.iconst (-1), 1) := by decide +kernel
theorem dX4_startOf_10 : decode cX4_startOf 10 = .ok (.ireturn, 1) := by decide +kernel
theorem dX4_startOf_11 : decode cX4_startOf 11 = .ok (.aload_n 0, 1) := by decide +kernel
theorem dX4_startOf_12 : decode cX4_startOf 12 = .ok (.invokevirtual 132, 3) := by decide +kernel
theorem dX4_startOf_15 : decode cX4_startOf 15 = .ok (.pop, 1) := by decide +kernel
theorem dX4_startOf_16 : decode cX4_startOf 16 = .ok (.aload_n 0, 1) := by decide +kernel
theorem dX4_startOf_17 : decode cX4_startOf 17 = .ok (.getfield 40, 3) := by decide +kernel
theorem dX4_startOf_20 : decode cX4_startOf 20 = .ok (.iload_n 1, 1) := by decide +kernel
theorem dX4_startOf_21 : decode cX4_startOf 21 = .ok (.baload, 1) := by decide +kernel
theorem dX4_startOf_22 : decode cX4_startOf 22 = .ok (.ifCond .eq 17, 3) := by decide +kernel
theorem dX4_startOf_25 : decode cX4_startOf 25 = .ok (.aload_n 0, 1) := by decide +kernel
theorem dX4_startOf_26 : decode cX4_startOf 26 = .ok (.getfield 34, 3) := by decide +kernel
theorem dX4_startOf_29 : decode cX4_startOf 29 = .ok (.bipush 6, 2) := by decide +kernel
theorem dX4_startOf_31 : decode cX4_startOf 31 = .ok (.iload_n 1, 1) := by decide +kernel
theorem dX4_startOf_32 : decode cX4_startOf 32 = .ok (.imul, 1) := by decide +kernel
theorem dX4_startOf_33 : decode cX4_startOf 33 = .ok (.iload_n 2, 1) := by decide +kernel
theorem dX4_startOf_34 : decode cX4_startOf 34 = .ok (.iadd, 1) := by decide +kernel
theorem dX4_startOf_35 : decode cX4_startOf 35 = .ok (.iaload, 1) := by decide +kernel
theorem dX4_startOf_36 : decode cX4_startOf 36 = .ok (.goto 5, 3) := by decide +kernel
theorem dX4_startOf_39 : decode cX4_startOf 39 = .ok (.bipush (-4), 2) := by decide +kernel
theorem dX4_startOf_41 : decode cX4_startOf 41 = .ok (.ireturn, 1) := by decide +kernel
theorem dX4_machineOf_0 : decode cX4_machineOf 0 = .ok (.aload_n 0, 1) := by decide +kernel
theorem dX4_machineOf_1 : decode cX4_machineOf 1 = .ok (.iload_n 1, 1) := by decide +kernel
theorem dX4_machineOf_2 : decode cX4_machineOf 2 = .ok (.iload_n 2, 1) := by decide +kernel
theorem dX4_machineOf_3 : decode cX4_machineOf 3 = .ok (.invokevirtual 99, 3) := by decide +kernel
theorem dX4_machineOf_6 : decode cX4_machineOf 6 = .ok (.ifCond .ne 5, 3) := by decide +kernel
theorem dX4_machineOf_9 : decode cX4_machineOf 9 = .ok (.iconst (-1), 1) := by decide +kernel
theorem dX4_machineOf_10 : decode cX4_machineOf 10 = .ok (.ireturn, 1) := by decide +kernel
theorem dX4_machineOf_11 : decode cX4_machineOf 11 = .ok (.aload_n 0, 1) := by decide +kernel
theorem dX4_machineOf_12 : decode cX4_machineOf 12 = .ok (.invokevirtual 132, 3) := by decide +kernel
theorem dX4_machineOf_15 : decode cX4_machineOf 15 = .ok (.pop, 1) := by decide +kernel
theorem dX4_machineOf_16 : decode cX4_machineOf 16 = .ok (.aload_n 0, 1) := by decide +kernel
theorem dX4_machineOf_17 : decode cX4_machineOf 17 = .ok (.getfield 40, 3) := by decide +kernel
theorem dX4_machineOf_20 : decode cX4_machineOf 20 = .ok (.iload_n 1, 1) := by decide +kernel
theorem dX4_machineOf_21 : decode cX4_machineOf 21 = .ok (.baload, 1) := by decide +kernel
theorem dX4_machineOf_22 : decode cX4_machineOf 22 = .ok (.ifCond .eq 17, 3) := by decide +kernel
theorem dX4_machineOf_25 : decode cX4_machineOf 25 = .ok (.aload_n 0, 1) := by decide +kernel
theorem dX4_machineOf_26 : decode cX4_machineOf 26 = .ok (.getfield 37, 3) := by decide +kernel
theorem dX4_machineOf_29 : decode cX4_machineOf 29 = .ok (.bipush 6, 2) := by decide +kernel
theorem dX4_machineOf_31 : decode cX4_machineOf 31 = .ok (.iload_n 1, 1) := by decide +kernel
theorem dX4_machineOf_32 : decode cX4_machineOf 32 = .ok (.imul, 1) := by decide +kernel
theorem dX4_machineOf_33 : decode cX4_machineOf 33 = .ok (.iload_n 2, 1) := by decide +kernel
theorem dX4_machineOf_34 : decode cX4_machineOf 34 = .ok (.iadd, 1) := by decide +kernel
theorem dX4_machineOf_35 : decode cX4_machineOf 35 = .ok (.iaload, 1) := by decide +kernel
theorem dX4_machineOf_36 : decode cX4_machineOf 36 = .ok (.goto 5, 3) := by decide +kernel
theorem dX4_machineOf_39 : decode cX4_machineOf 39 = .ok (.bipush (-4), 2) := by decide +kernel
theorem dX4_machineOf_41 : decode cX4_machineOf 41 = .ok (.ireturn, 1) := by decide +kernel
theorem dX4_endOf_0 : decode cX4_endOf 0 = .ok (.aload_n 0, 1) := by decide +kernel
theorem dX4_endOf_1 : decode cX4_endOf 1 = .ok (.iload_n 1, 1) := by decide +kernel
theorem dX4_endOf_2 : decode cX4_endOf 2 = .ok (.invokevirtual 92, 3) := by decide +kernel
theorem dX4_endOf_5 : decode cX4_endOf 5 = .ok (.ifCond .ne 5, 3) := by decide +kernel
theorem dX4_endOf_8 : decode cX4_endOf 8 = .ok (.iconst (-1), 1) := by decide +kernel
theorem dX4_endOf_9 : decode cX4_endOf 9 = .ok (.ireturn, 1) := by decide +kernel
theorem dX4_endOf_10 : decode cX4_endOf 10 = .ok (.aload_n 0, 1) := by decide +kernel
theorem dX4_endOf_11 : decode cX4_endOf 11 = .ok (.invokevirtual 132, 3) := by decide +kernel
theorem dX4_endOf_14 : decode cX4_endOf 14 = .ok (.pop, 1) := by decide +kernel
theorem dX4_endOf_15 : decode cX4_endOf 15 = .ok (.aload_n 0, 1) := by decide +kernel
theorem dX4_endOf_16 : decode cX4_endOf 16 = .ok (.getfield 40, 3) := by decide +kernel
theorem dX4_endOf_19 : decode cX4_endOf 19 = .ok (.iload_n 1, 1) := by decide +kernel
theorem dX4_endOf_20 : decode cX4_endOf 20 = .ok (.baload, 1) := by decide +kernel
theorem dX4_endOf_21 : decode cX4_endOf 21 = .ok (.ifCond .eq 12, 3) := by decide +kernel
theorem dX4_endOf_24 : decode cX4_endOf 24 = .ok (.aload_n 0, 1) := by decide +kernel
theorem dX4_endOf_25 : decode cX4_endOf 25 = .ok (.getfield 44, 3) := by decide +kernel
theorem dX4_endOf_28 : decode cX4_endOf 28 = .ok (.iload_n 1, 1) := by decide +kernel
theorem dX4_endOf_29 : decode cX4_endOf 29 = .ok (.iaload, 1) := by decide +kernel
theorem dX4_endOf_30 : decode cX4_endOf 30 = .ok (.goto 5, 3) := by decide +kernel
theorem dX4_endOf_33 : decode cX4_endOf 33 = .ok (.bipush (-4), 2) := by decide +kernel
theorem dX4_endOf_35 : decode cX4_endOf 35 = .ok (.ireturn, 1) := by decide +kernel
theorem dX4_delayOf_0 : decode cX4_delayOf 0 = .ok (.aload_n 0, 1) := by decide +kernel
theorem dX4_delayOf_1 : decode cX4_delayOf 1 = .ok (.iload_n 1, 1) := by decide +kernel
theorem dX4_delayOf_2 : decode cX4_delayOf 2 = .ok (.invokevirtual 92, 3) := by decide +kernel
theorem dX4_delayOf_5 : decode cX4_delayOf 5 = .ok (.ifCond .ne 5, 3) := by decide +kernel
theorem dX4_delayOf_8 : decode cX4_delayOf 8 = .ok (.iconst (-1), 1) := by decide +kernel
theorem dX4_delayOf_9 : decode cX4_delayOf 9 = .ok (.ireturn, 1) := by decide +kernel
theorem dX4_delayOf_10 : decode cX4_delayOf 10 = .ok (.aload_n 0, 1) := by decide +kernel
theorem dX4_delayOf_11 : decode cX4_delayOf 11 = .ok (.invokevirtual 132, 3) := by decide +kernel
theorem dX4_delayOf_14 : decode cX4_delayOf 14 = .ok (.pop, 1) := by decide +kernel
theorem dX4_delayOf_15 : decode cX4_delayOf 15 = .ok (.aload_n 0, 1) := by decide +kernel
theorem dX4_delayOf_16 : decode cX4_delayOf 16 = .ok (.getfield 47, 3) := by decide +kernel
theorem dX4_delayOf_19 : decode cX4_delayOf 19 = .ok (.iload_n 1, 1) := by decide +kernel
theorem dX4_delayOf_20 : decode cX4_delayOf 20 = .ok (.iaload, 1) := by decide +kernel
theorem dX4_delayOf_21 : decode cX4_delayOf 21 = .ok (.ireturn, 1) := by decide +kernel
theorem dX4_gapOf_0 : decode cX4_gapOf 0 = .ok (.aload_n 0, 1) := by decide +kernel
theorem dX4_gapOf_1 : decode cX4_gapOf 1 = .ok (.iload_n 1, 1) := by decide +kernel
theorem dX4_gapOf_2 : decode cX4_gapOf 2 = .ok (.invokevirtual 92, 3) := by decide +kernel
theorem dX4_gapOf_5 : decode cX4_gapOf 5 = .ok (.ifCond .ne 5, 3) := by decide +kernel
theorem dX4_gapOf_8 : decode cX4_gapOf 8 = .ok (.iconst (-1), 1) := by decide +kernel
theorem dX4_gapOf_9 : decode cX4_gapOf 9 = .ok (.ireturn, 1) := by decide +kernel
theorem dX4_gapOf_10 : decode cX4_gapOf 10 = .ok (.aload_n 0, 1) := by decide +kernel
theorem dX4_gapOf_11 : decode cX4_gapOf 11 = .ok (.invokevirtual 132, 3) := by decide +kernel
theorem dX4_gapOf_14 : decode cX4_gapOf 14 = .ok (.pop, 1) := by decide +kernel
theorem dX4_gapOf_15 : decode cX4_gapOf 15 = .ok (.aload_n 0, 1) := by decide +kernel
theorem dX4_gapOf_16 : decode cX4_gapOf 16 = .ok (.getfield 50, 3) := by decide +kernel
theorem dX4_gapOf_19 : decode cX4_gapOf 19 = .ok (.iload_n 1, 1) := by decide +kernel
theorem dX4_gapOf_20 : decode cX4_gapOf 20 = .ok (.iaload, 1) := by decide +kernel
theorem dX4_gapOf_21 : decode cX4_gapOf 21 = .ok (.ireturn, 1) := by decide +kernel
theorem dX4_loss_0 : decode cX4_loss 0 = .ok (.aload_n 0, 1) := by decide +kernel
theorem dX4_loss_1 : decode cX4_loss 1 = .ok (.invokevirtual 132, 3) := by decide +kernel
theorem dX4_loss_4 : decode cX4_loss 4 = .ok (.ireturn, 1) := by decide +kernel
theorem dX4_carriedReels_0 : decode cX4_carriedReels 0 = .ok (.aload_n 0, 1) := by decide +kernel
theorem dX4_carriedReels_1 : decode cX4_carriedReels 1 = .ok (.invokevirtual 132, 3) := by decide +kernel
theorem dX4_carriedReels_4 : decode cX4_carriedReels 4 = .ok (.pop, 1) := by decide +kernel
theorem dX4_carriedReels_5 : decode cX4_carriedReels 5 = .ok (.aload_n 0, 1) := by decide +kernel
theorem dX4_carriedReels_6 : decode cX4_carriedReels 6 = .ok (.getfield 105, 3) := by decide +kernel
theorem dX4_carriedReels_9 : decode cX4_carriedReels 9 = .ok (.ireturn, 1) := by decide +kernel
theorem dX4_plateChanges_0 : decode cX4_plateChanges 0 = .ok (.aload_n 0, 1) := by decide +kernel
theorem dX4_plateChanges_1 : decode cX4_plateChanges 1 = .ok (.invokevirtual 132, 3) := by decide +kernel
theorem dX4_plateChanges_4 : decode cX4_plateChanges 4 = .ok (.pop, 1) := by decide +kernel
theorem dX4_plateChanges_5 : decode cX4_plateChanges 5 = .ok (.aload_n 0, 1) := by decide +kernel
theorem dX4_plateChanges_6 : decode cX4_plateChanges 6 = .ok (.getfield 122, 3) := by decide +kernel
theorem dX4_plateChanges_9 : decode cX4_plateChanges 9 = .ok (.ireturn, 1) := by decide +kernel
theorem dX4_machineTime_0 : decode cX4_machineTime 0 = .ok (.aload_n 0, 1) := by decide +kernel
theorem dX4_machineTime_1 : decode cX4_machineTime 1 = .ok (.iload_n 1, 1) := by decide +kernel
theorem dX4_machineTime_2 : decode cX4_machineTime 2 = .ok (.invokevirtual 82, 3) := by decide +kernel
theorem dX4_machineTime_5 : decode cX4_machineTime 5 = .ok (.ifCond .ne 5, 3) := by decide +kernel
theorem dX4_machineTime_8 : decode cX4_machineTime 8 = .ok (.iconst (-1), 1) := by decide +kernel
theorem dX4_machineTime_9 : decode cX4_machineTime 9 = .ok (.ireturn, 1) := by decide +kernel
theorem dX4_machineTime_10 : decode cX4_machineTime 10 = .ok (.aload_n 0, 1) := by decide +kernel
theorem dX4_machineTime_11 : decode cX4_machineTime 11 = .ok (.invokevirtual 132, 3) := by decide +kernel
theorem dX4_machineTime_14 : decode cX4_machineTime 14 = .ok (.pop, 1) := by decide +kernel
theorem dX4_machineTime_15 : decode cX4_machineTime 15 = .ok (.aload_n 0, 1) := by decide +kernel
theorem dX4_machineTime_16 : decode cX4_machineTime 16 = .ok (.getfield 31, 3) := by decide +kernel
theorem dX4_machineTime_19 : decode cX4_machineTime 19 = .ok (.iload_n 1, 1) := by decide +kernel
theorem dX4_machineTime_20 : decode cX4_machineTime 20 = .ok (.iaload, 1) := by decide +kernel
theorem dX4_machineTime_21 : decode cX4_machineTime 21 = .ok (.ireturn, 1) := by decide +kernel
theorem dX4_setsAside_0 : decode cX4_setsAside 0 = .ok (.iconst 0, 1) := by decide +kernel
theorem dX4_setsAside_1 : decode cX4_setsAside 1 = .ok (.istore_n 1, 1) := by decide +kernel
theorem dX4_setsAside_2 : decode cX4_setsAside 2 = .ok (.iload_n 1, 1) := by decide +kernel
theorem dX4_setsAside_3 : decode cX4_setsAside 3 = .ok (.bipush 111, 2) := by decide +kernel
theorem dX4_setsAside_5 : decode cX4_setsAside 5 = .ok (.if_icmp .ge 21, 3) := by decide +kernel
theorem dX4_setsAside_8 : decode cX4_setsAside 8 = .ok (.aload_n 0, 1) := by decide +kernel
theorem dX4_setsAside_9 : decode cX4_setsAside 9 = .ok (.getfield 53, 3) := by decide +kernel
theorem dX4_setsAside_12 : decode cX4_setsAside 12 = .ok (.iload_n 1, 1) := by decide +kernel
theorem dX4_setsAside_13 : decode cX4_setsAside 13 = .ok (.aload_n 0, 1) := by decide +kernel
theorem dX4_setsAside_14 : decode cX4_setsAside 14 = .ok (.getfield 7, 3) := by decide +kernel
theorem dX4_setsAside_17 : decode cX4_setsAside 17 = .ok (.iload_n 1, 1) := by decide +kernel
theorem dX4_setsAside_18 : decode cX4_setsAside 18 = .ok (.iaload, 1) := by decide +kernel
theorem dX4_setsAside_19 : decode cX4_setsAside 19 = .ok (.iastore, 1) := by decide +kernel
theorem dX4_setsAside_20 : decode cX4_setsAside 20 = .ok (.iinc 1 1, 3) := by decide +kernel
theorem dX4_setsAside_23 : decode cX4_setsAside 23 = .ok (.goto (-21), 3) := by decide +kernel
theorem dX4_setsAside_26 : decode cX4_setsAside 26 = .ok (.return_, 1) := by decide +kernel
theorem dX4_takesBack_0 : decode cX4_takesBack 0 = .ok (.iconst 0, 1) := by decide +kernel
theorem dX4_takesBack_1 : decode cX4_takesBack 1 = .ok (.istore_n 1, 1) := by decide +kernel
theorem dX4_takesBack_2 : decode cX4_takesBack 2 = .ok (.iload_n 1, 1) := by decide +kernel
theorem dX4_takesBack_3 : decode cX4_takesBack 3 = .ok (.bipush 111, 2) := by decide +kernel
theorem dX4_takesBack_5 : decode cX4_takesBack 5 = .ok (.if_icmp .ge 21, 3) := by decide +kernel
theorem dX4_takesBack_8 : decode cX4_takesBack 8 = .ok (.aload_n 0, 1) := by decide +kernel
theorem dX4_takesBack_9 : decode cX4_takesBack 9 = .ok (.getfield 7, 3) := by decide +kernel
theorem dX4_takesBack_12 : decode cX4_takesBack 12 = .ok (.iload_n 1, 1) := by decide +kernel
theorem dX4_takesBack_13 : decode cX4_takesBack 13 = .ok (.aload_n 0, 1) := by decide +kernel
theorem dX4_takesBack_14 : decode cX4_takesBack 14 = .ok (.getfield 53, 3) := by decide +kernel
theorem dX4_takesBack_17 : decode cX4_takesBack 17 = .ok (.iload_n 1, 1) := by decide +kernel
theorem dX4_takesBack_18 : decode cX4_takesBack 18 = .ok (.iaload, 1) := by decide +kernel
theorem dX4_takesBack_19 : decode cX4_takesBack 19 = .ok (.iastore, 1) := by decide +kernel
theorem dX4_takesBack_20 : decode cX4_takesBack 20 = .ok (.iinc 1 1, 3) := by decide +kernel
theorem dX4_takesBack_23 : decode cX4_takesBack 23 = .ok (.goto (-21), 3) := by decide +kernel
theorem dX4_takesBack_26 : decode cX4_takesBack 26 = .ok (.return_, 1) := by decide +kernel
theorem dX4_leastShift_0 : decode cX4_leastShift 0 = .ok (.aload_n 0, 1) := by decide +kernel
theorem dX4_leastShift_1 : decode cX4_leastShift 1 = .ok (.iload_n 1, 1) := by decide +kernel
theorem dX4_leastShift_2 : decode cX4_leastShift 2 = .ok (.invokevirtual 92, 3) := by decide +kernel
theorem dX4_leastShift_5 : decode cX4_leastShift 5 = .ok (.ifCond .ne 5, 3) := by decide +kernel
theorem dX4_leastShift_8 : decode cX4_leastShift 8 = .ok (.iconst (-1), 1) := by decide +kernel
theorem dX4_leastShift_9 : decode cX4_leastShift 9 = .ok (.ireturn, 1) := by decide +kernel
theorem dX4_leastShift_10 : decode cX4_leastShift 10 = .ok (.aload_n 0, 1) := by decide +kernel
theorem dX4_leastShift_11 : decode cX4_leastShift 11 = .ok (.invokevirtual 136, 3) := by decide +kernel
theorem dX4_leastShift_14 : decode cX4_leastShift 14 = .ok (.bipush (-4), 2) := by decide +kernel
theorem dX4_leastShift_16 : decode cX4_leastShift 16 = .ok (.istore_n 2, 1) := by decide +kernel
theorem dX4_leastShift_17 : decode cX4_leastShift 17 = .ok (.iconst 0, 1) := by decide +kernel
theorem dX4_leastShift_18 : decode cX4_leastShift 18 = .ok (.istore_n 3, 1) := by decide +kernel
theorem dX4_leastShift_19 : decode cX4_leastShift 19 = .ok (.iload_n 3, 1) := by decide +kernel
theorem dX4_leastShift_20 : decode cX4_leastShift 20 = .ok (.sipush 180, 3) := by decide +kernel
theorem dX4_leastShift_23 : decode cX4_leastShift 23 = .ok (.if_icmp .gt 64, 3) := by decide +kernel
theorem dX4_leastShift_26 : decode cX4_leastShift 26 = .ok (.iload_n 2, 1) := by decide +kernel
theorem dX4_leastShift_27 : decode cX4_leastShift 27 = .ok (.ifCond .ge 60, 3) := by decide +kernel
theorem dX4_leastShift_30 : decode cX4_leastShift 30 = .ok (.aload_n 0, 1) := by decide +kernel
theorem dX4_leastShift_31 : decode cX4_leastShift 31 = .ok (.getfield 53, 3) := by decide +kernel
theorem dX4_leastShift_34 : decode cX4_leastShift 34 = .ok (.bipush 80, 2) := by decide +kernel
theorem dX4_leastShift_36 : decode cX4_leastShift 36 = .ok (.iload_n 1, 1) := by decide +kernel
theorem dX4_leastShift_37 : decode cX4_leastShift 37 = .ok (.iadd, 1) := by decide +kernel
theorem dX4_leastShift_38 : decode cX4_leastShift 38 = .ok (.iaload, 1) := by decide +kernel
theorem dX4_leastShift_39 : decode cX4_leastShift 39 = .ok (.iload_n 3, 1) := by decide +kernel
theorem dX4_leastShift_40 : decode cX4_leastShift 40 = .ok (.iadd, 1) := by decide +kernel
theorem dX4_leastShift_41 : decode cX4_leastShift 41 = .ok (.sipush 1439, 3) := by decide +kernel
theorem dX4_leastShift_44 : decode cX4_leastShift 44 = .ok (.if_icmp .gt 43, 3) := by decide +kernel
theorem dX4_leastShift_47 : decode cX4_leastShift 47 = .ok (.aload_n 0, 1) := by decide +kernel
theorem dX4_leastShift_48 : decode cX4_leastShift 48 = .ok (.getfield 7, 3) := by decide +kernel
theorem dX4_leastShift_51 : decode cX4_leastShift 51 = .ok (.bipush 80, 2) := by decide +kernel
theorem dX4_leastShift_53 : decode cX4_leastShift 53 = .ok (.iload_n 1, 1) := by decide +kernel
theorem dX4_leastShift_54 : decode cX4_leastShift 54 = .ok (.iadd, 1) := by decide +kernel
theorem dX4_leastShift_55 : decode cX4_leastShift 55 = .ok (.aload_n 0, 1) := by decide +kernel
theorem dX4_leastShift_56 : decode cX4_leastShift 56 = .ok (.getfield 53, 3) := by decide +kernel
theorem dX4_leastShift_59 : decode cX4_leastShift 59 = .ok (.bipush 80, 2) := by decide +kernel
theorem dX4_leastShift_61 : decode cX4_leastShift 61 = .ok (.iload_n 1, 1) := by decide +kernel
theorem dX4_leastShift_62 : decode cX4_leastShift 62 = .ok (.iadd, 1) := by decide +kernel
theorem dX4_leastShift_63 : decode cX4_leastShift 63 = .ok (.iaload, 1) := by decide +kernel
theorem dX4_leastShift_64 : decode cX4_leastShift 64 = .ok (.iload_n 3, 1) := by decide +kernel
theorem dX4_leastShift_65 : decode cX4_leastShift 65 = .ok (.iadd, 1) := by decide +kernel
theorem dX4_leastShift_66 : decode cX4_leastShift 66 = .ok (.iastore, 1) := by decide +kernel
theorem dX4_leastShift_67 : decode cX4_leastShift 67 = .ok (.aload_n 0, 1) := by decide +kernel
theorem dX4_leastShift_68 : decode cX4_leastShift 68 = .ok (.invokevirtual 132, 3) := by decide +kernel
theorem dX4_leastShift_71 : decode cX4_leastShift 71 = .ok (.ifCond .ne 7, 3) := by decide +kernel
theorem dX4_leastShift_74 : decode cX4_leastShift 74 = .ok (.iload_n 3, 1) := by decide +kernel
theorem dX4_leastShift_75 : decode cX4_leastShift 75 = .ok (.goto 5, 3) := by decide +kernel
theorem dX4_leastShift_78 : decode cX4_leastShift 78 = .ok (.bipush (-4), 2) := by decide +kernel
theorem dX4_leastShift_80 : decode cX4_leastShift 80 = .ok (.istore_n 2, 1) := by decide +kernel
theorem dX4_leastShift_81 : decode cX4_leastShift 81 = .ok (.iinc 3 1, 3) := by decide +kernel
theorem dX4_leastShift_84 : decode cX4_leastShift 84 = .ok (.goto (-65), 3) := by decide +kernel
theorem dX4_leastShift_87 : decode cX4_leastShift 87 = .ok (.aload_n 0, 1) := by decide +kernel
theorem dX4_leastShift_88 : decode cX4_leastShift 88 = .ok (.invokevirtual 139, 3) := by decide +kernel
theorem dX4_leastShift_91 : decode cX4_leastShift 91 = .ok (.iload_n 2, 1) := by decide +kernel
theorem dX4_leastShift_92 : decode cX4_leastShift 92 = .ok (.ireturn, 1) := by decide +kernel
theorem dX4_removalGain_0 : decode cX4_removalGain 0 = .ok (.aload_n 0, 1) := by decide +kernel
theorem dX4_removalGain_1 : decode cX4_removalGain 1 = .ok (.iload_n 1, 1) := by decide +kernel
theorem dX4_removalGain_2 : decode cX4_removalGain 2 = .ok (.invokevirtual 92, 3) := by decide +kernel
theorem dX4_removalGain_5 : decode cX4_removalGain 5 = .ok (.ifCond .ne 6, 3) := by decide +kernel
theorem dX4_removalGain_8 : decode cX4_removalGain 8 = .ok (.ldc 142, 2) := by decide +kernel
theorem dX4_removalGain_10 : decode cX4_removalGain 10 = .ok (.ireturn, 1) := by decide +kernel
theorem dX4_removalGain_11 : decode cX4_removalGain 11 = .ok (.aload_n 0, 1) := by decide +kernel
theorem dX4_removalGain_12 : decode cX4_removalGain 12 = .ok (.invokevirtual 132, 3) := by decide +kernel
theorem dX4_removalGain_15 : decode cX4_removalGain 15 = .ok (.istore_n 2, 1) := by decide +kernel
theorem dX4_removalGain_16 : decode cX4_removalGain 16 = .ok (.aload_n 0, 1) := by decide +kernel
theorem dX4_removalGain_17 : decode cX4_removalGain 17 = .ok (.invokevirtual 136, 3) := by decide +kernel
theorem dX4_removalGain_20 : decode cX4_removalGain 20 = .ok (.aload_n 0, 1) := by decide +kernel
theorem dX4_removalGain_21 : decode cX4_removalGain 21 = .ok (.iload_n 1, 1) := by decide +kernel
theorem dX4_removalGain_22 : decode cX4_removalGain 22 = .ok (.invokevirtual 95, 3) := by decide +kernel
theorem dX4_removalGain_25 : decode cX4_removalGain 25 = .ok (.aload_n 0, 1) := by decide +kernel
theorem dX4_removalGain_26 : decode cX4_removalGain 26 = .ok (.invokevirtual 132, 3) := by decide +kernel
theorem dX4_removalGain_29 : decode cX4_removalGain 29 = .ok (.istore_n 3, 1) := by decide +kernel
theorem dX4_removalGain_30 : decode cX4_removalGain 30 = .ok (.aload_n 0, 1) := by decide +kernel
theorem dX4_removalGain_31 : decode cX4_removalGain 31 = .ok (.invokevirtual 139, 3) := by decide +kernel
theorem dX4_removalGain_34 : decode cX4_removalGain 34 = .ok (.iload_n 2, 1) := by decide +kernel
theorem dX4_removalGain_35 : decode cX4_removalGain 35 = .ok (.iload_n 3, 1) := by decide +kernel
theorem dX4_removalGain_36 : decode cX4_removalGain 36 = .ok (.isub, 1) := by decide +kernel
theorem dX4_removalGain_37 : decode cX4_removalGain 37 = .ok (.ireturn, 1) := by decide +kernel
theorem dX4_bestHomes_0 : decode cX4_bestHomes 0 = .ok (.aload_n 0, 1) := by decide +kernel
theorem dX4_bestHomes_1 : decode cX4_bestHomes 1 = .ok (.invokevirtual 136, 3) := by decide +kernel
theorem dX4_bestHomes_4 : decode cX4_bestHomes 4 = .ok (.iconst 0, 1) := by decide +kernel
theorem dX4_bestHomes_5 : decode cX4_bestHomes 5 = .ok (.istore_n 1, 1) := by decide +kernel
theorem dX4_bestHomes_6 : decode cX4_bestHomes 6 = .ok (.iconst 0, 1) := by decide +kernel
theorem dX4_bestHomes_7 : decode cX4_bestHomes 7 = .ok (.istore_n 2, 1) := by decide +kernel
theorem dX4_bestHomes_8 : decode cX4_bestHomes 8 = .ok (.iconst 0, 1) := by decide +kernel
theorem dX4_bestHomes_9 : decode cX4_bestHomes 9 = .ok (.istore_n 3, 1) := by decide +kernel
theorem dX4_bestHomes_10 : decode cX4_bestHomes 10 = .ok (.iload_n 3, 1) := by decide +kernel
theorem dX4_bestHomes_11 : decode cX4_bestHomes 11 = .ok (.bipush 16, 2) := by decide +kernel
theorem dX4_bestHomes_13 : decode cX4_bestHomes 13 = .ok (.if_icmp .ge 61, 3) := by decide +kernel
theorem dX4_bestHomes_16 : decode cX4_bestHomes 16 = .ok (.iconst 0, 1) := by decide +kernel
theorem dX4_bestHomes_17 : decode cX4_bestHomes 17 = .ok (.istore 4, 2) := by decide +kernel
theorem dX4_bestHomes_19 : decode cX4_bestHomes 19 = .ok (.iload 4, 2) := by decide +kernel
theorem dX4_bestHomes_21 : decode cX4_bestHomes 21 = .ok (.iconst 4, 1) := by decide +kernel
theorem dX4_bestHomes_22 : decode cX4_bestHomes 22 = .ok (.if_icmp .ge 25, 3) := by decide +kernel
theorem dX4_bestHomes_25 : decode cX4_bestHomes 25 = .ok (.aload_n 0, 1) := by decide +kernel
theorem dX4_bestHomes_26 : decode cX4_bestHomes 26 = .ok (.getfield 7, 3) := by decide +kernel
theorem dX4_bestHomes_29 : decode cX4_bestHomes 29 = .ok (.bipush 52, 2) := by decide +kernel
theorem dX4_bestHomes_31 : decode cX4_bestHomes 31 = .ok (.iload 4, 2) := by decide +kernel
theorem dX4_bestHomes_33 : decode cX4_bestHomes 33 = .ok (.iadd, 1) := by decide +kernel
theorem dX4_bestHomes_34 : decode cX4_bestHomes 34 = .ok (.iload_n 3, 1) := by decide +kernel
theorem dX4_bestHomes_35 : decode cX4_bestHomes 35 = .ok (.iload 4, 2) := by decide +kernel
theorem dX4_bestHomes_37 : decode cX4_bestHomes 37 = .ok (.ishr, 1) := by decide +kernel
theorem dX4_bestHomes_38 : decode cX4_bestHomes 38 = .ok (.iconst 1, 1) := by decide +kernel
theorem dX4_bestHomes_39 : decode cX4_bestHomes 39 = .ok (.iand, 1) := by decide +kernel
theorem dX4_bestHomes_40 : decode cX4_bestHomes 40 = .ok (.iastore, 1) := by decide +kernel
theorem dX4_bestHomes_41 : decode cX4_bestHomes 41 = .ok (.iinc 4 1, 3) := by decide +kernel
theorem dX4_bestHomes_44 : decode cX4_bestHomes 44 = .ok (.goto (-25), 3) := by decide +kernel
theorem dX4_bestHomes_47 : decode cX4_bestHomes 47 = .ok (.aload_n 0, 1) := by decide +kernel
theorem dX4_bestHomes_48 : decode cX4_bestHomes 48 = .ok (.invokevirtual 132, 3) := by decide +kernel
theorem dX4_bestHomes_51 : decode cX4_bestHomes 51 = .ok (.istore 4, 2) := by decide +kernel
theorem dX4_bestHomes_53 : decode cX4_bestHomes 53 = .ok (.iload_n 3, 1) := by decide +kernel
theorem dX4_bestHomes_54 : decode cX4_bestHomes 54 = .ok (.ifCond .eq 9, 3) := by decide +kernel
theorem dX4_bestHomes_57 : decode cX4_bestHomes 57 = .ok (.iload 4, 2) := by decide +kernel
theorem dX4_bestHomes_59 : decode cX4_bestHomes 59 = .ok (.iload_n 2, 1) := by decide +kernel
theorem dX4_bestHomes_60 : decode cX4_bestHomes 60 = .ok (.if_icmp .ge 8, 3) := by decide +kernel
theorem dX4_bestHomes_63 : decode cX4_bestHomes 63 = .ok (.iload_n 3, 1) := by decide +kernel
theorem dX4_bestHomes_64 : decode cX4_bestHomes 64 = .ok (.istore_n 1, 1) := by decide +kernel
theorem dX4_bestHomes_65 : decode cX4_bestHomes 65 = .ok (.iload 4, 2) := by decide +kernel
theorem dX4_bestHomes_67 : decode cX4_bestHomes 67 = .ok (.istore_n 2, 1) := by decide +kernel
theorem dX4_bestHomes_68 : decode cX4_bestHomes 68 = .ok (.iinc 3 1, 3) := by decide +kernel
theorem dX4_bestHomes_71 : decode cX4_bestHomes 71 = .ok (.goto (-61), 3) := by decide +kernel
theorem dX4_bestHomes_74 : decode cX4_bestHomes 74 = .ok (.aload_n 0, 1) := by decide +kernel
theorem dX4_bestHomes_75 : decode cX4_bestHomes 75 = .ok (.invokevirtual 139, 3) := by decide +kernel
theorem dX4_bestHomes_78 : decode cX4_bestHomes 78 = .ok (.iload_n 1, 1) := by decide +kernel
theorem dX4_bestHomes_79 : decode cX4_bestHomes 79 = .ok (.ireturn, 1) := by decide +kernel
theorem dX4_missingMachines_0 : decode cX4_missingMachines 0 = .ok (.iload_n 1, 1) := by decide +kernel
theorem dX4_missingMachines_1 : decode cX4_missingMachines 1 = .ok (.invokestatic 79, 3) := by decide +kernel
theorem dX4_missingMachines_4 : decode cX4_missingMachines 4 = .ok (.ifCond .ne 5, 3) := by decide +kernel
theorem dX4_missingMachines_7 : decode cX4_missingMachines 7 = .ok (.iconst (-1), 1) := by decide +kernel
theorem dX4_missingMachines_8 : decode cX4_missingMachines 8 = .ok (.ireturn, 1) := by decide +kernel
theorem dX4_missingMachines_9 : decode cX4_missingMachines 9 = .ok (.aload_n 0, 1) := by decide +kernel
theorem dX4_missingMachines_10 : decode cX4_missingMachines 10 = .ok (.invokevirtual 136, 3) := by decide +kernel
theorem dX4_missingMachines_13 : decode cX4_missingMachines 13 = .ok (.bipush (-4), 2) := by decide +kernel
theorem dX4_missingMachines_15 : decode cX4_missingMachines 15 = .ok (.istore_n 2, 1) := by decide +kernel
theorem dX4_missingMachines_16 : decode cX4_missingMachines 16 = .ok (.iconst 0, 1) := by decide +kernel
theorem dX4_missingMachines_17 : decode cX4_missingMachines 17 = .ok (.istore_n 3, 1) := by decide +kernel
theorem dX4_missingMachines_18 : decode cX4_missingMachines 18 = .ok (.iload_n 2, 1) := by decide +kernel
theorem dX4_missingMachines_19 : decode cX4_missingMachines 19 = .ok (.ifCond .ge 72, 3) := by decide +kernel
theorem dX4_missingMachines_22 : decode cX4_missingMachines 22 = .ok (.aload_n 0, 1) := by decide +kernel
theorem dX4_missingMachines_23 : decode cX4_missingMachines 23 = .ok (.getfield 7, 3) := by decide +kernel
theorem dX4_missingMachines_26 : decode cX4_missingMachines 26 = .ok (.bipush 56, 2) := by decide +kernel
theorem dX4_missingMachines_28 : decode cX4_missingMachines 28 = .ok (.iaload, 1) := by decide +kernel
theorem dX4_missingMachines_29 : decode cX4_missingMachines 29 = .ok (.iconst 5, 1) := by decide +kernel
theorem dX4_missingMachines_30 : decode cX4_missingMachines 30 = .ok (.if_icmp .gt 61, 3) := by decide +kernel
theorem dX4_missingMachines_33 : decode cX4_missingMachines 33 = .ok (.aload_n 0, 1) := by decide +kernel
theorem dX4_missingMachines_34 : decode cX4_missingMachines 34 = .ok (.invokevirtual 132, 3) := by decide +kernel
theorem dX4_missingMachines_37 : decode cX4_missingMachines 37 = .ok (.ifCond .ne 7, 3) := by decide +kernel
theorem dX4_missingMachines_40 : decode cX4_missingMachines 40 = .ok (.iload_n 3, 1) := by decide +kernel
theorem dX4_missingMachines_41 : decode cX4_missingMachines 41 = .ok (.goto 5, 3) := by decide +kernel
theorem dX4_missingMachines_44 : decode cX4_missingMachines 44 = .ok (.bipush (-4), 2) := by decide +kernel
theorem dX4_missingMachines_46 : decode cX4_missingMachines 46 = .ok (.istore_n 2, 1) := by decide +kernel
theorem dX4_missingMachines_47 : decode cX4_missingMachines 47 = .ok (.aload_n 0, 1) := by decide +kernel
theorem dX4_missingMachines_48 : decode cX4_missingMachines 48 = .ok (.getfield 7, 3) := by decide +kernel
theorem dX4_missingMachines_51 : decode cX4_missingMachines 51 = .ok (.bipush 56, 2) := by decide +kernel
theorem dX4_missingMachines_53 : decode cX4_missingMachines 53 = .ok (.iaload, 1) := by decide +kernel
theorem dX4_missingMachines_54 : decode cX4_missingMachines 54 = .ok (.iconst 5, 1) := by decide +kernel
theorem dX4_missingMachines_55 : decode cX4_missingMachines 55 = .ok (.if_icmp .ge 19, 3) := by decide +kernel
theorem dX4_missingMachines_58 : decode cX4_missingMachines 58 = .ok (.aload_n 0, 1) := by decide +kernel
theorem dX4_missingMachines_59 : decode cX4_missingMachines 59 = .ok (.getfield 7, 3) := by decide +kernel
theorem dX4_missingMachines_62 : decode cX4_missingMachines 62 = .ok (.bipush 57, 2) := by decide +kernel
theorem dX4_missingMachines_64 : decode cX4_missingMachines 64 = .ok (.aload_n 0, 1) := by decide +kernel
theorem dX4_missingMachines_65 : decode cX4_missingMachines 65 = .ok (.getfield 7, 3) := by decide +kernel
theorem dX4_missingMachines_68 : decode cX4_missingMachines 68 = .ok (.bipush 56, 2) := by decide +kernel
theorem dX4_missingMachines_70 : decode cX4_missingMachines 70 = .ok (.iaload, 1) := by decide +kernel
theorem dX4_missingMachines_71 : decode cX4_missingMachines 71 = .ok (.iadd, 1) := by decide +kernel
theorem dX4_missingMachines_72 : decode cX4_missingMachines 72 = .ok (.iload_n 1, 1) := by decide +kernel
theorem dX4_missingMachines_73 : decode cX4_missingMachines 73 = .ok (.iastore, 1) := by decide +kernel
theorem dX4_missingMachines_74 : decode cX4_missingMachines 74 = .ok (.aload_n 0, 1) := by decide +kernel
theorem dX4_missingMachines_75 : decode cX4_missingMachines 75 = .ok (.getfield 7, 3) := by decide +kernel
theorem dX4_missingMachines_78 : decode cX4_missingMachines 78 = .ok (.bipush 56, 2) := by decide +kernel
theorem dX4_missingMachines_80 : decode cX4_missingMachines 80 = .ok (.dup2, 1) := by decide +kernel
theorem dX4_missingMachines_81 : decode cX4_missingMachines 81 = .ok (.iaload, 1) := by decide +kernel
theorem dX4_missingMachines_82 : decode cX4_missingMachines 82 = .ok (.iconst 1, 1) := by decide +kernel
theorem dX4_missingMachines_83 : decode cX4_missingMachines 83 = .ok (.iadd, 1) := by decide +kernel
theorem dX4_missingMachines_84 : decode cX4_missingMachines 84 = .ok (.iastore, 1) := by decide +kernel
theorem dX4_missingMachines_85 : decode cX4_missingMachines 85 = .ok (.iinc 3 1, 3) := by decide +kernel
theorem dX4_missingMachines_88 : decode cX4_missingMachines 88 = .ok (.goto (-70), 3) := by decide +kernel
theorem dX4_missingMachines_91 : decode cX4_missingMachines 91 = .ok (.aload_n 0, 1) := by decide +kernel
theorem dX4_missingMachines_92 : decode cX4_missingMachines 92 = .ok (.invokevirtual 139, 3) := by decide +kernel
theorem dX4_missingMachines_95 : decode cX4_missingMachines 95 = .ok (.iload_n 2, 1) := by decide +kernel
theorem dX4_missingMachines_96 : decode cX4_missingMachines 96 = .ok (.ireturn, 1) := by decide +kernel
theorem dJ9_max_7cf53_0 : decode cJ9_max_7cf53 0 = .ok (.iload_n 0, 1) := by decide +kernel
theorem dJ9_max_7cf53_1 : decode cJ9_max_7cf53 1 = .ok (.iload_n 1, 1) := by decide +kernel
theorem dJ9_max_7cf53_2 : decode cJ9_max_7cf53 2 = .ok (.if_icmp .lt 7, 3) := by decide +kernel
theorem dJ9_max_7cf53_5 : decode cJ9_max_7cf53 5 = .ok (.iload_n 0, 1) := by decide +kernel
theorem dJ9_max_7cf53_6 : decode cJ9_max_7cf53 6 = .ok (.goto 4, 3) := by decide +kernel
theorem dJ9_max_7cf53_9 : decode cJ9_max_7cf53 9 = .ok (.iload_n 1, 1) := by decide +kernel
theorem dJ9_max_7cf53_10 : decode cJ9_max_7cf53 10 = .ok (.ireturn, 1) := by decide +kernel
theorem dJ9_min_7cf53_0 : decode cJ9_min_7cf53 0 = .ok (.iload_n 0, 1) := by decide +kernel
theorem dJ9_min_7cf53_1 : decode cJ9_min_7cf53 1 = .ok (.iload_n 1, 1) := by decide +kernel
theorem dJ9_min_7cf53_2 : decode cJ9_min_7cf53 2 = .ok (.if_icmp .gt 7, 3) := by decide +kernel
theorem dJ9_min_7cf53_5 : decode cJ9_min_7cf53 5 = .ok (.iload_n 0, 1) := by decide +kernel
theorem dJ9_min_7cf53_6 : decode cJ9_min_7cf53 6 = .ok (.goto 4, 3) := by decide +kernel
theorem dJ9_min_7cf53_9 : decode cJ9_min_7cf53 9 = .ok (.iload_n 1, 1) := by decide +kernel
theorem dJ9_min_7cf53_10 : decode cJ9_min_7cf53 10 = .ok (.ireturn, 1) := by decide +kernel
theorem dL_law_0 : decode cL_law 0 = .ok (.new 7, 3) := by decide +kernel
theorem dL_law_3 : decode cL_law 3 = .ok (.dup, 1) := by decide +kernel
theorem dL_law_4 : decode cL_law 4 = .ok (.invokespecial 9, 3) := by decide +kernel
theorem dL_law_7 : decode cL_law 7 = .ok (.astore_n 1, 1) := by decide +kernel
theorem dL_law_8 : decode cL_law 8 = .ok (.new 10, 3) := by decide +kernel
theorem dL_law_11 : decode cL_law 11 = .ok (.dup, 1) := by decide +kernel
theorem dL_law_12 : decode cL_law 12 = .ok (.invokespecial 12, 3) := by decide +kernel
theorem dL_law_15 : decode cL_law 15 = .ok (.astore_n 2, 1) := by decide +kernel
theorem dL_law_16 : decode cL_law 16 = .ok (.iconst 0, 1) := by decide +kernel
theorem dL_law_17 : decode cL_law 17 = .ok (.istore_n 3, 1) := by decide +kernel
theorem dL_law_18 : decode cL_law 18 = .ok (.iload_n 3, 1) := by decide +kernel
theorem dL_law_19 : decode cL_law 19 = .ok (.aload_n 0, 1) := by decide +kernel
theorem dL_law_20 : decode cL_law 20 = .ok (.arraylength, 1) := by decide +kernel
theorem dL_law_21 : decode cL_law 21 = .ok (.iconst 4, 1) := by decide +kernel
theorem dL_law_22 : decode cL_law 22 = .ok (.isub, 1) := by decide +kernel
theorem dL_law_23 : decode cL_law 23 = .ok (.if_icmp .gt 837, 3) := by decide +kernel
theorem dL_law_26 : decode cL_law 26 = .ok (.aload_n 0, 1) := by decide +kernel
theorem dL_law_27 : decode cL_law 27 = .ok (.iload_n 3, 1) := by decide +kernel
theorem dL_law_28 : decode cL_law 28 = .ok (.iaload, 1) := by decide +kernel
theorem dL_law_29 : decode cL_law 29 = .ok (.bipush 31, 2) := by decide +kernel
theorem dL_law_31 : decode cL_law 31 = .ok (.iand, 1) := by decide +kernel
theorem dL_law_32 : decode cL_law 32 = .ok (.tableswitch 822 0 27 #[128, 171, 194, 227, 250, 273, 296, 319, 342, 375, 418, 441, 474, 517, 530, 563, 596, 619, 642, 665, 678, 691, 704, 727, 750, 773, 786, 809], 128) := by decide +kernel
theorem dL_law_160 : decode cL_law 160 = .ok (.aload_n 1, 1) := by decide +kernel
theorem dL_law_161 : decode cL_law 161 = .ok (.aload_n 0, 1) := by decide +kernel
theorem dL_law_162 : decode cL_law 162 = .ok (.iload_n 3, 1) := by decide +kernel
theorem dL_law_163 : decode cL_law 163 = .ok (.iconst 1, 1) := by decide +kernel
theorem dL_law_164 : decode cL_law 164 = .ok (.iadd, 1) := by decide +kernel
theorem dL_law_165 : decode cL_law 165 = .ok (.iaload, 1) := by decide +kernel
theorem dL_law_166 : decode cL_law 166 = .ok (.aload_n 0, 1) := by decide +kernel
theorem dL_law_167 : decode cL_law 167 = .ok (.iload_n 3, 1) := by decide +kernel
theorem dL_law_168 : decode cL_law 168 = .ok (.iconst 2, 1) := by decide +kernel
theorem dL_law_169 : decode cL_law 169 = .ok (.iadd, 1) := by decide +kernel
theorem dL_law_170 : decode cL_law 170 = .ok (.iaload, 1) := by decide +kernel
theorem dL_law_171 : decode cL_law 171 = .ok (.aload_n 0, 1) := by decide +kernel
theorem dL_law_172 : decode cL_law 172 = .ok (.iload_n 3, 1) := by decide +kernel
theorem dL_law_173 : decode cL_law 173 = .ok (.iconst 3, 1) := by decide +kernel
theorem dL_law_174 : decode cL_law 174 = .ok (.iadd, 1) := by decide +kernel
theorem dL_law_175 : decode cL_law 175 = .ok (.iaload, 1) := by decide +kernel
theorem dL_law_176 : decode cL_law 176 = .ok (.invokevirtual 13, 3) := by decide +kernel
theorem dL_law_179 : decode cL_law 179 = .ok (.aload_n 2, 1) := by decide +kernel
theorem dL_law_180 : decode cL_law 180 = .ok (.aload_n 0, 1) := by decide +kernel
theorem dL_law_181 : decode cL_law 181 = .ok (.iload_n 3, 1) := by decide +kernel
theorem dL_law_182 : decode cL_law 182 = .ok (.iconst 1, 1) := by decide +kernel
theorem dL_law_183 : decode cL_law 183 = .ok (.iadd, 1) := by decide +kernel
theorem dL_law_184 : decode cL_law 184 = .ok (.iaload, 1) := by decide +kernel
theorem dL_law_185 : decode cL_law 185 = .ok (.aload_n 0, 1) := by decide +kernel
theorem dL_law_186 : decode cL_law 186 = .ok (.iload_n 3, 1) := by decide +kernel
theorem dL_law_187 : decode cL_law 187 = .ok (.iconst 2, 1) := by decide +kernel
theorem dL_law_188 : decode cL_law 188 = .ok (.iadd, 1) := by decide +kernel
theorem dL_law_189 : decode cL_law 189 = .ok (.iaload, 1) := by decide +kernel
theorem dL_law_190 : decode cL_law 190 = .ok (.aload_n 0, 1) := by decide +kernel
theorem dL_law_191 : decode cL_law 191 = .ok (.iload_n 3, 1) := by decide +kernel
theorem dL_law_192 : decode cL_law 192 = .ok (.iconst 3, 1) := by decide +kernel
theorem dL_law_193 : decode cL_law 193 = .ok (.iadd, 1) := by decide +kernel
theorem dL_law_194 : decode cL_law 194 = .ok (.iaload, 1) := by decide +kernel
theorem dL_law_195 : decode cL_law 195 = .ok (.invokevirtual 17, 3) := by decide +kernel
theorem dL_law_198 : decode cL_law 198 = .ok (.if_icmp .eq 656, 3) := by decide +kernel
theorem dL_law_201 : decode cL_law 201 = .ok (.iconst 0, 1) := by decide +kernel
theorem dL_law_202 : decode cL_law 202 = .ok (.ireturn, 1) := by decide +kernel
theorem dL_law_203 : decode cL_law 203 = .ok (.aload_n 1, 1) := by decide +kernel
theorem dL_law_204 : decode cL_law 204 = .ok (.aload_n 0, 1) := by decide +kernel
theorem dL_law_205 : decode cL_law 205 = .ok (.iload_n 3, 1) := by decide +kernel
theorem dL_law_206 : decode cL_law 206 = .ok (.iconst 1, 1) := by decide +kernel
theorem dL_law_207 : decode cL_law 207 = .ok (.iadd, 1) := by decide +kernel
theorem dL_law_208 : decode cL_law 208 = .ok (.iaload, 1) := by decide +kernel
theorem dL_law_209 : decode cL_law 209 = .ok (.invokevirtual 18, 3) := by decide +kernel
theorem dL_law_212 : decode cL_law 212 = .ok (.aload_n 2, 1) := by decide +kernel
theorem dL_law_213 : decode cL_law 213 = .ok (.aload_n 0, 1) := by decide +kernel
theorem dL_law_214 : decode cL_law 214 = .ok (.iload_n 3, 1) := by decide +kernel
theorem dL_law_215 : decode cL_law 215 = .ok (.iconst 1, 1) := by decide +kernel
theorem dL_law_216 : decode cL_law 216 = .ok (.iadd, 1) := by decide +kernel
theorem dL_law_217 : decode cL_law 217 = .ok (.iaload, 1) := by decide +kernel
theorem dL_law_218 : decode cL_law 218 = .ok (.invokevirtual 22, 3) := by decide +kernel
theorem dL_law_221 : decode cL_law 221 = .ok (.if_icmp .eq 633, 3) := by decide +kernel
theorem dL_law_224 : decode cL_law 224 = .ok (.iconst 0, 1) := by decide +kernel
theorem dL_law_225 : decode cL_law 225 = .ok (.ireturn, 1) := by decide +kernel
theorem dL_law_226 : decode cL_law 226 = .ok (.aload_n 1, 1) := by decide +kernel
theorem dL_law_227 : decode cL_law 227 = .ok (.aload_n 0, 1) := by decide +kernel
theorem dL_law_228 : decode cL_law 228 = .ok (.iload_n 3, 1) := by decide +kernel
theorem dL_law_229 : decode cL_law 229 = .ok (.iconst 1, 1) := by decide +kernel
theorem dL_law_230 : decode cL_law 230 = .ok (.iadd, 1) := by decide +kernel
theorem dL_law_231 : decode cL_law 231 = .ok (.iaload, 1) := by decide +kernel
theorem dL_law_232 : decode cL_law 232 = .ok (.aload_n 0, 1) := by decide +kernel
theorem dL_law_233 : decode cL_law 233 = .ok (.iload_n 3, 1) := by decide +kernel
theorem dL_law_234 : decode cL_law 234 = .ok (.iconst 2, 1) := by decide +kernel
theorem dL_law_235 : decode cL_law 235 = .ok (.iadd, 1) := by decide +kernel
theorem dL_law_236 : decode cL_law 236 = .ok (.iaload, 1) := by decide +kernel
theorem dL_law_237 : decode cL_law 237 = .ok (.invokevirtual 23, 3) := by decide +kernel
theorem dL_law_240 : decode cL_law 240 = .ok (.aload_n 2, 1) := by decide +kernel
theorem dL_law_241 : decode cL_law 241 = .ok (.aload_n 0, 1) := by decide +kernel
theorem dL_law_242 : decode cL_law 242 = .ok (.iload_n 3, 1) := by decide +kernel
theorem dL_law_243 : decode cL_law 243 = .ok (.iconst 1, 1) := by decide +kernel
theorem dL_law_244 : decode cL_law 244 = .ok (.iadd, 1) := by decide +kernel
theorem dL_law_245 : decode cL_law 245 = .ok (.iaload, 1) := by decide +kernel
theorem dL_law_246 : decode cL_law 246 = .ok (.aload_n 0, 1) := by decide +kernel
theorem dL_law_247 : decode cL_law 247 = .ok (.iload_n 3, 1) := by decide +kernel
theorem dL_law_248 : decode cL_law 248 = .ok (.iconst 2, 1) := by decide +kernel
theorem dL_law_249 : decode cL_law 249 = .ok (.iadd, 1) := by decide +kernel
theorem dL_law_250 : decode cL_law 250 = .ok (.iaload, 1) := by decide +kernel
theorem dL_law_251 : decode cL_law 251 = .ok (.invokevirtual 27, 3) := by decide +kernel
theorem dL_law_254 : decode cL_law 254 = .ok (.if_icmp .eq 600, 3) := by decide +kernel
theorem dL_law_257 : decode cL_law 257 = .ok (.iconst 0, 1) := by decide +kernel
theorem dL_law_258 : decode cL_law 258 = .ok (.ireturn, 1) := by decide +kernel
theorem dL_law_259 : decode cL_law 259 = .ok (.aload_n 1, 1) := by decide +kernel
theorem dL_law_260 : decode cL_law 260 = .ok (.aload_n 0, 1) := by decide +kernel
theorem dL_law_261 : decode cL_law 261 = .ok (.iload_n 3, 1) := by decide +kernel
theorem dL_law_262 : decode cL_law 262 = .ok (.iconst 1, 1) := by decide +kernel
theorem dL_law_263 : decode cL_law 263 = .ok (.iadd, 1) := by decide +kernel
theorem dL_law_264 : decode cL_law 264 = .ok (.iaload, 1) := by decide +kernel
theorem dL_law_265 : decode cL_law 265 = .ok (.invokevirtual 28, 3) := by decide +kernel
theorem dL_law_268 : decode cL_law 268 = .ok (.aload_n 2, 1) := by decide +kernel
theorem dL_law_269 : decode cL_law 269 = .ok (.aload_n 0, 1) := by decide +kernel
theorem dL_law_270 : decode cL_law 270 = .ok (.iload_n 3, 1) := by decide +kernel
theorem dL_law_271 : decode cL_law 271 = .ok (.iconst 1, 1) := by decide +kernel
theorem dL_law_272 : decode cL_law 272 = .ok (.iadd, 1) := by decide +kernel
theorem dL_law_273 : decode cL_law 273 = .ok (.iaload, 1) := by decide +kernel
theorem dL_law_274 : decode cL_law 274 = .ok (.invokevirtual 31, 3) := by decide +kernel
theorem dL_law_277 : decode cL_law 277 = .ok (.if_icmp .eq 577, 3) := by decide +kernel
theorem dL_law_280 : decode cL_law 280 = .ok (.iconst 0, 1) := by decide +kernel
theorem dL_law_281 : decode cL_law 281 = .ok (.ireturn, 1) := by decide +kernel
theorem dL_law_282 : decode cL_law 282 = .ok (.aload_n 1, 1) := by decide +kernel
theorem dL_law_283 : decode cL_law 283 = .ok (.aload_n 0, 1) := by decide +kernel
theorem dL_law_284 : decode cL_law 284 = .ok (.iload_n 3, 1) := by decide +kernel
theorem dL_law_285 : decode cL_law 285 = .ok (.iconst 1, 1) := by decide +kernel
theorem dL_law_286 : decode cL_law 286 = .ok (.iadd, 1) := by decide +kernel
theorem dL_law_287 : decode cL_law 287 = .ok (.iaload, 1) := by decide +kernel
theorem dL_law_288 : decode cL_law 288 = .ok (.invokevirtual 32, 3) := by decide +kernel
theorem dL_law_291 : decode cL_law 291 = .ok (.aload_n 2, 1) := by decide +kernel
theorem dL_law_292 : decode cL_law 292 = .ok (.aload_n 0, 1) := by decide +kernel
theorem dL_law_293 : decode cL_law 293 = .ok (.iload_n 3, 1) := by decide +kernel
theorem dL_law_294 : decode cL_law 294 = .ok (.iconst 1, 1) := by decide +kernel
theorem dL_law_295 : decode cL_law 295 = .ok (.iadd, 1) := by decide +kernel
theorem dL_law_296 : decode cL_law 296 = .ok (.iaload, 1) := by decide +kernel
theorem dL_law_297 : decode cL_law 297 = .ok (.invokevirtual 35, 3) := by decide +kernel
theorem dL_law_300 : decode cL_law 300 = .ok (.if_icmp .eq 554, 3) := by decide +kernel
theorem dL_law_303 : decode cL_law 303 = .ok (.iconst 0, 1) := by decide +kernel
theorem dL_law_304 : decode cL_law 304 = .ok (.ireturn, 1) := by decide +kernel
theorem dL_law_305 : decode cL_law 305 = .ok (.aload_n 1, 1) := by decide +kernel
theorem dL_law_306 : decode cL_law 306 = .ok (.aload_n 0, 1) := by decide +kernel
theorem dL_law_307 : decode cL_law 307 = .ok (.iload_n 3, 1) := by decide +kernel
theorem dL_law_308 : decode cL_law 308 = .ok (.iconst 1, 1) := by decide +kernel
theorem dL_law_309 : decode cL_law 309 = .ok (.iadd, 1) := by decide +kernel
theorem dL_law_310 : decode cL_law 310 = .ok (.iaload, 1) := by decide +kernel
theorem dL_law_311 : decode cL_law 311 = .ok (.invokevirtual 36, 3) := by decide +kernel
theorem dL_law_314 : decode cL_law 314 = .ok (.aload_n 2, 1) := by decide +kernel
theorem dL_law_315 : decode cL_law 315 = .ok (.aload_n 0, 1) := by decide +kernel
theorem dL_law_316 : decode cL_law 316 = .ok (.iload_n 3, 1) := by decide +kernel
theorem dL_law_317 : decode cL_law 317 = .ok (.iconst 1, 1) := by decide +kernel
theorem dL_law_318 : decode cL_law 318 = .ok (.iadd, 1) := by decide +kernel
theorem dL_law_319 : decode cL_law 319 = .ok (.iaload, 1) := by decide +kernel
theorem dL_law_320 : decode cL_law 320 = .ok (.invokevirtual 39, 3) := by decide +kernel
theorem dL_law_323 : decode cL_law 323 = .ok (.if_icmp .eq 531, 3) := by decide +kernel
theorem dL_law_326 : decode cL_law 326 = .ok (.iconst 0, 1) := by decide +kernel
theorem dL_law_327 : decode cL_law 327 = .ok (.ireturn, 1) := by decide +kernel
theorem dL_law_328 : decode cL_law 328 = .ok (.aload_n 1, 1) := by decide +kernel
theorem dL_law_329 : decode cL_law 329 = .ok (.aload_n 0, 1) := by decide +kernel
theorem dL_law_330 : decode cL_law 330 = .ok (.iload_n 3, 1) := by decide +kernel
theorem dL_law_331 : decode cL_law 331 = .ok (.iconst 1, 1) := by decide +kernel
theorem dL_law_332 : decode cL_law 332 = .ok (.iadd, 1) := by decide +kernel
theorem dL_law_333 : decode cL_law 333 = .ok (.iaload, 1) := by decide +kernel
theorem dL_law_334 : decode cL_law 334 = .ok (.invokevirtual 40, 3) := by decide +kernel
theorem dL_law_337 : decode cL_law 337 = .ok (.aload_n 2, 1) := by decide +kernel
theorem dL_law_338 : decode cL_law 338 = .ok (.aload_n 0, 1) := by decide +kernel
theorem dL_law_339 : decode cL_law 339 = .ok (.iload_n 3, 1) := by decide +kernel
theorem dL_law_340 : decode cL_law 340 = .ok (.iconst 1, 1) := by decide +kernel
theorem dL_law_341 : decode cL_law 341 = .ok (.iadd, 1) := by decide +kernel
theorem dL_law_342 : decode cL_law 342 = .ok (.iaload, 1) := by decide +kernel
theorem dL_law_343 : decode cL_law 343 = .ok (.invokevirtual 43, 3) := by decide +kernel
theorem dL_law_346 : decode cL_law 346 = .ok (.if_icmp .eq 508, 3) := by decide +kernel
theorem dL_law_349 : decode cL_law 349 = .ok (.iconst 0, 1) := by decide +kernel
theorem dL_law_350 : decode cL_law 350 = .ok (.ireturn, 1) := by decide +kernel
theorem dL_law_351 : decode cL_law 351 = .ok (.aload_n 1, 1) := by decide +kernel
theorem dL_law_352 : decode cL_law 352 = .ok (.aload_n 0, 1) := by decide +kernel
theorem dL_law_353 : decode cL_law 353 = .ok (.iload_n 3, 1) := by decide +kernel
theorem dL_law_354 : decode cL_law 354 = .ok (.iconst 1, 1) := by decide +kernel
theorem dL_law_355 : decode cL_law 355 = .ok (.iadd, 1) := by decide +kernel
theorem dL_law_356 : decode cL_law 356 = .ok (.iaload, 1) := by decide +kernel
theorem dL_law_357 : decode cL_law 357 = .ok (.invokevirtual 44, 3) := by decide +kernel
theorem dL_law_360 : decode cL_law 360 = .ok (.aload_n 2, 1) := by decide +kernel
theorem dL_law_361 : decode cL_law 361 = .ok (.aload_n 0, 1) := by decide +kernel
theorem dL_law_362 : decode cL_law 362 = .ok (.iload_n 3, 1) := by decide +kernel
theorem dL_law_363 : decode cL_law 363 = .ok (.iconst 1, 1) := by decide +kernel
theorem dL_law_364 : decode cL_law 364 = .ok (.iadd, 1) := by decide +kernel
theorem dL_law_365 : decode cL_law 365 = .ok (.iaload, 1) := by decide +kernel
theorem dL_law_366 : decode cL_law 366 = .ok (.invokevirtual 47, 3) := by decide +kernel
theorem dL_law_369 : decode cL_law 369 = .ok (.if_icmp .eq 485, 3) := by decide +kernel
theorem dL_law_372 : decode cL_law 372 = .ok (.iconst 0, 1) := by decide +kernel
theorem dL_law_373 : decode cL_law 373 = .ok (.ireturn, 1) := by decide +kernel
theorem dL_law_374 : decode cL_law 374 = .ok (.aload_n 1, 1) := by decide +kernel
theorem dL_law_375 : decode cL_law 375 = .ok (.aload_n 0, 1) := by decide +kernel
theorem dL_law_376 : decode cL_law 376 = .ok (.iload_n 3, 1) := by decide +kernel
theorem dL_law_377 : decode cL_law 377 = .ok (.iconst 1, 1) := by decide +kernel
theorem dL_law_378 : decode cL_law 378 = .ok (.iadd, 1) := by decide +kernel
theorem dL_law_379 : decode cL_law 379 = .ok (.iaload, 1) := by decide +kernel
theorem dL_law_380 : decode cL_law 380 = .ok (.aload_n 0, 1) := by decide +kernel
theorem dL_law_381 : decode cL_law 381 = .ok (.iload_n 3, 1) := by decide +kernel
theorem dL_law_382 : decode cL_law 382 = .ok (.iconst 2, 1) := by decide +kernel
theorem dL_law_383 : decode cL_law 383 = .ok (.iadd, 1) := by decide +kernel
theorem dL_law_384 : decode cL_law 384 = .ok (.iaload, 1) := by decide +kernel
theorem dL_law_385 : decode cL_law 385 = .ok (.invokevirtual 48, 3) := by decide +kernel
theorem dL_law_388 : decode cL_law 388 = .ok (.aload_n 2, 1) := by decide +kernel
theorem dL_law_389 : decode cL_law 389 = .ok (.aload_n 0, 1) := by decide +kernel
theorem dL_law_390 : decode cL_law 390 = .ok (.iload_n 3, 1) := by decide +kernel
theorem dL_law_391 : decode cL_law 391 = .ok (.iconst 1, 1) := by decide +kernel
theorem dL_law_392 : decode cL_law 392 = .ok (.iadd, 1) := by decide +kernel
theorem dL_law_393 : decode cL_law 393 = .ok (.iaload, 1) := by decide +kernel
theorem dL_law_394 : decode cL_law 394 = .ok (.aload_n 0, 1) := by decide +kernel
theorem dL_law_395 : decode cL_law 395 = .ok (.iload_n 3, 1) := by decide +kernel
theorem dL_law_396 : decode cL_law 396 = .ok (.iconst 2, 1) := by decide +kernel
theorem dL_law_397 : decode cL_law 397 = .ok (.iadd, 1) := by decide +kernel
theorem dL_law_398 : decode cL_law 398 = .ok (.iaload, 1) := by decide +kernel
theorem dL_law_399 : decode cL_law 399 = .ok (.invokevirtual 51, 3) := by decide +kernel
theorem dL_law_402 : decode cL_law 402 = .ok (.if_icmp .eq 452, 3) := by decide +kernel
theorem dL_law_405 : decode cL_law 405 = .ok (.iconst 0, 1) := by decide +kernel
theorem dL_law_406 : decode cL_law 406 = .ok (.ireturn, 1) := by decide +kernel
theorem dL_law_407 : decode cL_law 407 = .ok (.aload_n 1, 1) := by decide +kernel
theorem dL_law_408 : decode cL_law 408 = .ok (.aload_n 0, 1) := by decide +kernel
theorem dL_law_409 : decode cL_law 409 = .ok (.iload_n 3, 1) := by decide +kernel
theorem dL_law_410 : decode cL_law 410 = .ok (.iconst 1, 1) := by decide +kernel
theorem dL_law_411 : decode cL_law 411 = .ok (.iadd, 1) := by decide +kernel
theorem dL_law_412 : decode cL_law 412 = .ok (.iaload, 1) := by decide +kernel
theorem dL_law_413 : decode cL_law 413 = .ok (.aload_n 0, 1) := by decide +kernel
theorem dL_law_414 : decode cL_law 414 = .ok (.iload_n 3, 1) := by decide +kernel
theorem dL_law_415 : decode cL_law 415 = .ok (.iconst 2, 1) := by decide +kernel
theorem dL_law_416 : decode cL_law 416 = .ok (.iadd, 1) := by decide +kernel
theorem dL_law_417 : decode cL_law 417 = .ok (.iaload, 1) := by decide +kernel
theorem dL_law_418 : decode cL_law 418 = .ok (.aload_n 0, 1) := by decide +kernel
theorem dL_law_419 : decode cL_law 419 = .ok (.iload_n 3, 1) := by decide +kernel
theorem dL_law_420 : decode cL_law 420 = .ok (.iconst 3, 1) := by decide +kernel
theorem dL_law_421 : decode cL_law 421 = .ok (.iadd, 1) := by decide +kernel
theorem dL_law_422 : decode cL_law 422 = .ok (.iaload, 1) := by decide +kernel
theorem dL_law_423 : decode cL_law 423 = .ok (.invokevirtual 52, 3) := by decide +kernel
theorem dL_law_426 : decode cL_law 426 = .ok (.aload_n 2, 1) := by decide +kernel
theorem dL_law_427 : decode cL_law 427 = .ok (.aload_n 0, 1) := by decide +kernel
theorem dL_law_428 : decode cL_law 428 = .ok (.iload_n 3, 1) := by decide +kernel
theorem dL_law_429 : decode cL_law 429 = .ok (.iconst 1, 1) := by decide +kernel
theorem dL_law_430 : decode cL_law 430 = .ok (.iadd, 1) := by decide +kernel
theorem dL_law_431 : decode cL_law 431 = .ok (.iaload, 1) := by decide +kernel
theorem dL_law_432 : decode cL_law 432 = .ok (.aload_n 0, 1) := by decide +kernel
theorem dL_law_433 : decode cL_law 433 = .ok (.iload_n 3, 1) := by decide +kernel
theorem dL_law_434 : decode cL_law 434 = .ok (.iconst 2, 1) := by decide +kernel
theorem dL_law_435 : decode cL_law 435 = .ok (.iadd, 1) := by decide +kernel
theorem dL_law_436 : decode cL_law 436 = .ok (.iaload, 1) := by decide +kernel
theorem dL_law_437 : decode cL_law 437 = .ok (.aload_n 0, 1) := by decide +kernel
theorem dL_law_438 : decode cL_law 438 = .ok (.iload_n 3, 1) := by decide +kernel
theorem dL_law_439 : decode cL_law 439 = .ok (.iconst 3, 1) := by decide +kernel
theorem dL_law_440 : decode cL_law 440 = .ok (.iadd, 1) := by decide +kernel
theorem dL_law_441 : decode cL_law 441 = .ok (.iaload, 1) := by decide +kernel
theorem dL_law_442 : decode cL_law 442 = .ok (.invokevirtual 55, 3) := by decide +kernel
theorem dL_law_445 : decode cL_law 445 = .ok (.if_icmp .eq 409, 3) := by decide +kernel
theorem dL_law_448 : decode cL_law 448 = .ok (.iconst 0, 1) := by decide +kernel
theorem dL_law_449 : decode cL_law 449 = .ok (.ireturn, 1) := by decide +kernel
theorem dL_law_450 : decode cL_law 450 = .ok (.aload_n 1, 1) := by decide +kernel
theorem dL_law_451 : decode cL_law 451 = .ok (.aload_n 0, 1) := by decide +kernel
theorem dL_law_452 : decode cL_law 452 = .ok (.iload_n 3, 1) := by decide +kernel
theorem dL_law_453 : decode cL_law 453 = .ok (.iconst 1, 1) := by decide +kernel
theorem dL_law_454 : decode cL_law 454 = .ok (.iadd, 1) := by decide +kernel
theorem dL_law_455 : decode cL_law 455 = .ok (.iaload, 1) := by decide +kernel
theorem dL_law_456 : decode cL_law 456 = .ok (.invokevirtual 56, 3) := by decide +kernel
theorem dL_law_459 : decode cL_law 459 = .ok (.aload_n 2, 1) := by decide +kernel
theorem dL_law_460 : decode cL_law 460 = .ok (.aload_n 0, 1) := by decide +kernel
theorem dL_law_461 : decode cL_law 461 = .ok (.iload_n 3, 1) := by decide +kernel
theorem dL_law_462 : decode cL_law 462 = .ok (.iconst 1, 1) := by decide +kernel
theorem dL_law_463 : decode cL_law 463 = .ok (.iadd, 1) := by decide +kernel
theorem dL_law_464 : decode cL_law 464 = .ok (.iaload, 1) := by decide +kernel
theorem dL_law_465 : decode cL_law 465 = .ok (.invokevirtual 59, 3) := by decide +kernel
theorem dL_law_468 : decode cL_law 468 = .ok (.if_icmp .eq 386, 3) := by decide +kernel
theorem dL_law_471 : decode cL_law 471 = .ok (.iconst 0, 1) := by decide +kernel
theorem dL_law_472 : decode cL_law 472 = .ok (.ireturn, 1) := by decide +kernel
theorem dL_law_473 : decode cL_law 473 = .ok (.aload_n 1, 1) := by decide +kernel
theorem dL_law_474 : decode cL_law 474 = .ok (.aload_n 0, 1) := by decide +kernel
theorem dL_law_475 : decode cL_law 475 = .ok (.iload_n 3, 1) := by decide +kernel
theorem dL_law_476 : decode cL_law 476 = .ok (.iconst 1, 1) := by decide +kernel
theorem dL_law_477 : decode cL_law 477 = .ok (.iadd, 1) := by decide +kernel
theorem dL_law_478 : decode cL_law 478 = .ok (.iaload, 1) := by decide +kernel
theorem dL_law_479 : decode cL_law 479 = .ok (.aload_n 0, 1) := by decide +kernel
theorem dL_law_480 : decode cL_law 480 = .ok (.iload_n 3, 1) := by decide +kernel
theorem dL_law_481 : decode cL_law 481 = .ok (.iconst 2, 1) := by decide +kernel
theorem dL_law_482 : decode cL_law 482 = .ok (.iadd, 1) := by decide +kernel
theorem dL_law_483 : decode cL_law 483 = .ok (.iaload, 1) := by decide +kernel
theorem dL_law_484 : decode cL_law 484 = .ok (.invokevirtual 60, 3) := by decide +kernel
theorem dL_law_487 : decode cL_law 487 = .ok (.aload_n 2, 1) := by decide +kernel
theorem dL_law_488 : decode cL_law 488 = .ok (.aload_n 0, 1) := by decide +kernel
theorem dL_law_489 : decode cL_law 489 = .ok (.iload_n 3, 1) := by decide +kernel
theorem dL_law_490 : decode cL_law 490 = .ok (.iconst 1, 1) := by decide +kernel
theorem dL_law_491 : decode cL_law 491 = .ok (.iadd, 1) := by decide +kernel
theorem dL_law_492 : decode cL_law 492 = .ok (.iaload, 1) := by decide +kernel
theorem dL_law_493 : decode cL_law 493 = .ok (.aload_n 0, 1) := by decide +kernel
theorem dL_law_494 : decode cL_law 494 = .ok (.iload_n 3, 1) := by decide +kernel
theorem dL_law_495 : decode cL_law 495 = .ok (.iconst 2, 1) := by decide +kernel
theorem dL_law_496 : decode cL_law 496 = .ok (.iadd, 1) := by decide +kernel
theorem dL_law_497 : decode cL_law 497 = .ok (.iaload, 1) := by decide +kernel
theorem dL_law_498 : decode cL_law 498 = .ok (.invokevirtual 63, 3) := by decide +kernel
theorem dL_law_501 : decode cL_law 501 = .ok (.if_icmp .eq 353, 3) := by decide +kernel
theorem dL_law_504 : decode cL_law 504 = .ok (.iconst 0, 1) := by decide +kernel
theorem dL_law_505 : decode cL_law 505 = .ok (.ireturn, 1) := by decide +kernel
theorem dL_law_506 : decode cL_law 506 = .ok (.aload_n 1, 1) := by decide +kernel
theorem dL_law_507 : decode cL_law 507 = .ok (.aload_n 0, 1) := by decide +kernel
theorem dL_law_508 : decode cL_law 508 = .ok (.iload_n 3, 1) := by decide +kernel
theorem dL_law_509 : decode cL_law 509 = .ok (.iconst 1, 1) := by decide +kernel
theorem dL_law_510 : decode cL_law 510 = .ok (.iadd, 1) := by decide +kernel
theorem dL_law_511 : decode cL_law 511 = .ok (.iaload, 1) := by decide +kernel
theorem dL_law_512 : decode cL_law 512 = .ok (.aload_n 0, 1) := by decide +kernel
theorem dL_law_513 : decode cL_law 513 = .ok (.iload_n 3, 1) := by decide +kernel
theorem dL_law_514 : decode cL_law 514 = .ok (.iconst 2, 1) := by decide +kernel
theorem dL_law_515 : decode cL_law 515 = .ok (.iadd, 1) := by decide +kernel
theorem dL_law_516 : decode cL_law 516 = .ok (.iaload, 1) := by decide +kernel
theorem dL_law_517 : decode cL_law 517 = .ok (.aload_n 0, 1) := by decide +kernel
theorem dL_law_518 : decode cL_law 518 = .ok (.iload_n 3, 1) := by decide +kernel
theorem dL_law_519 : decode cL_law 519 = .ok (.iconst 3, 1) := by decide +kernel
theorem dL_law_520 : decode cL_law 520 = .ok (.iadd, 1) := by decide +kernel
theorem dL_law_521 : decode cL_law 521 = .ok (.iaload, 1) := by decide +kernel
theorem dL_law_522 : decode cL_law 522 = .ok (.invokevirtual 64, 3) := by decide +kernel
theorem dL_law_525 : decode cL_law 525 = .ok (.aload_n 2, 1) := by decide +kernel
theorem dL_law_526 : decode cL_law 526 = .ok (.aload_n 0, 1) := by decide +kernel
theorem dL_law_527 : decode cL_law 527 = .ok (.iload_n 3, 1) := by decide +kernel
theorem dL_law_528 : decode cL_law 528 = .ok (.iconst 1, 1) := by decide +kernel
theorem dL_law_529 : decode cL_law 529 = .ok (.iadd, 1) := by decide +kernel
theorem dL_law_530 : decode cL_law 530 = .ok (.iaload, 1) := by decide +kernel
theorem dL_law_531 : decode cL_law 531 = .ok (.aload_n 0, 1) := by decide +kernel
theorem dL_law_532 : decode cL_law 532 = .ok (.iload_n 3, 1) := by decide +kernel
theorem dL_law_533 : decode cL_law 533 = .ok (.iconst 2, 1) := by decide +kernel
theorem dL_law_534 : decode cL_law 534 = .ok (.iadd, 1) := by decide +kernel
theorem dL_law_535 : decode cL_law 535 = .ok (.iaload, 1) := by decide +kernel
theorem dL_law_536 : decode cL_law 536 = .ok (.aload_n 0, 1) := by decide +kernel
theorem dL_law_537 : decode cL_law 537 = .ok (.iload_n 3, 1) := by decide +kernel
theorem dL_law_538 : decode cL_law 538 = .ok (.iconst 3, 1) := by decide +kernel
theorem dL_law_539 : decode cL_law 539 = .ok (.iadd, 1) := by decide +kernel
theorem dL_law_540 : decode cL_law 540 = .ok (.iaload, 1) := by decide +kernel
theorem dL_law_541 : decode cL_law 541 = .ok (.invokevirtual 67, 3) := by decide +kernel
theorem dL_law_544 : decode cL_law 544 = .ok (.if_icmp .eq 310, 3) := by decide +kernel
theorem dL_law_547 : decode cL_law 547 = .ok (.iconst 0, 1) := by decide +kernel
theorem dL_law_548 : decode cL_law 548 = .ok (.ireturn, 1) := by decide +kernel
theorem dL_law_549 : decode cL_law 549 = .ok (.aload_n 1, 1) := by decide +kernel
theorem dL_law_550 : decode cL_law 550 = .ok (.invokevirtual 68, 3) := by decide +kernel
theorem dL_law_553 : decode cL_law 553 = .ok (.aload_n 2, 1) := by decide +kernel
theorem dL_law_554 : decode cL_law 554 = .ok (.invokevirtual 72, 3) := by decide +kernel
theorem dL_law_557 : decode cL_law 557 = .ok (.if_icmp .eq 297, 3) := by decide +kernel
theorem dL_law_560 : decode cL_law 560 = .ok (.iconst 0, 1) := by decide +kernel
theorem dL_law_561 : decode cL_law 561 = .ok (.ireturn, 1) := by decide +kernel
theorem dL_law_562 : decode cL_law 562 = .ok (.aload_n 1, 1) := by decide +kernel
theorem dL_law_563 : decode cL_law 563 = .ok (.aload_n 0, 1) := by decide +kernel
theorem dL_law_564 : decode cL_law 564 = .ok (.iload_n 3, 1) := by decide +kernel
theorem dL_law_565 : decode cL_law 565 = .ok (.iconst 1, 1) := by decide +kernel
theorem dL_law_566 : decode cL_law 566 = .ok (.iadd, 1) := by decide +kernel
theorem dL_law_567 : decode cL_law 567 = .ok (.iaload, 1) := by decide +kernel
theorem dL_law_568 : decode cL_law 568 = .ok (.aload_n 0, 1) := by decide +kernel
theorem dL_law_569 : decode cL_law 569 = .ok (.iload_n 3, 1) := by decide +kernel
theorem dL_law_570 : decode cL_law 570 = .ok (.iconst 2, 1) := by decide +kernel
theorem dL_law_571 : decode cL_law 571 = .ok (.iadd, 1) := by decide +kernel
theorem dL_law_572 : decode cL_law 572 = .ok (.iaload, 1) := by decide +kernel
theorem dL_law_573 : decode cL_law 573 = .ok (.invokevirtual 73, 3) := by decide +kernel
theorem dL_law_576 : decode cL_law 576 = .ok (.aload_n 2, 1) := by decide +kernel
theorem dL_law_577 : decode cL_law 577 = .ok (.aload_n 0, 1) := by decide +kernel
theorem dL_law_578 : decode cL_law 578 = .ok (.iload_n 3, 1) := by decide +kernel
theorem dL_law_579 : decode cL_law 579 = .ok (.iconst 1, 1) := by decide +kernel
theorem dL_law_580 : decode cL_law 580 = .ok (.iadd, 1) := by decide +kernel
theorem dL_law_581 : decode cL_law 581 = .ok (.iaload, 1) := by decide +kernel
theorem dL_law_582 : decode cL_law 582 = .ok (.aload_n 0, 1) := by decide +kernel
theorem dL_law_583 : decode cL_law 583 = .ok (.iload_n 3, 1) := by decide +kernel
theorem dL_law_584 : decode cL_law 584 = .ok (.iconst 2, 1) := by decide +kernel
theorem dL_law_585 : decode cL_law 585 = .ok (.iadd, 1) := by decide +kernel
theorem dL_law_586 : decode cL_law 586 = .ok (.iaload, 1) := by decide +kernel
theorem dL_law_587 : decode cL_law 587 = .ok (.invokevirtual 76, 3) := by decide +kernel
theorem dL_law_590 : decode cL_law 590 = .ok (.if_icmp .eq 264, 3) := by decide +kernel
theorem dL_law_593 : decode cL_law 593 = .ok (.iconst 0, 1) := by decide +kernel
theorem dL_law_594 : decode cL_law 594 = .ok (.ireturn, 1) := by decide +kernel
theorem dL_law_595 : decode cL_law 595 = .ok (.aload_n 1, 1) := by decide +kernel
theorem dL_law_596 : decode cL_law 596 = .ok (.aload_n 0, 1) := by decide +kernel
theorem dL_law_597 : decode cL_law 597 = .ok (.iload_n 3, 1) := by decide +kernel
theorem dL_law_598 : decode cL_law 598 = .ok (.iconst 1, 1) := by decide +kernel
theorem dL_law_599 : decode cL_law 599 = .ok (.iadd, 1) := by decide +kernel
theorem dL_law_600 : decode cL_law 600 = .ok (.iaload, 1) := by decide +kernel
theorem dL_law_601 : decode cL_law 601 = .ok (.aload_n 0, 1) := by decide +kernel
theorem dL_law_602 : decode cL_law 602 = .ok (.iload_n 3, 1) := by decide +kernel
theorem dL_law_603 : decode cL_law 603 = .ok (.iconst 2, 1) := by decide +kernel
theorem dL_law_604 : decode cL_law 604 = .ok (.iadd, 1) := by decide +kernel
theorem dL_law_605 : decode cL_law 605 = .ok (.iaload, 1) := by decide +kernel
theorem dL_law_606 : decode cL_law 606 = .ok (.invokevirtual 77, 3) := by decide +kernel
theorem dL_law_609 : decode cL_law 609 = .ok (.aload_n 2, 1) := by decide +kernel
theorem dL_law_610 : decode cL_law 610 = .ok (.aload_n 0, 1) := by decide +kernel
theorem dL_law_611 : decode cL_law 611 = .ok (.iload_n 3, 1) := by decide +kernel
theorem dL_law_612 : decode cL_law 612 = .ok (.iconst 1, 1) := by decide +kernel
theorem dL_law_613 : decode cL_law 613 = .ok (.iadd, 1) := by decide +kernel
theorem dL_law_614 : decode cL_law 614 = .ok (.iaload, 1) := by decide +kernel
theorem dL_law_615 : decode cL_law 615 = .ok (.aload_n 0, 1) := by decide +kernel
theorem dL_law_616 : decode cL_law 616 = .ok (.iload_n 3, 1) := by decide +kernel
theorem dL_law_617 : decode cL_law 617 = .ok (.iconst 2, 1) := by decide +kernel
theorem dL_law_618 : decode cL_law 618 = .ok (.iadd, 1) := by decide +kernel
theorem dL_law_619 : decode cL_law 619 = .ok (.iaload, 1) := by decide +kernel
theorem dL_law_620 : decode cL_law 620 = .ok (.invokevirtual 80, 3) := by decide +kernel
theorem dL_law_623 : decode cL_law 623 = .ok (.if_icmp .eq 231, 3) := by decide +kernel
theorem dL_law_626 : decode cL_law 626 = .ok (.iconst 0, 1) := by decide +kernel
theorem dL_law_627 : decode cL_law 627 = .ok (.ireturn, 1) := by decide +kernel
theorem dL_law_628 : decode cL_law 628 = .ok (.aload_n 1, 1) := by decide +kernel
theorem dL_law_629 : decode cL_law 629 = .ok (.aload_n 0, 1) := by decide +kernel
theorem dL_law_630 : decode cL_law 630 = .ok (.iload_n 3, 1) := by decide +kernel
theorem dL_law_631 : decode cL_law 631 = .ok (.iconst 1, 1) := by decide +kernel
theorem dL_law_632 : decode cL_law 632 = .ok (.iadd, 1) := by decide +kernel
theorem dL_law_633 : decode cL_law 633 = .ok (.iaload, 1) := by decide +kernel
theorem dL_law_634 : decode cL_law 634 = .ok (.invokevirtual 81, 3) := by decide +kernel
theorem dL_law_637 : decode cL_law 637 = .ok (.aload_n 2, 1) := by decide +kernel
theorem dL_law_638 : decode cL_law 638 = .ok (.aload_n 0, 1) := by decide +kernel
theorem dL_law_639 : decode cL_law 639 = .ok (.iload_n 3, 1) := by decide +kernel
theorem dL_law_640 : decode cL_law 640 = .ok (.iconst 1, 1) := by decide +kernel
theorem dL_law_641 : decode cL_law 641 = .ok (.iadd, 1) := by decide +kernel
theorem dL_law_642 : decode cL_law 642 = .ok (.iaload, 1) := by decide +kernel
theorem dL_law_643 : decode cL_law 643 = .ok (.invokevirtual 84, 3) := by decide +kernel
theorem dL_law_646 : decode cL_law 646 = .ok (.if_icmp .eq 208, 3) := by decide +kernel
theorem dL_law_649 : decode cL_law 649 = .ok (.iconst 0, 1) := by decide +kernel
theorem dL_law_650 : decode cL_law 650 = .ok (.ireturn, 1) := by decide +kernel
theorem dL_law_651 : decode cL_law 651 = .ok (.aload_n 1, 1) := by decide +kernel
theorem dL_law_652 : decode cL_law 652 = .ok (.aload_n 0, 1) := by decide +kernel
theorem dL_law_653 : decode cL_law 653 = .ok (.iload_n 3, 1) := by decide +kernel
theorem dL_law_654 : decode cL_law 654 = .ok (.iconst 1, 1) := by decide +kernel
theorem dL_law_655 : decode cL_law 655 = .ok (.iadd, 1) := by decide +kernel
theorem dL_law_656 : decode cL_law 656 = .ok (.iaload, 1) := by decide +kernel
theorem dL_law_657 : decode cL_law 657 = .ok (.invokevirtual 85, 3) := by decide +kernel
theorem dL_law_660 : decode cL_law 660 = .ok (.aload_n 2, 1) := by decide +kernel
theorem dL_law_661 : decode cL_law 661 = .ok (.aload_n 0, 1) := by decide +kernel
theorem dL_law_662 : decode cL_law 662 = .ok (.iload_n 3, 1) := by decide +kernel
theorem dL_law_663 : decode cL_law 663 = .ok (.iconst 1, 1) := by decide +kernel
theorem dL_law_664 : decode cL_law 664 = .ok (.iadd, 1) := by decide +kernel
theorem dL_law_665 : decode cL_law 665 = .ok (.iaload, 1) := by decide +kernel
theorem dL_law_666 : decode cL_law 666 = .ok (.invokevirtual 88, 3) := by decide +kernel
theorem dL_law_669 : decode cL_law 669 = .ok (.if_icmp .eq 185, 3) := by decide +kernel
theorem dL_law_672 : decode cL_law 672 = .ok (.iconst 0, 1) := by decide +kernel
theorem dL_law_673 : decode cL_law 673 = .ok (.ireturn, 1) := by decide +kernel
theorem dL_law_674 : decode cL_law 674 = .ok (.aload_n 1, 1) := by decide +kernel
theorem dL_law_675 : decode cL_law 675 = .ok (.aload_n 0, 1) := by decide +kernel
theorem dL_law_676 : decode cL_law 676 = .ok (.iload_n 3, 1) := by decide +kernel
theorem dL_law_677 : decode cL_law 677 = .ok (.iconst 1, 1) := by decide +kernel
theorem dL_law_678 : decode cL_law 678 = .ok (.iadd, 1) := by decide +kernel
theorem dL_law_679 : decode cL_law 679 = .ok (.iaload, 1) := by decide +kernel
theorem dL_law_680 : decode cL_law 680 = .ok (.invokevirtual 89, 3) := by decide +kernel
theorem dL_law_683 : decode cL_law 683 = .ok (.aload_n 2, 1) := by decide +kernel
theorem dL_law_684 : decode cL_law 684 = .ok (.aload_n 0, 1) := by decide +kernel
theorem dL_law_685 : decode cL_law 685 = .ok (.iload_n 3, 1) := by decide +kernel
theorem dL_law_686 : decode cL_law 686 = .ok (.iconst 1, 1) := by decide +kernel
theorem dL_law_687 : decode cL_law 687 = .ok (.iadd, 1) := by decide +kernel
theorem dL_law_688 : decode cL_law 688 = .ok (.iaload, 1) := by decide +kernel
theorem dL_law_689 : decode cL_law 689 = .ok (.invokevirtual 92, 3) := by decide +kernel
theorem dL_law_692 : decode cL_law 692 = .ok (.if_icmp .eq 162, 3) := by decide +kernel
theorem dL_law_695 : decode cL_law 695 = .ok (.iconst 0, 1) := by decide +kernel
theorem dL_law_696 : decode cL_law 696 = .ok (.ireturn, 1) := by decide +kernel
theorem dL_law_697 : decode cL_law 697 = .ok (.aload_n 1, 1) := by decide +kernel
theorem dL_law_698 : decode cL_law 698 = .ok (.invokevirtual 93, 3) := by decide +kernel
theorem dL_law_701 : decode cL_law 701 = .ok (.aload_n 2, 1) := by decide +kernel
theorem dL_law_702 : decode cL_law 702 = .ok (.invokevirtual 96, 3) := by decide +kernel
theorem dL_law_705 : decode cL_law 705 = .ok (.if_icmp .eq 149, 3) := by decide +kernel
theorem dL_law_708 : decode cL_law 708 = .ok (.iconst 0, 1) := by decide +kernel
theorem dL_law_709 : decode cL_law 709 = .ok (.ireturn, 1) := by decide +kernel
theorem dL_law_710 : decode cL_law 710 = .ok (.aload_n 1, 1) := by decide +kernel
theorem dL_law_711 : decode cL_law 711 = .ok (.invokevirtual 97, 3) := by decide +kernel
theorem dL_law_714 : decode cL_law 714 = .ok (.aload_n 2, 1) := by decide +kernel
theorem dL_law_715 : decode cL_law 715 = .ok (.invokevirtual 100, 3) := by decide +kernel
theorem dL_law_718 : decode cL_law 718 = .ok (.if_icmp .eq 136, 3) := by decide +kernel
theorem dL_law_721 : decode cL_law 721 = .ok (.iconst 0, 1) := by decide +kernel
theorem dL_law_722 : decode cL_law 722 = .ok (.ireturn, 1) := by decide +kernel
theorem dL_law_723 : decode cL_law 723 = .ok (.aload_n 1, 1) := by decide +kernel
theorem dL_law_724 : decode cL_law 724 = .ok (.invokevirtual 101, 3) := by decide +kernel
theorem dL_law_727 : decode cL_law 727 = .ok (.aload_n 2, 1) := by decide +kernel
theorem dL_law_728 : decode cL_law 728 = .ok (.invokevirtual 104, 3) := by decide +kernel
theorem dL_law_731 : decode cL_law 731 = .ok (.if_icmp .eq 123, 3) := by decide +kernel
theorem dL_law_734 : decode cL_law 734 = .ok (.iconst 0, 1) := by decide +kernel
theorem dL_law_735 : decode cL_law 735 = .ok (.ireturn, 1) := by decide +kernel
theorem dL_law_736 : decode cL_law 736 = .ok (.aload_n 1, 1) := by decide +kernel
theorem dL_law_737 : decode cL_law 737 = .ok (.aload_n 0, 1) := by decide +kernel
theorem dL_law_738 : decode cL_law 738 = .ok (.iload_n 3, 1) := by decide +kernel
theorem dL_law_739 : decode cL_law 739 = .ok (.iconst 1, 1) := by decide +kernel
theorem dL_law_740 : decode cL_law 740 = .ok (.iadd, 1) := by decide +kernel
theorem dL_law_741 : decode cL_law 741 = .ok (.iaload, 1) := by decide +kernel
theorem dL_law_742 : decode cL_law 742 = .ok (.invokevirtual 105, 3) := by decide +kernel
theorem dL_law_745 : decode cL_law 745 = .ok (.aload_n 2, 1) := by decide +kernel
theorem dL_law_746 : decode cL_law 746 = .ok (.aload_n 0, 1) := by decide +kernel
theorem dL_law_747 : decode cL_law 747 = .ok (.iload_n 3, 1) := by decide +kernel
theorem dL_law_748 : decode cL_law 748 = .ok (.iconst 1, 1) := by decide +kernel
theorem dL_law_749 : decode cL_law 749 = .ok (.iadd, 1) := by decide +kernel
theorem dL_law_750 : decode cL_law 750 = .ok (.iaload, 1) := by decide +kernel
theorem dL_law_751 : decode cL_law 751 = .ok (.invokevirtual 108, 3) := by decide +kernel
theorem dL_law_754 : decode cL_law 754 = .ok (.if_icmp .eq 100, 3) := by decide +kernel
theorem dL_law_757 : decode cL_law 757 = .ok (.iconst 0, 1) := by decide +kernel
theorem dL_law_758 : decode cL_law 758 = .ok (.ireturn, 1) := by decide +kernel
theorem dL_law_759 : decode cL_law 759 = .ok (.aload_n 1, 1) := by decide +kernel
theorem dL_law_760 : decode cL_law 760 = .ok (.aload_n 0, 1) := by decide +kernel
theorem dL_law_761 : decode cL_law 761 = .ok (.iload_n 3, 1) := by decide +kernel
theorem dL_law_762 : decode cL_law 762 = .ok (.iconst 1, 1) := by decide +kernel
theorem dL_law_763 : decode cL_law 763 = .ok (.iadd, 1) := by decide +kernel
theorem dL_law_764 : decode cL_law 764 = .ok (.iaload, 1) := by decide +kernel
theorem dL_law_765 : decode cL_law 765 = .ok (.invokevirtual 109, 3) := by decide +kernel
theorem dL_law_768 : decode cL_law 768 = .ok (.aload_n 2, 1) := by decide +kernel
theorem dL_law_769 : decode cL_law 769 = .ok (.aload_n 0, 1) := by decide +kernel
theorem dL_law_770 : decode cL_law 770 = .ok (.iload_n 3, 1) := by decide +kernel
theorem dL_law_771 : decode cL_law 771 = .ok (.iconst 1, 1) := by decide +kernel
theorem dL_law_772 : decode cL_law 772 = .ok (.iadd, 1) := by decide +kernel
theorem dL_law_773 : decode cL_law 773 = .ok (.iaload, 1) := by decide +kernel
theorem dL_law_774 : decode cL_law 774 = .ok (.invokevirtual 112, 3) := by decide +kernel
theorem dL_law_777 : decode cL_law 777 = .ok (.if_icmp .eq 77, 3) := by decide +kernel
theorem dL_law_780 : decode cL_law 780 = .ok (.iconst 0, 1) := by decide +kernel
theorem dL_law_781 : decode cL_law 781 = .ok (.ireturn, 1) := by decide +kernel
theorem dL_law_782 : decode cL_law 782 = .ok (.aload_n 1, 1) := by decide +kernel
theorem dL_law_783 : decode cL_law 783 = .ok (.aload_n 0, 1) := by decide +kernel
theorem dL_law_784 : decode cL_law 784 = .ok (.iload_n 3, 1) := by decide +kernel
theorem dL_law_785 : decode cL_law 785 = .ok (.iconst 1, 1) := by decide +kernel
theorem dL_law_786 : decode cL_law 786 = .ok (.iadd, 1) := by decide +kernel
theorem dL_law_787 : decode cL_law 787 = .ok (.iaload, 1) := by decide +kernel
theorem dL_law_788 : decode cL_law 788 = .ok (.invokevirtual 113, 3) := by decide +kernel
theorem dL_law_791 : decode cL_law 791 = .ok (.aload_n 2, 1) := by decide +kernel
theorem dL_law_792 : decode cL_law 792 = .ok (.aload_n 0, 1) := by decide +kernel
theorem dL_law_793 : decode cL_law 793 = .ok (.iload_n 3, 1) := by decide +kernel
theorem dL_law_794 : decode cL_law 794 = .ok (.iconst 1, 1) := by decide +kernel
theorem dL_law_795 : decode cL_law 795 = .ok (.iadd, 1) := by decide +kernel
theorem dL_law_796 : decode cL_law 796 = .ok (.iaload, 1) := by decide +kernel
theorem dL_law_797 : decode cL_law 797 = .ok (.invokevirtual 116, 3) := by decide +kernel
theorem dL_law_800 : decode cL_law 800 = .ok (.if_icmp .eq 54, 3) := by decide +kernel
theorem dL_law_803 : decode cL_law 803 = .ok (.iconst 0, 1) := by decide +kernel
theorem dL_law_804 : decode cL_law 804 = .ok (.ireturn, 1) := by decide +kernel
theorem dL_law_805 : decode cL_law 805 = .ok (.aload_n 1, 1) := by decide +kernel
theorem dL_law_806 : decode cL_law 806 = .ok (.invokevirtual 117, 3) := by decide +kernel
theorem dL_law_809 : decode cL_law 809 = .ok (.aload_n 2, 1) := by decide +kernel
theorem dL_law_810 : decode cL_law 810 = .ok (.invokevirtual 120, 3) := by decide +kernel
theorem dL_law_813 : decode cL_law 813 = .ok (.if_icmp .eq 41, 3) := by decide +kernel
theorem dL_law_816 : decode cL_law 816 = .ok (.iconst 0, 1) := by decide +kernel
theorem dL_law_817 : decode cL_law 817 = .ok (.ireturn, 1) := by decide +kernel
theorem dL_law_818 : decode cL_law 818 = .ok (.aload_n 1, 1) := by decide +kernel
theorem dL_law_819 : decode cL_law 819 = .ok (.aload_n 0, 1) := by decide +kernel
theorem dL_law_820 : decode cL_law 820 = .ok (.iload_n 3, 1) := by decide +kernel
theorem dL_law_821 : decode cL_law 821 = .ok (.iconst 1, 1) := by decide +kernel
theorem dL_law_822 : decode cL_law 822 = .ok (.iadd, 1) := by decide +kernel
theorem dL_law_823 : decode cL_law 823 = .ok (.iaload, 1) := by decide +kernel
theorem dL_law_824 : decode cL_law 824 = .ok (.invokevirtual 121, 3) := by decide +kernel
theorem dL_law_827 : decode cL_law 827 = .ok (.aload_n 2, 1) := by decide +kernel
theorem dL_law_828 : decode cL_law 828 = .ok (.aload_n 0, 1) := by decide +kernel
theorem dL_law_829 : decode cL_law 829 = .ok (.iload_n 3, 1) := by decide +kernel
theorem dL_law_830 : decode cL_law 830 = .ok (.iconst 1, 1) := by decide +kernel
theorem dL_law_831 : decode cL_law 831 = .ok (.iadd, 1) := by decide +kernel
theorem dL_law_832 : decode cL_law 832 = .ok (.iaload, 1) := by decide +kernel
theorem dL_law_833 : decode cL_law 833 = .ok (.invokevirtual 124, 3) := by decide +kernel
theorem dL_law_836 : decode cL_law 836 = .ok (.if_icmp .eq 18, 3) := by decide +kernel
theorem dL_law_839 : decode cL_law 839 = .ok (.iconst 0, 1) := by decide +kernel
theorem dL_law_840 : decode cL_law 840 = .ok (.ireturn, 1) := by decide +kernel
theorem dL_law_841 : decode cL_law 841 = .ok (.aload_n 1, 1) := by decide +kernel
theorem dL_law_842 : decode cL_law 842 = .ok (.invokevirtual 125, 3) := by decide +kernel
theorem dL_law_845 : decode cL_law 845 = .ok (.aload_n 2, 1) := by decide +kernel
theorem dL_law_846 : decode cL_law 846 = .ok (.invokevirtual 128, 3) := by decide +kernel
theorem dL_law_849 : decode cL_law 849 = .ok (.if_icmp .eq 5, 3) := by decide +kernel
theorem dL_law_852 : decode cL_law 852 = .ok (.iconst 0, 1) := by decide +kernel
theorem dL_law_853 : decode cL_law 853 = .ok (.ireturn, 1) := by decide +kernel
theorem dL_law_854 : decode cL_law 854 = .ok (.iinc 3 4, 3) := by decide +kernel
theorem dL_law_857 : decode cL_law 857 = .ok (.goto (-839), 3) := by decide +kernel
theorem dL_law_860 : decode cL_law 860 = .ok (.iconst 1, 1) := by decide +kernel
theorem dL_law_861 : decode cL_law 861 = .ok (.ireturn, 1) := by decide +kernel
abbrev vwCl : List vw_C := [(RX0, TX0, 16), (RX1, TX1, 2), (RX2, TX2, 16), (RX3, TX3, 4), (RX4, TX4, 18)]
end
section
/-! EVERY CONTRACT'S WORDS: all words of the tables that last -/
def wA : List Cond := lw_tbl.filter goodWord
theorem wa_in {w : Cond} (h : w ∈ wA) : w ∈ lw_tbl := (List.mem_filter.mp h).1
theorem wa0 {w : Cond} (h : w ∈ k2_sels lw_privs) (g : goodWord w = true) : w ∈ wA := List.mem_filter.mpr ⟨List.mem_append_left _ h, g⟩
theorem wa1 {w : Cond} (h : w ∈ tables_1_1) (g : goodWord w = true) : w ∈ wA := List.mem_filter.mpr ⟨List.mem_append_right _ (List.mem_append_left _ h), g⟩
theorem wa2 {w : Cond} (h : w ∈ tables_1_2) (g : goodWord w = true) : w ∈ wA := List.mem_filter.mpr ⟨List.mem_append_right _ (List.mem_append_right _ (List.mem_append_left _ h)), g⟩
theorem wa3 {w : Cond} (h : w ∈ tables_1_3) (g : goodWord w = true) : w ∈ wA := List.mem_filter.mpr ⟨List.mem_append_right _ (List.mem_append_right _ (List.mem_append_right _ h)), g⟩
theorem goodAll : wA.all goodWord = true := List.all_eq_true.mpr fun _ h => (List.mem_filter.mp h).2
theorem inlX0 : ∀ w ∈ wsX00, w ∈ wA := fun w h => List.mem_filter.mpr ⟨(by decide +kernel : ∀ w ∈ wsX00, w ∈ lw_tbl) w h, (by decide +kernel : ∀ w ∈ wsX00, goodWord w = true) w h⟩
theorem inlX1 : ∀ w ∈ wsX10, w ∈ wA := fun w h => List.mem_filter.mpr ⟨(by decide +kernel : ∀ w ∈ wsX10, w ∈ lw_tbl) w h, (by decide +kernel : ∀ w ∈ wsX10, goodWord w = true) w h⟩
theorem inlX2 : ∀ w ∈ wsX20, w ∈ wA := fun w h => List.mem_filter.mpr ⟨(by decide +kernel : ∀ w ∈ wsX20, w ∈ lw_tbl) w h, (by decide +kernel : ∀ w ∈ wsX20, goodWord w = true) w h⟩
theorem inlX3 : ∀ w ∈ wsX30, w ∈ wA := fun w h => List.mem_filter.mpr ⟨(by decide +kernel : ∀ w ∈ wsX30, w ∈ lw_tbl) w h, (by decide +kernel : ∀ w ∈ wsX30, goodWord w = true) w h⟩
theorem inlX4 : ∀ w ∈ wsX40, w ∈ wA := fun w h => List.mem_filter.mpr ⟨(by decide +kernel : ∀ w ∈ wsX40, w ∈ lw_tbl) w h, (by decide +kernel : ∀ w ∈ wsX40, goodWord w = true) w h⟩
/-! THE WORLD: eleven objects behind the constructors: 0 the day, 1 the trial, 2 to 6 the history's days, 7 the history, 8 the plan, 9 the room, 10 the model. S o k i: what cell i of field k of object o holds (a number: cell 0). -/
abbrev St : Type := Nat → Nat → Nat → Int32
def kd (o : Nat) : Nat := if o < 7 then 0 else o - 6
/-- a field's kind: 0 a number, 1 ints, 2 booleans, 3 Days, t + 4: the object t -/
def ftL : List (List Nat) := [[1, 1, 1, 1, 0, 1, 0, 1, 0, 1, 1, 1, 0, 1, 1, 1], [3, 0], [2, 1, 1, 1, 1, 1, 1, 0, 0, 0, 1, 1, 1, 1, 1, 1], [4, 5, 11, 12], [1, 1, 0, 1, 1, 1, 1, 1, 1, 1, 1, 2, 1, 1, 1, 0, 0, 1]]
def flL : List (List Nat) := [[4, 24, 24, 4, 0, 5, 0, 4, 0, 6, 6, 6, 0, 8, 8, 8], [5, 0], [6, 36, 36, 6, 6, 6, 5, 0, 0, 0, 6, 24, 24, 3, 5, 5], [0, 0, 0, 0], [111, 555, 0, 24, 24, 3, 5, 5, 5, 36, 36, 6, 6, 6, 6, 0, 0, 111]]
def nF (ci : Nat) : Nat := (ftL.getD ci []).length
def ft (ci k : Nat) : Nat := (ftL.getD ci []).getD k 0
def fl (ci k : Nat) : Nat := (flL.getD ci []).getD k 0
def fv (ad : Nat → Nat → Nat) (S : St) (ci o k : Nat) : Value := match ft ci k with
  | 0 => .int (S o k 0)
  | 1 => .ref (ad o (k + 1))
  | 2 => .ref (ad o (k + 1))
  | 3 => .ref (ad o (k + 1))
  | t + 4 => .ref (ad t 0)
def cel (cA : Nat → ClassId) (ad : Nat → Nat → Nat) (S : St) (o j : Nat) : va_E := match j with
  | 0 => .inr (kd o, (List.range (nF (kd o))).map (fv ad S (kd o) o))
  | k + 1 => if ft (kd o) k = 3 then .inl (cA 2, fl (kd o) k, .inr (.inr (.inr (.inr (fun i => some (ad (S o k i).toNatClampNeg 0)))))) else .inl (cA (ft (kd o) k - 1), fl (kd o) k, .inl (S o k))
def isA (t : Nat) : Bool := t == 1 || t == 2 || t == 3
def celL : List (Nat × Nat) := (List.range 11).flatMap fun o => (o, 0) :: ((List.range (nF (kd o))).filter fun k => isA (ft (kd o) k)).map fun k => (o, k + 1)
theorem celL_nodup : celL.Nodup := by decide +kernel
theorem celL_obj : ∀ o, o < 11 → (o, 0) ∈ celL := by decide +kernel
theorem celL_arr1 : ∀ o ∈ List.range 11, ∀ k ∈ List.range 18, (!isA (ft (kd o) k) || decide ((o, k + 1) ∈ celL)) = true := by decide +kernel
theorem celL_arr0 (o : Nat) (ho : o < 11) (k : Nat) (hk : k < 18) (h : isA (ft (kd o) k) = true) : (o, k + 1) ∈ celL := by
  have q := celL_arr1 o (List.mem_range.mpr ho) k (List.mem_range.mpr hk)
  rw [h] at q
  simpa using q
theorem ft_out : ∀ ci, ci < 5 → ∀ k, 18 ≤ k → ft ci k = 0 := by
  intro ci hc k hk
  unfold ft
  have h : ∀ c, c < 5 → (ftL.getD c []).length ≤ 18 := by decide
  rw [List.getD_eq_getElem?_getD, List.getElem?_eq_none (Nat.le_trans (h ci hc) hk)]
  rfl
theorem kd_lt {o : Nat} (ho : o < 11) : kd o < 5 := by unfold kd; split <;> omega
theorem celL_arr {o k : Nat} (ho : o < 11) (h : isA (ft (kd o) k) = true) : (o, k + 1) ∈ celL := by
  by_cases hk : k < 18
  · exact celL_arr0 o ho k hk h
  · rw [ft_out _ (kd_lt ho) k (by omega)] at h
    exact absurd h (by decide)
theorem kd_day {o : Nat} (h : o < 7) : kd o = 0 := by unfold kd; rw [if_pos h]
def wl (cA : Nat → ClassId) (ad : Nat → Nat → Nat) (S : St) : va_W := celL.map fun q => (ad q.1 q.2, cel cA ad S q.1 q.2)
abbrev kcl : List vw_C := [(RX0, TX0, 16), (RX1, TX1, 2), (RX2, TX2, 16), (RX3, TX3, 4), (RX4, TX4, 18)]
abbrev ktys (cA : Nat → ClassId) : List (ClassId × FieldType) := [(cA 0, .int), (cA 1, .boolean), (cA 2, .object RX0)]
def Rep (D : va_G) (cA : Nat → ClassId) (ad : Nat → Nat → Nat) (A : Nat → Prop) (S : St) (H : Heap) : Prop := va_P D kcl (wl cA ad S) H ∧ va_D A (wl cA ad S)
theorem wl_get {cA : Nat → ClassId} {ad : Nat → Nat → Nat} {S : St} {o j : Nat} (h : (o, j) ∈ celL) : ∃ i : Nat, celL[i]? = some (o, j) ∧ (wl cA ad S)[i]? = some (ad o j, cel cA ad S o j) := by
  obtain ⟨i, hi⟩ := List.getElem?_of_mem h
  exact ⟨i, hi, by unfold wl; rw [List.getElem?_map, hi]; rfl⟩
theorem wl_set {cA : Nat → ClassId} {ad : Nat → Nat → Nat} {S S' : St} {o j i : Nat} {v : va_E} (hi : celL[i]? = some (o, j)) (hv : cel cA ad S' o j = v) (hr : ∀ a b, (a, b) ≠ (o, j) → cel cA ad S' a b = cel cA ad S a b) : (wl cA ad S).set i (ad o j, v) = wl cA ad S' := by
  apply List.ext_getElem?
  intro n
  unfold wl
  rw [List.getElem?_set]
  by_cases hn : i = n
  · subst hn
    have hlt : i < (celL.map fun q => (ad q.1 q.2, cel cA ad S q.1 q.2)).length := by rw [List.length_map]; exact (List.getElem?_eq_some_iff.mp hi).1
    rw [if_pos rfl, if_pos hlt, List.getElem?_map, hi, ← hv]
    rfl
  · rw [if_neg hn, List.getElem?_map, List.getElem?_map]
    cases hq : celL[n]? with
    | none => rfl
    | some q =>
      obtain ⟨a, b⟩ := q
      have hne : (a, b) ≠ (o, j) := by
        intro e
        rw [e] at hq
        have h1 := (List.getElem?_eq_some_iff.mp hi).1
        have h2 := (List.getElem?_eq_some_iff.mp hq).1
        exact hn ((List.getElem?_inj h1 celL_nodup).mp (hi.trans hq.symm))
      show some (ad a b, cel cA ad S a b) = some (ad a b, cel cA ad S' a b)
      rw [hr a b hne]
/-- one cell of a field written -/
def up3 (S : St) (o k i : Nat) (v : Int32) : St := fun a b j => if a = o ∧ b = k ∧ j = i then v else S a b j
/-- a whole row written -/
def upA (S : St) (o k : Nat) (g : Nat → Int32) : St := fun a b j => if a = o ∧ b = k then g j else S a b j
theorem up3_row (S : St) (o k i : Nat) (v : Int32) : up3 S o k i v o k = upd (S o k) i v := by
  funext j
  by_cases h : j = i
  · simp [up3, upd, h]
  · simp [up3, upd, h]
theorem up3_ne {S : St} {o k i : Nat} {v : Int32} {a b : Nat} (h : ¬ (a = o ∧ b = k)) : up3 S o k i v a b = S a b := by
  funext j
  unfold up3
  rw [if_neg (fun q => h ⟨q.1, q.2.1⟩)]
theorem upA_row (S : St) (o k : Nat) (g : Nat → Int32) : upA S o k g o k = g := by funext j; simp [upA]
theorem upA_ne {S : St} {o k : Nat} {g : Nat → Int32} {a b : Nat} (h : ¬ (a = o ∧ b = k)) : upA S o k g a b = S a b := by
  funext j
  unfold upA
  rw [if_neg h]
theorem cel_obj {cA : Nat → ClassId} {ad : Nat → Nat → Nat} {S : St} {a : Nat} : cel cA ad S a 0 = .inr (kd a, (List.range (nF (kd a))).map (fv ad S (kd a) a)) := rfl
theorem cel_row {cA : Nat → ClassId} {ad : Nat → Nat → Nat} {S S' : St} {o k : Nat} (hf : ft (kd o) k ≠ 0) (h : ∀ a b, ¬ (a = o ∧ b = k) → S' a b = S a b) : ∀ a b, (a, b) ≠ (o, k + 1) → cel cA ad S' a b = cel cA ad S a b := by
  intro a b hne
  cases b with
  | zero =>
    rw [cel_obj, cel_obj]
    congr 2
    apply List.map_congr_left
    intro k' _
    unfold fv
    split
    · rename_i h0
      rw [h a k' (fun q => by rw [q.1, q.2] at h0; exact hf h0)]
    all_goals rfl
  | succ b =>
    have e : S' a b = S a b := h a b (fun q => hne (by rw [q.1, q.2]))
    unfold cel
    simp only [e]
theorem cel_num {cA : Nat → ClassId} {ad : Nat → Nat → Nat} {S S' : St} {o k : Nat} (h : ∀ a b, ¬ (a = o ∧ b = k) → S' a b = S a b) (hc : (o, k + 1) ∉ celL) : ∀ a b, (a, b) ≠ (o, 0) → (a, b) ∈ celL → cel cA ad S' a b = cel cA ad S a b := by
  intro a b hne hm
  cases b with
  | zero =>
    rw [cel_obj, cel_obj]
    congr 2
    apply List.map_congr_left
    intro k' _
    unfold fv
    split
    · rw [h a k' (fun q => hne (by rw [q.1]))]
    all_goals rfl
  | succ b =>
    have e : S' a b = S a b := h a b (fun q => hc (by rw [← q.1, ← q.2]; exact hm))
    unfold cel
    simp only [e]
theorem wl_set' {cA : Nat → ClassId} {ad : Nat → Nat → Nat} {S S' : St} {o j i : Nat} {v : va_E} (hi : celL[i]? = some (o, j)) (hv : cel cA ad S' o j = v) (hr : ∀ a b, (a, b) ≠ (o, j) → (a, b) ∈ celL → cel cA ad S' a b = cel cA ad S a b) : (wl cA ad S).set i (ad o j, v) = wl cA ad S' := by
  apply List.ext_getElem?
  intro n
  unfold wl
  rw [List.getElem?_set]
  by_cases hn : i = n
  · subst hn
    have hlt : i < (celL.map fun q => (ad q.1 q.2, cel cA ad S q.1 q.2)).length := by rw [List.length_map]; exact (List.getElem?_eq_some_iff.mp hi).1
    rw [if_pos rfl, if_pos hlt, List.getElem?_map, hi, ← hv]
    rfl
  · rw [if_neg hn, List.getElem?_map, List.getElem?_map]
    cases hq : celL[n]? with
    | none => rfl
    | some q =>
      obtain ⟨a, b⟩ := q
      have hne : (a, b) ≠ (o, j) := by
        intro e
        rw [e] at hq
        have h1 := (List.getElem?_eq_some_iff.mp hi).1
        exact hn ((List.getElem?_inj h1 celL_nodup).mp (hi.trans hq.symm))
      show some (ad a b, cel cA ad S a b) = some (ad a b, cel cA ad S' a b)
      rw [hr a b hne (List.mem_of_getElem? hq)]
theorem num_out1 : ∀ o ∈ List.range 11, ∀ k ∈ List.range 18, (!(ft (kd o) k == 0) || !decide ((o, k + 1) ∈ celL)) = true := by decide +kernel
theorem num_out (o : Nat) (ho : o < 11) (k : Nat) (hk : k < 18) (h : ft (kd o) k = 0) : (o, k + 1) ∉ celL := by
  have q := num_out1 o (List.mem_range.mpr ho) k (List.mem_range.mpr hk)
  rw [h] at q
  simpa using q
/-- the static rows of the class -/
def tLeast (j : Nat) : Int32 := ([0, 0, 0, 1] : List Int32).getD j 0
def tMost (j : Nat) : Int32 := ([10, 10, 15, 30] : List Int32).getD j 0
/-- what holds of the machine's tables, and of the statics, all along -/
def Wd (D : va_G) (cA : Nat → ClassId) (ad : Nat → Nat → Nat) (A : Nat → Prop) (U : State) : Prop := va_K D kcl (ktys cA) U ∧ va_Nw (.methodLinkNest RX0 70 yX3_reelPlace RX3) U ∧ va_Nw (.methodLinkNest RX2 88 yX3_reelPlace RX3) U ∧ va_Z RX3 "LEAST_MINUTES" "[I" (.ref (ad 11 0)) A U U.heap ∧ va_T .int (ad 11 0) 4 (fun j => .int (tLeast j)) A U U.heap ∧ va_Z RX3 "MOST_MINUTES" "[I" (.ref (ad 12 0)) A U U.heap ∧ va_T .int (ad 12 0) 4 (fun j => .int (tMost j)) A U U.heap
theorem Wd.move {D : va_G} {cA : Nat → ClassId} {ad : Nat → Nat → Nat} {A : Nat → Prop} {s U : State} {H : Heap} {locs : List Loc} (h : Wd D cA ad A s) (hS : va_S A s.heap H locs) (hU : U.heap = H) (hW : s.WarmedH U.vm) : Wd D cA ad A U := by
  obtain ⟨h1, h2, h3, h4, h5, h6, h7⟩ := h
  exact ⟨va_K.moved hW.alike h1, va_Nw.warmM hW h2, va_Nw.warmM hW h3, by rw [hU]; exact va_Z.moved hW.alike (h4.kept hS.2.1), by rw [hU]; exact va_T.moved hW.alike (h5.kept hS.2.1), by rw [hU]; exact va_Z.moved hW.alike (h6.kept hS.2.1), by rw [hU]; exact va_T.moved hW.alike (h7.kept hS.2.1)⟩
theorem Wd.blind {D : va_G} {cA : Nat → ClassId} {ad : Nat → Nat → Nat} {A : Nat → Prop} {U : State} {g : JFrame} {mk : MethodId} {a : Array Value} (h : Wd D cA ad A U) : Wd D cA ad A (U.calling g mk a) := by
  obtain ⟨h1, h2, h3, h4, h5, h6, h7⟩ := h
  exact ⟨va_K.moved (u := U) (U := U.calling g mk a) (Vm.Alike.refl U.vm) h1, va_Nw.same rfl (u := U) (U := U.calling g mk a) rfl h2, va_Nw.same rfl (u := U) (U := U.calling g mk a) rfl h3, va_Z.moved (u := U) (U := U.calling g mk a) (Vm.Alike.refl U.vm) h4, va_T.moved (u := U) (U := U.calling g mk a) (Vm.Alike.refl U.vm) h5, va_Z.moved (u := U) (U := U.calling g mk a) (Vm.Alike.refl U.vm) h6, va_T.moved (u := U) (U := U.calling g mk a) (Vm.Alike.refl U.vm) h7⟩
def RepB (D : va_G) (cA : Nat → ClassId) (ad : Nat → Nat → Nat) (A : Nat → Prop) (S : St) (U : State) : Prop := Rep D cA ad A S U.heap ∧ Wd D cA ad A U
theorem repB_blind {D : va_G} {cA : Nat → ClassId} {ad : Nat → Nat → Nat} {A : Nat → Prop} {S : St} {av : List Value} : FrameBlind (va_Pc av (RepB D cA ad A S)) := fun a U g mk q => ⟨q.1, q.2.1, q.2.2.blind⟩
/-- what a walk stands on -/
def Cx (p : Program) (R : Room) (m : MethodId) (c : Code) (cc : ByteArray) (nL : Nat) (s : State) (args : Array Value) (own : String) (cells slots : Nat) (D : va_G) (cA : Nat → ClassId) (ad : Nat → Nat → Nat) (A : Nat → Prop) : Prop := (p.tables.exec = Jvm.exec ∧ c.code = cc ∧ c.maxLocals = nL ∧ s.vm.findClass own = some m.cls ∧ ∀ w ∈ wA, w.before args s = true) ∧ Wd D cA ad A s ∧ cells ≤ R.cells ∧ slots ≤ R.slots
/-- the machine at pc, in the world S -/
def VV (p : Program) (l : Launch) (e : Env) (R : Room) (s : State) (m : MethodId) (args : Array Value) (below : List Frame) (meth : Method) (c : Code) (cells slots : Nat) (Q : State → Prop) (D : va_G) (cA : Nat → ClassId) (ad : Nat → Nat → Nat) (A : Nat → Prop) (nL : Nat) (S : St) (pc : Nat) (lv : List (Nat × Value)) (st : List Value) : Prop := ∀ (H : Heap) (locs : List Loc) (ls : Array Slot), Rep D cA ad A S H → va_S A s.heap H locs → lv_has ls nL lv → W p l e R s m args below meth c H locs cells slots Q (F0 m pc ls st)
end
section
/-! THE ROWS over the world S: an instruction each -/
section VRows
variable {p : Program} {l : Launch} {e : Env} {R : Room} {s : State} {m : MethodId} {args : Array Value} {below : List Frame} {meth : Method} {c : Code} {cells slots : Nat} {Q : State → Prop} {D : va_G} {cA : Nat → ClassId} {ad : Nat → Nat → Nat} {A : Nat → Prop} {nL : Nat} {cc : ByteArray} {own : String} {S : St} {pc : Nat} {lv : List (Nat × Value)} {st : List Value}
theorem v_iconst (X : Cx p R m c cc nL s args own cells slots D cA ad A) {n : Int} {v : Int32} (hd : decode cc pc = .ok (.iconst n, 1)) (hv : Int32.ofInt n = v) (k : VV p l e R s m args below meth c cells slots Q D cA ad A nL S (pc + 1) lv (.int v :: st)) : VV p l e R s m args below meth c cells slots Q D cA ad A nL S pc lv (st) := fun H locs ls hR hS hl => lv_iconst X.1.1 X.1.2.1 hd hv (k H locs ls hR hS hl)
theorem v_bipush (X : Cx p R m c cc nL s args own cells slots D cA ad A) {n : Int} {v : Int32} (hd : decode cc pc = .ok (.bipush n, 2)) (hv : (Int8.ofInt n).toInt32 = v) (k : VV p l e R s m args below meth c cells slots Q D cA ad A nL S (pc + 2) lv (.int v :: st)) : VV p l e R s m args below meth c cells slots Q D cA ad A nL S pc lv (st) := fun H locs ls hR hS hl => lv_bipush X.1.1 X.1.2.1 hd hv (k H locs ls hR hS hl)
theorem v_sipush (X : Cx p R m c cc nL s args own cells slots D cA ad A) {n : Int} {v : Int32} (hd : decode cc pc = .ok (.sipush n, 3)) (hv : (Int16.ofInt n).toInt32 = v) (k : VV p l e R s m args below meth c cells slots Q D cA ad A nL S (pc + 3) lv (.int v :: st)) : VV p l e R s m args below meth c cells slots Q D cA ad A nL S pc lv (st) := fun H locs ls hR hS hl => lv_sipush X.1.1 X.1.2.1 hd hv (k H locs ls hR hS hl)
theorem v_lconst (X : Cx p R m c cc nL s args own cells slots D cA ad A) {n : Fin 2} {v : Int64} (hd : decode cc pc = .ok (.lconst n, 1)) (hv : Int64.ofNat (n : Nat) = v) (k : VV p l e R s m args below meth c cells slots Q D cA ad A nL S (pc + 1) lv (.long v :: st)) : VV p l e R s m args below meth c cells slots Q D cA ad A nL S pc lv (st) := fun H locs ls hR hS hl => lv_lconst X.1.1 X.1.2.1 hd hv (k H locs ls hR hS hl)
theorem v_ldc (X : Cx p R m c cc nL s args own cells slots D cA ad A) {idx : Nat} {v : Int32} (hd : decode cc pc = .ok (.ldc idx, 2)) (hw : Cond.constant own idx v ∈ wA) (k : VV p l e R s m args below meth c cells slots Q D cA ad A nL S (pc + 2) lv (.int v :: st)) : VV p l e R s m args below meth c cells slots Q D cA ad A nL S pc lv (st) := fun H locs ls hR hS hl => lv_ldc X.1.1 X.1.2.1 X.1.2.2.2.1 (X.1.2.2.2.2 _ hw) hd (k H locs ls hR hS hl)
theorem v_ldc2 (X : Cx p R m c cc nL s args own cells slots D cA ad A) {idx : Nat} {v : Int64} (hd : decode cc pc = .ok (.ldc2_w idx, 3)) (hw : Cond.constantLong own idx v ∈ wA) (k : VV p l e R s m args below meth c cells slots Q D cA ad A nL S (pc + 3) lv (.long v :: st)) : VV p l e R s m args below meth c cells slots Q D cA ad A nL S pc lv (st) := fun H locs ls hR hS hl => lv_ldc2 X.1.1 X.1.2.1 X.1.2.2.2.1 (X.1.2.2.2.2 _ hw) hd (k H locs ls hR hS hl)
theorem v_iload_n (X : Cx p R m c cc nL s args own cells slots D cA ad A) {k9 : Fin 4} {i : Nat} {x : Int32} (hd : decode cc pc = .ok (.iload_n k9, 1)) (hi : (k9 : Nat) = i) (q : Nat) (hq : lv[q]? = some (i, .int x)) (k : VV p l e R s m args below meth c cells slots Q D cA ad A nL S (pc + 1) lv (.int x :: st)) : VV p l e R s m args below meth c cells slots Q D cA ad A nL S pc lv (st) := fun H locs ls hR hS hl => lv_iload_n X.1.1 X.1.2.1 hd hi (lv_at hl q hq) (k H locs ls hR hS hl)
theorem v_lload_n (X : Cx p R m c cc nL s args own cells slots D cA ad A) {k9 : Fin 4} {i : Nat} {x : Int64} (hd : decode cc pc = .ok (.lload_n k9, 1)) (hi : (k9 : Nat) = i) (q : Nat) (hq : lv[q]? = some (i, .long x)) (k : VV p l e R s m args below meth c cells slots Q D cA ad A nL S (pc + 1) lv (.long x :: st)) : VV p l e R s m args below meth c cells slots Q D cA ad A nL S pc lv (st) := fun H locs ls hR hS hl => lv_lload_n X.1.1 X.1.2.1 hd hi (lv_at hl q hq) (k H locs ls hR hS hl)
theorem v_aload_n (X : Cx p R m c cc nL s args own cells slots D cA ad A) {k9 : Fin 4} {i : Nat} {x : Nat} (hd : decode cc pc = .ok (.aload_n k9, 1)) (hi : (k9 : Nat) = i) (q : Nat) (hq : lv[q]? = some (i, .ref x)) (k : VV p l e R s m args below meth c cells slots Q D cA ad A nL S (pc + 1) lv (.ref x :: st)) : VV p l e R s m args below meth c cells slots Q D cA ad A nL S pc lv (st) := fun H locs ls hR hS hl => lv_aload_n X.1.1 X.1.2.1 hd hi (lv_at hl q hq) (k H locs ls hR hS hl)
theorem v_iload (X : Cx p R m c cc nL s args own cells slots D cA ad A) {i : Nat} {x : Int32} (hd : decode cc pc = .ok (.iload i, 2)) (q : Nat) (hq : lv[q]? = some (i, .int x)) (k : VV p l e R s m args below meth c cells slots Q D cA ad A nL S (pc + 2) lv (.int x :: st)) : VV p l e R s m args below meth c cells slots Q D cA ad A nL S pc lv (st) := fun H locs ls hR hS hl => lv_iload X.1.1 X.1.2.1 hd (lv_at hl q hq) (k H locs ls hR hS hl)
theorem v_lload (X : Cx p R m c cc nL s args own cells slots D cA ad A) {i : Nat} {x : Int64} (hd : decode cc pc = .ok (.lload i, 2)) (q : Nat) (hq : lv[q]? = some (i, .long x)) (k : VV p l e R s m args below meth c cells slots Q D cA ad A nL S (pc + 2) lv (.long x :: st)) : VV p l e R s m args below meth c cells slots Q D cA ad A nL S pc lv (st) := fun H locs ls hR hS hl => lv_lload X.1.1 X.1.2.1 hd (lv_at hl q hq) (k H locs ls hR hS hl)
theorem v_istore_n (X : Cx p R m c cc nL s args own cells slots D cA ad A) {k9 : Fin 4} {i : Nat} {x : Int32} (lv' : List (Nat × Value)) (hd : decode cc pc = .ok (.istore_n k9, 1)) (hi : (k9 : Nat) = i) (hn : i < nL) (hl0 : (i, Value.int x) :: lv.filter (fun q => !(q.1 == i) && !(q.1 + 1 == i && q.2.category == 2)) = lv') (k : VV p l e R s m args below meth c cells slots Q D cA ad A nL S (pc + 1) lv' st) : VV p l e R s m args below meth c cells slots Q D cA ad A nL S pc lv (.int x :: st) := fun H locs ls hR hS hl => lv_istore_n X.1.1 X.1.2.1 hd hi hl hn hl0 (fun ls hl => k H locs ls hR hS hl)
theorem v_astore_n (X : Cx p R m c cc nL s args own cells slots D cA ad A) {k9 : Fin 4} {i : Nat} {x : Nat} (lv' : List (Nat × Value)) (hd : decode cc pc = .ok (.astore_n k9, 1)) (hi : (k9 : Nat) = i) (hn : i < nL) (hl0 : (i, Value.ref x) :: lv.filter (fun q => !(q.1 == i) && !(q.1 + 1 == i && q.2.category == 2)) = lv') (k : VV p l e R s m args below meth c cells slots Q D cA ad A nL S (pc + 1) lv' st) : VV p l e R s m args below meth c cells slots Q D cA ad A nL S pc lv (.ref x :: st) := fun H locs ls hR hS hl => lv_astore_n X.1.1 X.1.2.1 hd hi hl hn hl0 (fun ls hl => k H locs ls hR hS hl)
theorem v_istore (X : Cx p R m c cc nL s args own cells slots D cA ad A) {i : Nat} {x : Int32} (lv' : List (Nat × Value)) (hd : decode cc pc = .ok (.istore i, 2)) (hn : i < nL) (hl0 : (i, Value.int x) :: lv.filter (fun q => !(q.1 == i) && !(q.1 + 1 == i && q.2.category == 2)) = lv') (k : VV p l e R s m args below meth c cells slots Q D cA ad A nL S (pc + 2) lv' st) : VV p l e R s m args below meth c cells slots Q D cA ad A nL S pc lv (.int x :: st) := fun H locs ls hR hS hl => lv_istore X.1.1 X.1.2.1 hd hl hn hl0 (fun ls hl => k H locs ls hR hS hl)
theorem v_iinc (X : Cx p R m c cc nL s args own cells slots D cA ad A) {i : Nat} {n : Int} {x v : Int32} (lv' : List (Nat × Value)) (hd : decode cc pc = .ok (.iinc i n, 3)) (q : Nat) (hq : lv[q]? = some (i, .int x)) (hv : x + Int32.ofInt n = v) (hn : i < nL) (hl0 : (i, Value.int v) :: lv.filter (fun q => !(q.1 == i) && !(q.1 + 1 == i && q.2.category == 2)) = lv') (k : VV p l e R s m args below meth c cells slots Q D cA ad A nL S (pc + 3) lv' st) : VV p l e R s m args below meth c cells slots Q D cA ad A nL S pc lv st := fun H locs ls hR hS hl => lv_iinc X.1.1 X.1.2.1 hd hl hq hv hn hl0 (fun ls hl => k H locs ls hR hS hl)
theorem v_iadd (X : Cx p R m c cc nL s args own cells slots D cA ad A) {x y : Int32} (hd : decode cc pc = .ok (.iadd, 1))  (k : VV p l e R s m args below meth c cells slots Q D cA ad A nL S (pc + 1) lv (.int (x + y) :: st)) : VV p l e R s m args below meth c cells slots Q D cA ad A nL S pc lv (.int y :: .int x :: st) := fun H locs ls hR hS hl => lv_iadd X.1.1 X.1.2.1 hd (k H locs ls hR hS hl)
theorem v_isub (X : Cx p R m c cc nL s args own cells slots D cA ad A) {x y : Int32} (hd : decode cc pc = .ok (.isub, 1))  (k : VV p l e R s m args below meth c cells slots Q D cA ad A nL S (pc + 1) lv (.int (x - y) :: st)) : VV p l e R s m args below meth c cells slots Q D cA ad A nL S pc lv (.int y :: .int x :: st) := fun H locs ls hR hS hl => lv_isub X.1.1 X.1.2.1 hd (k H locs ls hR hS hl)
theorem v_imul (X : Cx p R m c cc nL s args own cells slots D cA ad A) {x y : Int32} (hd : decode cc pc = .ok (.imul, 1))  (k : VV p l e R s m args below meth c cells slots Q D cA ad A nL S (pc + 1) lv (.int (x * y) :: st)) : VV p l e R s m args below meth c cells slots Q D cA ad A nL S pc lv (.int y :: .int x :: st) := fun H locs ls hR hS hl => lv_imul X.1.1 X.1.2.1 hd (k H locs ls hR hS hl)
theorem v_iand (X : Cx p R m c cc nL s args own cells slots D cA ad A) {x y : Int32} (hd : decode cc pc = .ok (.iand, 1))  (k : VV p l e R s m args below meth c cells slots Q D cA ad A nL S (pc + 1) lv (.int (x &&& y) :: st)) : VV p l e R s m args below meth c cells slots Q D cA ad A nL S pc lv (.int y :: .int x :: st) := fun H locs ls hR hS hl => lv_iand X.1.1 X.1.2.1 hd (k H locs ls hR hS hl)
theorem v_ior (X : Cx p R m c cc nL s args own cells slots D cA ad A) {x y : Int32} (hd : decode cc pc = .ok (.ior, 1))  (k : VV p l e R s m args below meth c cells slots Q D cA ad A nL S (pc + 1) lv (.int (x ||| y) :: st)) : VV p l e R s m args below meth c cells slots Q D cA ad A nL S pc lv (.int y :: .int x :: st) := fun H locs ls hR hS hl => lv_ior X.1.1 X.1.2.1 hd (k H locs ls hR hS hl)
theorem v_ishl (X : Cx p R m c cc nL s args own cells slots D cA ad A) {x y : Int32} (hd : decode cc pc = .ok (.ishl, 1))  (k : VV p l e R s m args below meth c cells slots Q D cA ad A nL S (pc + 1) lv (.int (x <<< (y &&& 31)) :: st)) : VV p l e R s m args below meth c cells slots Q D cA ad A nL S pc lv (.int y :: .int x :: st) := fun H locs ls hR hS hl => lv_ishl X.1.1 X.1.2.1 hd (k H locs ls hR hS hl)
theorem v_ishr (X : Cx p R m c cc nL s args own cells slots D cA ad A) {x y : Int32} (hd : decode cc pc = .ok (.ishr, 1))  (k : VV p l e R s m args below meth c cells slots Q D cA ad A nL S (pc + 1) lv (.int (x >>> (y &&& 31)) :: st)) : VV p l e R s m args below meth c cells slots Q D cA ad A nL S pc lv (.int y :: .int x :: st) := fun H locs ls hR hS hl => lv_ishr X.1.1 X.1.2.1 hd (k H locs ls hR hS hl)
theorem v_idiv (X : Cx p R m c cc nL s args own cells slots D cA ad A) {x y : Int32} (hd : decode cc pc = .ok (.idiv, 1)) (hne : ¬ y = 0) (k : VV p l e R s m args below meth c cells slots Q D cA ad A nL S (pc + 1) lv (.int (x / y) :: st)) : VV p l e R s m args below meth c cells slots Q D cA ad A nL S pc lv (.int y :: .int x :: st) := fun H locs ls hR hS hl => lv_idiv X.1.1 X.1.2.1 hd hne (k H locs ls hR hS hl)
theorem v_i2l (X : Cx p R m c cc nL s args own cells slots D cA ad A) {x : Int32} (hd : decode cc pc = .ok (.i2l, 1))  (k : VV p l e R s m args below meth c cells slots Q D cA ad A nL S (pc + 1) lv (.long x.toInt64 :: st)) : VV p l e R s m args below meth c cells slots Q D cA ad A nL S pc lv (.int x :: st) := fun H locs ls hR hS hl => lv_i2l X.1.1 X.1.2.1 hd rfl (k H locs ls hR hS hl)
theorem v_lcmp (X : Cx p R m c cc nL s args own cells slots D cA ad A) {x y : Int64} (hd : decode cc pc = .ok (.lcmp, 1))  (k : VV p l e R s m args below meth c cells slots Q D cA ad A nL S (pc + 1) lv (.int (lg_cmp x y) :: st)) : VV p l e R s m args below meth c cells slots Q D cA ad A nL S pc lv (.long y :: .long x :: st) := fun H locs ls hR hS hl => W.lcmp X.1.1 X.1.2.1 hd (k H locs ls hR hS hl)
theorem v_dup (X : Cx p R m c cc nL s args own cells slots D cA ad A) {va : Value} (hd : decode cc pc = .ok (.dup, 1)) (hc : va.category = 1) (k : VV p l e R s m args below meth c cells slots Q D cA ad A nL S (pc + 1) lv (va :: va :: st)) : VV p l e R s m args below meth c cells slots Q D cA ad A nL S pc lv (va :: st) := fun H locs ls hR hS hl => lv_dup X.1.1 X.1.2.1 hd hc (k H locs ls hR hS hl)
theorem v_dup2 (X : Cx p R m c cc nL s args own cells slots D cA ad A) {va vb : Value} (hd : decode cc pc = .ok (.dup2, 1)) (hc : va.category = 1) (hc2 : vb.category = 1) (k : VV p l e R s m args below meth c cells slots Q D cA ad A nL S (pc + 1) lv (va :: vb :: va :: vb :: st)) : VV p l e R s m args below meth c cells slots Q D cA ad A nL S pc lv (va :: vb :: st) := fun H locs ls hR hS hl => lv_dup2_11 X.1.1 X.1.2.1 hd hc hc2 (k H locs ls hR hS hl)
theorem v_pop (X : Cx p R m c cc nL s args own cells slots D cA ad A) {va : Value} (hd : decode cc pc = .ok (.pop, 1)) (hc : va.category = 1) (k : VV p l e R s m args below meth c cells slots Q D cA ad A nL S (pc + 1) lv (st)) : VV p l e R s m args below meth c cells slots Q D cA ad A nL S pc lv (va :: st) := fun H locs ls hR hS hl => lv_pop X.1.1 X.1.2.1 hd hc (k H locs ls hR hS hl)
theorem v_goto (X : Cx p R m c cc nL s args own cells slots D cA ad A) {off : Int} (tgt : Nat) (hd : decode cc pc = .ok (.goto off, 3)) (ht : (pc : Int) + off = (tgt : Int)) (k : VV p l e R s m args below meth c cells slots Q D cA ad A nL S tgt lv st) : VV p l e R s m args below meth c cells slots Q D cA ad A nL S pc lv st := fun H locs ls hR hS hl => lv_goto X.1.1 X.1.2.1 hd ht (k H locs ls hR hS hl)
theorem v_if_eq (X : Cx p R m c cc nL s args own cells slots D cA ad A) {x : Int32} {off : Int} (tgt : Nat) (hd : decode cc pc = .ok (.ifCond .eq off, 3)) (ht : (pc : Int) + off = (tgt : Int)) (kt : x = 0 → VV p l e R s m args below meth c cells slots Q D cA ad A nL S tgt lv st) (kf : ¬ x = 0 → VV p l e R s m args below meth c cells slots Q D cA ad A nL S (pc + 3) lv st) : VV p l e R s m args below meth c cells slots Q D cA ad A nL S pc lv (.int x :: st) := fun H locs ls hR hS hl => lv_if_eq X.1.1 X.1.2.1 hd ht (fun h => kt h H locs ls hR hS hl) (fun h => kf h H locs ls hR hS hl)
theorem v_if_ne (X : Cx p R m c cc nL s args own cells slots D cA ad A) {x : Int32} {off : Int} (tgt : Nat) (hd : decode cc pc = .ok (.ifCond .ne off, 3)) (ht : (pc : Int) + off = (tgt : Int)) (kt : ¬ x = 0 → VV p l e R s m args below meth c cells slots Q D cA ad A nL S tgt lv st) (kf : x = 0 → VV p l e R s m args below meth c cells slots Q D cA ad A nL S (pc + 3) lv st) : VV p l e R s m args below meth c cells slots Q D cA ad A nL S pc lv (.int x :: st) := fun H locs ls hR hS hl => lv_if_ne X.1.1 X.1.2.1 hd ht (fun h => kt h H locs ls hR hS hl) (fun h => kf h H locs ls hR hS hl)
theorem v_if_lt (X : Cx p R m c cc nL s args own cells slots D cA ad A) {x : Int32} {off : Int} (tgt : Nat) (hd : decode cc pc = .ok (.ifCond .lt off, 3)) (ht : (pc : Int) + off = (tgt : Int)) (kt : x < 0 → VV p l e R s m args below meth c cells slots Q D cA ad A nL S tgt lv st) (kf : ¬ x < 0 → VV p l e R s m args below meth c cells slots Q D cA ad A nL S (pc + 3) lv st) : VV p l e R s m args below meth c cells slots Q D cA ad A nL S pc lv (.int x :: st) := fun H locs ls hR hS hl => lv_if_lt X.1.1 X.1.2.1 hd ht (fun h => kt h H locs ls hR hS hl) (fun h => kf h H locs ls hR hS hl)
theorem v_if_ge (X : Cx p R m c cc nL s args own cells slots D cA ad A) {x : Int32} {off : Int} (tgt : Nat) (hd : decode cc pc = .ok (.ifCond .ge off, 3)) (ht : (pc : Int) + off = (tgt : Int)) (kt : 0 ≤ x → VV p l e R s m args below meth c cells slots Q D cA ad A nL S tgt lv st) (kf : ¬ 0 ≤ x → VV p l e R s m args below meth c cells slots Q D cA ad A nL S (pc + 3) lv st) : VV p l e R s m args below meth c cells slots Q D cA ad A nL S pc lv (.int x :: st) := fun H locs ls hR hS hl => lv_if_ge X.1.1 X.1.2.1 hd ht (fun h => kt h H locs ls hR hS hl) (fun h => kf h H locs ls hR hS hl)
theorem v_if_gt (X : Cx p R m c cc nL s args own cells slots D cA ad A) {x : Int32} {off : Int} (tgt : Nat) (hd : decode cc pc = .ok (.ifCond .gt off, 3)) (ht : (pc : Int) + off = (tgt : Int)) (kt : 0 < x → VV p l e R s m args below meth c cells slots Q D cA ad A nL S tgt lv st) (kf : ¬ 0 < x → VV p l e R s m args below meth c cells slots Q D cA ad A nL S (pc + 3) lv st) : VV p l e R s m args below meth c cells slots Q D cA ad A nL S pc lv (.int x :: st) := fun H locs ls hR hS hl => lv_if_gt X.1.1 X.1.2.1 hd ht (fun h => kt h H locs ls hR hS hl) (fun h => kf h H locs ls hR hS hl)
theorem v_if_le (X : Cx p R m c cc nL s args own cells slots D cA ad A) {x : Int32} {off : Int} (tgt : Nat) (hd : decode cc pc = .ok (.ifCond .le off, 3)) (ht : (pc : Int) + off = (tgt : Int)) (kt : x ≤ 0 → VV p l e R s m args below meth c cells slots Q D cA ad A nL S tgt lv st) (kf : ¬ x ≤ 0 → VV p l e R s m args below meth c cells slots Q D cA ad A nL S (pc + 3) lv st) : VV p l e R s m args below meth c cells slots Q D cA ad A nL S pc lv (.int x :: st) := fun H locs ls hR hS hl => lv_if_le X.1.1 X.1.2.1 hd ht (fun h => kt h H locs ls hR hS hl) (fun h => kf h H locs ls hR hS hl)
theorem v_icmp_eq (X : Cx p R m c cc nL s args own cells slots D cA ad A) {x y : Int32} {off : Int} (tgt : Nat) (hd : decode cc pc = .ok (.if_icmp .eq off, 3)) (ht : (pc : Int) + off = (tgt : Int)) (kt : x = y → VV p l e R s m args below meth c cells slots Q D cA ad A nL S tgt lv st) (kf : ¬ x = y → VV p l e R s m args below meth c cells slots Q D cA ad A nL S (pc + 3) lv st) : VV p l e R s m args below meth c cells slots Q D cA ad A nL S pc lv (.int y :: .int x :: st) := fun H locs ls hR hS hl => lv_icmp_eq X.1.1 X.1.2.1 hd ht (fun h => kt h H locs ls hR hS hl) (fun h => kf h H locs ls hR hS hl)
theorem v_icmp_ne (X : Cx p R m c cc nL s args own cells slots D cA ad A) {x y : Int32} {off : Int} (tgt : Nat) (hd : decode cc pc = .ok (.if_icmp .ne off, 3)) (ht : (pc : Int) + off = (tgt : Int)) (kt : ¬ x = y → VV p l e R s m args below meth c cells slots Q D cA ad A nL S tgt lv st) (kf : x = y → VV p l e R s m args below meth c cells slots Q D cA ad A nL S (pc + 3) lv st) : VV p l e R s m args below meth c cells slots Q D cA ad A nL S pc lv (.int y :: .int x :: st) := fun H locs ls hR hS hl => lv_icmp_ne X.1.1 X.1.2.1 hd ht (fun h => kt h H locs ls hR hS hl) (fun h => kf h H locs ls hR hS hl)
theorem v_icmp_lt (X : Cx p R m c cc nL s args own cells slots D cA ad A) {x y : Int32} {off : Int} (tgt : Nat) (hd : decode cc pc = .ok (.if_icmp .lt off, 3)) (ht : (pc : Int) + off = (tgt : Int)) (kt : x < y → VV p l e R s m args below meth c cells slots Q D cA ad A nL S tgt lv st) (kf : ¬ x < y → VV p l e R s m args below meth c cells slots Q D cA ad A nL S (pc + 3) lv st) : VV p l e R s m args below meth c cells slots Q D cA ad A nL S pc lv (.int y :: .int x :: st) := fun H locs ls hR hS hl => lv_icmp_lt X.1.1 X.1.2.1 hd ht (fun h => kt h H locs ls hR hS hl) (fun h => kf h H locs ls hR hS hl)
theorem v_icmp_ge (X : Cx p R m c cc nL s args own cells slots D cA ad A) {x y : Int32} {off : Int} (tgt : Nat) (hd : decode cc pc = .ok (.if_icmp .ge off, 3)) (ht : (pc : Int) + off = (tgt : Int)) (kt : y ≤ x → VV p l e R s m args below meth c cells slots Q D cA ad A nL S tgt lv st) (kf : ¬ y ≤ x → VV p l e R s m args below meth c cells slots Q D cA ad A nL S (pc + 3) lv st) : VV p l e R s m args below meth c cells slots Q D cA ad A nL S pc lv (.int y :: .int x :: st) := fun H locs ls hR hS hl => lv_icmp_ge X.1.1 X.1.2.1 hd ht (fun h => kt h H locs ls hR hS hl) (fun h => kf h H locs ls hR hS hl)
theorem v_icmp_gt (X : Cx p R m c cc nL s args own cells slots D cA ad A) {x y : Int32} {off : Int} (tgt : Nat) (hd : decode cc pc = .ok (.if_icmp .gt off, 3)) (ht : (pc : Int) + off = (tgt : Int)) (kt : y < x → VV p l e R s m args below meth c cells slots Q D cA ad A nL S tgt lv st) (kf : ¬ y < x → VV p l e R s m args below meth c cells slots Q D cA ad A nL S (pc + 3) lv st) : VV p l e R s m args below meth c cells slots Q D cA ad A nL S pc lv (.int y :: .int x :: st) := fun H locs ls hR hS hl => lv_icmp_gt X.1.1 X.1.2.1 hd ht (fun h => kt h H locs ls hR hS hl) (fun h => kf h H locs ls hR hS hl)
theorem v_icmp_le (X : Cx p R m c cc nL s args own cells slots D cA ad A) {x y : Int32} {off : Int} (tgt : Nat) (hd : decode cc pc = .ok (.if_icmp .le off, 3)) (ht : (pc : Int) + off = (tgt : Int)) (kt : x ≤ y → VV p l e R s m args below meth c cells slots Q D cA ad A nL S tgt lv st) (kf : ¬ x ≤ y → VV p l e R s m args below meth c cells slots Q D cA ad A nL S (pc + 3) lv st) : VV p l e R s m args below meth c cells slots Q D cA ad A nL S pc lv (.int y :: .int x :: st) := fun H locs ls hR hS hl => lv_icmp_le X.1.1 X.1.2.1 hd ht (fun h => kt h H locs ls hR hS hl) (fun h => kf h H locs ls hR hS hl)
theorem v_sub {lv' : List (Nat × Value)} (ks : List Nat) (hk : lv_pick lv ks = lv') (k : VV p l e R s m args below meth c cells slots Q D cA ad A nL S pc lv' st) : VV p l e R s m args below meth c cells slots Q D cA ad A nL S pc lv st := fun H locs ls hR hS hl => k H locs ls hR hS (lv_sub hl ks hk)
theorem v_st (k : ∀ S1 : St, S1 = S → VV p l e R s m args below meth c cells slots Q D cA ad A nL S1 pc lv st) : VV p l e R s m args below meth c cells slots Q D cA ad A nL S pc lv st := k S rfl
theorem v_lv (lv' : List (Nat × Value)) (h : lv = lv') (k : VV p l e R s m args below meth c cells slots Q D cA ad A nL S pc lv' st) : VV p l e R s m args below meth c cells slots Q D cA ad A nL S pc lv st := h ▸ k
theorem v_topi {x : Int32} (k : ∀ y : Int32, y = x → VV p l e R s m args below meth c cells slots Q D cA ad A nL S pc lv (.int y :: st)) : VV p l e R s m args below meth c cells slots Q D cA ad A nL S pc lv (.int x :: st) := k x rfl

/-- a field's link: of the class 'own' at idx, the field k of the class ci -/
def FLk (own : String) (idx ci k : Nat) : Prop := ∃ (C : String) (T : u_T) (N : Nat) (ty : Nat → FieldType), kcl[ci]? = some (C, T, N) ∧ k < N ∧ N = nF ci ∧ (∀ w ∈ u_ws C T N, w ∈ wA) ∧ (∀ k, k < N → parseFieldDescriptor (T k).2.2.1 = some (ty k)) ∧ (∀ a, a < N → ∀ b, b < N → a ≠ b → (T a).2.1 ≠ (T b).2.1) ∧ Cond.fieldLink own idx (T k).1 (T k).2.1 (T k).2.2.1 ∈ wA ∧ (ft ci k = 0 → (T k).2.2.2 = false ∧ (T k).2.2.1 = "I")
theorem flk0 {own : String} {idx k : Nat} (hk : k < 16) (h : Cond.fieldLink own idx (TX0 k).1 (TX0 k).2.1 (TX0 k).2.2.1 ∈ wA) (h0 : ft 0 k = 0 → (TX0 k).2.2.2 = false ∧ (TX0 k).2.2.1 = "I") : FLk own idx 0 k := ⟨RX0, TX0, 16, tyX0, rfl, hk, rfl, inlX0, tyX0_ok, nmX0, h, h0⟩
theorem flk1 {own : String} {idx k : Nat} (hk : k < 2) (h : Cond.fieldLink own idx (TX1 k).1 (TX1 k).2.1 (TX1 k).2.2.1 ∈ wA) (h0 : ft 1 k = 0 → (TX1 k).2.2.2 = false ∧ (TX1 k).2.2.1 = "I") : FLk own idx 1 k := ⟨RX1, TX1, 2, tyX1, rfl, hk, rfl, inlX1, tyX1_ok, nmX1, h, h0⟩
theorem flk2 {own : String} {idx k : Nat} (hk : k < 16) (h : Cond.fieldLink own idx (TX2 k).1 (TX2 k).2.1 (TX2 k).2.2.1 ∈ wA) (h0 : ft 2 k = 0 → (TX2 k).2.2.2 = false ∧ (TX2 k).2.2.1 = "I") : FLk own idx 2 k := ⟨RX2, TX2, 16, tyX2, rfl, hk, rfl, inlX2, tyX2_ok, nmX2, h, h0⟩
theorem flk3 {own : String} {idx k : Nat} (hk : k < 4) (h : Cond.fieldLink own idx (TX3 k).1 (TX3 k).2.1 (TX3 k).2.2.1 ∈ wA) (h0 : ft 3 k = 0 → (TX3 k).2.2.2 = false ∧ (TX3 k).2.2.1 = "I") : FLk own idx 3 k := ⟨RX3, TX3, 4, tyX3, rfl, hk, rfl, inlX3, tyX3_ok, nmX3, h, h0⟩
theorem flk4 {own : String} {idx k : Nat} (hk : k < 18) (h : Cond.fieldLink own idx (TX4 k).1 (TX4 k).2.1 (TX4 k).2.2.1 ∈ wA) (h0 : ft 4 k = 0 → (TX4 k).2.2.2 = false ∧ (TX4 k).2.2.1 = "I") : FLk own idx 4 k := ⟨RX4, TX4, 18, tyX4, rfl, hk, rfl, inlX4, tyX4_ok, nmX4, h, h0⟩

theorem v_get (X : Cx p R m c cc nL s args own cells slots D cA ad A) {o ci k idx : Nat} {v : Value} (hf : FLk own idx ci k) (ho : o < 11) (hk : kd o = ci) (hd : decode cc pc = .ok (.getfield idx, 3)) (hv : fv ad S ci o k = v) (kk : VV p l e R s m args below meth c cells slots Q D cA ad A nL S (pc + 3) lv (v :: st)) : VV p l e R s m args below meth c cells slots Q D cA ad A nL S pc lv (.ref (ad o 0) :: st) := by
  intro H locs ls hR hS hl
  obtain ⟨C, T, N, ty, hc, hkN, hN, hin, -, -, hw, -⟩ := hf
  obtain ⟨i, -, hi⟩ := wl_get (cA := cA) (ad := ad) (S := S) (celL_obj o ho)
  refine va_get (D := D) (ci := ci) (v := v) (C := C) (T := T) (N := N) X.1.1 X.1.2.1 X.1.2.2.2.2 hin X.1.2.2.2.1 X.2.1.1 hR.1 i (fs := (List.range (nF ci)).map (fv ad S ci o)) (by rw [hi]; subst hk; rfl) hc k hkN (X.1.2.2.2.2 _ hw) (fun _ h9 => h9) ?_ hd (kk H locs ls hR hS hl)
  rw [List.getElem?_map, List.getElem?_range (by omega)]
  exact congrArg some hv
theorem v_put (X : Cx p R m c cc nL s args own cells slots D cA ad A) {o ci k idx : Nat} {x : Int32} (hf : FLk own idx ci k) (ho : o < 11) (hk : kd o = ci) (h0 : ft ci k = 0) (hd : decode cc pc = .ok (.putfield idx, 3)) (kk : VV p l e R s m args below meth c cells slots Q D cA ad A nL (up3 S o k 0 x) (pc + 3) lv st) : VV p l e R s m args below meth c cells slots Q D cA ad A nL S pc lv (.int x :: .ref (ad o 0) :: st) := by
  intro H locs ls hR hS hl
  obtain ⟨C, T, N, ty, hc, hkN, hN, hin, hty, hnm, hw, hfin⟩ := hf
  obtain ⟨i, hi0, hi⟩ := wl_get (cA := cA) (ad := ad) (S := S) (celL_obj o ho)
  have hlen : k < ((List.range (nF ci)).map (fv ad S ci o)).length := by rw [List.length_map, List.length_range]; omega
  refine va_put (D := D) (ci := ci) (v := .int x) (ty := .int) (C := C) (T := T) (N := N) X.1.1 X.1.2.1 X.1.2.2.2.2 hin ty hty hnm X.1.2.2.2.1 X.2.1.1 hR.1 hR.2 hS i (fs := (List.range (nF ci)).map (fv ad S ci o)) (by rw [hi]; subst hk; rfl) hc k hkN (X.1.2.2.2.2 _ hw) (fun _ h9 => h9) (hfin h0).1 (by rw [(hfin h0).2]; decide +kernel) rfl rfl hlen hd (fun H1 locs1 hP1 hD1 hS1 => ?_)
  have e : (wl cA ad S).set i (ad o 0, .inr (ci, ((List.range (nF ci)).map (fv ad S ci o)).set k (.int x))) = wl cA ad (up3 S o k 0 x) := by
    have hk18 : k < 18 := by
      rw [hN] at hkN
      have h5 : ∀ c, c < 5 → nF c ≤ 18 := by decide
      exact Nat.lt_of_lt_of_le hkN (h5 ci (by rw [← hk]; exact kd_lt ho))
    refine wl_set' hi0 ?_ (cel_num (fun a b h => up3_ne h) (num_out o ho k hk18 (by rw [hk]; exact h0)))
    subst hk
    show Sum.inr (kd o, (List.range (nF (kd o))).map (fv ad (up3 S o k 0 x) (kd o) o)) = _
    congr 2
    apply List.ext_getElem?
    intro n
    rw [List.getElem?_set, List.getElem?_map, List.getElem?_map]
    by_cases hn : k = n
    · subst hn
      rw [if_pos rfl, if_pos hlen, List.getElem?_range (by omega)]
      show some (fv ad (up3 S o k 0 x) (kd o) o k) = _
      unfold fv
      rw [h0]
      simp [up3]
    · rw [if_neg hn]
      cases hq : (List.range (nF (kd o)))[n]? with
      | none => rfl
      | some n' =>
        have hnn : n' = n := by
          have h9 := List.getElem?_eq_some_iff.mp hq
          obtain ⟨h8, h7⟩ := h9
          rw [List.getElem_range] at h7
          exact h7.symm
        subst hnn
        show some (fv ad (up3 S o k 0 x) (kd o) o n') = some (fv ad S (kd o) o n')
        congr 1
        unfold fv
        split
        · rw [up3_ne (fun q => hn q.2.symm)]
        all_goals rfl
  exact kk H1 locs1 ls ⟨by rw [← e]; exact hP1, by rw [← e]; exact hD1⟩ hS1 hl
theorem cel_ints {o k : Nat} (h1 : ft (kd o) k = 1) : cel cA ad S o (k + 1) = .inl (cA 0, fl (kd o) k, .inl (S o k)) := by
  show (if ft (kd o) k = 3 then _ else _) = _
  rw [h1]
  rfl
theorem cel_bools {o k : Nat} (h1 : ft (kd o) k = 2) : cel cA ad S o (k + 1) = .inl (cA 1, fl (kd o) k, .inl (S o k)) := by
  show (if ft (kd o) k = 3 then _ else _) = _
  rw [h1]
  rfl
theorem cel_days {o k : Nat} (h1 : ft (kd o) k = 3) : cel cA ad S o (k + 1) = .inl (cA 2, fl (kd o) k, .inr (.inr (.inr (.inr (fun i => some (ad (S o k i).toNatClampNeg 0)))))) := by
  show (if ft (kd o) k = 3 then _ else _) = _
  rw [h1]
  rfl
theorem v_iald (X : Cx p R m c cc nL s args own cells slots D cA ad A) {o ci k n : Nat} {i : Int32} (ho : o < 11) (hk : kd o = ci) (h1 : ft ci k = 1) (hn : fl ci k = n) {j : Nat} (hj : i.toNatClampNeg = j) (hin : vp_in i n) (hd : decode cc pc = .ok (.iaload, 1)) (kk : VV p l e R s m args below meth c cells slots Q D cA ad A nL S (pc + 1) lv (.int (S o k j) :: st)) : VV p l e R s m args below meth c cells slots Q D cA ad A nL S pc lv (.int i :: .ref (ad o (k + 1)) :: st) := by
  subst hj
  intro H locs ls hR hS hl
  subst hk
  subst hn
  obtain ⟨q, -, hq⟩ := wl_get (cA := cA) (ad := ad) (S := S) (celL_arr ho (by rw [h1]; rfl))
  rw [cel_ints h1] at hq
  exact va_iald X.1.1 X.1.2.1 X.2.1.1 hR.1 q 0 hq rfl hin hd (kk H locs ls hR hS hl)
theorem v_zald (X : Cx p R m c cc nL s args own cells slots D cA ad A) {o ci k n : Nat} {i : Int32} (ho : o < 11) (hk : kd o = ci) (h1 : ft ci k = 2) (hn : fl ci k = n) {j : Nat} (hj : i.toNatClampNeg = j) (hin : vp_in i n) (hd : decode cc pc = .ok (.baload, 1)) (kk : VV p l e R s m args below meth c cells slots Q D cA ad A nL S (pc + 1) lv (.int (S o k j) :: st)) : VV p l e R s m args below meth c cells slots Q D cA ad A nL S pc lv (.int i :: .ref (ad o (k + 1)) :: st) := by
  subst hj
  intro H locs ls hR hS hl
  subst hk
  subst hn
  obtain ⟨q, -, hq⟩ := wl_get (cA := cA) (ad := ad) (S := S) (celL_arr ho (by rw [h1]; rfl))
  rw [cel_bools h1] at hq
  exact va_zald X.1.1 X.1.2.1 X.2.1.1 hR.1 q 1 hq rfl hin hd (kk H locs ls hR hS hl)
theorem v_aald (X : Cx p R m c cc nL s args own cells slots D cA ad A) {o ci k n d : Nat} {i : Int32} (ho : o < 11) (hk : kd o = ci) (h1 : ft ci k = 3) (hn : fl ci k = n) {j : Nat} (hj : i.toNatClampNeg = j) (hin : vp_in i n) (he : d = (S o k j).toNatClampNeg) (hd : decode cc pc = .ok (.aaload, 1)) (kk : VV p l e R s m args below meth c cells slots Q D cA ad A nL S (pc + 1) lv (.ref (ad d 0) :: st)) : VV p l e R s m args below meth c cells slots Q D cA ad A nL S pc lv (.int i :: .ref (ad o (k + 1)) :: st) := by
  subst hj
  intro H locs ls hR hS hl
  subst hk
  subst hn
  obtain ⟨q, -, hq⟩ := wl_get (cA := cA) (ad := ad) (S := S) (celL_arr ho (by rw [h1]; rfl))
  rw [cel_days h1] at hq
  subst he
  exact va_aldq X.1.1 X.1.2.1 X.2.1.1 hR.1 q 2 hq rfl hin hd (kk H locs ls hR hS hl)
theorem v_iast (X : Cx p R m c cc nL s args own cells slots D cA ad A) {o ci k n : Nat} {i x : Int32} (ho : o < 11) (hk : kd o = ci) (h1 : ft ci k = 1) (hn : fl ci k = n) {j : Nat} (hj : i.toNatClampNeg = j) (hin : vp_in i n) (hd : decode cc pc = .ok (.iastore, 1)) (kk : VV p l e R s m args below meth c cells slots Q D cA ad A nL (up3 S o k j x) (pc + 1) lv st) : VV p l e R s m args below meth c cells slots Q D cA ad A nL S pc lv (.int x :: .int i :: .ref (ad o (k + 1)) :: st) := by
  subst hj
  intro H locs ls hR hS hl
  subst hk
  subst hn
  obtain ⟨q, hq0, hq⟩ := wl_get (cA := cA) (ad := ad) (S := S) (celL_arr ho (by rw [h1]; rfl))
  rw [cel_ints h1] at hq
  refine va_iast X.1.1 X.1.2.1 X.2.1.1 hR.1 hR.2 hS q 0 hq rfl hin hd (fun H1 locs1 hP1 hD1 hS1 => ?_)
  have e := wl_set (cA := cA) (ad := ad) (S := S) (S' := up3 S o k i.toNatClampNeg x) hq0 (v := .inl (cA 0, fl (kd o) k, .inl (upd (S o k) i.toNatClampNeg x))) (by rw [cel_ints h1, up3_row]) (cel_row (by rw [h1]; decide) (fun a b h => up3_ne h))
  exact kk H1 locs1 ls ⟨by rw [← e]; exact hP1, by rw [← e]; exact hD1⟩ hS1 hl
/-- a boolean's number -/
def zb (r : Int32) : Prop := r = 0 ∨ r = 1
theorem zb_nar {r : Int32} (h : zb r) : vp_nar .boolean r = r := by
  rcases h with rfl | rfl <;> decide
theorem zb_narrow {r : Int32} (h : zb r) : narrow .boolean (.int r) = .int r := by
  rcases h with rfl | rfl <;> decide
theorem v_zast (X : Cx p R m c cc nL s args own cells slots D cA ad A) {o ci k n : Nat} {i x : Int32} (ho : o < 11) (hk : kd o = ci) (h1 : ft ci k = 2) (hn : fl ci k = n) (hz : zb x) {j : Nat} (hj : i.toNatClampNeg = j) (hin : vp_in i n) (hd : decode cc pc = .ok (.bastore, 1)) (kk : VV p l e R s m args below meth c cells slots Q D cA ad A nL (up3 S o k j x) (pc + 1) lv st) : VV p l e R s m args below meth c cells slots Q D cA ad A nL S pc lv (.int x :: .int i :: .ref (ad o (k + 1)) :: st) := by
  subst hj
  intro H locs ls hR hS hl
  subst hk
  subst hn
  obtain ⟨q, hq0, hq⟩ := wl_get (cA := cA) (ad := ad) (S := S) (celL_arr ho (by rw [h1]; rfl))
  rw [cel_bools h1] at hq
  refine va_zast X.1.1 X.1.2.1 X.2.1.1 hR.1 hR.2 hS q 1 hq rfl hin hd (fun H1 locs1 hP1 hD1 hS1 => ?_)
  rw [zb_nar hz] at hP1 hD1
  have e := wl_set (cA := cA) (ad := ad) (S := S) (S' := up3 S o k i.toNatClampNeg x) hq0 (v := .inl (cA 1, fl (kd o) k, .inl (upd (S o k) i.toNatClampNeg x))) (by rw [cel_bools h1, up3_row]) (cel_row (by rw [h1]; decide) (fun a b h => up3_ne h))
  exact kk H1 locs1 ls ⟨by rw [← e]; exact hP1, by rw [← e]; exact hD1⟩ hS1 hl
theorem v_aast (X : Cx p R m c cc nL s args own cells slots D cA ad A) {o ci k n d : Nat} {i : Int32} (ho : o < 11) (hk : kd o = ci) (h1 : ft ci k = 3) (hn : fl ci k = n) (hdd : d < 7) {j : Nat} (hj : i.toNatClampNeg = j) (hin : vp_in i n) (hd : decode cc pc = .ok (.aastore, 1)) (kk : VV p l e R s m args below meth c cells slots Q D cA ad A nL (up3 S o k j (nI d)) (pc + 1) lv st) : VV p l e R s m args below meth c cells slots Q D cA ad A nL S pc lv (.ref (ad d 0) :: .int i :: .ref (ad o (k + 1)) :: st) := by
  subst hj
  intro H locs ls hR hS hl
  subst hk
  subst hn
  obtain ⟨q, hq0, hq⟩ := wl_get (cA := cA) (ad := ad) (S := S) (celL_arr ho (by rw [h1]; rfl))
  rw [cel_days h1] at hq
  obtain ⟨q2, -, hq2⟩ := wl_get (cA := cA) (ad := ad) (S := S) (celL_obj d (by omega))
  have hq2 : (wl cA ad S)[q2]? = some (ad d 0, .inr (0, (List.range (nF (kd d))).map (fv ad S (kd d) d))) := by rw [hq2]; show some (_, Sum.inr (kd d, _)) = _; rw [kd_day hdd]
  refine va_astq X.1.1 X.1.2.1 X.2.1.1 hR.1 hR.2 hS q 2 q2 0 (r := (RX0, TX0, 16)) hq rfl hq2 rfl hin hd (fun H1 locs1 hP1 hD1 hS1 => ?_)
  have e := wl_set (cA := cA) (ad := ad) (S := S) (S' := up3 S o k i.toNatClampNeg (nI d)) hq0 (v := .inl (cA 2, fl (kd o) k, .inr (.inr (.inr (.inr (va_up (fun i => some (ad (S o k i).toNatClampNeg 0)) i.toNatClampNeg (some (ad d 0)))))))) (by
    have hfun : (fun j => some (ad (up3 S o k i.toNatClampNeg (nI d) o k j).toNatClampNeg 0)) = va_up (fun i => some (ad (S o k i).toNatClampNeg 0)) i.toNatClampNeg (some (ad d 0)) := by
      funext j
      by_cases hj : j = i.toNatClampNeg
      · subst hj
        simp [up3, va_up, nI_clamp (show d < 2 ^ 31 by omega)]
      · simp [up3, va_up, hj]
    rw [cel_days h1, hfun]) (cel_row (by rw [h1]; decide) (fun a b h => up3_ne h))
  exact kk H1 locs1 ls ⟨by rw [← e]; exact hP1, by rw [← e]; exact hD1⟩ hS1 hl
theorem v_copy (X : Cx p R m c cc nL s args own cells slots D cA ad A) {o ci k n o2 ci2 k2 n2 idx : Nat} {sp dp x : Int32} (ho : o < 11) (hk : kd o = ci) (h1 : ft ci k = 1) (hn : fl ci k = n) (ho2 : o2 < 11) (hk2 : kd o2 = ci2) (h12 : ft ci2 k2 = 1) (hn2 : fl ci2 k2 = n2) (hw : Cond.methodLink own idx arraycopyName ∈ wA) (hw1 : Cond.native arraycopyName ∈ wA) (hw2 : Cond.static arraycopyName ∈ wA) (hw3 : Cond.initialized "java/lang/System" ∈ wA) (g1 : ¬ sp < 0) (g2 : ¬ dp < 0) (g3 : ¬ x < 0) (g4 : sp.toNatClampNeg + x.toNatClampNeg ≤ n) (g5 : dp.toNatClampNeg + x.toNatClampNeg ≤ n2) (hfr : 1 ≤ R.frames) (hlo : (st.map fun v => v.category).sum + (nativeFrameWords "java/lang/System" "arraycopy" 5 + 11) ≤ R.locals) (hd : decode cc pc = .ok (.invokestatic idx, 3)) (kk : VV p l e R s m args below meth c cells slots Q D cA ad A nL (upA S o2 k2 (va_cpy (S o k) (S o2 k2) sp.toNatClampNeg dp.toNatClampNeg x.toNatClampNeg)) (pc + 3) lv st) : VV p l e R s m args below meth c cells slots Q D cA ad A nL S pc lv (.int x :: .int dp :: .ref (ad o2 (k2 + 1)) :: .int sp :: .ref (ad o (k + 1)) :: st) := by
  intro H locs ls hR hS hl
  subst hk
  subst hn
  subst hk2
  subst hn2
  obtain ⟨q, -, hq⟩ := wl_get (cA := cA) (ad := ad) (S := S) (celL_arr ho (by rw [h1]; rfl))
  rw [cel_ints h1] at hq
  obtain ⟨q2, hq20, hq2⟩ := wl_get (cA := cA) (ad := ad) (S := S) (celL_arr ho2 (by rw [h12]; rfl))
  rw [cel_ints h12] at hq2
  refine va_copyi (ty := .int) X.1.1 X.1.2.1 (by rw [X.1.2.2.1]; exact hl.1.symm) X.1.2.2.2.1 (X.1.2.2.2.2 _ hw) (X.1.2.2.2.2 _ hw1) (X.1.2.2.2.2 _ hw2) (X.1.2.2.2.2 _ hw3) X.2.1.1 hR.1 hR.2 hS q q2 0 0 hq hq2 rfl rfl rfl g1 g2 g3 g4 g5 (fun _ _ => rfl) hfr hlo hd (fun H1 locs1 hP1 hD1 hS1 => ?_)
  have e := wl_set (cA := cA) (ad := ad) (S := S) (S' := upA S o2 k2 (va_cpy (S o k) (S o2 k2) sp.toNatClampNeg dp.toNatClampNeg x.toNatClampNeg)) hq20 (v := .inl (cA 0, fl (kd o2) k2, .inl (va_cpy (S o k) (S o2 k2) sp.toNatClampNeg dp.toNatClampNeg x.toNatClampNeg))) (by rw [cel_ints h12, upA_row]) (cel_row (by rw [h12]; decide) (fun a b h => upA_ne h))
  exact kk H1 locs1 ls ⟨by rw [← e]; exact hP1, by rw [← e]; exact hD1⟩ hS1 hl
theorem v_mmax (X : Cx p R m c cc nL s args own cells slots D cA ad A) {idx : Nat} {x y : Int32} (hw : Cond.methodLink own idx Lib.Math.max.name ∈ wA) (hw1 : Cond.static Lib.Math.max.name ∈ wA) (hw2 : Cond.initialized "java/lang/Math" ∈ wA) (hw3 : Cond.code Lib.Math.max.name Lib.Math.max.code 2 (some .int) ∈ wA) (hfr : 1 ≤ R.frames) (hlo : (st.map fun v => v.category).sum + 13 ≤ R.locals) (hd : decode cc pc = .ok (.invokestatic idx, 3)) (kk : VV p l e R s m args below meth c cells slots Q D cA ad A nL S (pc + 3) lv (.int (if x < y then y else x) :: st)) : VV p l e R s m args below meth c cells slots Q D cA ad A nL S pc lv (.int y :: .int x :: st) := fun H locs ls hR hS hl => va_mmax X.1.1 X.1.2.1 (by rw [X.1.2.2.1]; exact hl.1.symm) X.1.2.2.2.1 (X.1.2.2.2.2 _ hw) (X.1.2.2.2.2 _ hw1) (X.1.2.2.2.2 _ hw2) (X.1.2.2.2.2 _ hw3) hfr hlo X.2.2.1 X.2.2.2 hd (kk H locs ls hR hS hl)
theorem v_mmin (X : Cx p R m c cc nL s args own cells slots D cA ad A) {idx : Nat} {x y : Int32} (hw : Cond.methodLink own idx Lib.Math.min.name ∈ wA) (hw1 : Cond.static Lib.Math.min.name ∈ wA) (hw2 : Cond.initialized "java/lang/Math" ∈ wA) (hw3 : Cond.code Lib.Math.min.name Lib.Math.min.code 2 (some .int) ∈ wA) (hfr : 1 ≤ R.frames) (hlo : (st.map fun v => v.category).sum + 13 ≤ R.locals) (hd : decode cc pc = .ok (.invokestatic idx, 3)) (kk : VV p l e R s m args below meth c cells slots Q D cA ad A nL S (pc + 3) lv (.int (if y < x then y else x) :: st)) : VV p l e R s m args below meth c cells slots Q D cA ad A nL S pc lv (.int y :: .int x :: st) := fun H locs ls hR hS hl => va_mmin X.1.1 X.1.2.1 (by rw [X.1.2.2.1]; exact hl.1.symm) X.1.2.2.2.1 (X.1.2.2.2.2 _ hw) (X.1.2.2.2.2 _ hw1) (X.1.2.2.2.2 _ hw2) (X.1.2.2.2.2 _ hw3) hfr hlo X.2.2.1 X.2.2.2 hd (kk H locs ls hR hS hl)
theorem v_getsL (X : Cx p R m c cc nL s args own cells slots D cA ad A) {idx : Nat} (hw : Cond.fieldLink own idx RX3 "LEAST_MINUTES" "[I" ∈ wA) (hd : decode cc pc = .ok (.getstatic idx, 3)) (kk : VV p l e R s m args below meth c cells slots Q D cA ad A nL S (pc + 3) lv (.ref (ad 11 0) :: st)) : VV p l e R s m args below meth c cells slots Q D cA ad A nL S pc lv st := fun H locs ls hR hS hl => va_gets X.1.1 X.1.2.1 X.2.1.2.2.2.1 hS X.1.2.2.2.1 (X.1.2.2.2.2 _ hw) (fun _ h => h) hd (kk H locs ls hR hS hl)
theorem v_getsM (X : Cx p R m c cc nL s args own cells slots D cA ad A) {idx : Nat} (hw : Cond.fieldLink own idx RX3 "MOST_MINUTES" "[I" ∈ wA) (hd : decode cc pc = .ok (.getstatic idx, 3)) (kk : VV p l e R s m args below meth c cells slots Q D cA ad A nL S (pc + 3) lv (.ref (ad 12 0) :: st)) : VV p l e R s m args below meth c cells slots Q D cA ad A nL S pc lv st := fun H locs ls hR hS hl => va_gets X.1.1 X.1.2.1 X.2.1.2.2.2.2.2.1 hS X.1.2.2.2.1 (X.1.2.2.2.2 _ hw) (fun _ h => h) hd (kk H locs ls hR hS hl)
theorem v_tiL (X : Cx p R m c cc nL s args own cells slots D cA ad A) {i : Int32} (hin : vp_in i 4) (hd : decode cc pc = .ok (.iaload, 1)) (kk : VV p l e R s m args below meth c cells slots Q D cA ad A nL S (pc + 1) lv (.int (tLeast i.toNatClampNeg) :: st)) : VV p l e R s m args below meth c cells slots Q D cA ad A nL S pc lv (.int i :: .ref (ad 11 0) :: st) := fun H locs ls hR hS hl => va_ti X.1.1 X.1.2.1 X.2.1.2.2.2.2.1 hS hin rfl hd (kk H locs ls hR hS hl)
theorem v_tiM (X : Cx p R m c cc nL s args own cells slots D cA ad A) {i : Int32} (hin : vp_in i 4) (hd : decode cc pc = .ok (.iaload, 1)) (kk : VV p l e R s m args below meth c cells slots Q D cA ad A nL S (pc + 1) lv (.int (tMost i.toNatClampNeg) :: st)) : VV p l e R s m args below meth c cells slots Q D cA ad A nL S pc lv (.int i :: .ref (ad 12 0) :: st) := fun H locs ls hR hS hl => va_ti X.1.1 X.1.2.1 X.2.1.2.2.2.2.2.2 hS hin rfl hd (kk H locs ls hR hS hl)
/-- a contract over the world -/
abbrev MT (l : Launch) (y : MethodName) (cY : ByteArray) (maxL : Nat) (ret : Option FieldType) (fr lo : Nat) (av : List Value) (D : va_G) (cA : Nat → ClassId) (ad : Nat → Nat → Nat) (A : Nat → Prop) (S : St) (Qc : Array Value → State → Outcome → State → Prop) : Prop := Met l y (.code y cY maxL ret :: wA) ({ frames := fr, cells := 0, slots := 0, locals := lo }) (va_Pc av (RepB D cA ad A S)) Qc 0 0 A
abbrev Qi (D : va_G) (cA : Nat → ClassId) (ad : Nat → Nat → Nat) (A : Nat → Prop) (K : Int32 → St → Prop) : Array Value → State → Outcome → State → Prop := va_Qi K (fun u t => Rep D cA ad A u t.heap) A
abbrev Qz (D : va_G) (cA : Nat → ClassId) (ad : Nat → Nat → Nat) (A : Nat → Prop) (K : Int32 → St → Prop) : Array Value → State → Outcome → State → Prop := va_Qi (fun r u => K r u ∧ zb r) (fun u t => Rep D cA ad A u t.heap) A
abbrev Qv (D : va_G) (cA : Nat → ClassId) (ad : Nat → Nat → Nat) (A : Nat → Prop) (K : St → Prop) : Array Value → State → Outcome → State → Prop := va_Qv K (fun u t => Rep D cA ad A u t.heap) A
/-- a method's own words, in every contract -/
def MW (y : MethodName) (cY : ByteArray) (maxL : Nat) (ret : Option FieldType) (n : Nat) : Prop := Cond.code y cY maxL ret ∈ wA ∧ Cond.initialized y.cls ∈ wA ∧ y.cls ≠ "java/lang/invoke/MethodHandle" ∧ y.cls ≠ "java/lang/invoke/VarHandle" ∧ (parseMethodDescriptor y.desc).map (fun d => d.parameters.length) = some n
theorem goodMW {y : MethodName} {cY : ByteArray} {maxL : Nat} {ret : Option FieldType} {n : Nat} (h : MW y cY maxL ret n) : GoodIn wA (.code y cY maxL ret :: wA) := by
  intro w hw
  have hm : w ∈ wA := by
    rcases List.mem_cons.mp hw with e | e
    · rw [e]; exact h.1
    · exact e
  exact ⟨hm, good_of_word (List.all_eq_true.mp goodAll w hm)⟩
def MV (own : String) (idx : Nat) (C : String) (y : MethodName) : Prop := Cond.methodLink own idx y ∈ wA ∧ Cond.instanceMethod y ∈ wA ∧ Cond.selects C y y ∈ wA ∧ y.cls = C
def MS (own : String) (idx : Nat) (y : MethodName) : Prop := Cond.methodLink own idx y ∈ wA ∧ Cond.static y ∈ wA
def kN (ci : Nat) : String := (kcl.getD ci (RX0, TX0, 16)).1
theorem v_runV (X : Cx p R m c cc nL s args own cells slots D cA ad A) {H : Heap} {locs : List Loc} {ls : Array Slot} {y : MethodName} {cY : ByteArray} {maxL n fr lo idx o ci : Nat} {ret : Option FieldType} {As rest : List Value} {Qc : Array Value → State → Outcome → State → Prop} (hR : Rep D cA ad A S H) (hS : va_S A s.heap H locs) (hl : lv_has ls nL lv)
    (hM : MT l y cY maxL ret fr lo (.ref (ad o 0) :: As) D cA ad A S Qc) (hm : MW y cY maxL ret n) (hv : MV own idx (kN ci) y) (ho : o < 11) (hk : kd o = ci) (hRo : fr + 1 ≤ R.frames ∧ 8 + (maxL + 11) + lo ≤ R.locals) (hn : As.length = n) (hW : (rest.map fun v => v.category).sum ≤ 8) (hd : decode cc pc = .ok (.invokevirtual idx, 3)) : va_Run p l e R s m args below meth c H locs cells slots 0 0 (F0 m pc ls (As.reverse ++ .ref (ad o 0) :: rest)) rest (Qc (Value.ref (ad o 0) :: As).toArray) A := by
  obtain ⟨i, -, hi⟩ := wl_get (cA := cA) (ad := ad) (S := S) (celL_obj o ho)
  have hci : ci < 5 := by rw [← hk]; exact kd_lt ho
  have hq : kcl[ci]? = some (kcl.getD ci (RX0, TX0, 16)) := by
    rw [List.getD_eq_getElem?_getD]
    have h5 : ∀ c, c < 5 → ∃ q, kcl[c]? = some q := by
      intro c hc
      exact ⟨kcl[c]'(by exact hc), List.getElem?_eq_getElem _⟩
    obtain ⟨q, h⟩ := h5 ci hci
    rw [h]
    rfl
  have hw := X.1.2.2.2.2
  refine va_runV (S := ⟨X.1.1, X.1.2.1, X.1.2.2.1, X.1.2.2.2.1, X.1.2.2.2.2⟩) (C := kN ci) (bytes := cY) (maxL := maxL) (ret := ret) (n := n) hM ⟨callB_of n hw (goodMW hm) rfl rfl rfl (hw _ hm.2.1) (hw _ hv.1) hm.2.2 hRo, hw _ hv.2.1, hw _ hv.2.2.1⟩ ⟨repB_blind, ?_, ?_⟩ rfl hn hl.1 rfl (lv_room hW) hd ⟨X.2.2.1, X.2.2.2⟩
  · exact va_recv (ci := ci) (q0 := i) X.2.1.1 hR.1 hq (by rw [hi]; subst hk; rfl)
  · intro U hU hWm
    exact ⟨rfl, by rw [hU]; exact hR, X.2.1.move hS hU hWm⟩
theorem v_callVi (X : Cx p R m c cc nL s args own cells slots D cA ad A) {y : MethodName} {cY : ByteArray} {maxL n fr lo idx o ci : Nat} {ret : Option FieldType} {As rest stk : List Value} {K : Int32 → St → Prop} (hM : MT l y cY maxL ret fr lo (.ref (ad o 0) :: As) D cA ad A S (Qi D cA ad A K)) (hm : MW y cY maxL ret n) (hv : MV own idx (kN ci) y) (ho : o < 11) (hk : kd o = ci) (hRo : fr + 1 ≤ R.frames ∧ 8 + (maxL + 11) + lo ≤ R.locals) (hn : As.length = n) (hW : (rest.map fun v => v.category).sum ≤ 8) (hst : stk = As.reverse ++ .ref (ad o 0) :: rest) (hd : decode cc pc = .ok (.invokevirtual idx, 3)) (kk : ∀ (r : Int32) (S' : St), K r S' → VV p l e R s m args below meth c cells slots Q D cA ad A nL S' (pc + 3) lv (.int r :: rest)) : VV p l e R s m args below meth c cells slots Q D cA ad A nL S pc lv stk := by
  intro H locs ls hR hS hl
  subst hst
  refine va_calli (v_runV X hR hS hl hM hm hv ho hk hRo hn hW hd) hS (fun _ _ h => h) (fun _ h => h) (fun r u t H1 locs1 ht _ hw hB _ _ hS1 => ?_)
  exact kk r u hw H1 locs1 ls (by rw [← ht]; exact hB) hS1 hl
theorem v_callVz (X : Cx p R m c cc nL s args own cells slots D cA ad A) {y : MethodName} {cY : ByteArray} {maxL n fr lo idx o ci : Nat} {ret : Option FieldType} {As rest stk : List Value} {K : Int32 → St → Prop} (hM : MT l y cY maxL ret fr lo (.ref (ad o 0) :: As) D cA ad A S (Qz D cA ad A K)) (hm : MW y cY maxL ret n) (hv : MV own idx (kN ci) y) (ho : o < 11) (hk : kd o = ci) (hRo : fr + 1 ≤ R.frames ∧ 8 + (maxL + 11) + lo ≤ R.locals) (hn : As.length = n) (hW : (rest.map fun v => v.category).sum ≤ 8) (hst : stk = As.reverse ++ .ref (ad o 0) :: rest) (hd : decode cc pc = .ok (.invokevirtual idx, 3)) (kk : ∀ (r : Int32) (S' : St), K r S' → zb r → VV p l e R s m args below meth c cells slots Q D cA ad A nL S' (pc + 3) lv (.int r :: rest)) : VV p l e R s m args below meth c cells slots Q D cA ad A nL S pc lv stk := by
  intro H locs ls hR hS hl
  subst hst
  refine va_calli (v_runV X hR hS hl hM hm hv ho hk hRo hn hW hd) hS (fun _ _ h => h) (fun _ h => h) (fun r u t H1 locs1 ht _ hw hB _ _ hS1 => ?_)
  exact kk r u hw.1 hw.2 H1 locs1 ls (by rw [← ht]; exact hB) hS1 hl
theorem v_callVv (X : Cx p R m c cc nL s args own cells slots D cA ad A) {y : MethodName} {cY : ByteArray} {maxL n fr lo idx o ci : Nat} {ret : Option FieldType} {As rest stk : List Value} {K : St → Prop} (hM : MT l y cY maxL ret fr lo (.ref (ad o 0) :: As) D cA ad A S (Qv D cA ad A K)) (hm : MW y cY maxL ret n) (hv : MV own idx (kN ci) y) (ho : o < 11) (hk : kd o = ci) (hRo : fr + 1 ≤ R.frames ∧ 8 + (maxL + 11) + lo ≤ R.locals) (hn : As.length = n) (hW : (rest.map fun v => v.category).sum ≤ 8) (hst : stk = As.reverse ++ .ref (ad o 0) :: rest) (hd : decode cc pc = .ok (.invokevirtual idx, 3)) (kk : ∀ (S' : St), K S' → VV p l e R s m args below meth c cells slots Q D cA ad A nL S' (pc + 3) lv rest) : VV p l e R s m args below meth c cells slots Q D cA ad A nL S pc lv stk := by
  intro H locs ls hR hS hl
  subst hst
  refine va_callv (v_runV X hR hS hl hM hm hv ho hk hRo hn hW hd) hS (fun _ _ h => h) (fun _ h => h) (fun u t H1 locs1 ht _ hw hB _ _ hS1 => ?_)
  exact kk u hw H1 locs1 ls (by rw [← ht]; exact hB) hS1 hl
theorem v_runS (X : Cx p R m c cc nL s args own cells slots D cA ad A) {H : Heap} {locs : List Loc} {ls : Array Slot} {y : MethodName} {cY : ByteArray} {maxL n fr lo idx : Nat} {ret : Option FieldType} {As rest : List Value} {Qc : Array Value → State → Outcome → State → Prop} (hR : Rep D cA ad A S H) (hS : va_S A s.heap H locs) (hl : lv_has ls nL lv)
    (hM : MT l y cY maxL ret fr lo As D cA ad A S Qc) (hm : MW y cY maxL ret n) (hv : MS own idx y) (hRo : fr + 1 ≤ R.frames ∧ 8 + (maxL + 11) + lo ≤ R.locals) (hn : As.length = n) (hW : (rest.map fun v => v.category).sum ≤ 8) (hd : decode cc pc = .ok (.invokestatic idx, 3)) : va_Run p l e R s m args below meth c H locs cells slots 0 0 (F0 m pc ls (As.reverse ++ rest)) rest (Qc As.toArray) A := by
  have hw := X.1.2.2.2.2
  refine va_runS (S := ⟨X.1.1, X.1.2.1, X.1.2.2.1, X.1.2.2.2.1, X.1.2.2.2.2⟩) (bytes := cY) (maxL := maxL) (ret := ret) (n := n) hM ⟨callB_of n hw (goodMW hm) rfl rfl rfl (hw _ hm.2.1) (hw _ hv.1) hm.2.2 hRo, hw _ hv.2⟩ ⟨repB_blind, ?_⟩ rfl hn hl.1 rfl (lv_room hW) hd ⟨X.2.2.1, X.2.2.2⟩
  intro U hU hWm
  exact ⟨rfl, by rw [hU]; exact hR, X.2.1.move hS hU hWm⟩
theorem v_callSz (X : Cx p R m c cc nL s args own cells slots D cA ad A) {y : MethodName} {cY : ByteArray} {maxL n fr lo idx : Nat} {ret : Option FieldType} {As rest stk : List Value} {K : Int32 → St → Prop} (hM : MT l y cY maxL ret fr lo As D cA ad A S (Qz D cA ad A K)) (hm : MW y cY maxL ret n) (hv : MS own idx y) (hRo : fr + 1 ≤ R.frames ∧ 8 + (maxL + 11) + lo ≤ R.locals) (hn : As.length = n) (hW : (rest.map fun v => v.category).sum ≤ 8) (hst : stk = As.reverse ++ rest) (hd : decode cc pc = .ok (.invokestatic idx, 3)) (kk : ∀ (r : Int32) (S' : St), K r S' → zb r → VV p l e R s m args below meth c cells slots Q D cA ad A nL S' (pc + 3) lv (.int r :: rest)) : VV p l e R s m args below meth c cells slots Q D cA ad A nL S pc lv stk := by
  intro H locs ls hR hS hl
  subst hst
  refine va_calli (v_runS X hR hS hl hM hm hv hRo hn hW hd) hS (fun _ _ h => h) (fun _ h => h) (fun r u t H1 locs1 ht _ hw hB _ _ hS1 => ?_)
  exact kk r u hw.1 hw.2 H1 locs1 ls (by rw [← ht]; exact hB) hS1 hl
theorem v_callSi (X : Cx p R m c cc nL s args own cells slots D cA ad A) {y : MethodName} {cY : ByteArray} {maxL n fr lo idx : Nat} {ret : Option FieldType} {As rest stk : List Value} {K : Int32 → St → Prop} (hM : MT l y cY maxL ret fr lo As D cA ad A S (Qi D cA ad A K)) (hm : MW y cY maxL ret n) (hv : MS own idx y) (hRo : fr + 1 ≤ R.frames ∧ 8 + (maxL + 11) + lo ≤ R.locals) (hn : As.length = n) (hW : (rest.map fun v => v.category).sum ≤ 8) (hst : stk = As.reverse ++ rest) (hd : decode cc pc = .ok (.invokestatic idx, 3)) (kk : ∀ (r : Int32) (S' : St), K r S' → VV p l e R s m args below meth c cells slots Q D cA ad A nL S' (pc + 3) lv (.int r :: rest)) : VV p l e R s m args below meth c cells slots Q D cA ad A nL S pc lv stk := by
  intro H locs ls hR hS hl
  subst hst
  refine va_calli (v_runS X hR hS hl hM hm hv hRo hn hW hd) hS (fun _ _ h => h) (fun _ h => h) (fun r u t H1 locs1 ht _ hw hB _ _ hS1 => ?_)
  exact kk r u hw H1 locs1 ls (by rw [← ht]; exact hB) hS1 hl
/-- the nest mate's static method, from Day and Plan -/
theorem v_callSN (X : Cx p R m c cc nL s args own cells slots D cA ad A) {y : MethodName} {cY : ByteArray} {maxL n fr lo idx : Nat} {ret : Option FieldType} {host : String} {As rest stk : List Value} {K : Int32 → St → Prop} (hM : MT l y cY maxL ret fr lo As D cA ad A S (Qi D cA ad A K)) (hm : MW y cY maxL ret n) (hst0 : Cond.static y ∈ wA) (hN : va_Nw (.methodLinkNest own idx y host) s) (hRo : fr + 1 ≤ R.frames ∧ 8 + (maxL + 11) + lo ≤ R.locals) (hn : As.length = n) (hW : (rest.map fun v => v.category).sum ≤ 8) (hst : stk = As.reverse ++ rest) (hd : decode cc pc = .ok (.invokestatic idx, 3)) (kk : ∀ (r : Int32) (S' : St), K r S' → VV p l e R s m args below meth c cells slots Q D cA ad A nL S' (pc + 3) lv (.int r :: rest)) : VV p l e R s m args below meth c cells slots Q D cA ad A nL S pc lv stk := by
  intro H locs ls hR hS hl
  subst hst
  have hw := X.1.2.2.2.2
  refine va_calli (va_runSN (S := ⟨X.1.1, X.1.2.1, X.1.2.2.1, X.1.2.2.2.1, X.1.2.2.2.2⟩) (bytes := cY) (maxL := maxL) (ret := ret) (n := n) hM ⟨va_cnB n hw (goodMW hm) rfl rfl rfl hN (hw _ hm.2.1) hm.2.2 hRo, hw _ hst0, trivial⟩ ⟨repB_blind, fun U hU hWm => ⟨rfl, by rw [hU]; exact hR, X.2.1.move hS hU hWm⟩⟩ rfl hn hl.1 rfl (lv_room hW) hd ⟨X.2.2.1, X.2.2.2⟩) hS (fun _ _ h => h) (fun _ h => h) (fun r u t H1 locs1 ht _ hw hB _ _ hS1 => ?_)
  exact kk r u hw H1 locs1 ls (by rw [← ht]; exact hB) hS1 hl
end VRows
section VEnds
variable {p : Program} {l : Launch} {e : Env} {R : Room} {s : State} {m : MethodId} {args : Array Value} {below : List Frame} {meth : Method} {c : Code} {cells slots : Nat} {D : va_G} {cA : Nat → ClassId} {ad : Nat → Nat → Nat} {A : Nat → Prop} {nL : Nat} {cc : ByteArray} {own : String} {S : St} {pc : Nat} {lv : List (Nat × Value)} {st : List Value}
theorem v_iret (X : Cx p R m c cc nL s args own cells slots D cA ad A) {v : Int32} {K : Int32 → St → Prop} (hr : meth.sig.returnType = some .int) (hlocks : meth.locks = false) (hd : decode cc pc = .ok (.ireturn, 1)) (hK : K v S) : VV p l e R s m args below meth c cells slots (MQ below (Qi D cA ad A K) args s cells slots A) D cA ad A nL S pc lv [.int v] := fun H locs ls hR hS hl => W.iret (hlocks := hlocks) X.1.1 X.1.2.1 hr (fun t ht hW => ⟨⟨v, S, rfl, hK, (show Rep D cA ad A S t.heap by rw [ht]; exact hR)⟩, hS.F ht⟩) hS.2.2 hd
theorem v_zret (X : Cx p R m c cc nL s args own cells slots D cA ad A) {v : Int32} {K : Int32 → St → Prop} (hr : meth.sig.returnType = some .boolean) (hlocks : meth.locks = false) (hd : decode cc pc = .ok (.ireturn, 1)) (hz : zb v) (hK : K v S) : VV p l e R s m args below meth c cells slots (MQ below (Qz D cA ad A K) args s cells slots A) D cA ad A nL S pc lv [.int v] := fun H locs ls hR hS hl => W.zret (hlocks := hlocks) X.1.1 X.1.2.1 hr (zb_narrow hz) (fun t ht hW => ⟨⟨v, S, rfl, ⟨hK, hz⟩, (show Rep D cA ad A S t.heap by rw [ht]; exact hR)⟩, hS.F ht⟩) hS.2.2 hd
theorem v_vret (X : Cx p R m c cc nL s args own cells slots D cA ad A) {K : St → Prop} (hr : meth.sig.returnType = none) (hlocks : meth.locks = false) (hd : decode cc pc = .ok (.return_, 1)) (hK : K S) : VV p l e R s m args below meth c cells slots (MQ below (Qv D cA ad A K) args s cells slots A) D cA ad A nL S pc lv [] := fun H locs ls hR hS hl => W.vret (hlocks := hlocks) X.1.1 X.1.2.1 hr (fun t ht hW => ⟨⟨S, rfl, hK, (show Rep D cA ad A S t.heap by rw [ht]; exact hR)⟩, hS.F ht⟩) hS.2.2 hd
end VEnds
/-- a contract out of a walk -/
theorem MT.ofV {l : Launch} {y : MethodName} {cY : ByteArray} {maxL : Nat} {ret : Option FieldType} {fr lo : Nat} {av : List Value} {D : va_G} {cA : Nat → ClassId} {ad : Nat → Nat → Nat} {A : Nat → Prop} {S : St} {Qc : Array Value → State → Outcome → State → Prop} (hy : plainName y.cls = true) (hlen : (lg_sl av).length ≤ maxL)
    (body : ∀ p e s m args below meth c, Cx p ({ frames := fr, cells := 0, slots := 0, locals := lo }) m c cY maxL s args y.cls 0 0 D cA ad A → meth.sig.returnType = ret → meth.locks = false → VV p l e ({ frames := fr, cells := 0, slots := 0, locals := lo }) s m args below meth c 0 0 (MQ below Qc args s 0 0 A) D cA ad A maxL S 0 (lv_args 0 av) []) : MT l y cY maxL ret fr lo av D cA ad A S Qc := by
  refine Met.ofW (cc := cY) (maxL := maxL) (ret := ret) hy rfl ?_
  intro p e s m args below meth c s₁ B hml hv
  obtain ⟨rfl, hRep, hWd⟩ := hv
  have hts := atoms_spec (ws := Cond.code y cY maxL ret :: wA) B.pre
  have hown : s.vm.findClass y.cls = some m.cls := findClass_of_methodNamed B.named
  have hl := lv_entry av (n := maxL) hlen
  rw [lg_entry_eq]
  exact body p e s m _ below meth c ⟨⟨B.exec, B.bytes, hml, hown, fun w hw => hts w (List.mem_cons_of_mem _ hw)⟩, hWd, Nat.le_refl _, Nat.le_refl _⟩ B.returns B.notSynchronized s.heap [] _ hRep va_S.rf hl
end
section
/-! LINKS by their places in the tables -/
theorem mw_X3_init : MW yX3_init cX3_init 1 none 0 := ⟨(wa1 (List.mem_of_getElem? (i := 12) rfl) rfl), (wa1 (List.mem_of_getElem? (i := 1) (by decide +kernel)) rfl), by decide +kernel, by decide +kernel, by decide +kernel⟩
theorem mw_X3_addReel : MW yX3_addReel cX3_addReel 4 (some .int) 3 := ⟨(wa1 (List.mem_of_getElem? (i := 197) rfl) rfl), (wa1 (List.mem_of_getElem? (i := 1) (by decide +kernel)) rfl), by decide +kernel, by decide +kernel, by decide +kernel⟩
theorem mw_X3_removeReels : MW yX3_removeReels cX3_removeReels 3 (some .int) 1 := ⟨(wa1 (List.mem_of_getElem? (i := 223) rfl) rfl), (wa1 (List.mem_of_getElem? (i := 1) (by decide +kernel)) rfl), by decide +kernel, by decide +kernel, by decide +kernel⟩
theorem mw_X3_setHome : MW yX3_setHome cX3_setHome 4 (some .int) 2 := ⟨(wa1 (List.mem_of_getElem? (i := 231) rfl) rfl), (wa1 (List.mem_of_getElem? (i := 1) (by decide +kernel)) rfl), by decide +kernel, by decide +kernel, by decide +kernel⟩
theorem mw_X3_filmLength : MW yX3_filmLength cX3_filmLength 2 (some .int) 1 := ⟨(wa1 (List.mem_of_getElem? (i := 235) rfl) rfl), (wa1 (List.mem_of_getElem? (i := 1) (by decide +kernel)) rfl), by decide +kernel, by decide +kernel, by decide +kernel⟩
theorem mw_X3_addMachine : MW yX3_addMachine cX3_addMachine 2 (some .int) 1 := ⟨(wa2 (List.mem_of_getElem? (i := 3) rfl) rfl), (wa1 (List.mem_of_getElem? (i := 1) (by decide +kernel)) rfl), by decide +kernel, by decide +kernel, by decide +kernel⟩
theorem mw_X3_removeMachine : MW yX3_removeMachine cX3_removeMachine 2 (some .int) 1 := ⟨(wa2 (List.mem_of_getElem? (i := 11) rfl) rfl), (wa1 (List.mem_of_getElem? (i := 1) (by decide +kernel)) rfl), by decide +kernel, by decide +kernel, by decide +kernel⟩
theorem mw_X3_houseOf : MW yX3_houseOf cX3_houseOf 2 (some .int) 1 := ⟨(wa2 (List.mem_of_getElem? (i := 23) rfl) rfl), (wa1 (List.mem_of_getElem? (i := 1) (by decide +kernel)) rfl), by decide +kernel, by decide +kernel, by decide +kernel⟩
theorem mw_X3_setCarriers : MW yX3_setCarriers cX3_setCarriers 3 (some .int) 1 := ⟨(wa2 (List.mem_of_getElem? (i := 27) rfl) rfl), (wa1 (List.mem_of_getElem? (i := 1) (by decide +kernel)) rfl), by decide +kernel, by decide +kernel, by decide +kernel⟩
theorem mw_X3_setDuration : MW yX3_setDuration cX3_setDuration 4 (some .int) 2 := ⟨(wa2 (List.mem_of_getElem? (i := 31) rfl) rfl), (wa1 (List.mem_of_getElem? (i := 1) (by decide +kernel)) rfl), by decide +kernel, by decide +kernel, by decide +kernel⟩
theorem mw_X3_addShow : MW yX3_addShow cX3_addShow 4 (some .int) 3 := ⟨(wa2 (List.mem_of_getElem? (i := 39) rfl) rfl), (wa1 (List.mem_of_getElem? (i := 1) (by decide +kernel)) rfl), by decide +kernel, by decide +kernel, by decide +kernel⟩
theorem mw_X3_removeShow : MW yX3_removeShow cX3_removeShow 2 (some .int) 1 := ⟨(wa2 (List.mem_of_getElem? (i := 47) rfl) rfl), (wa1 (List.mem_of_getElem? (i := 1) (by decide +kernel)) rfl), by decide +kernel, by decide +kernel, by decide +kernel⟩
theorem mw_X3_moveShow : MW yX3_moveShow cX3_moveShow 4 (some .int) 2 := ⟨(wa2 (List.mem_of_getElem? (i := 63) rfl) rfl), (wa1 (List.mem_of_getElem? (i := 1) (by decide +kernel)) rfl), by decide +kernel, by decide +kernel, by decide +kernel⟩
theorem mw_X3_addBreak : MW yX3_addBreak cX3_addBreak 4 (some .int) 3 := ⟨(wa2 (List.mem_of_getElem? (i := 67) rfl) rfl), (wa1 (List.mem_of_getElem? (i := 1) (by decide +kernel)) rfl), by decide +kernel, by decide +kernel, by decide +kernel⟩
theorem mw_X3_clearBreaks : MW yX3_clearBreaks cX3_clearBreaks 2 (some .int) 0 := ⟨(wa2 (List.mem_of_getElem? (i := 79) rfl) rfl), (wa1 (List.mem_of_getElem? (i := 1) (by decide +kernel)) rfl), by decide +kernel, by decide +kernel, by decide +kernel⟩
theorem mw_X3_startOf : MW yX3_startOf cX3_startOf 3 (some .int) 2 := ⟨(wa2 (List.mem_of_getElem? (i := 83) rfl) rfl), (wa1 (List.mem_of_getElem? (i := 1) (by decide +kernel)) rfl), by decide +kernel, by decide +kernel, by decide +kernel⟩
theorem mw_X3_machineOf : MW yX3_machineOf cX3_machineOf 3 (some .int) 2 := ⟨(wa2 (List.mem_of_getElem? (i := 144) rfl) rfl), (wa1 (List.mem_of_getElem? (i := 1) (by decide +kernel)) rfl), by decide +kernel, by decide +kernel, by decide +kernel⟩
theorem mw_X3_endOf : MW yX3_endOf cX3_endOf 2 (some .int) 1 := ⟨(wa2 (List.mem_of_getElem? (i := 148) rfl) rfl), (wa1 (List.mem_of_getElem? (i := 1) (by decide +kernel)) rfl), by decide +kernel, by decide +kernel, by decide +kernel⟩
theorem mw_X3_delayOf : MW yX3_delayOf cX3_delayOf 2 (some .int) 1 := ⟨(wa2 (List.mem_of_getElem? (i := 152) rfl) rfl), (wa1 (List.mem_of_getElem? (i := 1) (by decide +kernel)) rfl), by decide +kernel, by decide +kernel, by decide +kernel⟩
theorem mw_X3_gapOf : MW yX3_gapOf cX3_gapOf 2 (some .int) 1 := ⟨(wa2 (List.mem_of_getElem? (i := 156) rfl) rfl), (wa1 (List.mem_of_getElem? (i := 1) (by decide +kernel)) rfl), by decide +kernel, by decide +kernel, by decide +kernel⟩
theorem mw_X3_loss : MW yX3_loss cX3_loss 1 (some .int) 0 := ⟨(wa2 (List.mem_of_getElem? (i := 160) rfl) rfl), (wa1 (List.mem_of_getElem? (i := 1) (by decide +kernel)) rfl), by decide +kernel, by decide +kernel, by decide +kernel⟩
theorem mw_X3_carriedReels : MW yX3_carriedReels cX3_carriedReels 1 (some .int) 0 := ⟨(wa2 (List.mem_of_getElem? (i := 169) rfl) rfl), (wa1 (List.mem_of_getElem? (i := 1) (by decide +kernel)) rfl), by decide +kernel, by decide +kernel, by decide +kernel⟩
theorem mw_X3_plateChanges : MW yX3_plateChanges cX3_plateChanges 1 (some .int) 0 := ⟨(wa2 (List.mem_of_getElem? (i := 173) rfl) rfl), (wa1 (List.mem_of_getElem? (i := 1) (by decide +kernel)) rfl), by decide +kernel, by decide +kernel, by decide +kernel⟩
theorem mw_X3_machineTime : MW yX3_machineTime cX3_machineTime 2 (some .int) 1 := ⟨(wa2 (List.mem_of_getElem? (i := 177) rfl) rfl), (wa1 (List.mem_of_getElem? (i := 1) (by decide +kernel)) rfl), by decide +kernel, by decide +kernel, by decide +kernel⟩
theorem mw_X3_leastShift : MW yX3_leastShift cX3_leastShift 4 (some .int) 1 := ⟨(wa2 (List.mem_of_getElem? (i := 181) rfl) rfl), (wa1 (List.mem_of_getElem? (i := 1) (by decide +kernel)) rfl), by decide +kernel, by decide +kernel, by decide +kernel⟩
theorem mw_X3_removalGain : MW yX3_removalGain cX3_removalGain 2 (some .int) 1 := ⟨(wa2 (List.mem_of_getElem? (i := 193) rfl) rfl), (wa1 (List.mem_of_getElem? (i := 1) (by decide +kernel)) rfl), by decide +kernel, by decide +kernel, by decide +kernel⟩
theorem mw_X3_bestHomes : MW yX3_bestHomes cX3_bestHomes 5 (some .int) 0 := ⟨(wa2 (List.mem_of_getElem? (i := 198) rfl) rfl), (wa1 (List.mem_of_getElem? (i := 1) (by decide +kernel)) rfl), by decide +kernel, by decide +kernel, by decide +kernel⟩
theorem mw_X3_missingMachines : MW yX3_missingMachines cX3_missingMachines 4 (some .int) 1 := ⟨(wa2 (List.mem_of_getElem? (i := 206) rfl) rfl), (wa1 (List.mem_of_getElem? (i := 1) (by decide +kernel)) rfl), by decide +kernel, by decide +kernel, by decide +kernel⟩
theorem mw_X3_undo : MW yX3_undo cX3_undo 1 (some .int) 0 := ⟨(wa2 (List.mem_of_getElem? (i := 210) rfl) rfl), (wa1 (List.mem_of_getElem? (i := 1) (by decide +kernel)) rfl), by decide +kernel, by decide +kernel, by decide +kernel⟩
theorem mw_X3_isIn : MW yX3_isIn cX3_isIn 3 (some .boolean) 3 := ⟨(wa1 (List.mem_of_getElem? (i := 200) rfl) rfl), (wa1 (List.mem_of_getElem? (i := 1) (by decide +kernel)) rfl), by decide +kernel, by decide +kernel, by decide +kernel⟩
theorem mw_X3_isMachine : MW yX3_isMachine cX3_isMachine 2 (some .boolean) 1 := ⟨(wa2 (List.mem_of_getElem? (i := 15) rfl) rfl), (wa1 (List.mem_of_getElem? (i := 1) (by decide +kernel)) rfl), by decide +kernel, by decide +kernel, by decide +kernel⟩
theorem mw_X3_isShow : MW yX3_isShow cX3_isShow 2 (some .boolean) 1 := ⟨(wa2 (List.mem_of_getElem? (i := 51) rfl) rfl), (wa1 (List.mem_of_getElem? (i := 1) (by decide +kernel)) rfl), by decide +kernel, by decide +kernel, by decide +kernel⟩
theorem mw_X3_isReelOfShow : MW yX3_isReelOfShow cX3_isReelOfShow 3 (some .boolean) 2 := ⟨(wa2 (List.mem_of_getElem? (i := 71) rfl) rfl), (wa1 (List.mem_of_getElem? (i := 1) (by decide +kernel)) rfl), by decide +kernel, by decide +kernel, by decide +kernel⟩
theorem mw_X3_reelPlace : MW yX3_reelPlace cX3_reelPlace 2 (some .int) 2 := ⟨(wa1 (List.mem_of_getElem? (i := 219) rfl) rfl), (wa1 (List.mem_of_getElem? (i := 1) (by decide +kernel)) rfl), by decide +kernel, by decide +kernel, by decide +kernel⟩
theorem mw_X4_init : MW yX4_init cX4_init 1 none 0 := ⟨(wa2 (List.mem_of_getElem? (i := 219) rfl) rfl), (wa1 (List.mem_of_getElem? (i := 6) (by decide +kernel)) rfl), by decide +kernel, by decide +kernel, by decide +kernel⟩
theorem mw_X4_in : MW yX4_in cX4_in 6 (some .boolean) 3 := ⟨(wa3 (List.mem_of_getElem? (i := 50) rfl) rfl), (wa1 (List.mem_of_getElem? (i := 6) (by decide +kernel)) rfl), by decide +kernel, by decide +kernel, by decide +kernel⟩
theorem mw_X4_keeps : MW yX4_keeps cX4_keeps 2 none 0 := ⟨(wa3 (List.mem_of_getElem? (i := 56) rfl) rfl), (wa1 (List.mem_of_getElem? (i := 6) (by decide +kernel)) rfl), by decide +kernel, by decide +kernel, by decide +kernel⟩
theorem mw_X4_undo : MW yX4_undo cX4_undo 2 (some .int) 0 := ⟨(wa3 (List.mem_of_getElem? (i := 39) rfl) rfl), (wa1 (List.mem_of_getElem? (i := 6) (by decide +kernel)) rfl), by decide +kernel, by decide +kernel, by decide +kernel⟩
theorem mw_X4_isFilm : MW yX4_isFilm cX4_isFilm 1 (some .boolean) 1 := ⟨(wa3 (List.mem_of_getElem? (i := 46) rfl) rfl), (wa1 (List.mem_of_getElem? (i := 6) (by decide +kernel)) rfl), by decide +kernel, by decide +kernel, by decide +kernel⟩
theorem mw_X4_isHouse : MW yX4_isHouse cX4_isHouse 1 (some .boolean) 1 := ⟨(wa3 (List.mem_of_getElem? (i := 67) rfl) rfl), (wa1 (List.mem_of_getElem? (i := 6) (by decide +kernel)) rfl), by decide +kernel, by decide +kernel, by decide +kernel⟩
theorem mw_X4_isMachine : MW yX4_isMachine cX4_isMachine 2 (some .boolean) 1 := ⟨(wa3 (List.mem_of_getElem? (i := 83) rfl) rfl), (wa1 (List.mem_of_getElem? (i := 6) (by decide +kernel)) rfl), by decide +kernel, by decide +kernel, by decide +kernel⟩
theorem mw_X4_isShow : MW yX4_isShow cX4_isShow 2 (some .boolean) 1 := ⟨(wa3 (List.mem_of_getElem? (i := 113) rfl) rfl), (wa1 (List.mem_of_getElem? (i := 6) (by decide +kernel)) rfl), by decide +kernel, by decide +kernel, by decide +kernel⟩
theorem mw_X4_isStart : MW yX4_isStart cX4_isStart 1 (some .boolean) 1 := ⟨(wa3 (List.mem_of_getElem? (i := 104) rfl) rfl), (wa1 (List.mem_of_getElem? (i := 6) (by decide +kernel)) rfl), by decide +kernel, by decide +kernel, by decide +kernel⟩
theorem mw_X4_addReel : MW yX4_addReel cX4_addReel 5 (some .int) 3 := ⟨(wa3 (List.mem_of_getElem? (i := 43) rfl) rfl), (wa1 (List.mem_of_getElem? (i := 6) (by decide +kernel)) rfl), by decide +kernel, by decide +kernel, by decide +kernel⟩
theorem mw_X4_removeReels : MW yX4_removeReels cX4_removeReels 3 (some .int) 1 := ⟨(wa3 (List.mem_of_getElem? (i := 60) rfl) rfl), (wa1 (List.mem_of_getElem? (i := 6) (by decide +kernel)) rfl), by decide +kernel, by decide +kernel, by decide +kernel⟩
theorem mw_X4_setHome : MW yX4_setHome cX4_setHome 4 (some .int) 2 := ⟨(wa3 (List.mem_of_getElem? (i := 64) rfl) rfl), (wa1 (List.mem_of_getElem? (i := 6) (by decide +kernel)) rfl), by decide +kernel, by decide +kernel, by decide +kernel⟩
theorem mw_X4_filmLength : MW yX4_filmLength cX4_filmLength 4 (some .int) 1 := ⟨(wa3 (List.mem_of_getElem? (i := 71) rfl) rfl), (wa1 (List.mem_of_getElem? (i := 6) (by decide +kernel)) rfl), by decide +kernel, by decide +kernel, by decide +kernel⟩
theorem mw_X4_addMachine : MW yX4_addMachine cX4_addMachine 2 (some .int) 1 := ⟨(wa3 (List.mem_of_getElem? (i := 75) rfl) rfl), (wa1 (List.mem_of_getElem? (i := 6) (by decide +kernel)) rfl), by decide +kernel, by decide +kernel, by decide +kernel⟩
theorem mw_X4_removeMachine : MW yX4_removeMachine cX4_removeMachine 3 (some .int) 1 := ⟨(wa3 (List.mem_of_getElem? (i := 79) rfl) rfl), (wa1 (List.mem_of_getElem? (i := 6) (by decide +kernel)) rfl), by decide +kernel, by decide +kernel, by decide +kernel⟩
theorem mw_X4_houseOf : MW yX4_houseOf cX4_houseOf 2 (some .int) 1 := ⟨(wa3 (List.mem_of_getElem? (i := 87) rfl) rfl), (wa1 (List.mem_of_getElem? (i := 6) (by decide +kernel)) rfl), by decide +kernel, by decide +kernel, by decide +kernel⟩
theorem mw_X4_setCarriers : MW yX4_setCarriers cX4_setCarriers 3 (some .int) 1 := ⟨(wa3 (List.mem_of_getElem? (i := 91) rfl) rfl), (wa1 (List.mem_of_getElem? (i := 6) (by decide +kernel)) rfl), by decide +kernel, by decide +kernel, by decide +kernel⟩
theorem mw_X4_setDuration : MW yX4_setDuration cX4_setDuration 4 (some .int) 2 := ⟨(wa3 (List.mem_of_getElem? (i := 95) rfl) rfl), (wa1 (List.mem_of_getElem? (i := 6) (by decide +kernel)) rfl), by decide +kernel, by decide +kernel, by decide +kernel⟩
theorem mw_X4_addShow : MW yX4_addShow cX4_addShow 5 (some .int) 3 := ⟨(wa3 (List.mem_of_getElem? (i := 101) rfl) rfl), (wa1 (List.mem_of_getElem? (i := 6) (by decide +kernel)) rfl), by decide +kernel, by decide +kernel, by decide +kernel⟩
theorem mw_X4_goes : MW yX4_goes cX4_goes 5 none 1 := ⟨(wa3 (List.mem_of_getElem? (i := 117) rfl) rfl), (wa1 (List.mem_of_getElem? (i := 6) (by decide +kernel)) rfl), by decide +kernel, by decide +kernel, by decide +kernel⟩
theorem mw_X4_removeShow : MW yX4_removeShow cX4_removeShow 2 (some .int) 1 := ⟨(wa3 (List.mem_of_getElem? (i := 109) rfl) rfl), (wa1 (List.mem_of_getElem? (i := 6) (by decide +kernel)) rfl), by decide +kernel, by decide +kernel, by decide +kernel⟩
theorem mw_X4_moveShow : MW yX4_moveShow cX4_moveShow 4 (some .int) 2 := ⟨(wa3 (List.mem_of_getElem? (i := 121) rfl) rfl), (wa1 (List.mem_of_getElem? (i := 6) (by decide +kernel)) rfl), by decide +kernel, by decide +kernel, by decide +kernel⟩
theorem mw_X4_isReel : MW yX4_isReel cX4_isReel 3 (some .boolean) 2 := ⟨(wa3 (List.mem_of_getElem? (i := 129) rfl) rfl), (wa1 (List.mem_of_getElem? (i := 6) (by decide +kernel)) rfl), by decide +kernel, by decide +kernel, by decide +kernel⟩
theorem mw_X4_addBreak : MW yX4_addBreak cX4_addBreak 4 (some .int) 3 := ⟨(wa3 (List.mem_of_getElem? (i := 125) rfl) rfl), (wa1 (List.mem_of_getElem? (i := 6) (by decide +kernel)) rfl), by decide +kernel, by decide +kernel, by decide +kernel⟩
theorem mw_X4_clearBreaks : MW yX4_clearBreaks cX4_clearBreaks 2 (some .int) 0 := ⟨(wa3 (List.mem_of_getElem? (i := 134) rfl) rfl), (wa1 (List.mem_of_getElem? (i := 6) (by decide +kernel)) rfl), by decide +kernel, by decide +kernel, by decide +kernel⟩
theorem mw_X4_arrives : MW yX4_arrives cX4_arrives 7 (some .int) 2 := ⟨(wa3 (List.mem_of_getElem? (i := 154) rfl) rfl), (wa1 (List.mem_of_getElem? (i := 6) (by decide +kernel)) rfl), by decide +kernel, by decide +kernel, by decide +kernel⟩
theorem mw_X4_hasPlate : MW yX4_hasPlate cX4_hasPlate 3 (some .boolean) 2 := ⟨(wa3 (List.mem_of_getElem? (i := 162) rfl) rfl), (wa1 (List.mem_of_getElem? (i := 6) (by decide +kernel)) rfl), by decide +kernel, by decide +kernel, by decide +kernel⟩
theorem mw_X4_startBy : MW yX4_startBy cX4_startBy 6 (some .int) 4 := ⟨(wa3 (List.mem_of_getElem? (i := 158) rfl) rfl), (wa1 (List.mem_of_getElem? (i := 6) (by decide +kernel)) rfl), by decide +kernel, by decide +kernel, by decide +kernel⟩
theorem mw_X4_repairs : MW yX4_repairs cX4_repairs 5 (some .int) 2 := ⟨(wa3 (List.mem_of_getElem? (i := 166) rfl) rfl), (wa1 (List.mem_of_getElem? (i := 6) (by decide +kernel)) rfl), by decide +kernel, by decide +kernel, by decide +kernel⟩
theorem mw_X4_runs : MW yX4_runs cX4_runs 11 (some .int) 3 := ⟨(wa3 (List.mem_of_getElem? (i := 150) rfl) rfl), (wa1 (List.mem_of_getElem? (i := 6) (by decide +kernel)) rfl), by decide +kernel, by decide +kernel, by decide +kernel⟩
theorem mw_X4_plansShow : MW yX4_plansShow cX4_plansShow 5 none 1 := ⟨(wa3 (List.mem_of_getElem? (i := 146) rfl) rfl), (wa1 (List.mem_of_getElem? (i := 6) (by decide +kernel)) rfl), by decide +kernel, by decide +kernel, by decide +kernel⟩
theorem mw_X4_plans : MW yX4_plans cX4_plans 7 (some .int) 0 := ⟨(wa3 (List.mem_of_getElem? (i := 142) rfl) rfl), (wa1 (List.mem_of_getElem? (i := 6) (by decide +kernel)) rfl), by decide +kernel, by decide +kernel, by decide +kernel⟩
theorem mw_X4_startOf : MW yX4_startOf cX4_startOf 3 (some .int) 2 := ⟨(wa3 (List.mem_of_getElem? (i := 138) rfl) rfl), (wa1 (List.mem_of_getElem? (i := 6) (by decide +kernel)) rfl), by decide +kernel, by decide +kernel, by decide +kernel⟩
theorem mw_X4_machineOf : MW yX4_machineOf cX4_machineOf 3 (some .int) 2 := ⟨(wa3 (List.mem_of_getElem? (i := 170) rfl) rfl), (wa1 (List.mem_of_getElem? (i := 6) (by decide +kernel)) rfl), by decide +kernel, by decide +kernel, by decide +kernel⟩
theorem mw_X4_endOf : MW yX4_endOf cX4_endOf 2 (some .int) 1 := ⟨(wa3 (List.mem_of_getElem? (i := 174) rfl) rfl), (wa1 (List.mem_of_getElem? (i := 6) (by decide +kernel)) rfl), by decide +kernel, by decide +kernel, by decide +kernel⟩
theorem mw_X4_delayOf : MW yX4_delayOf cX4_delayOf 2 (some .int) 1 := ⟨(wa3 (List.mem_of_getElem? (i := 178) rfl) rfl), (wa1 (List.mem_of_getElem? (i := 6) (by decide +kernel)) rfl), by decide +kernel, by decide +kernel, by decide +kernel⟩
theorem mw_X4_gapOf : MW yX4_gapOf cX4_gapOf 2 (some .int) 1 := ⟨(wa3 (List.mem_of_getElem? (i := 182) rfl) rfl), (wa1 (List.mem_of_getElem? (i := 6) (by decide +kernel)) rfl), by decide +kernel, by decide +kernel, by decide +kernel⟩
theorem mw_X4_loss : MW yX4_loss cX4_loss 1 (some .int) 0 := ⟨(wa3 (List.mem_of_getElem? (i := 186) rfl) rfl), (wa1 (List.mem_of_getElem? (i := 6) (by decide +kernel)) rfl), by decide +kernel, by decide +kernel, by decide +kernel⟩
theorem mw_X4_carriedReels : MW yX4_carriedReels cX4_carriedReels 1 (some .int) 0 := ⟨(wa3 (List.mem_of_getElem? (i := 190) rfl) rfl), (wa1 (List.mem_of_getElem? (i := 6) (by decide +kernel)) rfl), by decide +kernel, by decide +kernel, by decide +kernel⟩
theorem mw_X4_plateChanges : MW yX4_plateChanges cX4_plateChanges 1 (some .int) 0 := ⟨(wa3 (List.mem_of_getElem? (i := 194) rfl) rfl), (wa1 (List.mem_of_getElem? (i := 6) (by decide +kernel)) rfl), by decide +kernel, by decide +kernel, by decide +kernel⟩
theorem mw_X4_machineTime : MW yX4_machineTime cX4_machineTime 2 (some .int) 1 := ⟨(wa3 (List.mem_of_getElem? (i := 198) rfl) rfl), (wa1 (List.mem_of_getElem? (i := 6) (by decide +kernel)) rfl), by decide +kernel, by decide +kernel, by decide +kernel⟩
theorem mw_X4_setsAside : MW yX4_setsAside cX4_setsAside 2 none 0 := ⟨(wa3 (List.mem_of_getElem? (i := 206) rfl) rfl), (wa1 (List.mem_of_getElem? (i := 6) (by decide +kernel)) rfl), by decide +kernel, by decide +kernel, by decide +kernel⟩
theorem mw_X4_takesBack : MW yX4_takesBack cX4_takesBack 2 none 0 := ⟨(wa3 (List.mem_of_getElem? (i := 210) rfl) rfl), (wa1 (List.mem_of_getElem? (i := 6) (by decide +kernel)) rfl), by decide +kernel, by decide +kernel, by decide +kernel⟩
theorem mw_X4_leastShift : MW yX4_leastShift cX4_leastShift 4 (some .int) 1 := ⟨(wa3 (List.mem_of_getElem? (i := 202) rfl) rfl), (wa1 (List.mem_of_getElem? (i := 6) (by decide +kernel)) rfl), by decide +kernel, by decide +kernel, by decide +kernel⟩
theorem mw_X4_removalGain : MW yX4_removalGain cX4_removalGain 4 (some .int) 1 := ⟨(wa3 (List.mem_of_getElem? (i := 214) rfl) rfl), (wa1 (List.mem_of_getElem? (i := 6) (by decide +kernel)) rfl), by decide +kernel, by decide +kernel, by decide +kernel⟩
theorem mw_X4_bestHomes : MW yX4_bestHomes cX4_bestHomes 5 (some .int) 0 := ⟨(wa3 (List.mem_of_getElem? (i := 219) rfl) rfl), (wa1 (List.mem_of_getElem? (i := 6) (by decide +kernel)) rfl), by decide +kernel, by decide +kernel, by decide +kernel⟩
theorem mw_X4_missingMachines : MW yX4_missingMachines cX4_missingMachines 4 (some .int) 1 := ⟨(wa3 (List.mem_of_getElem? (i := 223) rfl) rfl), (wa1 (List.mem_of_getElem? (i := 6) (by decide +kernel)) rfl), by decide +kernel, by decide +kernel, by decide +kernel⟩
theorem mw_X0_init : MW yX0_init cX0_init 1 none 0 := ⟨(wa1 (List.mem_of_getElem? (i := 20) rfl) rfl), (wa1 (List.mem_of_getElem? (i := 2) (by decide +kernel)) rfl), by decide +kernel, by decide +kernel, by decide +kernel⟩
theorem mw_X0_copyFrom : MW yX0_copyFrom cX0_copyFrom 2 none 1 := ⟨(wa1 (List.mem_of_getElem? (i := 212) rfl) rfl), (wa1 (List.mem_of_getElem? (i := 2) (by decide +kernel)) rfl), by decide +kernel, by decide +kernel, by decide +kernel⟩
theorem mw_X0_appendReel : MW yX0_appendReel cX0_appendReel 5 none 3 := ⟨(wa1 (List.mem_of_getElem? (i := 216) rfl) rfl), (wa1 (List.mem_of_getElem? (i := 2) (by decide +kernel)) rfl), by decide +kernel, by decide +kernel, by decide +kernel⟩
theorem mw_X0_sumOfLengths : MW yX0_sumOfLengths cX0_sumOfLengths 4 (some .int) 1 := ⟨(wa1 (List.mem_of_getElem? (i := 239) rfl) rfl), (wa1 (List.mem_of_getElem? (i := 2) (by decide +kernel)) rfl), by decide +kernel, by decide +kernel, by decide +kernel⟩
theorem mw_X0_isShown : MW yX0_isShown cX0_isShown 3 (some .boolean) 1 := ⟨(wa1 (List.mem_of_getElem? (i := 227) rfl) rfl), (wa1 (List.mem_of_getElem? (i := 2) (by decide +kernel)) rfl), by decide +kernel, by decide +kernel, by decide +kernel⟩
theorem mw_X0_setHomes : MW yX0_setHomes cX0_setHomes 3 none 1 := ⟨(wa2 (List.mem_of_getElem? (i := 202) rfl) rfl), (wa1 (List.mem_of_getElem? (i := 2) (by decide +kernel)) rfl), by decide +kernel, by decide +kernel, by decide +kernel⟩
theorem mw_X0_appendMachine : MW yX0_appendMachine cX0_appendMachine 2 none 1 := ⟨(wa2 (List.mem_of_getElem? (i := 7) rfl) rfl), (wa1 (List.mem_of_getElem? (i := 2) (by decide +kernel)) rfl), by decide +kernel, by decide +kernel, by decide +kernel⟩
theorem mw_X0_dropMachine : MW yX0_dropMachine cX0_dropMachine 3 none 1 := ⟨(wa2 (List.mem_of_getElem? (i := 19) rfl) rfl), (wa1 (List.mem_of_getElem? (i := 2) (by decide +kernel)) rfl), by decide +kernel, by decide +kernel, by decide +kernel⟩
theorem mw_X0_firstMachineIn : MW yX0_firstMachineIn cX0_firstMachineIn 3 (some .int) 1 := ⟨(wa2 (List.mem_of_getElem? (i := 108) rfl) rfl), (wa1 (List.mem_of_getElem? (i := 2) (by decide +kernel)) rfl), by decide +kernel, by decide +kernel, by decide +kernel⟩
theorem mw_X0_appendShow : MW yX0_appendShow cX0_appendShow 4 none 3 := ⟨(wa2 (List.mem_of_getElem? (i := 43) rfl) rfl), (wa1 (List.mem_of_getElem? (i := 2) (by decide +kernel)) rfl), by decide +kernel, by decide +kernel, by decide +kernel⟩
theorem mw_X0_dropShow : MW yX0_dropShow cX0_dropShow 3 none 1 := ⟨(wa2 (List.mem_of_getElem? (i := 55) rfl) rfl), (wa1 (List.mem_of_getElem? (i := 2) (by decide +kernel)) rfl), by decide +kernel, by decide +kernel, by decide +kernel⟩
theorem mw_X0_dropBreaksOf : MW yX0_dropBreaksOf cX0_dropBreaksOf 5 none 1 := ⟨(wa2 (List.mem_of_getElem? (i := 59) rfl) rfl), (wa1 (List.mem_of_getElem? (i := 2) (by decide +kernel)) rfl), by decide +kernel, by decide +kernel, by decide +kernel⟩
theorem mw_X0_appendBreak : MW yX0_appendBreak cX0_appendBreak 4 none 3 := ⟨(wa2 (List.mem_of_getElem? (i := 75) rfl) rfl), (wa1 (List.mem_of_getElem? (i := 2) (by decide +kernel)) rfl), by decide +kernel, by decide +kernel, by decide +kernel⟩
theorem mw_X0_repairTime : MW yX0_repairTime cX0_repairTime 5 (some .int) 2 := ⟨(wa2 (List.mem_of_getElem? (i := 139) rfl) rfl), (wa1 (List.mem_of_getElem? (i := 2) (by decide +kernel)) rfl), by decide +kernel, by decide +kernel, by decide +kernel⟩
theorem mw_X1_init : MW yX1_init cX1_init 2 none 0 := ⟨(wa1 (List.mem_of_getElem? (i := 103) rfl) rfl), (wa1 (List.mem_of_getElem? (i := 4) (by decide +kernel)) rfl), by decide +kernel, by decide +kernel, by decide +kernel⟩
theorem mw_X1_remember : MW yX1_remember cX1_remember 2 none 1 := ⟨(wa1 (List.mem_of_getElem? (i := 204) rfl) rfl), (wa1 (List.mem_of_getElem? (i := 4) (by decide +kernel)) rfl), by decide +kernel, by decide +kernel, by decide +kernel⟩
theorem mw_X1_forgetOldest : MW yX1_forgetOldest cX1_forgetOldest 3 none 0 := ⟨(wa1 (List.mem_of_getElem? (i := 208) rfl) rfl), (wa1 (List.mem_of_getElem? (i := 4) (by decide +kernel)) rfl), by decide +kernel, by decide +kernel, by decide +kernel⟩
theorem mw_X1_restore : MW yX1_restore cX1_restore 2 none 1 := ⟨(wa2 (List.mem_of_getElem? (i := 214) rfl) rfl), (wa1 (List.mem_of_getElem? (i := 4) (by decide +kernel)) rfl), by decide +kernel, by decide +kernel, by decide +kernel⟩
theorem mw_X2_init : MW yX2_init cX2_init 1 none 0 := ⟨(wa1 (List.mem_of_getElem? (i := 120) rfl) rfl), (wa1 (List.mem_of_getElem? (i := 5) (by decide +kernel)) rfl), by decide +kernel, by decide +kernel, by decide +kernel⟩
theorem mw_X2_make : MW yX2_make cX2_make 3 none 1 := ⟨(wa2 (List.mem_of_getElem? (i := 87) rfl) rfl), (wa1 (List.mem_of_getElem? (i := 5) (by decide +kernel)) rfl), by decide +kernel, by decide +kernel, by decide +kernel⟩
theorem mw_X2_lossWith : MW yX2_lossWith cX2_lossWith 2 (some .int) 1 := ⟨(wa2 (List.mem_of_getElem? (i := 164) rfl) rfl), (wa1 (List.mem_of_getElem? (i := 5) (by decide +kernel)) rfl), by decide +kernel, by decide +kernel, by decide +kernel⟩
theorem mw_X2_isSmooth : MW yX2_isSmooth cX2_isSmooth 3 (some .boolean) 1 := ⟨(wa2 (List.mem_of_getElem? (i := 189) rfl) rfl), (wa1 (List.mem_of_getElem? (i := 5) (by decide +kernel)) rfl), by decide +kernel, by decide +kernel, by decide +kernel⟩
theorem mw_X2_open : MW yX2_open cX2_open 3 none 1 := ⟨(wa2 (List.mem_of_getElem? (i := 91) rfl) rfl), (wa1 (List.mem_of_getElem? (i := 5) (by decide +kernel)) rfl), by decide +kernel, by decide +kernel, by decide +kernel⟩
theorem mw_X2_bringHome : MW yX2_bringHome cX2_bringHome 5 none 2 := ⟨(wa2 (List.mem_of_getElem? (i := 95) rfl) rfl), (wa1 (List.mem_of_getElem? (i := 5) (by decide +kernel)) rfl), by decide +kernel, by decide +kernel, by decide +kernel⟩
theorem mw_X2_sortShows : MW yX2_sortShows cX2_sortShows 4 none 1 := ⟨(wa2 (List.mem_of_getElem? (i := 100) rfl) rfl), (wa1 (List.mem_of_getElem? (i := 5) (by decide +kernel)) rfl), by decide +kernel, by decide +kernel, by decide +kernel⟩
theorem mw_X2_planShow : MW yX2_planShow cX2_planShow 9 none 2 := ⟨(wa2 (List.mem_of_getElem? (i := 104) rfl) rfl), (wa1 (List.mem_of_getElem? (i := 5) (by decide +kernel)) rfl), by decide +kernel, by decide +kernel, by decide +kernel⟩
theorem mw_X2_planReel : MW yX2_planReel cX2_planReel 12 (some .int) 5 := ⟨(wa2 (List.mem_of_getElem? (i := 112) rfl) rfl), (wa1 (List.mem_of_getElem? (i := 5) (by decide +kernel)) rfl), by decide +kernel, by decide +kernel, by decide +kernel⟩
theorem mw_X2_bring : MW yX2_bring cX2_bring 6 (some .int) 3 := ⟨(wa2 (List.mem_of_getElem? (i := 116) rfl) rfl), (wa1 (List.mem_of_getElem? (i := 5) (by decide +kernel)) rfl), by decide +kernel, by decide +kernel, by decide +kernel⟩
theorem mw_X2_soonestCarrier : MW yX2_soonestCarrier cX2_soonestCarrier 5 (some .int) 2 := ⟨(wa2 (List.mem_of_getElem? (i := 120) rfl) rfl), (wa1 (List.mem_of_getElem? (i := 5) (by decide +kernel)) rfl), by decide +kernel, by decide +kernel, by decide +kernel⟩
theorem mw_X2_soonestMachine : MW yX2_soonestMachine cX2_soonestMachine 11 (some .int) 5 := ⟨(wa2 (List.mem_of_getElem? (i := 127) rfl) rfl), (wa1 (List.mem_of_getElem? (i := 5) (by decide +kernel)) rfl), by decide +kernel, by decide +kernel, by decide +kernel⟩
theorem mw_X2_startOn : MW yX2_startOn cX2_startOn 7 (some .int) 5 := ⟨(wa2 (List.mem_of_getElem? (i := 131) rfl) rfl), (wa1 (List.mem_of_getElem? (i := 5) (by decide +kernel)) rfl), by decide +kernel, by decide +kernel, by decide +kernel⟩
theorem mw_X2_needsPlate : MW yX2_needsPlate cX2_needsPlate 3 (some .boolean) 2 := ⟨(wa2 (List.mem_of_getElem? (i := 135) rfl) rfl), (wa1 (List.mem_of_getElem? (i := 5) (by decide +kernel)) rfl), by decide +kernel, by decide +kernel, by decide +kernel⟩
theorem f_X3_10 : FLk RX3 10 3 0 := flk3 (by decide) (wa1 (List.mem_of_getElem? (i := 181) (by decide +kernel)) rfl) (by decide)
theorem f_X3_16 : FLk RX3 16 3 1 := flk3 (by decide) (wa1 (List.mem_of_getElem? (i := 182) (by decide +kernel)) rfl) (by decide)
theorem f_X3_22 : FLk RX3 22 3 2 := flk3 (by decide) (wa1 (List.mem_of_getElem? (i := 183) (by decide +kernel)) rfl) (by decide)
theorem f_X3_29 : FLk RX3 29 3 3 := flk3 (by decide) (wa1 (List.mem_of_getElem? (i := 184) (by decide +kernel)) rfl) (by decide)
theorem ms_X3_33 : MS RX3 33 yX3_isIn := ⟨(wa1 (List.mem_of_getElem? (i := 198) (by decide +kernel)) rfl), (wa1 (List.mem_of_getElem? (i := 199) (by decide +kernel)) rfl)⟩
theorem f_X3_37 : FLk RX3 37 0 0 := flk0 (by decide) (wa1 (List.mem_of_getElem? (i := 28) (by decide +kernel)) rfl) (by decide)
theorem mv_X3_41 : MV RX3 41 (kN 1) yX1_remember := ⟨(wa1 (List.mem_of_getElem? (i := 201) (by decide +kernel)) rfl), (wa1 (List.mem_of_getElem? (i := 202) (by decide +kernel)) rfl), (wa1 (List.mem_of_getElem? (i := 203) (by decide +kernel)) rfl), rfl⟩
theorem mv_X3_45 : MV RX3 45 (kN 0) yX0_appendReel := ⟨(wa1 (List.mem_of_getElem? (i := 213) (by decide +kernel)) rfl), (wa1 (List.mem_of_getElem? (i := 214) (by decide +kernel)) rfl), (wa1 (List.mem_of_getElem? (i := 215) (by decide +kernel)) rfl), rfl⟩
theorem mv_X3_49 : MV RX3 49 (kN 0) yX0_isShown := ⟨(wa1 (List.mem_of_getElem? (i := 224) (by decide +kernel)) rfl), (wa1 (List.mem_of_getElem? (i := 225) (by decide +kernel)) rfl), (wa1 (List.mem_of_getElem? (i := 226) (by decide +kernel)) rfl), rfl⟩
theorem f_X3_53 : FLk RX3 53 0 3 := flk0 (by decide) (wa1 (List.mem_of_getElem? (i := 35) (by decide +kernel)) rfl) (by decide)
theorem mv_X3_56 : MV RX3 56 (kN 0) yX0_sumOfLengths := ⟨(wa1 (List.mem_of_getElem? (i := 236) (by decide +kernel)) rfl), (wa1 (List.mem_of_getElem? (i := 237) (by decide +kernel)) rfl), (wa1 (List.mem_of_getElem? (i := 238) (by decide +kernel)) rfl), rfl⟩
theorem f_X3_60 : FLk RX3 60 0 4 := flk0 (by decide) (wa1 (List.mem_of_getElem? (i := 38) (by decide +kernel)) rfl) (by decide)
theorem mv_X3_64 : MV RX3 64 (kN 0) yX0_appendMachine := ⟨(wa2 (List.mem_of_getElem? (i := 4) (by decide +kernel)) rfl), (wa2 (List.mem_of_getElem? (i := 5) (by decide +kernel)) rfl), (wa2 (List.mem_of_getElem? (i := 6) (by decide +kernel)) rfl), rfl⟩
theorem mv_X3_68 : MV RX3 68 (kN 3) yX3_isMachine := ⟨(wa2 (List.mem_of_getElem? (i := 12) (by decide +kernel)) rfl), (wa2 (List.mem_of_getElem? (i := 14) (by decide +kernel)) rfl), (wa0 (List.mem_of_getElem? (i := 1) (by decide +kernel)) rfl), rfl⟩
theorem mv_X3_71 : MV RX3 71 (kN 0) yX0_dropMachine := ⟨(wa2 (List.mem_of_getElem? (i := 16) (by decide +kernel)) rfl), (wa2 (List.mem_of_getElem? (i := 17) (by decide +kernel)) rfl), (wa2 (List.mem_of_getElem? (i := 18) (by decide +kernel)) rfl), rfl⟩
theorem f_X3_74 : FLk RX3 74 0 5 := flk0 (by decide) (wa1 (List.mem_of_getElem? (i := 41) (by decide +kernel)) rfl) (by decide)
theorem f_X3_77 : FLk RX3 77 0 6 := flk0 (by decide) (wa1 (List.mem_of_getElem? (i := 44) (by decide +kernel)) rfl) (by decide)
theorem g_X3_80 : Cond.fieldLink RX3 80 RX3 "LEAST_MINUTES" "[I" ∈ wA := (wa2 (List.mem_of_getElem? (i := 32) (by decide +kernel)) rfl)
theorem g_X3_83 : Cond.fieldLink RX3 83 RX3 "MOST_MINUTES" "[I" ∈ wA := (wa2 (List.mem_of_getElem? (i := 34) (by decide +kernel)) rfl)
theorem f_X3_86 : FLk RX3 86 0 7 := flk0 (by decide) (wa1 (List.mem_of_getElem? (i := 48) (by decide +kernel)) rfl) (by decide)
theorem f_X3_89 : FLk RX3 89 0 8 := flk0 (by decide) (wa1 (List.mem_of_getElem? (i := 51) (by decide +kernel)) rfl) (by decide)
theorem mv_X3_92 : MV RX3 92 (kN 0) yX0_appendShow := ⟨(wa2 (List.mem_of_getElem? (i := 40) (by decide +kernel)) rfl), (wa2 (List.mem_of_getElem? (i := 41) (by decide +kernel)) rfl), (wa2 (List.mem_of_getElem? (i := 42) (by decide +kernel)) rfl), rfl⟩
theorem mv_X3_95 : MV RX3 95 (kN 3) yX3_isShow := ⟨(wa2 (List.mem_of_getElem? (i := 48) (by decide +kernel)) rfl), (wa2 (List.mem_of_getElem? (i := 50) (by decide +kernel)) rfl), (wa0 (List.mem_of_getElem? (i := 2) (by decide +kernel)) rfl), rfl⟩
theorem mv_X3_98 : MV RX3 98 (kN 0) yX0_dropShow := ⟨(wa2 (List.mem_of_getElem? (i := 52) (by decide +kernel)) rfl), (wa2 (List.mem_of_getElem? (i := 53) (by decide +kernel)) rfl), (wa2 (List.mem_of_getElem? (i := 54) (by decide +kernel)) rfl), rfl⟩
theorem f_X3_101 : FLk RX3 101 0 11 := flk0 (by decide) (wa1 (List.mem_of_getElem? (i := 59) (by decide +kernel)) rfl) (by decide)
theorem mv_X3_104 : MV RX3 104 (kN 3) yX3_isReelOfShow := ⟨(wa2 (List.mem_of_getElem? (i := 68) (by decide +kernel)) rfl), (wa2 (List.mem_of_getElem? (i := 70) (by decide +kernel)) rfl), (wa0 (List.mem_of_getElem? (i := 4) (by decide +kernel)) rfl), rfl⟩
theorem f_X3_108 : FLk RX3 108 0 12 := flk0 (by decide) (wa1 (List.mem_of_getElem? (i := 61) (by decide +kernel)) rfl) (by decide)
theorem mv_X3_111 : MV RX3 111 (kN 0) yX0_appendBreak := ⟨(wa2 (List.mem_of_getElem? (i := 72) (by decide +kernel)) rfl), (wa2 (List.mem_of_getElem? (i := 73) (by decide +kernel)) rfl), (wa2 (List.mem_of_getElem? (i := 74) (by decide +kernel)) rfl), rfl⟩
theorem mv_X3_114 : MV RX3 114 (kN 2) yX2_make := ⟨(wa2 (List.mem_of_getElem? (i := 84) (by decide +kernel)) rfl), (wa2 (List.mem_of_getElem? (i := 85) (by decide +kernel)) rfl), (wa2 (List.mem_of_getElem? (i := 86) (by decide +kernel)) rfl), rfl⟩
theorem f_X3_117 : FLk RX3 117 2 0 := flk2 (by decide) (wa1 (List.mem_of_getElem? (i := 123) (by decide +kernel)) rfl) (by decide)
theorem f_X3_121 : FLk RX3 121 2 1 := flk2 (by decide) (wa1 (List.mem_of_getElem? (i := 125) (by decide +kernel)) rfl) (by decide)
theorem ms_X3_124 : MS RX3 124 yX3_reelPlace := ⟨(wa2 (List.mem_of_getElem? (i := 140) (by decide +kernel)) rfl), (wa1 (List.mem_of_getElem? (i := 218) (by decide +kernel)) rfl)⟩
theorem f_X3_128 : FLk RX3 128 2 2 := flk2 (by decide) (wa1 (List.mem_of_getElem? (i := 127) (by decide +kernel)) rfl) (by decide)
theorem f_X3_131 : FLk RX3 131 2 3 := flk2 (by decide) (wa1 (List.mem_of_getElem? (i := 129) (by decide +kernel)) rfl) (by decide)
theorem f_X3_134 : FLk RX3 134 2 4 := flk2 (by decide) (wa1 (List.mem_of_getElem? (i := 131) (by decide +kernel)) rfl) (by decide)
theorem f_X3_137 : FLk RX3 137 2 5 := flk2 (by decide) (wa1 (List.mem_of_getElem? (i := 133) (by decide +kernel)) rfl) (by decide)
theorem mv_X3_140 : MV RX3 140 (kN 2) yX2_lossWith := ⟨(wa2 (List.mem_of_getElem? (i := 161) (by decide +kernel)) rfl), (wa2 (List.mem_of_getElem? (i := 162) (by decide +kernel)) rfl), (wa2 (List.mem_of_getElem? (i := 163) (by decide +kernel)) rfl), rfl⟩
theorem f_X3_144 : FLk RX3 144 2 7 := flk2 (by decide) (wa1 (List.mem_of_getElem? (i := 137) (by decide +kernel)) rfl) (by decide)
theorem f_X3_147 : FLk RX3 147 2 8 := flk2 (by decide) (wa1 (List.mem_of_getElem? (i := 139) (by decide +kernel)) rfl) (by decide)
theorem f_X3_150 : FLk RX3 150 2 6 := flk2 (by decide) (wa1 (List.mem_of_getElem? (i := 135) (by decide +kernel)) rfl) (by decide)
theorem mv_X3_153 : MV RX3 153 (kN 0) yX0_copyFrom := ⟨(wa2 (List.mem_of_getElem? (i := 182) (by decide +kernel)) rfl), (wa1 (List.mem_of_getElem? (i := 210) (by decide +kernel)) rfl), (wa1 (List.mem_of_getElem? (i := 211) (by decide +kernel)) rfl), rfl⟩
theorem ms_X3_156 : Cond.methodLink RX3 156 Lib.Math.min.name ∈ wA := (wa2 (List.mem_of_getElem? (i := 183) (by decide +kernel)) rfl)
theorem mv_X3_161 : MV RX3 161 (kN 2) yX2_isSmooth := ⟨(wa2 (List.mem_of_getElem? (i := 186) (by decide +kernel)) rfl), (wa2 (List.mem_of_getElem? (i := 187) (by decide +kernel)) rfl), (wa2 (List.mem_of_getElem? (i := 188) (by decide +kernel)) rfl), rfl⟩
theorem k_X3_165 : Cond.constant RX3 165 (-1000000) ∈ wA := (wa2 (List.mem_of_getElem? (i := 194) (by decide +kernel)) rfl)
theorem mv_X3_166 : MV RX3 166 (kN 0) yX0_setHomes := ⟨(wa2 (List.mem_of_getElem? (i := 199) (by decide +kernel)) rfl), (wa2 (List.mem_of_getElem? (i := 200) (by decide +kernel)) rfl), (wa2 (List.mem_of_getElem? (i := 201) (by decide +kernel)) rfl), rfl⟩
theorem f_X3_169 : FLk RX3 169 1 1 := flk1 (by decide) (wa1 (List.mem_of_getElem? (i := 110) (by decide +kernel)) rfl) (by decide)
theorem mv_X3_172 : MV RX3 172 (kN 1) yX1_restore := ⟨(wa2 (List.mem_of_getElem? (i := 211) (by decide +kernel)) rfl), (wa2 (List.mem_of_getElem? (i := 212) (by decide +kernel)) rfl), (wa2 (List.mem_of_getElem? (i := 213) (by decide +kernel)) rfl), rfl⟩
theorem f_X3_175 : FLk RX3 175 0 10 := flk0 (by decide) (wa1 (List.mem_of_getElem? (i := 56) (by decide +kernel)) rfl) (by decide)
theorem f_X4_7 : FLk RX4 7 4 0 := flk4 (by decide) (wa2 (List.mem_of_getElem? (i := 221) (by decide +kernel)) rfl) (by decide)
theorem f_X4_13 : FLk RX4 13 4 1 := flk4 (by decide) (wa2 (List.mem_of_getElem? (i := 222) (by decide +kernel)) rfl) (by decide)
theorem f_X4_16 : FLk RX4 16 4 3 := flk4 (by decide) (wa2 (List.mem_of_getElem? (i := 224) (by decide +kernel)) rfl) (by decide)
theorem f_X4_19 : FLk RX4 19 4 4 := flk4 (by decide) (wa2 (List.mem_of_getElem? (i := 225) (by decide +kernel)) rfl) (by decide)
theorem f_X4_22 : FLk RX4 22 4 5 := flk4 (by decide) (wa2 (List.mem_of_getElem? (i := 226) (by decide +kernel)) rfl) (by decide)
theorem f_X4_25 : FLk RX4 25 4 6 := flk4 (by decide) (wa2 (List.mem_of_getElem? (i := 227) (by decide +kernel)) rfl) (by decide)
theorem f_X4_28 : FLk RX4 28 4 7 := flk4 (by decide) (wa2 (List.mem_of_getElem? (i := 228) (by decide +kernel)) rfl) (by decide)
theorem f_X4_31 : FLk RX4 31 4 8 := flk4 (by decide) (wa2 (List.mem_of_getElem? (i := 229) (by decide +kernel)) rfl) (by decide)
theorem f_X4_34 : FLk RX4 34 4 9 := flk4 (by decide) (wa2 (List.mem_of_getElem? (i := 230) (by decide +kernel)) rfl) (by decide)
theorem f_X4_37 : FLk RX4 37 4 10 := flk4 (by decide) (wa2 (List.mem_of_getElem? (i := 231) (by decide +kernel)) rfl) (by decide)
theorem f_X4_40 : FLk RX4 40 4 11 := flk4 (by decide) (wa2 (List.mem_of_getElem? (i := 232) (by decide +kernel)) rfl) (by decide)
theorem f_X4_44 : FLk RX4 44 4 12 := flk4 (by decide) (wa2 (List.mem_of_getElem? (i := 233) (by decide +kernel)) rfl) (by decide)
theorem f_X4_47 : FLk RX4 47 4 13 := flk4 (by decide) (wa2 (List.mem_of_getElem? (i := 234) (by decide +kernel)) rfl) (by decide)
theorem f_X4_50 : FLk RX4 50 4 14 := flk4 (by decide) (wa2 (List.mem_of_getElem? (i := 235) (by decide +kernel)) rfl) (by decide)
theorem f_X4_53 : FLk RX4 53 4 17 := flk4 (by decide) (wa2 (List.mem_of_getElem? (i := 238) (by decide +kernel)) rfl) (by decide)
theorem f_X4_56 : FLk RX4 56 4 2 := flk4 (by decide) (wa2 (List.mem_of_getElem? (i := 223) (by decide +kernel)) rfl) (by decide)
theorem k_X4_60 : Cond.constantLong RX4 60 (3) ∈ wA := (wa3 (List.mem_of_getElem? (i := 47) (by decide +kernel)) rfl)
theorem ms_X4_62 : MS RX4 62 yX4_in := ⟨(wa3 (List.mem_of_getElem? (i := 48) (by decide +kernel)) rfl), (wa3 (List.mem_of_getElem? (i := 49) (by decide +kernel)) rfl)⟩
theorem k_X4_66 : Cond.constantLong RX4 66 (1439) ∈ wA := (wa3 (List.mem_of_getElem? (i := 105) (by decide +kernel)) rfl)
theorem ms_X4_68 : MS RX4 68 yX4_isFilm := ⟨(wa3 (List.mem_of_getElem? (i := 44) (by decide +kernel)) rfl), (wa3 (List.mem_of_getElem? (i := 45) (by decide +kernel)) rfl)⟩
theorem k_X4_72 : Cond.constantLong RX4 72 (30) ∈ wA := (wa3 (List.mem_of_getElem? (i := 51) (by decide +kernel)) rfl)
theorem k_X4_74 : Cond.constantLong RX4 74 (2) ∈ wA := (wa3 (List.mem_of_getElem? (i := 52) (by decide +kernel)) rfl)
theorem mv_X4_76 : MV RX4 76 (kN 4) yX4_keeps := ⟨(wa3 (List.mem_of_getElem? (i := 53) (by decide +kernel)) rfl), (wa3 (List.mem_of_getElem? (i := 55) (by decide +kernel)) rfl), (wa0 (List.mem_of_getElem? (i := 15) (by decide +kernel)) rfl), rfl⟩
theorem ms_X4_79 : MS RX4 79 yX4_isHouse := ⟨(wa3 (List.mem_of_getElem? (i := 65) (by decide +kernel)) rfl), (wa3 (List.mem_of_getElem? (i := 66) (by decide +kernel)) rfl)⟩
theorem mv_X4_82 : MV RX4 82 (kN 4) yX4_isMachine := ⟨(wa3 (List.mem_of_getElem? (i := 80) (by decide +kernel)) rfl), (wa3 (List.mem_of_getElem? (i := 82) (by decide +kernel)) rfl), (wa0 (List.mem_of_getElem? (i := 16) (by decide +kernel)) rfl), rfl⟩
theorem k_X4_85 : Cond.constantLong RX4 85 (10) ∈ wA := (wa3 (List.mem_of_getElem? (i := 96) (by decide +kernel)) rfl)
theorem k_X4_87 : Cond.constantLong RX4 87 (15) ∈ wA := (wa3 (List.mem_of_getElem? (i := 97) (by decide +kernel)) rfl)
theorem ms_X4_89 : MS RX4 89 yX4_isStart := ⟨(wa3 (List.mem_of_getElem? (i := 102) (by decide +kernel)) rfl), (wa3 (List.mem_of_getElem? (i := 103) (by decide +kernel)) rfl)⟩
theorem mv_X4_92 : MV RX4 92 (kN 4) yX4_isShow := ⟨(wa3 (List.mem_of_getElem? (i := 110) (by decide +kernel)) rfl), (wa3 (List.mem_of_getElem? (i := 112) (by decide +kernel)) rfl), (wa0 (List.mem_of_getElem? (i := 17) (by decide +kernel)) rfl), rfl⟩
theorem mv_X4_95 : MV RX4 95 (kN 4) yX4_goes := ⟨(wa3 (List.mem_of_getElem? (i := 114) (by decide +kernel)) rfl), (wa3 (List.mem_of_getElem? (i := 116) (by decide +kernel)) rfl), (wa0 (List.mem_of_getElem? (i := 18) (by decide +kernel)) rfl), rfl⟩
theorem mv_X4_99 : MV RX4 99 (kN 4) yX4_isReel := ⟨(wa3 (List.mem_of_getElem? (i := 126) (by decide +kernel)) rfl), (wa3 (List.mem_of_getElem? (i := 128) (by decide +kernel)) rfl), (wa0 (List.mem_of_getElem? (i := 19) (by decide +kernel)) rfl), rfl⟩
theorem k_X4_103 : Cond.constantLong RX4 103 (60) ∈ wA := (wa3 (List.mem_of_getElem? (i := 130) (by decide +kernel)) rfl)
theorem f_X4_105 : FLk RX4 105 4 15 := flk4 (by decide) (wa2 (List.mem_of_getElem? (i := 236) (by decide +kernel)) rfl) (by decide)
theorem mv_X4_108 : MV RX4 108 (kN 4) yX4_hasPlate := ⟨(wa3 (List.mem_of_getElem? (i := 159) (by decide +kernel)) rfl), (wa3 (List.mem_of_getElem? (i := 161) (by decide +kernel)) rfl), (wa0 (List.mem_of_getElem? (i := 25) (by decide +kernel)) rfl), rfl⟩
theorem mv_X4_111 : MV RX4 111 (kN 4) yX4_arrives := ⟨(wa3 (List.mem_of_getElem? (i := 151) (by decide +kernel)) rfl), (wa3 (List.mem_of_getElem? (i := 153) (by decide +kernel)) rfl), (wa0 (List.mem_of_getElem? (i := 23) (by decide +kernel)) rfl), rfl⟩
theorem mv_X4_115 : MV RX4 115 (kN 4) yX4_startBy := ⟨(wa3 (List.mem_of_getElem? (i := 155) (by decide +kernel)) rfl), (wa3 (List.mem_of_getElem? (i := 157) (by decide +kernel)) rfl), (wa0 (List.mem_of_getElem? (i := 24) (by decide +kernel)) rfl), rfl⟩
theorem mv_X4_119 : MV RX4 119 (kN 4) yX4_repairs := ⟨(wa3 (List.mem_of_getElem? (i := 163) (by decide +kernel)) rfl), (wa3 (List.mem_of_getElem? (i := 165) (by decide +kernel)) rfl), (wa0 (List.mem_of_getElem? (i := 26) (by decide +kernel)) rfl), rfl⟩
theorem f_X4_122 : FLk RX4 122 4 16 := flk4 (by decide) (wa2 (List.mem_of_getElem? (i := 237) (by decide +kernel)) rfl) (by decide)
theorem mv_X4_125 : MV RX4 125 (kN 4) yX4_runs := ⟨(wa3 (List.mem_of_getElem? (i := 147) (by decide +kernel)) rfl), (wa3 (List.mem_of_getElem? (i := 149) (by decide +kernel)) rfl), (wa0 (List.mem_of_getElem? (i := 22) (by decide +kernel)) rfl), rfl⟩
theorem mv_X4_129 : MV RX4 129 (kN 4) yX4_plansShow := ⟨(wa3 (List.mem_of_getElem? (i := 143) (by decide +kernel)) rfl), (wa3 (List.mem_of_getElem? (i := 145) (by decide +kernel)) rfl), (wa0 (List.mem_of_getElem? (i := 21) (by decide +kernel)) rfl), rfl⟩
theorem mv_X4_132 : MV RX4 132 (kN 4) yX4_plans := ⟨(wa3 (List.mem_of_getElem? (i := 139) (by decide +kernel)) rfl), (wa3 (List.mem_of_getElem? (i := 141) (by decide +kernel)) rfl), (wa0 (List.mem_of_getElem? (i := 20) (by decide +kernel)) rfl), rfl⟩
theorem mv_X4_136 : MV RX4 136 (kN 4) yX4_setsAside := ⟨(wa3 (List.mem_of_getElem? (i := 203) (by decide +kernel)) rfl), (wa3 (List.mem_of_getElem? (i := 205) (by decide +kernel)) rfl), (wa0 (List.mem_of_getElem? (i := 27) (by decide +kernel)) rfl), rfl⟩
theorem mv_X4_139 : MV RX4 139 (kN 4) yX4_takesBack := ⟨(wa3 (List.mem_of_getElem? (i := 207) (by decide +kernel)) rfl), (wa3 (List.mem_of_getElem? (i := 209) (by decide +kernel)) rfl), (wa0 (List.mem_of_getElem? (i := 28) (by decide +kernel)) rfl), rfl⟩
theorem k_X4_142 : Cond.constant RX4 142 (-1000000) ∈ wA := (wa3 (List.mem_of_getElem? (i := 215) (by decide +kernel)) rfl)
theorem f_X0_9 : FLk RX0 9 0 0 := flk0 (by decide) (wa1 (List.mem_of_getElem? (i := 27) (by decide +kernel)) rfl) (by decide)
theorem f_X0_15 : FLk RX0 15 0 1 := flk0 (by decide) (wa1 (List.mem_of_getElem? (i := 30) (by decide +kernel)) rfl) (by decide)
theorem f_X0_18 : FLk RX0 18 0 2 := flk0 (by decide) (wa1 (List.mem_of_getElem? (i := 32) (by decide +kernel)) rfl) (by decide)
theorem f_X0_21 : FLk RX0 21 0 3 := flk0 (by decide) (wa1 (List.mem_of_getElem? (i := 34) (by decide +kernel)) rfl) (by decide)
theorem f_X0_24 : FLk RX0 24 0 4 := flk0 (by decide) (wa1 (List.mem_of_getElem? (i := 37) (by decide +kernel)) rfl) (by decide)
theorem f_X0_28 : FLk RX0 28 0 5 := flk0 (by decide) (wa1 (List.mem_of_getElem? (i := 40) (by decide +kernel)) rfl) (by decide)
theorem f_X0_31 : FLk RX0 31 0 6 := flk0 (by decide) (wa1 (List.mem_of_getElem? (i := 43) (by decide +kernel)) rfl) (by decide)
theorem f_X0_34 : FLk RX0 34 0 7 := flk0 (by decide) (wa1 (List.mem_of_getElem? (i := 46) (by decide +kernel)) rfl) (by decide)
theorem f_X0_37 : FLk RX0 37 0 8 := flk0 (by decide) (wa1 (List.mem_of_getElem? (i := 49) (by decide +kernel)) rfl) (by decide)
theorem f_X0_40 : FLk RX0 40 0 9 := flk0 (by decide) (wa1 (List.mem_of_getElem? (i := 52) (by decide +kernel)) rfl) (by decide)
theorem f_X0_43 : FLk RX0 43 0 10 := flk0 (by decide) (wa1 (List.mem_of_getElem? (i := 54) (by decide +kernel)) rfl) (by decide)
theorem f_X0_46 : FLk RX0 46 0 11 := flk0 (by decide) (wa1 (List.mem_of_getElem? (i := 57) (by decide +kernel)) rfl) (by decide)
theorem f_X0_49 : FLk RX0 49 0 12 := flk0 (by decide) (wa1 (List.mem_of_getElem? (i := 60) (by decide +kernel)) rfl) (by decide)
theorem f_X0_52 : FLk RX0 52 0 13 := flk0 (by decide) (wa1 (List.mem_of_getElem? (i := 62) (by decide +kernel)) rfl) (by decide)
theorem f_X0_55 : FLk RX0 55 0 14 := flk0 (by decide) (wa1 (List.mem_of_getElem? (i := 63) (by decide +kernel)) rfl) (by decide)
theorem f_X0_58 : FLk RX0 58 0 15 := flk0 (by decide) (wa1 (List.mem_of_getElem? (i := 64) (by decide +kernel)) rfl) (by decide)
theorem ms_X0_64 : Cond.methodLink RX0 64 arraycopyName ∈ wA := (wa1 (List.mem_of_getElem? (i := 24) (by decide +kernel)) rfl)
theorem mv_X0_74 : MV RX0 74 (kN 0) yX0_dropBreaksOf := ⟨(wa2 (List.mem_of_getElem? (i := 56) (by decide +kernel)) rfl), (wa2 (List.mem_of_getElem? (i := 58) (by decide +kernel)) rfl), (wa0 (List.mem_of_getElem? (i := 3) (by decide +kernel)) rfl), rfl⟩
theorem f_X1_11 : FLk RX1 11 1 0 := flk1 (by decide) (wa1 (List.mem_of_getElem? (i := 108) (by decide +kernel)) rfl) (by decide)
theorem f_X1_17 : FLk RX1 17 1 1 := flk1 (by decide) (wa1 (List.mem_of_getElem? (i := 109) (by decide +kernel)) rfl) (by decide)
theorem mv_X1_22 : MV RX1 22 (kN 1) yX1_forgetOldest := ⟨(wa1 (List.mem_of_getElem? (i := 205) (by decide +kernel)) rfl), (wa1 (List.mem_of_getElem? (i := 207) (by decide +kernel)) rfl), (wa0 (List.mem_of_getElem? (i := 0) (by decide +kernel)) rfl), rfl⟩
theorem mv_X1_25 : MV RX1 25 (kN 0) yX0_copyFrom := ⟨(wa1 (List.mem_of_getElem? (i := 209) (by decide +kernel)) rfl), (wa1 (List.mem_of_getElem? (i := 210) (by decide +kernel)) rfl), (wa1 (List.mem_of_getElem? (i := 211) (by decide +kernel)) rfl), rfl⟩
theorem f_X2_9 : FLk RX2 9 2 0 := flk2 (by decide) (wa1 (List.mem_of_getElem? (i := 122) (by decide +kernel)) rfl) (by decide)
theorem f_X2_15 : FLk RX2 15 2 1 := flk2 (by decide) (wa1 (List.mem_of_getElem? (i := 124) (by decide +kernel)) rfl) (by decide)
theorem f_X2_19 : FLk RX2 19 2 2 := flk2 (by decide) (wa1 (List.mem_of_getElem? (i := 126) (by decide +kernel)) rfl) (by decide)
theorem f_X2_22 : FLk RX2 22 2 3 := flk2 (by decide) (wa1 (List.mem_of_getElem? (i := 128) (by decide +kernel)) rfl) (by decide)
theorem f_X2_25 : FLk RX2 25 2 4 := flk2 (by decide) (wa1 (List.mem_of_getElem? (i := 130) (by decide +kernel)) rfl) (by decide)
theorem f_X2_28 : FLk RX2 28 2 5 := flk2 (by decide) (wa1 (List.mem_of_getElem? (i := 132) (by decide +kernel)) rfl) (by decide)
theorem f_X2_31 : FLk RX2 31 2 6 := flk2 (by decide) (wa1 (List.mem_of_getElem? (i := 134) (by decide +kernel)) rfl) (by decide)
theorem f_X2_34 : FLk RX2 34 2 7 := flk2 (by decide) (wa1 (List.mem_of_getElem? (i := 136) (by decide +kernel)) rfl) (by decide)
theorem f_X2_38 : FLk RX2 38 2 8 := flk2 (by decide) (wa1 (List.mem_of_getElem? (i := 138) (by decide +kernel)) rfl) (by decide)
theorem f_X2_41 : FLk RX2 41 2 9 := flk2 (by decide) (wa1 (List.mem_of_getElem? (i := 140) (by decide +kernel)) rfl) (by decide)
theorem f_X2_44 : FLk RX2 44 2 10 := flk2 (by decide) (wa1 (List.mem_of_getElem? (i := 141) (by decide +kernel)) rfl) (by decide)
theorem f_X2_47 : FLk RX2 47 2 11 := flk2 (by decide) (wa1 (List.mem_of_getElem? (i := 142) (by decide +kernel)) rfl) (by decide)
theorem f_X2_50 : FLk RX2 50 2 12 := flk2 (by decide) (wa1 (List.mem_of_getElem? (i := 143) (by decide +kernel)) rfl) (by decide)
theorem f_X2_53 : FLk RX2 53 2 13 := flk2 (by decide) (wa1 (List.mem_of_getElem? (i := 144) (by decide +kernel)) rfl) (by decide)
theorem f_X2_56 : FLk RX2 56 2 14 := flk2 (by decide) (wa1 (List.mem_of_getElem? (i := 145) (by decide +kernel)) rfl) (by decide)
theorem f_X2_59 : FLk RX2 59 2 15 := flk2 (by decide) (wa1 (List.mem_of_getElem? (i := 146) (by decide +kernel)) rfl) (by decide)
theorem mv_X2_62 : MV RX2 62 (kN 2) yX2_open := ⟨(wa2 (List.mem_of_getElem? (i := 88) (by decide +kernel)) rfl), (wa2 (List.mem_of_getElem? (i := 90) (by decide +kernel)) rfl), (wa0 (List.mem_of_getElem? (i := 5) (by decide +kernel)) rfl), rfl⟩
theorem f_X2_66 : FLk RX2 66 0 8 := flk0 (by decide) (wa1 (List.mem_of_getElem? (i := 50) (by decide +kernel)) rfl) (by decide)
theorem mv_X2_71 : MV RX2 71 (kN 2) yX2_planShow := ⟨(wa2 (List.mem_of_getElem? (i := 101) (by decide +kernel)) rfl), (wa2 (List.mem_of_getElem? (i := 103) (by decide +kernel)) rfl), (wa0 (List.mem_of_getElem? (i := 8) (by decide +kernel)) rfl), rfl⟩
theorem mv_X2_75 : MV RX2 75 (kN 2) yX2_make := ⟨(wa2 (List.mem_of_getElem? (i := 165) (by decide +kernel)) rfl), (wa2 (List.mem_of_getElem? (i := 85) (by decide +kernel)) rfl), (wa2 (List.mem_of_getElem? (i := 86) (by decide +kernel)) rfl), rfl⟩
theorem f_X2_78 : FLk RX2 78 0 3 := flk0 (by decide) (wa1 (List.mem_of_getElem? (i := 36) (by decide +kernel)) rfl) (by decide)
theorem mv_X2_81 : MV RX2 81 (kN 2) yX2_bringHome := ⟨(wa2 (List.mem_of_getElem? (i := 92) (by decide +kernel)) rfl), (wa2 (List.mem_of_getElem? (i := 94) (by decide +kernel)) rfl), (wa0 (List.mem_of_getElem? (i := 6) (by decide +kernel)) rfl), rfl⟩
theorem mv_X2_85 : MV RX2 85 (kN 2) yX2_sortShows := ⟨(wa2 (List.mem_of_getElem? (i := 97) (by decide +kernel)) rfl), (wa2 (List.mem_of_getElem? (i := 99) (by decide +kernel)) rfl), (wa0 (List.mem_of_getElem? (i := 7) (by decide +kernel)) rfl), rfl⟩
theorem f_X2_92 : FLk RX2 92 0 11 := flk0 (by decide) (wa1 (List.mem_of_getElem? (i := 58) (by decide +kernel)) rfl) (by decide)
theorem f_X2_95 : FLk RX2 95 0 9 := flk0 (by decide) (wa1 (List.mem_of_getElem? (i := 53) (by decide +kernel)) rfl) (by decide)
theorem mv_X2_98 : MV RX2 98 (kN 0) yX0_firstMachineIn := ⟨(wa2 (List.mem_of_getElem? (i := 105) (by decide +kernel)) rfl), (wa2 (List.mem_of_getElem? (i := 106) (by decide +kernel)) rfl), (wa2 (List.mem_of_getElem? (i := 107) (by decide +kernel)) rfl), rfl⟩
theorem f_X2_102 : FLk RX2 102 0 0 := flk0 (by decide) (wa1 (List.mem_of_getElem? (i := 29) (by decide +kernel)) rfl) (by decide)
theorem f_X2_105 : FLk RX2 105 0 10 := flk0 (by decide) (wa1 (List.mem_of_getElem? (i := 55) (by decide +kernel)) rfl) (by decide)
theorem mv_X2_108 : MV RX2 108 (kN 2) yX2_planReel := ⟨(wa2 (List.mem_of_getElem? (i := 109) (by decide +kernel)) rfl), (wa2 (List.mem_of_getElem? (i := 111) (by decide +kernel)) rfl), (wa0 (List.mem_of_getElem? (i := 9) (by decide +kernel)) rfl), rfl⟩
theorem f_X2_112 : FLk RX2 112 0 2 := flk0 (by decide) (wa1 (List.mem_of_getElem? (i := 33) (by decide +kernel)) rfl) (by decide)
theorem mv_X2_115 : MV RX2 115 (kN 2) yX2_bring := ⟨(wa2 (List.mem_of_getElem? (i := 113) (by decide +kernel)) rfl), (wa2 (List.mem_of_getElem? (i := 115) (by decide +kernel)) rfl), (wa0 (List.mem_of_getElem? (i := 10) (by decide +kernel)) rfl), rfl⟩
theorem mv_X2_119 : MV RX2 119 (kN 2) yX2_soonestMachine := ⟨(wa2 (List.mem_of_getElem? (i := 124) (by decide +kernel)) rfl), (wa2 (List.mem_of_getElem? (i := 126) (by decide +kernel)) rfl), (wa0 (List.mem_of_getElem? (i := 12) (by decide +kernel)) rfl), rfl⟩
theorem mv_X2_122 : MV RX2 122 (kN 2) yX2_startOn := ⟨(wa2 (List.mem_of_getElem? (i := 128) (by decide +kernel)) rfl), (wa2 (List.mem_of_getElem? (i := 130) (by decide +kernel)) rfl), (wa0 (List.mem_of_getElem? (i := 13) (by decide +kernel)) rfl), rfl⟩
theorem f_X2_125 : FLk RX2 125 0 1 := flk0 (by decide) (wa1 (List.mem_of_getElem? (i := 31) (by decide +kernel)) rfl) (by decide)
theorem mv_X2_128 : MV RX2 128 (kN 0) yX0_repairTime := ⟨(wa2 (List.mem_of_getElem? (i := 136) (by decide +kernel)) rfl), (wa2 (List.mem_of_getElem? (i := 137) (by decide +kernel)) rfl), (wa2 (List.mem_of_getElem? (i := 138) (by decide +kernel)) rfl), rfl⟩
theorem mv_X2_131 : MV RX2 131 (kN 2) yX2_needsPlate := ⟨(wa2 (List.mem_of_getElem? (i := 132) (by decide +kernel)) rfl), (wa2 (List.mem_of_getElem? (i := 134) (by decide +kernel)) rfl), (wa0 (List.mem_of_getElem? (i := 14) (by decide +kernel)) rfl), rfl⟩
theorem f_X2_135 : FLk RX2 135 0 7 := flk0 (by decide) (wa1 (List.mem_of_getElem? (i := 47) (by decide +kernel)) rfl) (by decide)
theorem mv_X2_138 : MV RX2 138 (kN 2) yX2_soonestCarrier := ⟨(wa2 (List.mem_of_getElem? (i := 117) (by decide +kernel)) rfl), (wa2 (List.mem_of_getElem? (i := 119) (by decide +kernel)) rfl), (wa0 (List.mem_of_getElem? (i := 11) (by decide +kernel)) rfl), rfl⟩
theorem ms_X2_142 : Cond.methodLink RX2 142 Lib.Math.max.name ∈ wA := (wa2 (List.mem_of_getElem? (i := 121) (by decide +kernel)) rfl)
theorem f_X2_147 : FLk RX2 147 0 6 := flk0 (by decide) (wa1 (List.mem_of_getElem? (i := 45) (by decide +kernel)) rfl) (by decide)
theorem f_X2_150 : FLk RX2 150 0 5 := flk0 (by decide) (wa1 (List.mem_of_getElem? (i := 42) (by decide +kernel)) rfl) (by decide)
theorem f_X2_153 : FLk RX2 153 0 4 := flk0 (by decide) (wa1 (List.mem_of_getElem? (i := 39) (by decide +kernel)) rfl) (by decide)
theorem mv_L_13 : MV RL 13 (kN 3) yX3_addReel := ⟨(wa1 (List.mem_of_getElem? (i := 194) (by decide +kernel)) rfl), (wa1 (List.mem_of_getElem? (i := 195) (by decide +kernel)) rfl), (wa1 (List.mem_of_getElem? (i := 196) (by decide +kernel)) rfl), rfl⟩
theorem mv_L_17 : MV RL 17 (kN 4) yX4_addReel := ⟨(wa3 (List.mem_of_getElem? (i := 40) (by decide +kernel)) rfl), (wa3 (List.mem_of_getElem? (i := 41) (by decide +kernel)) rfl), (wa3 (List.mem_of_getElem? (i := 42) (by decide +kernel)) rfl), rfl⟩
theorem mv_L_18 : MV RL 18 (kN 3) yX3_removeReels := ⟨(wa1 (List.mem_of_getElem? (i := 220) (by decide +kernel)) rfl), (wa1 (List.mem_of_getElem? (i := 221) (by decide +kernel)) rfl), (wa1 (List.mem_of_getElem? (i := 222) (by decide +kernel)) rfl), rfl⟩
theorem mv_L_22 : MV RL 22 (kN 4) yX4_removeReels := ⟨(wa3 (List.mem_of_getElem? (i := 57) (by decide +kernel)) rfl), (wa3 (List.mem_of_getElem? (i := 58) (by decide +kernel)) rfl), (wa3 (List.mem_of_getElem? (i := 59) (by decide +kernel)) rfl), rfl⟩
theorem mv_L_23 : MV RL 23 (kN 3) yX3_setHome := ⟨(wa1 (List.mem_of_getElem? (i := 228) (by decide +kernel)) rfl), (wa1 (List.mem_of_getElem? (i := 229) (by decide +kernel)) rfl), (wa1 (List.mem_of_getElem? (i := 230) (by decide +kernel)) rfl), rfl⟩
theorem mv_L_27 : MV RL 27 (kN 4) yX4_setHome := ⟨(wa3 (List.mem_of_getElem? (i := 61) (by decide +kernel)) rfl), (wa3 (List.mem_of_getElem? (i := 62) (by decide +kernel)) rfl), (wa3 (List.mem_of_getElem? (i := 63) (by decide +kernel)) rfl), rfl⟩
theorem mv_L_28 : MV RL 28 (kN 3) yX3_filmLength := ⟨(wa1 (List.mem_of_getElem? (i := 232) (by decide +kernel)) rfl), (wa1 (List.mem_of_getElem? (i := 233) (by decide +kernel)) rfl), (wa1 (List.mem_of_getElem? (i := 234) (by decide +kernel)) rfl), rfl⟩
theorem mv_L_31 : MV RL 31 (kN 4) yX4_filmLength := ⟨(wa3 (List.mem_of_getElem? (i := 68) (by decide +kernel)) rfl), (wa3 (List.mem_of_getElem? (i := 69) (by decide +kernel)) rfl), (wa3 (List.mem_of_getElem? (i := 70) (by decide +kernel)) rfl), rfl⟩
theorem mv_L_32 : MV RL 32 (kN 3) yX3_addMachine := ⟨(wa2 (List.mem_of_getElem? (i := 0) (by decide +kernel)) rfl), (wa2 (List.mem_of_getElem? (i := 1) (by decide +kernel)) rfl), (wa2 (List.mem_of_getElem? (i := 2) (by decide +kernel)) rfl), rfl⟩
theorem mv_L_35 : MV RL 35 (kN 4) yX4_addMachine := ⟨(wa3 (List.mem_of_getElem? (i := 72) (by decide +kernel)) rfl), (wa3 (List.mem_of_getElem? (i := 73) (by decide +kernel)) rfl), (wa3 (List.mem_of_getElem? (i := 74) (by decide +kernel)) rfl), rfl⟩
theorem mv_L_36 : MV RL 36 (kN 3) yX3_removeMachine := ⟨(wa2 (List.mem_of_getElem? (i := 8) (by decide +kernel)) rfl), (wa2 (List.mem_of_getElem? (i := 9) (by decide +kernel)) rfl), (wa2 (List.mem_of_getElem? (i := 10) (by decide +kernel)) rfl), rfl⟩
theorem mv_L_39 : MV RL 39 (kN 4) yX4_removeMachine := ⟨(wa3 (List.mem_of_getElem? (i := 76) (by decide +kernel)) rfl), (wa3 (List.mem_of_getElem? (i := 77) (by decide +kernel)) rfl), (wa3 (List.mem_of_getElem? (i := 78) (by decide +kernel)) rfl), rfl⟩
theorem mv_L_40 : MV RL 40 (kN 3) yX3_houseOf := ⟨(wa2 (List.mem_of_getElem? (i := 20) (by decide +kernel)) rfl), (wa2 (List.mem_of_getElem? (i := 21) (by decide +kernel)) rfl), (wa2 (List.mem_of_getElem? (i := 22) (by decide +kernel)) rfl), rfl⟩
theorem mv_L_43 : MV RL 43 (kN 4) yX4_houseOf := ⟨(wa3 (List.mem_of_getElem? (i := 84) (by decide +kernel)) rfl), (wa3 (List.mem_of_getElem? (i := 85) (by decide +kernel)) rfl), (wa3 (List.mem_of_getElem? (i := 86) (by decide +kernel)) rfl), rfl⟩
theorem mv_L_44 : MV RL 44 (kN 3) yX3_setCarriers := ⟨(wa2 (List.mem_of_getElem? (i := 24) (by decide +kernel)) rfl), (wa2 (List.mem_of_getElem? (i := 25) (by decide +kernel)) rfl), (wa2 (List.mem_of_getElem? (i := 26) (by decide +kernel)) rfl), rfl⟩
theorem mv_L_47 : MV RL 47 (kN 4) yX4_setCarriers := ⟨(wa3 (List.mem_of_getElem? (i := 88) (by decide +kernel)) rfl), (wa3 (List.mem_of_getElem? (i := 89) (by decide +kernel)) rfl), (wa3 (List.mem_of_getElem? (i := 90) (by decide +kernel)) rfl), rfl⟩
theorem mv_L_48 : MV RL 48 (kN 3) yX3_setDuration := ⟨(wa2 (List.mem_of_getElem? (i := 28) (by decide +kernel)) rfl), (wa2 (List.mem_of_getElem? (i := 29) (by decide +kernel)) rfl), (wa2 (List.mem_of_getElem? (i := 30) (by decide +kernel)) rfl), rfl⟩
theorem mv_L_51 : MV RL 51 (kN 4) yX4_setDuration := ⟨(wa3 (List.mem_of_getElem? (i := 92) (by decide +kernel)) rfl), (wa3 (List.mem_of_getElem? (i := 93) (by decide +kernel)) rfl), (wa3 (List.mem_of_getElem? (i := 94) (by decide +kernel)) rfl), rfl⟩
theorem mv_L_52 : MV RL 52 (kN 3) yX3_addShow := ⟨(wa2 (List.mem_of_getElem? (i := 36) (by decide +kernel)) rfl), (wa2 (List.mem_of_getElem? (i := 37) (by decide +kernel)) rfl), (wa2 (List.mem_of_getElem? (i := 38) (by decide +kernel)) rfl), rfl⟩
theorem mv_L_55 : MV RL 55 (kN 4) yX4_addShow := ⟨(wa3 (List.mem_of_getElem? (i := 98) (by decide +kernel)) rfl), (wa3 (List.mem_of_getElem? (i := 99) (by decide +kernel)) rfl), (wa3 (List.mem_of_getElem? (i := 100) (by decide +kernel)) rfl), rfl⟩
theorem mv_L_56 : MV RL 56 (kN 3) yX3_removeShow := ⟨(wa2 (List.mem_of_getElem? (i := 44) (by decide +kernel)) rfl), (wa2 (List.mem_of_getElem? (i := 45) (by decide +kernel)) rfl), (wa2 (List.mem_of_getElem? (i := 46) (by decide +kernel)) rfl), rfl⟩
theorem mv_L_59 : MV RL 59 (kN 4) yX4_removeShow := ⟨(wa3 (List.mem_of_getElem? (i := 106) (by decide +kernel)) rfl), (wa3 (List.mem_of_getElem? (i := 107) (by decide +kernel)) rfl), (wa3 (List.mem_of_getElem? (i := 108) (by decide +kernel)) rfl), rfl⟩
theorem mv_L_60 : MV RL 60 (kN 3) yX3_moveShow := ⟨(wa2 (List.mem_of_getElem? (i := 60) (by decide +kernel)) rfl), (wa2 (List.mem_of_getElem? (i := 61) (by decide +kernel)) rfl), (wa2 (List.mem_of_getElem? (i := 62) (by decide +kernel)) rfl), rfl⟩
theorem mv_L_63 : MV RL 63 (kN 4) yX4_moveShow := ⟨(wa3 (List.mem_of_getElem? (i := 118) (by decide +kernel)) rfl), (wa3 (List.mem_of_getElem? (i := 119) (by decide +kernel)) rfl), (wa3 (List.mem_of_getElem? (i := 120) (by decide +kernel)) rfl), rfl⟩
theorem mv_L_64 : MV RL 64 (kN 3) yX3_addBreak := ⟨(wa2 (List.mem_of_getElem? (i := 64) (by decide +kernel)) rfl), (wa2 (List.mem_of_getElem? (i := 65) (by decide +kernel)) rfl), (wa2 (List.mem_of_getElem? (i := 66) (by decide +kernel)) rfl), rfl⟩
theorem mv_L_67 : MV RL 67 (kN 4) yX4_addBreak := ⟨(wa3 (List.mem_of_getElem? (i := 122) (by decide +kernel)) rfl), (wa3 (List.mem_of_getElem? (i := 123) (by decide +kernel)) rfl), (wa3 (List.mem_of_getElem? (i := 124) (by decide +kernel)) rfl), rfl⟩
theorem mv_L_68 : MV RL 68 (kN 3) yX3_clearBreaks := ⟨(wa2 (List.mem_of_getElem? (i := 76) (by decide +kernel)) rfl), (wa2 (List.mem_of_getElem? (i := 77) (by decide +kernel)) rfl), (wa2 (List.mem_of_getElem? (i := 78) (by decide +kernel)) rfl), rfl⟩
theorem mv_L_72 : MV RL 72 (kN 4) yX4_clearBreaks := ⟨(wa3 (List.mem_of_getElem? (i := 131) (by decide +kernel)) rfl), (wa3 (List.mem_of_getElem? (i := 132) (by decide +kernel)) rfl), (wa3 (List.mem_of_getElem? (i := 133) (by decide +kernel)) rfl), rfl⟩
theorem mv_L_73 : MV RL 73 (kN 3) yX3_startOf := ⟨(wa2 (List.mem_of_getElem? (i := 80) (by decide +kernel)) rfl), (wa2 (List.mem_of_getElem? (i := 81) (by decide +kernel)) rfl), (wa2 (List.mem_of_getElem? (i := 82) (by decide +kernel)) rfl), rfl⟩
theorem mv_L_76 : MV RL 76 (kN 4) yX4_startOf := ⟨(wa3 (List.mem_of_getElem? (i := 135) (by decide +kernel)) rfl), (wa3 (List.mem_of_getElem? (i := 136) (by decide +kernel)) rfl), (wa3 (List.mem_of_getElem? (i := 137) (by decide +kernel)) rfl), rfl⟩
theorem mv_L_77 : MV RL 77 (kN 3) yX3_machineOf := ⟨(wa2 (List.mem_of_getElem? (i := 141) (by decide +kernel)) rfl), (wa2 (List.mem_of_getElem? (i := 142) (by decide +kernel)) rfl), (wa2 (List.mem_of_getElem? (i := 143) (by decide +kernel)) rfl), rfl⟩
theorem mv_L_80 : MV RL 80 (kN 4) yX4_machineOf := ⟨(wa3 (List.mem_of_getElem? (i := 167) (by decide +kernel)) rfl), (wa3 (List.mem_of_getElem? (i := 168) (by decide +kernel)) rfl), (wa3 (List.mem_of_getElem? (i := 169) (by decide +kernel)) rfl), rfl⟩
theorem mv_L_81 : MV RL 81 (kN 3) yX3_endOf := ⟨(wa2 (List.mem_of_getElem? (i := 145) (by decide +kernel)) rfl), (wa2 (List.mem_of_getElem? (i := 146) (by decide +kernel)) rfl), (wa2 (List.mem_of_getElem? (i := 147) (by decide +kernel)) rfl), rfl⟩
theorem mv_L_84 : MV RL 84 (kN 4) yX4_endOf := ⟨(wa3 (List.mem_of_getElem? (i := 171) (by decide +kernel)) rfl), (wa3 (List.mem_of_getElem? (i := 172) (by decide +kernel)) rfl), (wa3 (List.mem_of_getElem? (i := 173) (by decide +kernel)) rfl), rfl⟩
theorem mv_L_85 : MV RL 85 (kN 3) yX3_delayOf := ⟨(wa2 (List.mem_of_getElem? (i := 149) (by decide +kernel)) rfl), (wa2 (List.mem_of_getElem? (i := 150) (by decide +kernel)) rfl), (wa2 (List.mem_of_getElem? (i := 151) (by decide +kernel)) rfl), rfl⟩
theorem mv_L_88 : MV RL 88 (kN 4) yX4_delayOf := ⟨(wa3 (List.mem_of_getElem? (i := 175) (by decide +kernel)) rfl), (wa3 (List.mem_of_getElem? (i := 176) (by decide +kernel)) rfl), (wa3 (List.mem_of_getElem? (i := 177) (by decide +kernel)) rfl), rfl⟩
theorem mv_L_89 : MV RL 89 (kN 3) yX3_gapOf := ⟨(wa2 (List.mem_of_getElem? (i := 153) (by decide +kernel)) rfl), (wa2 (List.mem_of_getElem? (i := 154) (by decide +kernel)) rfl), (wa2 (List.mem_of_getElem? (i := 155) (by decide +kernel)) rfl), rfl⟩
theorem mv_L_92 : MV RL 92 (kN 4) yX4_gapOf := ⟨(wa3 (List.mem_of_getElem? (i := 179) (by decide +kernel)) rfl), (wa3 (List.mem_of_getElem? (i := 180) (by decide +kernel)) rfl), (wa3 (List.mem_of_getElem? (i := 181) (by decide +kernel)) rfl), rfl⟩
theorem mv_L_93 : MV RL 93 (kN 3) yX3_loss := ⟨(wa2 (List.mem_of_getElem? (i := 157) (by decide +kernel)) rfl), (wa2 (List.mem_of_getElem? (i := 158) (by decide +kernel)) rfl), (wa2 (List.mem_of_getElem? (i := 159) (by decide +kernel)) rfl), rfl⟩
theorem mv_L_96 : MV RL 96 (kN 4) yX4_loss := ⟨(wa3 (List.mem_of_getElem? (i := 183) (by decide +kernel)) rfl), (wa3 (List.mem_of_getElem? (i := 184) (by decide +kernel)) rfl), (wa3 (List.mem_of_getElem? (i := 185) (by decide +kernel)) rfl), rfl⟩
theorem mv_L_97 : MV RL 97 (kN 3) yX3_carriedReels := ⟨(wa2 (List.mem_of_getElem? (i := 166) (by decide +kernel)) rfl), (wa2 (List.mem_of_getElem? (i := 167) (by decide +kernel)) rfl), (wa2 (List.mem_of_getElem? (i := 168) (by decide +kernel)) rfl), rfl⟩
theorem mv_L_100 : MV RL 100 (kN 4) yX4_carriedReels := ⟨(wa3 (List.mem_of_getElem? (i := 187) (by decide +kernel)) rfl), (wa3 (List.mem_of_getElem? (i := 188) (by decide +kernel)) rfl), (wa3 (List.mem_of_getElem? (i := 189) (by decide +kernel)) rfl), rfl⟩
theorem mv_L_101 : MV RL 101 (kN 3) yX3_plateChanges := ⟨(wa2 (List.mem_of_getElem? (i := 170) (by decide +kernel)) rfl), (wa2 (List.mem_of_getElem? (i := 171) (by decide +kernel)) rfl), (wa2 (List.mem_of_getElem? (i := 172) (by decide +kernel)) rfl), rfl⟩
theorem mv_L_104 : MV RL 104 (kN 4) yX4_plateChanges := ⟨(wa3 (List.mem_of_getElem? (i := 191) (by decide +kernel)) rfl), (wa3 (List.mem_of_getElem? (i := 192) (by decide +kernel)) rfl), (wa3 (List.mem_of_getElem? (i := 193) (by decide +kernel)) rfl), rfl⟩
theorem mv_L_105 : MV RL 105 (kN 3) yX3_machineTime := ⟨(wa2 (List.mem_of_getElem? (i := 174) (by decide +kernel)) rfl), (wa2 (List.mem_of_getElem? (i := 175) (by decide +kernel)) rfl), (wa2 (List.mem_of_getElem? (i := 176) (by decide +kernel)) rfl), rfl⟩
theorem mv_L_108 : MV RL 108 (kN 4) yX4_machineTime := ⟨(wa3 (List.mem_of_getElem? (i := 195) (by decide +kernel)) rfl), (wa3 (List.mem_of_getElem? (i := 196) (by decide +kernel)) rfl), (wa3 (List.mem_of_getElem? (i := 197) (by decide +kernel)) rfl), rfl⟩
theorem mv_L_109 : MV RL 109 (kN 3) yX3_leastShift := ⟨(wa2 (List.mem_of_getElem? (i := 178) (by decide +kernel)) rfl), (wa2 (List.mem_of_getElem? (i := 179) (by decide +kernel)) rfl), (wa2 (List.mem_of_getElem? (i := 180) (by decide +kernel)) rfl), rfl⟩
theorem mv_L_112 : MV RL 112 (kN 4) yX4_leastShift := ⟨(wa3 (List.mem_of_getElem? (i := 199) (by decide +kernel)) rfl), (wa3 (List.mem_of_getElem? (i := 200) (by decide +kernel)) rfl), (wa3 (List.mem_of_getElem? (i := 201) (by decide +kernel)) rfl), rfl⟩
theorem mv_L_113 : MV RL 113 (kN 3) yX3_removalGain := ⟨(wa2 (List.mem_of_getElem? (i := 190) (by decide +kernel)) rfl), (wa2 (List.mem_of_getElem? (i := 191) (by decide +kernel)) rfl), (wa2 (List.mem_of_getElem? (i := 192) (by decide +kernel)) rfl), rfl⟩
theorem mv_L_116 : MV RL 116 (kN 4) yX4_removalGain := ⟨(wa3 (List.mem_of_getElem? (i := 211) (by decide +kernel)) rfl), (wa3 (List.mem_of_getElem? (i := 212) (by decide +kernel)) rfl), (wa3 (List.mem_of_getElem? (i := 213) (by decide +kernel)) rfl), rfl⟩
theorem mv_L_117 : MV RL 117 (kN 3) yX3_bestHomes := ⟨(wa2 (List.mem_of_getElem? (i := 195) (by decide +kernel)) rfl), (wa2 (List.mem_of_getElem? (i := 196) (by decide +kernel)) rfl), (wa2 (List.mem_of_getElem? (i := 197) (by decide +kernel)) rfl), rfl⟩
theorem mv_L_120 : MV RL 120 (kN 4) yX4_bestHomes := ⟨(wa3 (List.mem_of_getElem? (i := 216) (by decide +kernel)) rfl), (wa3 (List.mem_of_getElem? (i := 217) (by decide +kernel)) rfl), (wa3 (List.mem_of_getElem? (i := 218) (by decide +kernel)) rfl), rfl⟩
theorem mv_L_121 : MV RL 121 (kN 3) yX3_missingMachines := ⟨(wa2 (List.mem_of_getElem? (i := 203) (by decide +kernel)) rfl), (wa2 (List.mem_of_getElem? (i := 204) (by decide +kernel)) rfl), (wa2 (List.mem_of_getElem? (i := 205) (by decide +kernel)) rfl), rfl⟩
theorem mv_L_124 : MV RL 124 (kN 4) yX4_missingMachines := ⟨(wa3 (List.mem_of_getElem? (i := 220) (by decide +kernel)) rfl), (wa3 (List.mem_of_getElem? (i := 221) (by decide +kernel)) rfl), (wa3 (List.mem_of_getElem? (i := 222) (by decide +kernel)) rfl), rfl⟩
theorem mv_L_125 : MV RL 125 (kN 3) yX3_undo := ⟨(wa2 (List.mem_of_getElem? (i := 207) (by decide +kernel)) rfl), (wa2 (List.mem_of_getElem? (i := 208) (by decide +kernel)) rfl), (wa2 (List.mem_of_getElem? (i := 209) (by decide +kernel)) rfl), rfl⟩
theorem mv_L_128 : MV RL 128 (kN 4) yX4_undo := ⟨(wa3 (List.mem_of_getElem? (i := 36) (by decide +kernel)) rfl), (wa3 (List.mem_of_getElem? (i := 37) (by decide +kernel)) rfl), (wa3 (List.mem_of_getElem? (i := 38) (by decide +kernel)) rfl), rfl⟩
theorem st_reelPlace : Cond.static yX3_reelPlace ∈ wA := (wa1 (List.mem_of_getElem? (i := 218) (by decide +kernel)) rfl)
theorem mmax_s : Cond.static Lib.Math.max.name ∈ wA := (wa2 (List.mem_of_getElem? (i := 122) (by decide +kernel)) rfl)
theorem mmax_c : Cond.code Lib.Math.max.name Lib.Math.max.code 2 (some .int) ∈ wA := (wa2 (List.mem_of_getElem? (i := 123) rfl) rfl)
theorem mmin_s : Cond.static Lib.Math.min.name ∈ wA := (wa2 (List.mem_of_getElem? (i := 184) (by decide +kernel)) rfl)
theorem mmin_c : Cond.code Lib.Math.min.name Lib.Math.min.code 2 (some .int) ∈ wA := (wa2 (List.mem_of_getElem? (i := 185) rfl) rfl)
theorem mmath_i : Cond.initialized "java/lang/Math" ∈ wA := (wa1 (List.mem_of_getElem? (i := 7) (by decide +kernel)) rfl)
theorem ac_n : Cond.native arraycopyName ∈ wA := (wa1 (List.mem_of_getElem? (i := 26) (by decide +kernel)) rfl)
theorem ac_s : Cond.static arraycopyName ∈ wA := (wa1 (List.mem_of_getElem? (i := 25) (by decide +kernel)) rfl)
theorem ac_i : Cond.initialized "java/lang/System" ∈ wA := (wa1 (List.mem_of_getElem? (i := 3) (by decide +kernel)) rfl)
theorem oo0 : 0 < 11 := by decide
theorem kk0 : kd 0 = 0 := rfl
theorem oo1 : 1 < 11 := by decide
theorem kk1 : kd 1 = 0 := rfl
theorem oo2 : 2 < 11 := by decide
theorem kk2 : kd 2 = 0 := rfl
theorem oo3 : 3 < 11 := by decide
theorem kk3 : kd 3 = 0 := rfl
theorem oo4 : 4 < 11 := by decide
theorem kk4 : kd 4 = 0 := rfl
theorem oo5 : 5 < 11 := by decide
theorem kk5 : kd 5 = 0 := rfl
theorem oo6 : 6 < 11 := by decide
theorem kk6 : kd 6 = 0 := rfl
theorem oo7 : 7 < 11 := by decide
theorem kk7 : kd 7 = 1 := rfl
theorem oo8 : 8 < 11 := by decide
theorem kk8 : kd 8 = 2 := rfl
theorem oo9 : 9 < 11 := by decide
theorem kk9 : kd 9 = 3 := rfl
theorem oo10 : 10 < 11 := by decide
theorem kk10 : kd 10 = 4 := rfl
end
