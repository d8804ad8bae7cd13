-- ===== PART A: goes FIRST, ahead of the names: the tables' words, and 'selects' of the private methods out of them =====
/-- a private method of a class that the tables say can be made, by its rows of tables_1 -/
def lw_okq (q : MethodName × Nat) : Prop := (q.1.cls ≠ "java/lang/invoke/MethodHandle" ∧ q.1.cls ≠ "java/lang/invoke/VarHandle") ∧ Cond.instantiable q.1.cls q.2 ∈ tables_1 ∧ Cond.privateMethod q.1 ∈ tables_1 ∧ Cond.instanceMethod q.1 ∈ tables_1
theorem lw_p0 : lw_okq (⟨"SlotFleet", "putOnTape", "(I)V"⟩, 18) := ⟨⟨by decide +kernel, by decide +kernel⟩, List.mem_of_getElem? (i := 20) (by decide +kernel), List.mem_of_getElem? (i := 484) (by decide +kernel), List.mem_of_getElem? (i := 485) (by decide +kernel)⟩
theorem lw_p1 : lw_okq (⟨"SlotFleet$Reader", "advance", "()V"⟩, 13) := ⟨⟨by decide +kernel, by decide +kernel⟩, List.mem_of_getElem? (i := 28) (by decide +kernel), List.mem_of_getElem? (i := 510) (by decide +kernel), List.mem_of_getElem? (i := 511) (by decide +kernel)⟩
theorem lw_p2 : lw_okq (⟨"SlotFleet$Reader", "scanWord", "()V"⟩, 13) := ⟨⟨by decide +kernel, by decide +kernel⟩, List.mem_of_getElem? (i := 28) (by decide +kernel), List.mem_of_getElem? (i := 520) (by decide +kernel), List.mem_of_getElem? (i := 521) (by decide +kernel)⟩
theorem lw_p3 : lw_okq (⟨"SlotFleet$Reader", "scanNumeral", "()V"⟩, 13) := ⟨⟨by decide +kernel, by decide +kernel⟩, List.mem_of_getElem? (i := 28) (by decide +kernel), List.mem_of_getElem? (i := 576) (by decide +kernel), List.mem_of_getElem? (i := 577) (by decide +kernel)⟩
theorem lw_p4 : lw_okq (⟨"SlotFleet$Reader", "readLine", "()Z"⟩, 13) := ⟨⟨by decide +kernel, by decide +kernel⟩, List.mem_of_getElem? (i := 28) (by decide +kernel), List.mem_of_getElem? (i := 636) (by decide +kernel), List.mem_of_getElem? (i := 637) (by decide +kernel)⟩
theorem lw_p5 : lw_okq (⟨"SlotFleet$Reader", "refuse", "()Z"⟩, 13) := ⟨⟨by decide +kernel, by decide +kernel⟩, List.mem_of_getElem? (i := 28) (by decide +kernel), List.mem_of_getElem? (i := 640) (by decide +kernel), List.mem_of_getElem? (i := 641) (by decide +kernel)⟩
theorem lw_p6 : lw_okq (⟨"SlotFleet$Reader", "fail", "(I)Z"⟩, 13) := ⟨⟨by decide +kernel, by decide +kernel⟩, List.mem_of_getElem? (i := 28) (by decide +kernel), List.mem_of_getElem? (i := 644) (by decide +kernel), List.mem_of_getElem? (i := 645) (by decide +kernel)⟩
theorem lw_p7 : lw_okq (⟨"SlotFleet$Reader", "readShip", "()Z"⟩, 13) := ⟨⟨by decide +kernel, by decide +kernel⟩, List.mem_of_getElem? (i := 28) (by decide +kernel), List.mem_of_getElem? (i := 648) (by decide +kernel), List.mem_of_getElem? (i := 649) (by decide +kernel)⟩
theorem lw_p8 : lw_okq (⟨"SlotFleet$Reader", "isToldName", "()Z"⟩, 13) := ⟨⟨by decide +kernel, by decide +kernel⟩, List.mem_of_getElem? (i := 28) (by decide +kernel), List.mem_of_getElem? (i := 652) (by decide +kernel), List.mem_of_getElem? (i := 653) (by decide +kernel)⟩
theorem lw_p9 : lw_okq (⟨"SlotFleet$Reader", "sameBytes", "(III)Z"⟩, 13) := ⟨⟨by decide +kernel, by decide +kernel⟩, List.mem_of_getElem? (i := 28) (by decide +kernel), List.mem_of_getElem? (i := 656) (by decide +kernel), List.mem_of_getElem? (i := 657) (by decide +kernel)⟩
theorem lw_p10 : lw_okq (⟨"SlotFleet$Reader", "takeWord", "(I)Z"⟩, 13) := ⟨⟨by decide +kernel, by decide +kernel⟩, List.mem_of_getElem? (i := 28) (by decide +kernel), List.mem_of_getElem? (i := 660) (by decide +kernel), List.mem_of_getElem? (i := 661) (by decide +kernel)⟩
theorem lw_p11 : lw_okq (⟨"SlotFleet$Reader", "isWord", "(I)Z"⟩, 13) := ⟨⟨by decide +kernel, by decide +kernel⟩, List.mem_of_getElem? (i := 28) (by decide +kernel), List.mem_of_getElem? (i := 664) (by decide +kernel), List.mem_of_getElem? (i := 665) (by decide +kernel)⟩
theorem lw_p12 : lw_okq (⟨"SlotFleet$Reader", "takeNumber", "(II)Z"⟩, 13) := ⟨⟨by decide +kernel, by decide +kernel⟩, List.mem_of_getElem? (i := 28) (by decide +kernel), List.mem_of_getElem? (i := 668) (by decide +kernel), List.mem_of_getElem? (i := 669) (by decide +kernel)⟩
theorem lw_p13 : lw_okq (⟨"SlotFleet$Reader", "takeSign", "(I)Z"⟩, 13) := ⟨⟨by decide +kernel, by decide +kernel⟩, List.mem_of_getElem? (i := 28) (by decide +kernel), List.mem_of_getElem? (i := 672) (by decide +kernel), List.mem_of_getElem? (i := 673) (by decide +kernel)⟩
theorem lw_p14 : lw_okq (⟨"SlotFleet$Reader", "isSign", "(I)Z"⟩, 13) := ⟨⟨by decide +kernel, by decide +kernel⟩, List.mem_of_getElem? (i := 28) (by decide +kernel), List.mem_of_getElem? (i := 676) (by decide +kernel), List.mem_of_getElem? (i := 677) (by decide +kernel)⟩
theorem lw_p15 : lw_okq (⟨"SlotFleet$Reader", "readLevel", "(II)Z"⟩, 13) := ⟨⟨by decide +kernel, by decide +kernel⟩, List.mem_of_getElem? (i := 28) (by decide +kernel), List.mem_of_getElem? (i := 680) (by decide +kernel), List.mem_of_getElem? (i := 681) (by decide +kernel)⟩
def lw_privs_1 : List (MethodName × Nat) := [(⟨"SlotFleet", "putOnTape", "(I)V"⟩, 18), (⟨"SlotFleet$Reader", "advance", "()V"⟩, 13), (⟨"SlotFleet$Reader", "scanWord", "()V"⟩, 13), (⟨"SlotFleet$Reader", "scanNumeral", "()V"⟩, 13), (⟨"SlotFleet$Reader", "readLine", "()Z"⟩, 13), (⟨"SlotFleet$Reader", "refuse", "()Z"⟩, 13), (⟨"SlotFleet$Reader", "fail", "(I)Z"⟩, 13), (⟨"SlotFleet$Reader", "readShip", "()Z"⟩, 13), (⟨"SlotFleet$Reader", "isToldName", "()Z"⟩, 13), (⟨"SlotFleet$Reader", "sameBytes", "(III)Z"⟩, 13), (⟨"SlotFleet$Reader", "takeWord", "(I)Z"⟩, 13), (⟨"SlotFleet$Reader", "isWord", "(I)Z"⟩, 13), (⟨"SlotFleet$Reader", "takeNumber", "(II)Z"⟩, 13), (⟨"SlotFleet$Reader", "takeSign", "(I)Z"⟩, 13), (⟨"SlotFleet$Reader", "isSign", "(I)Z"⟩, 13), (⟨"SlotFleet$Reader", "readLevel", "(II)Z"⟩, 13)]
theorem lw_r1 : ∀ q ∈ lw_privs_1, lw_okq q := List.forall_mem_cons.mpr ⟨lw_p0, List.forall_mem_cons.mpr ⟨lw_p1, List.forall_mem_cons.mpr ⟨lw_p2, List.forall_mem_cons.mpr ⟨lw_p3, List.forall_mem_cons.mpr ⟨lw_p4, List.forall_mem_cons.mpr ⟨lw_p5, List.forall_mem_cons.mpr ⟨lw_p6, List.forall_mem_cons.mpr ⟨lw_p7, List.forall_mem_cons.mpr ⟨lw_p8, List.forall_mem_cons.mpr ⟨lw_p9, List.forall_mem_cons.mpr ⟨lw_p10, List.forall_mem_cons.mpr ⟨lw_p11, List.forall_mem_cons.mpr ⟨lw_p12, List.forall_mem_cons.mpr ⟨lw_p13, List.forall_mem_cons.mpr ⟨lw_p14, List.forall_mem_cons.mpr ⟨lw_p15, fun _ h => absurd h List.not_mem_nil⟩⟩⟩⟩⟩⟩⟩⟩⟩⟩⟩⟩⟩⟩⟩⟩
theorem lw_p16 : lw_okq (⟨"SlotFleet$Reader", "readUnit", "(I)Z"⟩, 13) := ⟨⟨by decide +kernel, by decide +kernel⟩, List.mem_of_getElem? (i := 28) (by decide +kernel), List.mem_of_getElem? (i := 684) (by decide +kernel), List.mem_of_getElem? (i := 685) (by decide +kernel)⟩
theorem lw_p17 : lw_okq (⟨"SlotFleet$Reader", "codeBetween", "(I)I"⟩, 13) := ⟨⟨by decide +kernel, by decide +kernel⟩, List.mem_of_getElem? (i := 28) (by decide +kernel), List.mem_of_getElem? (i := 692) (by decide +kernel), List.mem_of_getElem? (i := 693) (by decide +kernel)⟩
theorem lw_p18 : lw_okq (⟨"SlotFleet$Reader", "settle", "(II)V"⟩, 13) := ⟨⟨by decide +kernel, by decide +kernel⟩, List.mem_of_getElem? (i := 28) (by decide +kernel), List.mem_of_getElem? (i := 700) (by decide +kernel), List.mem_of_getElem? (i := 701) (by decide +kernel)⟩
theorem lw_p19 : lw_okq (⟨"SlotFleet$History", "dropOldest", "()V"⟩, 4) := ⟨⟨by decide +kernel, by decide +kernel⟩, List.mem_of_getElem? (i := 343) (by decide +kernel), List.mem_of_getElem? (i := 796) (by decide +kernel), List.mem_of_getElem? (i := 797) (by decide +kernel)⟩
theorem lw_p20 : lw_okq (⟨"SlotFleet$Stepper", "beginFrame", "(LSlotFleet$State;)V"⟩, 4) := ⟨⟨by decide +kernel, by decide +kernel⟩, List.mem_of_getElem? (i := 303) (by decide +kernel), List.mem_of_getElem? (i := 809) (by decide +kernel), List.mem_of_getElem? (i := 810) (by decide +kernel)⟩
theorem lw_p21 : lw_okq (⟨"SlotFleet$Stepper", "fillUp", "(LSlotFleet$State;I)V"⟩, 4) := ⟨⟨by decide +kernel, by decide +kernel⟩, List.mem_of_getElem? (i := 303) (by decide +kernel), List.mem_of_getElem? (i := 825) (by decide +kernel), List.mem_of_getElem? (i := 826) (by decide +kernel)⟩
theorem lw_p22 : lw_okq (⟨"SlotFleet$Stepper", "reportAll", "(LSlotFleet$State;)I"⟩, 4) := ⟨⟨by decide +kernel, by decide +kernel⟩, List.mem_of_getElem? (i := 303) (by decide +kernel), List.mem_of_getElem? (i := 886) (by decide +kernel), List.mem_of_getElem? (i := 887) (by decide +kernel)⟩
theorem lw_p23 : lw_okq (⟨"SlotFleet$Stepper", "reportOne", "(LSlotFleet$State;II)V"⟩, 4) := ⟨⟨by decide +kernel, by decide +kernel⟩, List.mem_of_getElem? (i := 303) (by decide +kernel), List.mem_of_getElem? (i := 893) (by decide +kernel), List.mem_of_getElem? (i := 894) (by decide +kernel)⟩
theorem lw_p24 : lw_okq (⟨"SlotFleet$Stepper", "listenAll", "(LSlotFleet$State;I)V"⟩, 4) := ⟨⟨by decide +kernel, by decide +kernel⟩, List.mem_of_getElem? (i := 303) (by decide +kernel), List.mem_of_getElem? (i := 898) (by decide +kernel), List.mem_of_getElem? (i := 899) (by decide +kernel)⟩
theorem lw_p25 : lw_okq (⟨"SlotFleet$Stepper", "hear", "(LSlotFleet$State;II)V"⟩, 4) := ⟨⟨by decide +kernel, by decide +kernel⟩, List.mem_of_getElem? (i := 303) (by decide +kernel), List.mem_of_getElem? (i := 907) (by decide +kernel), List.mem_of_getElem? (i := 908) (by decide +kernel)⟩
theorem lw_p26 : lw_okq (⟨"SlotFleet$History", "exchange", "(ILSlotFleet$State;)LSlotFleet$State;"⟩, 4) := ⟨⟨by decide +kernel, by decide +kernel⟩, List.mem_of_getElem? (i := 343) (by decide +kernel), List.mem_of_getElem? (i := 936) (by decide +kernel), List.mem_of_getElem? (i := 937) (by decide +kernel)⟩
theorem lw_p27 : lw_okq (⟨"SlotFleet$Web", "isApart", "(I)Z"⟩, 4) := ⟨⟨by decide +kernel, by decide +kernel⟩, List.mem_of_getElem? (i := 324) (by decide +kernel), List.mem_of_getElem? (i := 1030) (by decide +kernel), List.mem_of_getElem? (i := 1031) (by decide +kernel)⟩
theorem lw_p28 : lw_okq (⟨"SlotFleet$Web", "isCrowd", "(I)Z"⟩, 4) := ⟨⟨by decide +kernel, by decide +kernel⟩, List.mem_of_getElem? (i := 324) (by decide +kernel), List.mem_of_getElem? (i := 1043) (by decide +kernel), List.mem_of_getElem? (i := 1044) (by decide +kernel)⟩
theorem lw_p29 : lw_okq (⟨"SlotFleet$Web", "allHangingOn", "(I)I"⟩, 4) := ⟨⟨by decide +kernel, by decide +kernel⟩, List.mem_of_getElem? (i := 324) (by decide +kernel), List.mem_of_getElem? (i := 1056) (by decide +kernel), List.mem_of_getElem? (i := 1057) (by decide +kernel)⟩
theorem lw_p30 : lw_okq (⟨"SlotFleet", "layByDistance", "(II)V"⟩, 18) := ⟨⟨by decide +kernel, by decide +kernel⟩, List.mem_of_getElem? (i := 20) (by decide +kernel), List.mem_of_getElem? (i := 1120) (by decide +kernel), List.mem_of_getElem? (i := 1121) (by decide +kernel)⟩
theorem lw_p31 : lw_okq (⟨"SlotFleet$Sightings", "agrees", "(II)Z"⟩, 11) := ⟨⟨by decide +kernel, by decide +kernel⟩, List.mem_of_getElem? (i := 366) (by decide +kernel), List.mem_of_getElem? (i := 1158) (by decide +kernel), List.mem_of_getElem? (i := 1159) (by decide +kernel)⟩
def lw_privs_2 : List (MethodName × Nat) := [(⟨"SlotFleet$Reader", "readUnit", "(I)Z"⟩, 13), (⟨"SlotFleet$Reader", "codeBetween", "(I)I"⟩, 13), (⟨"SlotFleet$Reader", "settle", "(II)V"⟩, 13), (⟨"SlotFleet$History", "dropOldest", "()V"⟩, 4), (⟨"SlotFleet$Stepper", "beginFrame", "(LSlotFleet$State;)V"⟩, 4), (⟨"SlotFleet$Stepper", "fillUp", "(LSlotFleet$State;I)V"⟩, 4), (⟨"SlotFleet$Stepper", "reportAll", "(LSlotFleet$State;)I"⟩, 4), (⟨"SlotFleet$Stepper", "reportOne", "(LSlotFleet$State;II)V"⟩, 4), (⟨"SlotFleet$Stepper", "listenAll", "(LSlotFleet$State;I)V"⟩, 4), (⟨"SlotFleet$Stepper", "hear", "(LSlotFleet$State;II)V"⟩, 4), (⟨"SlotFleet$History", "exchange", "(ILSlotFleet$State;)LSlotFleet$State;"⟩, 4), (⟨"SlotFleet$Web", "isApart", "(I)Z"⟩, 4), (⟨"SlotFleet$Web", "isCrowd", "(I)Z"⟩, 4), (⟨"SlotFleet$Web", "allHangingOn", "(I)I"⟩, 4), (⟨"SlotFleet", "layByDistance", "(II)V"⟩, 18), (⟨"SlotFleet$Sightings", "agrees", "(II)Z"⟩, 11)]
theorem lw_r2 : ∀ q ∈ lw_privs_2, lw_okq q := List.forall_mem_cons.mpr ⟨lw_p16, List.forall_mem_cons.mpr ⟨lw_p17, List.forall_mem_cons.mpr ⟨lw_p18, List.forall_mem_cons.mpr ⟨lw_p19, List.forall_mem_cons.mpr ⟨lw_p20, List.forall_mem_cons.mpr ⟨lw_p21, List.forall_mem_cons.mpr ⟨lw_p22, List.forall_mem_cons.mpr ⟨lw_p23, List.forall_mem_cons.mpr ⟨lw_p24, List.forall_mem_cons.mpr ⟨lw_p25, List.forall_mem_cons.mpr ⟨lw_p26, List.forall_mem_cons.mpr ⟨lw_p27, List.forall_mem_cons.mpr ⟨lw_p28, List.forall_mem_cons.mpr ⟨lw_p29, List.forall_mem_cons.mpr ⟨lw_p30, List.forall_mem_cons.mpr ⟨lw_p31, fun _ h => absurd h List.not_mem_nil⟩⟩⟩⟩⟩⟩⟩⟩⟩⟩⟩⟩⟩⟩⟩⟩
theorem lw_p32 : lw_okq (⟨"SlotFleet$Sightings", "wasInRange", "(III)Z"⟩, 11) := ⟨⟨by decide +kernel, by decide +kernel⟩, List.mem_of_getElem? (i := 366) (by decide +kernel), List.mem_of_getElem? (i := 1162) (by decide +kernel), List.mem_of_getElem? (i := 1163) (by decide +kernel)⟩
theorem lw_p33 : lw_okq (⟨"SlotFleetModel", "clearBank", "()V"⟩, 61) := ⟨⟨by decide +kernel, by decide +kernel⟩, List.mem_of_getElem? (i := 1201) (by decide +kernel), List.mem_of_getElem? (i := 1207) (by decide +kernel), List.mem_of_getElem? (i := 1208) (by decide +kernel)⟩
theorem lw_p34 : lw_okq (⟨"SlotFleetModel", "startAnew", "()V"⟩, 61) := ⟨⟨by decide +kernel, by decide +kernel⟩, List.mem_of_getElem? (i := 1201) (by decide +kernel), List.mem_of_getElem? (i := 1211) (by decide +kernel), List.mem_of_getElem? (i := 1212) (by decide +kernel)⟩
theorem lw_p35 : lw_okq (⟨"SlotFleetModel", "layTold", "()V"⟩, 61) := ⟨⟨by decide +kernel, by decide +kernel⟩, List.mem_of_getElem? (i := 1201) (by decide +kernel), List.mem_of_getElem? (i := 1215) (by decide +kernel), List.mem_of_getElem? (i := 1216) (by decide +kernel)⟩
theorem lw_p36 : lw_okq (⟨"SlotFleetModel", "lots", "()I"⟩, 61) := ⟨⟨by decide +kernel, by decide +kernel⟩, List.mem_of_getElem? (i := 1201) (by decide +kernel), List.mem_of_getElem? (i := 1219) (by decide +kernel), List.mem_of_getElem? (i := 1220) (by decide +kernel)⟩
theorem lw_p37 : lw_okq (⟨"SlotFleetModel", "forget", "(I)V"⟩, 61) := ⟨⟨by decide +kernel, by decide +kernel⟩, List.mem_of_getElem? (i := 1201) (by decide +kernel), List.mem_of_getElem? (i := 1223) (by decide +kernel), List.mem_of_getElem? (i := 1224) (by decide +kernel)⟩
theorem lw_p38 : lw_okq (⟨"SlotFleetModel", "goOn", "()V"⟩, 61) := ⟨⟨by decide +kernel, by decide +kernel⟩, List.mem_of_getElem? (i := 1201) (by decide +kernel), List.mem_of_getElem? (i := 1416) (by decide +kernel), List.mem_of_getElem? (i := 1417) (by decide +kernel)⟩
theorem lw_p39 : lw_okq (⟨"SlotFleetModel", "sign", "(I)I"⟩, 61) := ⟨⟨by decide +kernel, by decide +kernel⟩, List.mem_of_getElem? (i := 1201) (by decide +kernel), List.mem_of_getElem? (i := 1420) (by decide +kernel), List.mem_of_getElem? (i := 1421) (by decide +kernel)⟩
theorem lw_p40 : lw_okq (⟨"SlotFleetModel", "isGood", "()Z"⟩, 61) := ⟨⟨by decide +kernel, by decide +kernel⟩, List.mem_of_getElem? (i := 1201) (by decide +kernel), List.mem_of_getElem? (i := 1455) (by decide +kernel), List.mem_of_getElem? (i := 1456) (by decide +kernel)⟩
theorem lw_p41 : lw_okq (⟨"SlotFleetModel", "readLine", "()V"⟩, 61) := ⟨⟨by decide +kernel, by decide +kernel⟩, List.mem_of_getElem? (i := 1201) (by decide +kernel), List.mem_of_getElem? (i := 1459) (by decide +kernel), List.mem_of_getElem? (i := 1460) (by decide +kernel)⟩
theorem lw_p42 : lw_okq (⟨"SlotFleetModel", "isFull", "()Z"⟩, 61) := ⟨⟨by decide +kernel, by decide +kernel⟩, List.mem_of_getElem? (i := 1201) (by decide +kernel), List.mem_of_getElem? (i := 1463) (by decide +kernel), List.mem_of_getElem? (i := 1464) (by decide +kernel)⟩
theorem lw_p43 : lw_okq (⟨"SlotFleetModel", "isWord", "(J)Z"⟩, 61) := ⟨⟨by decide +kernel, by decide +kernel⟩, List.mem_of_getElem? (i := 1201) (by decide +kernel), List.mem_of_getElem? (i := 1467) (by decide +kernel), List.mem_of_getElem? (i := 1468) (by decide +kernel)⟩
theorem lw_p44 : lw_okq (⟨"SlotFleetModel", "sortHere", "()I"⟩, 61) := ⟨⟨by decide +kernel, by decide +kernel⟩, List.mem_of_getElem? (i := 1201) (by decide +kernel), List.mem_of_getElem? (i := 1471) (by decide +kernel), List.mem_of_getElem? (i := 1472) (by decide +kernel)⟩
theorem lw_p45 : lw_okq (⟨"SlotFleetModel", "misplaced", "()V"⟩, 61) := ⟨⟨by decide +kernel, by decide +kernel⟩, List.mem_of_getElem? (i := 1201) (by decide +kernel), List.mem_of_getElem? (i := 1478) (by decide +kernel), List.mem_of_getElem? (i := 1479) (by decide +kernel)⟩
theorem lw_p46 : lw_okq (⟨"SlotFleetModel", "fails", "(II)V"⟩, 61) := ⟨⟨by decide +kernel, by decide +kernel⟩, List.mem_of_getElem? (i := 1201) (by decide +kernel), List.mem_of_getElem? (i := 1482) (by decide +kernel), List.mem_of_getElem? (i := 1483) (by decide +kernel)⟩
theorem lw_p47 : lw_okq (⟨"SlotFleetModel", "once", "(III)I"⟩, 61) := ⟨⟨by decide +kernel, by decide +kernel⟩, List.mem_of_getElem? (i := 1201) (by decide +kernel), List.mem_of_getElem? (i := 1486) (by decide +kernel), List.mem_of_getElem? (i := 1487) (by decide +kernel)⟩
def lw_privs_3 : List (MethodName × Nat) := [(⟨"SlotFleet$Sightings", "wasInRange", "(III)Z"⟩, 11), (⟨"SlotFleetModel", "clearBank", "()V"⟩, 61), (⟨"SlotFleetModel", "startAnew", "()V"⟩, 61), (⟨"SlotFleetModel", "layTold", "()V"⟩, 61), (⟨"SlotFleetModel", "lots", "()I"⟩, 61), (⟨"SlotFleetModel", "forget", "(I)V"⟩, 61), (⟨"SlotFleetModel", "goOn", "()V"⟩, 61), (⟨"SlotFleetModel", "sign", "(I)I"⟩, 61), (⟨"SlotFleetModel", "isGood", "()Z"⟩, 61), (⟨"SlotFleetModel", "readLine", "()V"⟩, 61), (⟨"SlotFleetModel", "isFull", "()Z"⟩, 61), (⟨"SlotFleetModel", "isWord", "(J)Z"⟩, 61), (⟨"SlotFleetModel", "sortHere", "()I"⟩, 61), (⟨"SlotFleetModel", "misplaced", "()V"⟩, 61), (⟨"SlotFleetModel", "fails", "(II)V"⟩, 61), (⟨"SlotFleetModel", "once", "(III)I"⟩, 61)]
theorem lw_r3 : ∀ q ∈ lw_privs_3, lw_okq q := List.forall_mem_cons.mpr ⟨lw_p32, List.forall_mem_cons.mpr ⟨lw_p33, List.forall_mem_cons.mpr ⟨lw_p34, List.forall_mem_cons.mpr ⟨lw_p35, List.forall_mem_cons.mpr ⟨lw_p36, List.forall_mem_cons.mpr ⟨lw_p37, List.forall_mem_cons.mpr ⟨lw_p38, List.forall_mem_cons.mpr ⟨lw_p39, List.forall_mem_cons.mpr ⟨lw_p40, List.forall_mem_cons.mpr ⟨lw_p41, List.forall_mem_cons.mpr ⟨lw_p42, List.forall_mem_cons.mpr ⟨lw_p43, List.forall_mem_cons.mpr ⟨lw_p44, List.forall_mem_cons.mpr ⟨lw_p45, List.forall_mem_cons.mpr ⟨lw_p46, List.forall_mem_cons.mpr ⟨lw_p47, fun _ h => absurd h List.not_mem_nil⟩⟩⟩⟩⟩⟩⟩⟩⟩⟩⟩⟩⟩⟩⟩⟩
theorem lw_p48 : lw_okq (⟨"SlotFleetModel", "numeral", "(II)I"⟩, 61) := ⟨⟨by decide +kernel, by decide +kernel⟩, List.mem_of_getElem? (i := 1201) (by decide +kernel), List.mem_of_getElem? (i := 1490) (by decide +kernel), List.mem_of_getElem? (i := 1491) (by decide +kernel)⟩
theorem lw_p49 : lw_okq (⟨"SlotFleetModel", "readShip", "()V"⟩, 61) := ⟨⟨by decide +kernel, by decide +kernel⟩, List.mem_of_getElem? (i := 1201) (by decide +kernel), List.mem_of_getElem? (i := 1494) (by decide +kernel), List.mem_of_getElem? (i := 1495) (by decide +kernel)⟩
theorem lw_p50 : lw_okq (⟨"SlotFleetModel", "must", "(Z)V"⟩, 61) := ⟨⟨by decide +kernel, by decide +kernel⟩, List.mem_of_getElem? (i := 1201) (by decide +kernel), List.mem_of_getElem? (i := 1498) (by decide +kernel), List.mem_of_getElem? (i := 1499) (by decide +kernel)⟩
theorem lw_p51 : lw_okq (⟨"SlotFleetModel", "after", "(JII)I"⟩, 61) := ⟨⟨by decide +kernel, by decide +kernel⟩, List.mem_of_getElem? (i := 1201) (by decide +kernel), List.mem_of_getElem? (i := 1502) (by decide +kernel), List.mem_of_getElem? (i := 1503) (by decide +kernel)⟩
theorem lw_p52 : lw_okq (⟨"SlotFleetModel", "readRule", "()V"⟩, 61) := ⟨⟨by decide +kernel, by decide +kernel⟩, List.mem_of_getElem? (i := 1201) (by decide +kernel), List.mem_of_getElem? (i := 1506) (by decide +kernel), List.mem_of_getElem? (i := 1507) (by decide +kernel)⟩
theorem lw_p53 : lw_okq (⟨"SlotFleetModel", "e", "()V"⟩, 61) := ⟨⟨by decide +kernel, by decide +kernel⟩, List.mem_of_getElem? (i := 1201) (by decide +kernel), List.mem_of_getElem? (i := 1510) (by decide +kernel), List.mem_of_getElem? (i := 1511) (by decide +kernel)⟩
theorem lw_p54 : lw_okq (⟨"SlotFleetModel", "pushE", "(II)V"⟩, 61) := ⟨⟨by decide +kernel, by decide +kernel⟩, List.mem_of_getElem? (i := 1201) (by decide +kernel), List.mem_of_getElem? (i := 1514) (by decide +kernel), List.mem_of_getElem? (i := 1515) (by decide +kernel)⟩
theorem lw_p55 : lw_okq (⟨"SlotFleetModel", "unit", "()Z"⟩, 61) := ⟨⟨by decide +kernel, by decide +kernel⟩, List.mem_of_getElem? (i := 1201) (by decide +kernel), List.mem_of_getElem? (i := 1518) (by decide +kernel), List.mem_of_getElem? (i := 1519) (by decide +kernel)⟩
theorem lw_p56 : lw_okq (⟨"SlotFleetModel", "isSignHere", "(I)Z"⟩, 61) := ⟨⟨by decide +kernel, by decide +kernel⟩, List.mem_of_getElem? (i := 1201) (by decide +kernel), List.mem_of_getElem? (i := 1522) (by decide +kernel), List.mem_of_getElem? (i := 1523) (by decide +kernel)⟩
theorem lw_p57 : lw_okq (⟨"SlotFleetModel", "wordHere", "()I"⟩, 61) := ⟨⟨by decide +kernel, by decide +kernel⟩, List.mem_of_getElem? (i := 1201) (by decide +kernel), List.mem_of_getElem? (i := 1526) (by decide +kernel), List.mem_of_getElem? (i := 1527) (by decide +kernel)⟩
theorem lw_p58 : lw_okq (⟨"SlotFleetModel", "emit", "(II)V"⟩, 61) := ⟨⟨by decide +kernel, by decide +kernel⟩, List.mem_of_getElem? (i := 1201) (by decide +kernel), List.mem_of_getElem? (i := 1530) (by decide +kernel), List.mem_of_getElem? (i := 1531) (by decide +kernel)⟩
theorem lw_p59 : lw_okq (⟨"SlotFleetModel", "behindUnit", "()Z"⟩, 61) := ⟨⟨by decide +kernel, by decide +kernel⟩, List.mem_of_getElem? (i := 1201) (by decide +kernel), List.mem_of_getElem? (i := 1534) (by decide +kernel), List.mem_of_getElem? (i := 1535) (by decide +kernel)⟩
theorem lw_p60 : lw_okq (⟨"SlotFleetModel", "rankHere", "()I"⟩, 61) := ⟨⟨by decide +kernel, by decide +kernel⟩, List.mem_of_getElem? (i := 1201) (by decide +kernel), List.mem_of_getElem? (i := 1538) (by decide +kernel), List.mem_of_getElem? (i := 1539) (by decide +kernel)⟩
theorem lw_p61 : lw_okq (⟨"SlotFleetModel", "isCompared", "()Z"⟩, 61) := ⟨⟨by decide +kernel, by decide +kernel⟩, List.mem_of_getElem? (i := 1201) (by decide +kernel), List.mem_of_getElem? (i := 1542) (by decide +kernel), List.mem_of_getElem? (i := 1543) (by decide +kernel)⟩
theorem lw_p62 : lw_okq (⟨"SlotFleetModel", "isShip", "(I)Z"⟩, 61) := ⟨⟨by decide +kernel, by decide +kernel⟩, List.mem_of_getElem? (i := 1201) (by decide +kernel), List.mem_of_getElem? (i := 1554) (by decide +kernel), List.mem_of_getElem? (i := 1555) (by decide +kernel)⟩
theorem lw_p63 : lw_okq (⟨"SlotFleetModel", "speedOf", "(I)I"⟩, 61) := ⟨⟨by decide +kernel, by decide +kernel⟩, List.mem_of_getElem? (i := 1201) (by decide +kernel), List.mem_of_getElem? (i := 1561) (by decide +kernel), List.mem_of_getElem? (i := 1562) (by decide +kernel)⟩
def lw_privs_4 : List (MethodName × Nat) := [(⟨"SlotFleetModel", "numeral", "(II)I"⟩, 61), (⟨"SlotFleetModel", "readShip", "()V"⟩, 61), (⟨"SlotFleetModel", "must", "(Z)V"⟩, 61), (⟨"SlotFleetModel", "after", "(JII)I"⟩, 61), (⟨"SlotFleetModel", "readRule", "()V"⟩, 61), (⟨"SlotFleetModel", "e", "()V"⟩, 61), (⟨"SlotFleetModel", "pushE", "(II)V"⟩, 61), (⟨"SlotFleetModel", "unit", "()Z"⟩, 61), (⟨"SlotFleetModel", "isSignHere", "(I)Z"⟩, 61), (⟨"SlotFleetModel", "wordHere", "()I"⟩, 61), (⟨"SlotFleetModel", "emit", "(II)V"⟩, 61), (⟨"SlotFleetModel", "behindUnit", "()Z"⟩, 61), (⟨"SlotFleetModel", "rankHere", "()I"⟩, 61), (⟨"SlotFleetModel", "isCompared", "()Z"⟩, 61), (⟨"SlotFleetModel", "isShip", "(I)Z"⟩, 61), (⟨"SlotFleetModel", "speedOf", "(I)I"⟩, 61)]
theorem lw_r4 : ∀ q ∈ lw_privs_4, lw_okq q := List.forall_mem_cons.mpr ⟨lw_p48, List.forall_mem_cons.mpr ⟨lw_p49, List.forall_mem_cons.mpr ⟨lw_p50, List.forall_mem_cons.mpr ⟨lw_p51, List.forall_mem_cons.mpr ⟨lw_p52, List.forall_mem_cons.mpr ⟨lw_p53, List.forall_mem_cons.mpr ⟨lw_p54, List.forall_mem_cons.mpr ⟨lw_p55, List.forall_mem_cons.mpr ⟨lw_p56, List.forall_mem_cons.mpr ⟨lw_p57, List.forall_mem_cons.mpr ⟨lw_p58, List.forall_mem_cons.mpr ⟨lw_p59, List.forall_mem_cons.mpr ⟨lw_p60, List.forall_mem_cons.mpr ⟨lw_p61, List.forall_mem_cons.mpr ⟨lw_p62, List.forall_mem_cons.mpr ⟨lw_p63, fun _ h => absurd h List.not_mem_nil⟩⟩⟩⟩⟩⟩⟩⟩⟩⟩⟩⟩⟩⟩⟩⟩
theorem lw_p64 : lw_okq (⟨"SlotFleetModel", "isOn", "(I)Z"⟩, 61) := ⟨⟨by decide +kernel, by decide +kernel⟩, List.mem_of_getElem? (i := 1201) (by decide +kernel), List.mem_of_getElem? (i := 1565) (by decide +kernel), List.mem_of_getElem? (i := 1566) (by decide +kernel)⟩
theorem lw_p65 : lw_okq (⟨"SlotFleetModel", "heardOf", "(I)I"⟩, 61) := ⟨⟨by decide +kernel, by decide +kernel⟩, List.mem_of_getElem? (i := 1201) (by decide +kernel), List.mem_of_getElem? (i := 1569) (by decide +kernel), List.mem_of_getElem? (i := 1570) (by decide +kernel)⟩
theorem lw_p66 : lw_okq (⟨"SlotFleetModel", "round", "()I"⟩, 61) := ⟨⟨by decide +kernel, by decide +kernel⟩, List.mem_of_getElem? (i := 1201) (by decide +kernel), List.mem_of_getElem? (i := 1573) (by decide +kernel), List.mem_of_getElem? (i := 1574) (by decide +kernel)⟩
theorem lw_p67 : lw_okq (⟨"SlotFleetModel", "holderIn", "(II)I"⟩, 61) := ⟨⟨by decide +kernel, by decide +kernel⟩, List.mem_of_getElem? (i := 1201) (by decide +kernel), List.mem_of_getElem? (i := 1577) (by decide +kernel), List.mem_of_getElem? (i := 1578) (by decide +kernel)⟩
theorem lw_p68 : lw_okq (⟨"SlotFleetModel", "isSlot", "(I)Z"⟩, 61) := ⟨⟨by decide +kernel, by decide +kernel⟩, List.mem_of_getElem? (i := 1201) (by decide +kernel), List.mem_of_getElem? (i := 1592) (by decide +kernel), List.mem_of_getElem? (i := 1593) (by decide +kernel)⟩
theorem lw_p69 : lw_okq (⟨"SlotFleetModel", "apart", "(II)I"⟩, 61) := ⟨⟨by decide +kernel, by decide +kernel⟩, List.mem_of_getElem? (i := 1201) (by decide +kernel), List.mem_of_getElem? (i := 1604) (by decide +kernel), List.mem_of_getElem? (i := 1605) (by decide +kernel)⟩
theorem lw_p70 : lw_okq (⟨"SlotFleetModel", "candidatesOf", "(II)I"⟩, 61) := ⟨⟨by decide +kernel, by decide +kernel⟩, List.mem_of_getElem? (i := 1201) (by decide +kernel), List.mem_of_getElem? (i := 1615) (by decide +kernel), List.mem_of_getElem? (i := 1616) (by decide +kernel)⟩
theorem lw_p71 : lw_okq (⟨"SlotFleetModel", "layWindow", "(I)I"⟩, 61) := ⟨⟨by decide +kernel, by decide +kernel⟩, List.mem_of_getElem? (i := 1201) (by decide +kernel), List.mem_of_getElem? (i := 1619) (by decide +kernel), List.mem_of_getElem? (i := 1620) (by decide +kernel)⟩
theorem lw_p72 : lw_okq (⟨"SlotFleetModel", "freeOf", "(I)I"⟩, 61) := ⟨⟨by decide +kernel, by decide +kernel⟩, List.mem_of_getElem? (i := 1201) (by decide +kernel), List.mem_of_getElem? (i := 1623) (by decide +kernel), List.mem_of_getElem? (i := 1624) (by decide +kernel)⟩
theorem lw_p73 : lw_okq (⟨"SlotFleetModel", "ownedBy", "(I)I"⟩, 61) := ⟨⟨by decide +kernel, by decide +kernel⟩, List.mem_of_getElem? (i := 1201) (by decide +kernel), List.mem_of_getElem? (i := 1627) (by decide +kernel), List.mem_of_getElem? (i := 1628) (by decide +kernel)⟩
theorem lw_p74 : lw_okq (⟨"SlotFleetModel", "farthestOf", "(III)I"⟩, 61) := ⟨⟨by decide +kernel, by decide +kernel⟩, List.mem_of_getElem? (i := 1201) (by decide +kernel), List.mem_of_getElem? (i := 1631) (by decide +kernel), List.mem_of_getElem? (i := 1632) (by decide +kernel)⟩
theorem lw_p75 : lw_okq (⟨"SlotFleetModel", "awayFrom", "(II)I"⟩, 61) := ⟨⟨by decide +kernel, by decide +kernel⟩, List.mem_of_getElem? (i := 1201) (by decide +kernel), List.mem_of_getElem? (i := 1635) (by decide +kernel), List.mem_of_getElem? (i := 1636) (by decide +kernel)⟩
theorem lw_p76 : lw_okq (⟨"SlotFleetModel", "rateOf", "(I)I"⟩, 61) := ⟨⟨by decide +kernel, by decide +kernel⟩, List.mem_of_getElem? (i := 1201) (by decide +kernel), List.mem_of_getElem? (i := 1651) (by decide +kernel), List.mem_of_getElem? (i := 1652) (by decide +kernel)⟩
theorem lw_p77 : lw_okq (⟨"SlotFleetModel", "comes", "()I"⟩, 61) := ⟨⟨by decide +kernel, by decide +kernel⟩, List.mem_of_getElem? (i := 1201) (by decide +kernel), List.mem_of_getElem? (i := 1655) (by decide +kernel), List.mem_of_getElem? (i := 1656) (by decide +kernel)⟩
theorem lw_p78 : lw_okq (⟨"SlotFleetModel", "asked", "(II)I"⟩, 61) := ⟨⟨by decide +kernel, by decide +kernel⟩, List.mem_of_getElem? (i := 1201) (by decide +kernel), List.mem_of_getElem? (i := 1659) (by decide +kernel), List.mem_of_getElem? (i := 1660) (by decide +kernel)⟩
theorem lw_p79 : lw_okq (⟨"SlotFleetModel", "litNow", "()I"⟩, 61) := ⟨⟨by decide +kernel, by decide +kernel⟩, List.mem_of_getElem? (i := 1201) (by decide +kernel), List.mem_of_getElem? (i := 1685) (by decide +kernel), List.mem_of_getElem? (i := 1686) (by decide +kernel)⟩
def lw_privs_5 : List (MethodName × Nat) := [(⟨"SlotFleetModel", "isOn", "(I)Z"⟩, 61), (⟨"SlotFleetModel", "heardOf", "(I)I"⟩, 61), (⟨"SlotFleetModel", "round", "()I"⟩, 61), (⟨"SlotFleetModel", "holderIn", "(II)I"⟩, 61), (⟨"SlotFleetModel", "isSlot", "(I)Z"⟩, 61), (⟨"SlotFleetModel", "apart", "(II)I"⟩, 61), (⟨"SlotFleetModel", "candidatesOf", "(II)I"⟩, 61), (⟨"SlotFleetModel", "layWindow", "(I)I"⟩, 61), (⟨"SlotFleetModel", "freeOf", "(I)I"⟩, 61), (⟨"SlotFleetModel", "ownedBy", "(I)I"⟩, 61), (⟨"SlotFleetModel", "farthestOf", "(III)I"⟩, 61), (⟨"SlotFleetModel", "awayFrom", "(II)I"⟩, 61), (⟨"SlotFleetModel", "rateOf", "(I)I"⟩, 61), (⟨"SlotFleetModel", "comes", "()I"⟩, 61), (⟨"SlotFleetModel", "asked", "(II)I"⟩, 61), (⟨"SlotFleetModel", "litNow", "()I"⟩, 61)]
theorem lw_r5 : ∀ q ∈ lw_privs_5, lw_okq q := List.forall_mem_cons.mpr ⟨lw_p64, List.forall_mem_cons.mpr ⟨lw_p65, List.forall_mem_cons.mpr ⟨lw_p66, List.forall_mem_cons.mpr ⟨lw_p67, List.forall_mem_cons.mpr ⟨lw_p68, List.forall_mem_cons.mpr ⟨lw_p69, List.forall_mem_cons.mpr ⟨lw_p70, List.forall_mem_cons.mpr ⟨lw_p71, List.forall_mem_cons.mpr ⟨lw_p72, List.forall_mem_cons.mpr ⟨lw_p73, List.forall_mem_cons.mpr ⟨lw_p74, List.forall_mem_cons.mpr ⟨lw_p75, List.forall_mem_cons.mpr ⟨lw_p76, List.forall_mem_cons.mpr ⟨lw_p77, List.forall_mem_cons.mpr ⟨lw_p78, List.forall_mem_cons.mpr ⟨lw_p79, fun _ h => absurd h List.not_mem_nil⟩⟩⟩⟩⟩⟩⟩⟩⟩⟩⟩⟩⟩⟩⟩⟩
theorem lw_p80 : lw_okq (⟨"SlotFleetModel", "inRange", "(I)I"⟩, 61) := ⟨⟨by decide +kernel, by decide +kernel⟩, List.mem_of_getElem? (i := 1201) (by decide +kernel), List.mem_of_getElem? (i := 1705) (by decide +kernel), List.mem_of_getElem? (i := 1706) (by decide +kernel)⟩
theorem lw_p81 : lw_okq (⟨"SlotFleetModel", "doHear", "(II)Z"⟩, 61) := ⟨⟨by decide +kernel, by decide +kernel⟩, List.mem_of_getElem? (i := 1201) (by decide +kernel), List.mem_of_getElem? (i := 1709) (by decide +kernel), List.mem_of_getElem? (i := 1710) (by decide +kernel)⟩
theorem lw_p82 : lw_okq (⟨"SlotFleetModel", "keepAct", "()V"⟩, 61) := ⟨⟨by decide +kernel, by decide +kernel⟩, List.mem_of_getElem? (i := 1201) (by decide +kernel), List.mem_of_getElem? (i := 1721) (by decide +kernel), List.mem_of_getElem? (i := 1722) (by decide +kernel)⟩
theorem lw_p83 : lw_okq (⟨"SlotFleetModel", "goStep", "()I"⟩, 61) := ⟨⟨by decide +kernel, by decide +kernel⟩, List.mem_of_getElem? (i := 1201) (by decide +kernel), List.mem_of_getElem? (i := 1725) (by decide +kernel), List.mem_of_getElem? (i := 1726) (by decide +kernel)⟩
theorem lw_p84 : lw_okq (⟨"SlotFleetModel", "beginFrame", "()V"⟩, 61) := ⟨⟨by decide +kernel, by decide +kernel⟩, List.mem_of_getElem? (i := 1201) (by decide +kernel), List.mem_of_getElem? (i := 1729) (by decide +kernel), List.mem_of_getElem? (i := 1730) (by decide +kernel)⟩
theorem lw_p85 : lw_okq (⟨"SlotFleetModel", "ageEntry", "(I)V"⟩, 61) := ⟨⟨by decide +kernel, by decide +kernel⟩, List.mem_of_getElem? (i := 1201) (by decide +kernel), List.mem_of_getElem? (i := 1733) (by decide +kernel), List.mem_of_getElem? (i := 1734) (by decide +kernel)⟩
theorem lw_p86 : lw_okq (⟨"SlotFleetModel", "seekSlots", "(I)V"⟩, 61) := ⟨⟨by decide +kernel, by decide +kernel⟩, List.mem_of_getElem? (i := 1201) (by decide +kernel), List.mem_of_getElem? (i := 1737) (by decide +kernel), List.mem_of_getElem? (i := 1738) (by decide +kernel)⟩
theorem lw_p87 : lw_okq (⟨"SlotFleetModel", "drawOn", "()I"⟩, 61) := ⟨⟨by decide +kernel, by decide +kernel⟩, List.mem_of_getElem? (i := 1201) (by decide +kernel), List.mem_of_getElem? (i := 1741) (by decide +kernel), List.mem_of_getElem? (i := 1742) (by decide +kernel)⟩
theorem lw_p88 : lw_okq (⟨"SlotFleetModel", "choose", "(II)I"⟩, 61) := ⟨⟨by decide +kernel, by decide +kernel⟩, List.mem_of_getElem? (i := 1201) (by decide +kernel), List.mem_of_getElem? (i := 1745) (by decide +kernel), List.mem_of_getElem? (i := 1746) (by decide +kernel)⟩
theorem lw_p89 : lw_okq (⟨"SlotFleetModel", "newLeft", "()I"⟩, 61) := ⟨⟨by decide +kernel, by decide +kernel⟩, List.mem_of_getElem? (i := 1201) (by decide +kernel), List.mem_of_getElem? (i := 1749) (by decide +kernel), List.mem_of_getElem? (i := 1750) (by decide +kernel)⟩
theorem lw_p90 : lw_okq (⟨"SlotFleetModel", "own1", "(IIIII)V"⟩, 61) := ⟨⟨by decide +kernel, by decide +kernel⟩, List.mem_of_getElem? (i := 1201) (by decide +kernel), List.mem_of_getElem? (i := 1753) (by decide +kernel), List.mem_of_getElem? (i := 1754) (by decide +kernel)⟩
theorem lw_p91 : lw_okq (⟨"SlotFleetModel", "dueOf", "(II)I"⟩, 61) := ⟨⟨by decide +kernel, by decide +kernel⟩, List.mem_of_getElem? (i := 1201) (by decide +kernel), List.mem_of_getElem? (i := 1757) (by decide +kernel), List.mem_of_getElem? (i := 1758) (by decide +kernel)⟩
theorem lw_p92 : lw_okq (⟨"SlotFleetModel", "report", "(II)Z"⟩, 61) := ⟨⟨by decide +kernel, by decide +kernel⟩, List.mem_of_getElem? (i := 1201) (by decide +kernel), List.mem_of_getElem? (i := 1761) (by decide +kernel), List.mem_of_getElem? (i := 1762) (by decide +kernel)⟩
theorem lw_p93 : lw_okq (⟨"SlotFleetModel", "listen", "(III)V"⟩, 61) := ⟨⟨by decide +kernel, by decide +kernel⟩, List.mem_of_getElem? (i := 1201) (by decide +kernel), List.mem_of_getElem? (i := 1765) (by decide +kernel), List.mem_of_getElem? (i := 1766) (by decide +kernel)⟩
theorem lw_p94 : lw_okq (⟨"SlotFleetModel", "hear", "(II)V"⟩, 61) := ⟨⟨by decide +kernel, by decide +kernel⟩, List.mem_of_getElem? (i := 1201) (by decide +kernel), List.mem_of_getElem? (i := 1769) (by decide +kernel), List.mem_of_getElem? (i := 1770) (by decide +kernel)⟩
theorem lw_p95 : lw_okq (⟨"SlotFleetModel", "holds", "(IIII)V"⟩, 61) := ⟨⟨by decide +kernel, by decide +kernel⟩, List.mem_of_getElem? (i := 1201) (by decide +kernel), List.mem_of_getElem? (i := 1773) (by decide +kernel), List.mem_of_getElem? (i := 1774) (by decide +kernel)⟩
def lw_privs_6 : List (MethodName × Nat) := [(⟨"SlotFleetModel", "inRange", "(I)I"⟩, 61), (⟨"SlotFleetModel", "doHear", "(II)Z"⟩, 61), (⟨"SlotFleetModel", "keepAct", "()V"⟩, 61), (⟨"SlotFleetModel", "goStep", "()I"⟩, 61), (⟨"SlotFleetModel", "beginFrame", "()V"⟩, 61), (⟨"SlotFleetModel", "ageEntry", "(I)V"⟩, 61), (⟨"SlotFleetModel", "seekSlots", "(I)V"⟩, 61), (⟨"SlotFleetModel", "drawOn", "()I"⟩, 61), (⟨"SlotFleetModel", "choose", "(II)I"⟩, 61), (⟨"SlotFleetModel", "newLeft", "()I"⟩, 61), (⟨"SlotFleetModel", "own1", "(IIIII)V"⟩, 61), (⟨"SlotFleetModel", "dueOf", "(II)I"⟩, 61), (⟨"SlotFleetModel", "report", "(II)Z"⟩, 61), (⟨"SlotFleetModel", "listen", "(III)V"⟩, 61), (⟨"SlotFleetModel", "hear", "(II)V"⟩, 61), (⟨"SlotFleetModel", "holds", "(IIII)V"⟩, 61)]
theorem lw_r6 : ∀ q ∈ lw_privs_6, lw_okq q := List.forall_mem_cons.mpr ⟨lw_p80, List.forall_mem_cons.mpr ⟨lw_p81, List.forall_mem_cons.mpr ⟨lw_p82, List.forall_mem_cons.mpr ⟨lw_p83, List.forall_mem_cons.mpr ⟨lw_p84, List.forall_mem_cons.mpr ⟨lw_p85, List.forall_mem_cons.mpr ⟨lw_p86, List.forall_mem_cons.mpr ⟨lw_p87, List.forall_mem_cons.mpr ⟨lw_p88, List.forall_mem_cons.mpr ⟨lw_p89, List.forall_mem_cons.mpr ⟨lw_p90, List.forall_mem_cons.mpr ⟨lw_p91, List.forall_mem_cons.mpr ⟨lw_p92, List.forall_mem_cons.mpr ⟨lw_p93, List.forall_mem_cons.mpr ⟨lw_p94, List.forall_mem_cons.mpr ⟨lw_p95, fun _ h => absurd h List.not_mem_nil⟩⟩⟩⟩⟩⟩⟩⟩⟩⟩⟩⟩⟩⟩⟩⟩
theorem lw_p96 : lw_okq (⟨"SlotFleetModel", "swapAll", "()V"⟩, 61) := ⟨⟨by decide +kernel, by decide +kernel⟩, List.mem_of_getElem? (i := 1201) (by decide +kernel), List.mem_of_getElem? (i := 1789) (by decide +kernel), List.mem_of_getElem? (i := 1790) (by decide +kernel)⟩
theorem lw_p97 : lw_okq (⟨"SlotFleetModel", "keepNow", "()V"⟩, 61) := ⟨⟨by decide +kernel, by decide +kernel⟩, List.mem_of_getElem? (i := 1201) (by decide +kernel), List.mem_of_getElem? (i := 1801) (by decide +kernel), List.mem_of_getElem? (i := 1802) (by decide +kernel)⟩
theorem lw_p98 : lw_okq (⟨"SlotFleetModel", "bringBack", "()V"⟩, 61) := ⟨⟨by decide +kernel, by decide +kernel⟩, List.mem_of_getElem? (i := 1201) (by decide +kernel), List.mem_of_getElem? (i := 1805) (by decide +kernel), List.mem_of_getElem? (i := 1806) (by decide +kernel)⟩
theorem lw_p99 : lw_okq (⟨"SlotFleetModel", "goSteps", "(I)V"⟩, 61) := ⟨⟨by decide +kernel, by decide +kernel⟩, List.mem_of_getElem? (i := 1201) (by decide +kernel), List.mem_of_getElem? (i := 1813) (by decide +kernel), List.mem_of_getElem? (i := 1814) (by decide +kernel)⟩
theorem lw_p100 : lw_okq (⟨"SlotFleetModel", "hiddenBy", "(II)I"⟩, 61) := ⟨⟨by decide +kernel, by decide +kernel⟩, List.mem_of_getElem? (i := 1201) (by decide +kernel), List.mem_of_getElem? (i := 1825) (by decide +kernel), List.mem_of_getElem? (i := 1826) (by decide +kernel)⟩
theorem lw_p101 : lw_okq (⟨"SlotFleetModel", "canColour", "(II)Z"⟩, 61) := ⟨⟨by decide +kernel, by decide +kernel⟩, List.mem_of_getElem? (i := 1201) (by decide +kernel), List.mem_of_getElem? (i := 1833) (by decide +kernel), List.mem_of_getElem? (i := 1834) (by decide +kernel)⟩
theorem lw_p102 : lw_okq (⟨"SlotFleetModel", "isColoured", "(III)Z"⟩, 61) := ⟨⟨by decide +kernel, by decide +kernel⟩, List.mem_of_getElem? (i := 1201) (by decide +kernel), List.mem_of_getElem? (i := 1840) (by decide +kernel), List.mem_of_getElem? (i := 1841) (by decide +kernel)⟩
theorem lw_p103 : lw_okq (⟨"SlotFleetModel", "mustDiffer", "(III)Z"⟩, 61) := ⟨⟨by decide +kernel, by decide +kernel⟩, List.mem_of_getElem? (i := 1201) (by decide +kernel), List.mem_of_getElem? (i := 1847) (by decide +kernel), List.mem_of_getElem? (i := 1848) (by decide +kernel)⟩
theorem lw_p104 : lw_okq (⟨"SlotFleetModel", "isCrowd", "(I)Z"⟩, 61) := ⟨⟨by decide +kernel, by decide +kernel⟩, List.mem_of_getElem? (i := 1201) (by decide +kernel), List.mem_of_getElem? (i := 1855) (by decide +kernel), List.mem_of_getElem? (i := 1856) (by decide +kernel)⟩
theorem lw_p105 : lw_okq (⟨"SlotFleetModel", "doesFit", "(II)Z"⟩, 61) := ⟨⟨by decide +kernel, by decide +kernel⟩, List.mem_of_getElem? (i := 1201) (by decide +kernel), List.mem_of_getElem? (i := 1903) (by decide +kernel), List.mem_of_getElem? (i := 1904) (by decide +kernel)⟩
theorem lw_p106 : lw_okq (⟨"SlotFleetModel", "wasNear", "(III)Z"⟩, 61) := ⟨⟨by decide +kernel, by decide +kernel⟩, List.mem_of_getElem? (i := 1201) (by decide +kernel), List.mem_of_getElem? (i := 1907) (by decide +kernel), List.mem_of_getElem? (i := 1908) (by decide +kernel)⟩
theorem lw_p107 : lw_okq (⟨"SlotFleetModel", "mostBy", "(III)I"⟩, 61) := ⟨⟨by decide +kernel, by decide +kernel⟩, List.mem_of_getElem? (i := 1201) (by decide +kernel), List.mem_of_getElem? (i := 1920) (by decide +kernel), List.mem_of_getElem? (i := 1921) (by decide +kernel)⟩
def lw_privs_7 : List (MethodName × Nat) := [(⟨"SlotFleetModel", "swapAll", "()V"⟩, 61), (⟨"SlotFleetModel", "keepNow", "()V"⟩, 61), (⟨"SlotFleetModel", "bringBack", "()V"⟩, 61), (⟨"SlotFleetModel", "goSteps", "(I)V"⟩, 61), (⟨"SlotFleetModel", "hiddenBy", "(II)I"⟩, 61), (⟨"SlotFleetModel", "canColour", "(II)Z"⟩, 61), (⟨"SlotFleetModel", "isColoured", "(III)Z"⟩, 61), (⟨"SlotFleetModel", "mustDiffer", "(III)Z"⟩, 61), (⟨"SlotFleetModel", "isCrowd", "(I)Z"⟩, 61), (⟨"SlotFleetModel", "doesFit", "(II)Z"⟩, 61), (⟨"SlotFleetModel", "wasNear", "(III)Z"⟩, 61), (⟨"SlotFleetModel", "mostBy", "(III)I"⟩, 61)]
theorem lw_r7 : ∀ q ∈ lw_privs_7, lw_okq q := List.forall_mem_cons.mpr ⟨lw_p96, List.forall_mem_cons.mpr ⟨lw_p97, List.forall_mem_cons.mpr ⟨lw_p98, List.forall_mem_cons.mpr ⟨lw_p99, List.forall_mem_cons.mpr ⟨lw_p100, List.forall_mem_cons.mpr ⟨lw_p101, List.forall_mem_cons.mpr ⟨lw_p102, List.forall_mem_cons.mpr ⟨lw_p103, List.forall_mem_cons.mpr ⟨lw_p104, List.forall_mem_cons.mpr ⟨lw_p105, List.forall_mem_cons.mpr ⟨lw_p106, List.forall_mem_cons.mpr ⟨lw_p107, fun _ h => absurd h List.not_mem_nil⟩⟩⟩⟩⟩⟩⟩⟩⟩⟩⟩⟩
def lw_privs : List (MethodName × Nat) := lw_privs_1 ++ (lw_privs_2 ++ (lw_privs_3 ++ (lw_privs_4 ++ (lw_privs_5 ++ (lw_privs_6 ++ (lw_privs_7))))))
def lw_tbl : List Cond := k2_sels lw_privs ++ tables_1
theorem lw_privs_ok : ∀ q ∈ lw_privs, lw_okq q := by
  show ∀ q ∈ lw_privs_1 ++ (lw_privs_2 ++ (lw_privs_3 ++ (lw_privs_4 ++ (lw_privs_5 ++ (lw_privs_6 ++ (lw_privs_7)))))), lw_okq q
  exact List.forall_mem_append.mpr ⟨lw_r1, List.forall_mem_append.mpr ⟨lw_r2, List.forall_mem_append.mpr ⟨lw_r3, List.forall_mem_append.mpr ⟨lw_r4, List.forall_mem_append.mpr ⟨lw_r5, List.forall_mem_append.mpr ⟨lw_r6, lw_r7⟩⟩⟩⟩⟩⟩

def RX0 : String := "SlotFleet$Choice"
def TX0 : u_T := fun k => match k with
  | 0 => ("SlotFleet$Choice", "bits", "I", false)
  | 1 => ("SlotFleet$Choice", "slot", "I", false)
  | 2 => ("SlotFleet$Choice", "left", "I", false)
  | 3 => ("SlotFleet$Choice", "order", "[I", true)
  | _ => ("SlotFleet$Choice", "orderLength", "I", false)
def tyX0 : Nat → FieldType := fun k => match k with
  | 0 => .int
  | 1 => .int
  | 2 => .int
  | 3 => .array .int
  | _ => .int
theorem nmX0 : ∀ a, a < 5 → ∀ b, b < 5 → a ≠ b → (TX0 a).2.1 ≠ (TX0 b).2.1 := by decide +kernel
theorem tyX0_ok : ∀ k, k < 5 → parseFieldDescriptor (TX0 k).2.2.1 = some (tyX0 k) := by decide +kernel
abbrev cX0_init : ByteArray := prog_2_method_1_code
def yX0_init : MethodName := ⟨RX0, "<init>", "()V"⟩
abbrev cX0_setOrder : ByteArray := prog_2_method_2_code
def yX0_setOrder : MethodName := ⟨RX0, "setOrder", "(LSlotFleet$Plan;II)V"⟩
abbrev cX0_look : ByteArray := prog_2_method_3_code
def yX0_look : MethodName := ⟨RX0, "look", "(LSlotFleet$State;III)V"⟩
abbrev cX0_farthestHeld : ByteArray := prog_2_method_4_code
def yX0_farthestHeld : MethodName := ⟨RX0, "farthestHeld", "(LSlotFleet$State;II)I"⟩
abbrev cX0_choose : ByteArray := prog_2_method_5_code
def yX0_choose : MethodName := ⟨RX0, "choose", "(LSlotFleet$State;II)Z"⟩
def RX1 : String := "SlotFleet$History"
def TX1 : u_T := fun k => match k with
  | 0 => ("SlotFleet$History", "plan", "LSlotFleet$Plan;", true)
  | 1 => ("SlotFleet$History", "states", "[LSlotFleet$State;", true)
  | 2 => ("SlotFleet$History", "done", "I", false)
  | _ => ("SlotFleet$History", "undone", "I", false)
def tyX1 : Nat → FieldType := fun k => match k with
  | 0 => .object "SlotFleet$Plan"
  | 1 => .array (.object "SlotFleet$State")
  | 2 => .int
  | _ => .int
theorem nmX1 : ∀ a, a < 4 → ∀ b, b < 4 → a ≠ b → (TX1 a).2.1 ≠ (TX1 b).2.1 := by decide +kernel
theorem tyX1_ok : ∀ k, k < 4 → parseFieldDescriptor (TX1 k).2.2.1 = some (tyX1 k) := by decide +kernel
abbrev cX1_init : ByteArray := prog_3_method_1_code
def yX1_init : MethodName := ⟨RX1, "<init>", "(LSlotFleet$Plan;)V"⟩
abbrev cX1_forget : ByteArray := prog_3_method_2_code
def yX1_forget : MethodName := ⟨RX1, "forget", "()V"⟩
abbrev cX1_keep : ByteArray := prog_3_method_3_code
def yX1_keep : MethodName := ⟨RX1, "keep", "(LSlotFleet$State;)V"⟩
abbrev cX1_dropOldest : ByteArray := prog_3_method_4_code
def yX1_dropOldest : MethodName := ⟨RX1, "dropOldest", "()V"⟩
abbrev cX1_takeBack : ByteArray := prog_3_method_5_code
def yX1_takeBack : MethodName := ⟨RX1, "takeBack", "(LSlotFleet$State;)LSlotFleet$State;"⟩
abbrev cX1_doAgain : ByteArray := prog_3_method_6_code
def yX1_doAgain : MethodName := ⟨RX1, "doAgain", "(LSlotFleet$State;)LSlotFleet$State;"⟩
abbrev cX1_exchange : ByteArray := prog_3_method_7_code
def yX1_exchange : MethodName := ⟨RX1, "exchange", "(ILSlotFleet$State;)LSlotFleet$State;"⟩
def RX2 : String := "SlotFleet$Plan"
def TX2 : u_T := fun k => match k with
  | 0 => ("SlotFleet$Plan", "slots", "I", false)
  | 1 => ("SlotFleet$Plan", "range", "I", false)
  | 2 => ("SlotFleet$Plan", "wide", "I", false)
  | 3 => ("SlotFleet$Plan", "least", "I", false)
  | 4 => ("SlotFleet$Plan", "keeps", "I", false)
  | 5 => ("SlotFleet$Plan", "fades", "I", false)
  | 6 => ("SlotFleet$Plan", "draw", "I", false)
  | 7 => ("SlotFleet$Plan", "ships", "I", false)
  | 8 => ("SlotFleet$Plan", "units", "I", false)
  | 9 => ("SlotFleet$Plan", "across", "[I", true)
  | 10 => ("SlotFleet$Plan", "up", "[I", true)
  | 11 => ("SlotFleet$Plan", "goesAcross", "[I", true)
  | 12 => ("SlotFleet$Plan", "goesUp", "[I", true)
  | 13 => ("SlotFleet$Plan", "on", "[I", true)
  | 14 => ("SlotFleet$Plan", "formula", "[I", true)
  | 15 => ("SlotFleet$Plan", "formulaLength", "I", false)
  | _ => ("SlotFleet$Plan", "stack", "[I", true)
def tyX2 : Nat → FieldType := fun k => match k with
  | 0 => .int
  | 1 => .int
  | 2 => .int
  | 3 => .int
  | 4 => .int
  | 5 => .int
  | 6 => .int
  | 7 => .int
  | 8 => .int
  | 9 => .array .int
  | 10 => .array .int
  | 11 => .array .int
  | 12 => .array .int
  | 13 => .array .int
  | 14 => .array .int
  | 15 => .int
  | _ => .array .int
theorem nmX2 : ∀ a, a < 17 → ∀ b, b < 17 → a ≠ b → (TX2 a).2.1 ≠ (TX2 b).2.1 := by decide +kernel
theorem tyX2_ok : ∀ k, k < 17 → parseFieldDescriptor (TX2 k).2.2.1 = some (tyX2 k) := by decide +kernel
abbrev cX2_init : ByteArray := prog_4_method_1_code
def yX2_init : MethodName := ⟨RX2, "<init>", "()V"⟩
abbrev cX2_clear : ByteArray := prog_4_method_2_code
def yX2_clear : MethodName := ⟨RX2, "clear", "()V"⟩
abbrev cX2_copy : ByteArray := prog_4_method_3_code
def yX2_copy : MethodName := ⟨RX2, "copy", "(LSlotFleet$Plan;)V"⟩
abbrev cX2_isShip : ByteArray := prog_4_method_4_code
def yX2_isShip : MethodName := ⟨RX2, "isShip", "(I)Z"⟩
abbrev cX2_areTwo : ByteArray := prog_4_method_5_code
def yX2_areTwo : MethodName := ⟨RX2, "areTwo", "(II)Z"⟩
abbrev cX2_isSlot : ByteArray := prog_4_method_6_code
def yX2_isSlot : MethodName := ⟨RX2, "isSlot", "(I)Z"⟩
abbrev cX2_addToFormula : ByteArray := prog_4_method_7_code
def yX2_addToFormula : MethodName := ⟨RX2, "addToFormula", "(I)V"⟩
abbrev cX2_workOut : ByteArray := prog_4_method_8_code
def yX2_workOut : MethodName := ⟨RX2, "workOut", "(IIII)I"⟩
abbrev cX2_pick : ByteArray := prog_4_method_9_code
def yX2_pick : MethodName := ⟨RX2, "pick", "(IIIII)I"⟩
abbrev cX2_join : ByteArray := prog_4_method_10_code
def yX2_join : MethodName := ⟨RX2, "join", "(III)I"⟩
abbrev cX2_truth : ByteArray := prog_4_method_11_code
def yX2_truth : MethodName := ⟨RX2, "truth", "(Z)I"⟩
def RX3 : String := "SlotFleet$Reader"
def TX3 : u_T := fun k => match k with
  | 0 => ("SlotFleet$Reader", "told", "LSlotFleet$Plan;", true)
  | 1 => ("SlotFleet$Reader", "fault", "I", false)
  | 2 => ("SlotFleet$Reader", "faultPlace", "I", false)
  | 3 => ("SlotFleet$Reader", "text", "[B", false)
  | 4 => ("SlotFleet$Reader", "length", "I", false)
  | 5 => ("SlotFleet$Reader", "place", "I", false)
  | 6 => ("SlotFleet$Reader", "behind", "I", false)
  | 7 => ("SlotFleet$Reader", "kind", "I", false)
  | 8 => ("SlotFleet$Reader", "value", "I", false)
  | 9 => ("SlotFleet$Reader", "linesTold", "I", false)
  | 10 => ("SlotFleet$Reader", "amount", "I", false)
  | 11 => ("SlotFleet$Reader", "namePlace", "[I", true)
  | _ => ("SlotFleet$Reader", "nameLength", "[I", true)
def tyX3 : Nat → FieldType := fun k => match k with
  | 0 => .object "SlotFleet$Plan"
  | 1 => .int
  | 2 => .int
  | 3 => .array .byte
  | 4 => .int
  | 5 => .int
  | 6 => .int
  | 7 => .int
  | 8 => .int
  | 9 => .int
  | 10 => .int
  | 11 => .array .int
  | _ => .array .int
theorem nmX3 : ∀ a, a < 13 → ∀ b, b < 13 → a ≠ b → (TX3 a).2.1 ≠ (TX3 b).2.1 := by decide +kernel
theorem tyX3_ok : ∀ k, k < 13 → parseFieldDescriptor (TX3 k).2.2.1 = some (tyX3 k) := by decide +kernel
abbrev cX3_init : ByteArray := prog_5_method_1_code
def yX3_init : MethodName := ⟨RX3, "<init>", "()V"⟩
abbrev cX3_read : ByteArray := prog_5_method_2_code
def yX3_read : MethodName := ⟨RX3, "read", "([BI)Z"⟩
abbrev cX3_readLine : ByteArray := prog_5_method_3_code
def yX3_readLine : MethodName := ⟨RX3, "readLine", "()Z"⟩
abbrev cX3_settle : ByteArray := prog_5_method_4_code
def yX3_settle : MethodName := ⟨RX3, "settle", "(II)V"⟩
abbrev cX3_readShip : ByteArray := prog_5_method_5_code
def yX3_readShip : MethodName := ⟨RX3, "readShip", "()Z"⟩
abbrev cX3_isToldName : ByteArray := prog_5_method_6_code
def yX3_isToldName : MethodName := ⟨RX3, "isToldName", "()Z"⟩
abbrev cX3_sameBytes : ByteArray := prog_5_method_7_code
def yX3_sameBytes : MethodName := ⟨RX3, "sameBytes", "(III)Z"⟩
abbrev cX3_readLevel : ByteArray := prog_5_method_8_code
def yX3_readLevel : MethodName := ⟨RX3, "readLevel", "(II)Z"⟩
abbrev cX3_codeBetween : ByteArray := prog_5_method_9_code
def yX3_codeBetween : MethodName := ⟨RX3, "codeBetween", "(I)I"⟩
abbrev cX3_readUnit : ByteArray := prog_5_method_10_code
def yX3_readUnit : MethodName := ⟨RX3, "readUnit", "(I)Z"⟩
abbrev cX3_isWord : ByteArray := prog_5_method_11_code
def yX3_isWord : MethodName := ⟨RX3, "isWord", "(I)Z"⟩
abbrev cX3_isSign : ByteArray := prog_5_method_12_code
def yX3_isSign : MethodName := ⟨RX3, "isSign", "(I)Z"⟩
abbrev cX3_takeWord : ByteArray := prog_5_method_13_code
def yX3_takeWord : MethodName := ⟨RX3, "takeWord", "(I)Z"⟩
abbrev cX3_takeSign : ByteArray := prog_5_method_14_code
def yX3_takeSign : MethodName := ⟨RX3, "takeSign", "(I)Z"⟩
abbrev cX3_takeNumber : ByteArray := prog_5_method_15_code
def yX3_takeNumber : MethodName := ⟨RX3, "takeNumber", "(II)Z"⟩
abbrev cX3_refuse : ByteArray := prog_5_method_16_code
def yX3_refuse : MethodName := ⟨RX3, "refuse", "()Z"⟩
abbrev cX3_fail : ByteArray := prog_5_method_17_code
def yX3_fail : MethodName := ⟨RX3, "fail", "(I)Z"⟩
abbrev cX3_advance : ByteArray := prog_5_method_18_code
def yX3_advance : MethodName := ⟨RX3, "advance", "()V"⟩
abbrev cX3_scanWord : ByteArray := prog_5_method_19_code
def yX3_scanWord : MethodName := ⟨RX3, "scanWord", "()V"⟩
abbrev cX3_scanNumeral : ByteArray := prog_5_method_20_code
def yX3_scanNumeral : MethodName := ⟨RX3, "scanNumeral", "()V"⟩
abbrev cX3_isBlank : ByteArray := prog_5_method_21_code
def yX3_isBlank : MethodName := ⟨RX3, "isBlank", "(I)Z"⟩
abbrev cX3_isLetter : ByteArray := prog_5_method_22_code
def yX3_isLetter : MethodName := ⟨RX3, "isLetter", "(I)Z"⟩
abbrev cX3_isDigit : ByteArray := prog_5_method_23_code
def yX3_isDigit : MethodName := ⟨RX3, "isDigit", "(I)Z"⟩
def RX4 : String := "SlotFleet$Sightings"
def TX4 : u_T := fun k => match k with
  | 0 => ("SlotFleet$Sightings", "plan", "LSlotFleet$Plan;", true)
  | 1 => ("SlotFleet$Sightings", "frames", "[I", true)
  | 2 => ("SlotFleet$Sightings", "ships", "[I", true)
  | 3 => ("SlotFleet$Sightings", "were", "[Z", true)
  | 4 => ("SlotFleet$Sightings", "toldAt", "[I", true)
  | 5 => ("SlotFleet$Sightings", "untoldAt", "[I", true)
  | 6 => ("SlotFleet$Sightings", "may", "[Z", true)
  | 7 => ("SlotFleet$Sightings", "mayCount", "I", false)
  | 8 => ("SlotFleet$Sightings", "count", "I", false)
  | 9 => ("SlotFleet$Sightings", "askFrame", "I", false)
  | _ => ("SlotFleet$Sightings", "askLeft", "I", false)
def tyX4 : Nat → FieldType := fun k => match k with
  | 0 => .object "SlotFleet$Plan"
  | 1 => .array .int
  | 2 => .array .int
  | 3 => .array .boolean
  | 4 => .array .int
  | 5 => .array .int
  | 6 => .array .boolean
  | 7 => .int
  | 8 => .int
  | 9 => .int
  | _ => .int
theorem nmX4 : ∀ a, a < 11 → ∀ b, b < 11 → a ≠ b → (TX4 a).2.1 ≠ (TX4 b).2.1 := by decide +kernel
theorem tyX4_ok : ∀ k, k < 11 → parseFieldDescriptor (TX4 k).2.2.1 = some (tyX4 k) := by decide +kernel
abbrev cX4_init : ByteArray := prog_6_method_1_code
def yX4_init : MethodName := ⟨RX4, "<init>", "(LSlotFleet$Plan;)V"⟩
abbrev cX4_forget : ByteArray := prog_6_method_2_code
def yX4_forget : MethodName := ⟨RX4, "forget", "()V"⟩
abbrev cX4_tell : ByteArray := prog_6_method_3_code
def yX4_tell : MethodName := ⟨RX4, "tell", "(IIZI)I"⟩
abbrev cX4_takeBack : ByteArray := prog_6_method_4_code
def yX4_takeBack : MethodName := ⟨RX4, "takeBack", "(II)Z"⟩
abbrev cX4_sift : ByteArray := prog_6_method_5_code
def yX4_sift : MethodName := ⟨RX4, "sift", "(I)I"⟩
abbrev cX4_agrees : ByteArray := prog_6_method_6_code
def yX4_agrees : MethodName := ⟨RX4, "agrees", "(II)Z"⟩
abbrev cX4_wasInRange : ByteArray := prog_6_method_7_code
def yX4_wasInRange : MethodName := ⟨RX4, "wasInRange", "(III)Z"⟩
abbrev cX4_least : ByteArray := prog_6_method_8_code
def yX4_least : MethodName := ⟨RX4, "least", "()I"⟩
abbrev cX4_greatest : ByteArray := prog_6_method_9_code
def yX4_greatest : MethodName := ⟨RX4, "greatest", "()I"⟩
abbrev cX4_seekFrame : ByteArray := prog_6_method_10_code
def yX4_seekFrame : MethodName := ⟨RX4, "seekFrame", "(I)V"⟩
def RX5 : String := "SlotFleet$State"
def TX5 : u_T := fun k => match k with
  | 0 => ("SlotFleet$State", "plan", "LSlotFleet$Plan;", true)
  | 1 => ("SlotFleet$State", "across", "[I", true)
  | 2 => ("SlotFleet$State", "up", "[I", true)
  | 3 => ("SlotFleet$State", "goesAcross", "[I", true)
  | 4 => ("SlotFleet$State", "goesUp", "[I", true)
  | 5 => ("SlotFleet$State", "owned", "[I", true)
  | 6 => ("SlotFleet$State", "ownSlot", "[I", true)
  | 7 => ("SlotFleet$State", "ownLeft", "[I", true)
  | 8 => ("SlotFleet$State", "ownFrom", "[I", true)
  | 9 => ("SlotFleet$State", "holder", "[I", true)
  | 10 => ("SlotFleet$State", "heldFor", "[I", true)
  | 11 => ("SlotFleet$State", "knownAcross", "[I", true)
  | 12 => ("SlotFleet$State", "knownUp", "[I", true)
  | 13 => ("SlotFleet$State", "off", "I", false)
  | 14 => ("SlotFleet$State", "clashes", "I", false)
  | 15 => ("SlotFleet$State", "frame", "I", false)
  | 16 => ("SlotFleet$State", "slot", "I", false)
  | _ => ("SlotFleet$State", "seed", "I", false)
def tyX5 : Nat → FieldType := fun k => match k with
  | 0 => .object "SlotFleet$Plan"
  | 1 => .array .int
  | 2 => .array .int
  | 3 => .array .int
  | 4 => .array .int
  | 5 => .array .int
  | 6 => .array .int
  | 7 => .array .int
  | 8 => .array .int
  | 9 => .array .int
  | 10 => .array .int
  | 11 => .array .int
  | 12 => .array .int
  | 13 => .int
  | 14 => .int
  | 15 => .int
  | 16 => .int
  | _ => .int
theorem nmX5 : ∀ a, a < 18 → ∀ b, b < 18 → a ≠ b → (TX5 a).2.1 ≠ (TX5 b).2.1 := by decide +kernel
theorem tyX5_ok : ∀ k, k < 18 → parseFieldDescriptor (TX5 k).2.2.1 = some (tyX5 k) := by decide +kernel
abbrev cX5_init : ByteArray := prog_7_method_1_code
def yX5_init : MethodName := ⟨RX5, "<init>", "(LSlotFleet$Plan;)V"⟩
abbrev cX5_start : ByteArray := prog_7_method_2_code
def yX5_start : MethodName := ⟨RX5, "start", "()V"⟩
abbrev cX5_copy : ByteArray := prog_7_method_3_code
def yX5_copy : MethodName := ⟨RX5, "copy", "(LSlotFleet$State;)V"⟩
abbrev cX5_forgetAll : ByteArray := prog_7_method_4_code
def yX5_forgetAll : MethodName := ⟨RX5, "forgetAll", "(I)V"⟩
abbrev cX5_setHolder : ByteArray := prog_7_method_5_code
def yX5_setHolder : MethodName := ⟨RX5, "setHolder", "(IIII)V"⟩
abbrev cX5_holderOf : ByteArray := prog_7_method_6_code
def yX5_holderOf : MethodName := ⟨RX5, "holderOf", "(II)I"⟩
abbrev cX5_isOn : ByteArray := prog_7_method_7_code
def yX5_isOn : MethodName := ⟨RX5, "isOn", "(I)Z"⟩
abbrev cX5_onBits : ByteArray := prog_7_method_8_code
def yX5_onBits : MethodName := ⟨RX5, "onBits", "()I"⟩
abbrev cX5_distance : ByteArray := prog_7_method_9_code
def yX5_distance : MethodName := ⟨RX5, "distance", "(II)I"⟩
abbrev cX5_inRange : ByteArray := prog_7_method_10_code
def yX5_inRange : MethodName := ⟨RX5, "inRange", "(II)Z"⟩
abbrev cX5_inRangeAfter : ByteArray := prog_7_method_11_code
def yX5_inRangeAfter : MethodName := ⟨RX5, "inRangeAfter", "(III)Z"⟩
abbrev cX5_placeAfter : ByteArray := prog_7_method_12_code
def yX5_placeAfter : MethodName := ⟨RX5, "placeAfter", "(III)I"⟩
abbrev cX5_speedOf : ByteArray := prog_7_method_13_code
def yX5_speedOf : MethodName := ⟨RX5, "speedOf", "(I)I"⟩
abbrev cX5_owns : ByteArray := prog_7_method_14_code
def yX5_owns : MethodName := ⟨RX5, "owns", "(II)Z"⟩
abbrev cX5_ownedBits : ByteArray := prog_7_method_15_code
def yX5_ownedBits : MethodName := ⟨RX5, "ownedBits", "(I)I"⟩
abbrev cX5_countOwners : ByteArray := prog_7_method_16_code
def yX5_countOwners : MethodName := ⟨RX5, "countOwners", "(I)I"⟩
abbrev cX5_heardBits : ByteArray := prog_7_method_17_code
def yX5_heardBits : MethodName := ⟨RX5, "heardBits", "(I)I"⟩
abbrev cX5_othersHeard : ByteArray := prog_7_method_18_code
def yX5_othersHeard : MethodName := ⟨RX5, "othersHeard", "(I)I"⟩
abbrev cX5_howOften : ByteArray := prog_7_method_19_code
def yX5_howOften : MethodName := ⟨RX5, "howOften", "(I)I"⟩
abbrev cX5_drawSeed : ByteArray := prog_7_method_20_code
def yX5_drawSeed : MethodName := ⟨RX5, "drawSeed", "()I"⟩
abbrev cX5_drawLeft : ByteArray := prog_7_method_21_code
def yX5_drawLeft : MethodName := ⟨RX5, "drawLeft", "()I"⟩
abbrev cX5_moveAll : ByteArray := prog_7_method_22_code
def yX5_moveAll : MethodName := ⟨RX5, "moveAll", "()V"⟩
abbrev cX5_ageMaps : ByteArray := prog_7_method_23_code
def yX5_ageMaps : MethodName := ⟨RX5, "ageMaps", "()V"⟩
abbrev cX5_goOn : ByteArray := prog_7_method_24_code
def yX5_goOn : MethodName := ⟨RX5, "goOn", "()V"⟩
def RX6 : String := "SlotFleet$Stepper"
def TX6 : u_T := fun k => match k with
  | 0 => ("SlotFleet$Stepper", "choice", "LSlotFleet$Choice;", true)
  | 1 => ("SlotFleet$Stepper", "toldSlot", "[I", true)
  | 2 => ("SlotFleet$Stepper", "toldLeft", "[I", true)
  | _ => ("SlotFleet$Stepper", "faded", "I", false)
def tyX6 : Nat → FieldType := fun k => match k with
  | 0 => .object "SlotFleet$Choice"
  | 1 => .array .int
  | 2 => .array .int
  | _ => .int
theorem nmX6 : ∀ a, a < 4 → ∀ b, b < 4 → a ≠ b → (TX6 a).2.1 ≠ (TX6 b).2.1 := by decide +kernel
theorem tyX6_ok : ∀ k, k < 4 → parseFieldDescriptor (TX6 k).2.2.1 = some (tyX6 k) := by decide +kernel
abbrev cX6_init : ByteArray := prog_8_method_1_code
def yX6_init : MethodName := ⟨RX6, "<init>", "()V"⟩
abbrev cX6_go : ByteArray := prog_8_method_2_code
def yX6_go : MethodName := ⟨RX6, "go", "(LSlotFleet$State;)I"⟩
abbrev cX6_beginFrame : ByteArray := prog_8_method_3_code
def yX6_beginFrame : MethodName := ⟨RX6, "beginFrame", "(LSlotFleet$State;)V"⟩
abbrev cX6_fillUp : ByteArray := prog_8_method_4_code
def yX6_fillUp : MethodName := ⟨RX6, "fillUp", "(LSlotFleet$State;I)V"⟩
abbrev cX6_reportAll : ByteArray := prog_8_method_5_code
def yX6_reportAll : MethodName := ⟨RX6, "reportAll", "(LSlotFleet$State;)I"⟩
abbrev cX6_dueNow : ByteArray := prog_8_method_6_code
def yX6_dueNow : MethodName := ⟨RX6, "dueNow", "(LSlotFleet$State;I)I"⟩
abbrev cX6_reportOne : ByteArray := prog_8_method_7_code
def yX6_reportOne : MethodName := ⟨RX6, "reportOne", "(LSlotFleet$State;II)V"⟩
abbrev cX6_listenAll : ByteArray := prog_8_method_8_code
def yX6_listenAll : MethodName := ⟨RX6, "listenAll", "(LSlotFleet$State;I)V"⟩
abbrev cX6_hear : ByteArray := prog_8_method_9_code
def yX6_hear : MethodName := ⟨RX6, "hear", "(LSlotFleet$State;II)V"⟩
def RX7 : String := "SlotFleet$Web"
def TX7 : u_T := fun k => match k with
  | 0 => ("SlotFleet$Web", "on", "I", false)
  | 1 => ("SlotFleet$Web", "links", "[I", true)
  | 2 => ("SlotFleet$Web", "wider", "[I", true)
  | _ => ("SlotFleet$Web", "fewest", "[I", true)
def tyX7 : Nat → FieldType := fun k => match k with
  | 0 => .int
  | 1 => .array .int
  | 2 => .array .int
  | _ => .array .int
theorem nmX7 : ∀ a, a < 4 → ∀ b, b < 4 → a ≠ b → (TX7 a).2.1 ≠ (TX7 b).2.1 := by decide +kernel
theorem tyX7_ok : ∀ k, k < 4 → parseFieldDescriptor (TX7 k).2.2.1 = some (tyX7 k) := by decide +kernel
abbrev cX7_init : ByteArray := prog_9_method_1_code
def yX7_init : MethodName := ⟨RX7, "<init>", "()V"⟩
abbrev cX7_knot : ByteArray := prog_9_method_2_code
def yX7_knot : MethodName := ⟨RX7, "knot", "(LSlotFleet$State;)V"⟩
abbrev cX7_linked : ByteArray := prog_9_method_3_code
def yX7_linked : MethodName := ⟨RX7, "linked", "(II)Z"⟩
abbrev cX7_thirdOnes : ByteArray := prog_9_method_4_code
def yX7_thirdOnes : MethodName := ⟨RX7, "thirdOnes", "(II)I"⟩
abbrev cX7_widen : ByteArray := prog_9_method_5_code
def yX7_widen : MethodName := ⟨RX7, "widen", "()V"⟩
abbrev cX7_fewestColours : ByteArray := prog_9_method_6_code
def yX7_fewestColours : MethodName := ⟨RX7, "fewestColours", "()I"⟩
abbrev cX7_isApart : ByteArray := prog_9_method_7_code
def yX7_isApart : MethodName := ⟨RX7, "isApart", "(I)Z"⟩
abbrev cX7_largestCrowd : ByteArray := prog_9_method_8_code
def yX7_largestCrowd : MethodName := ⟨RX7, "largestCrowd", "()I"⟩
abbrev cX7_isCrowd : ByteArray := prog_9_method_9_code
def yX7_isCrowd : MethodName := ⟨RX7, "isCrowd", "(I)Z"⟩
abbrev cX7_countParts : ByteArray := prog_9_method_10_code
def yX7_countParts : MethodName := ⟨RX7, "countParts", "()I"⟩
abbrev cX7_allHangingOn : ByteArray := prog_9_method_11_code
def yX7_allHangingOn : MethodName := ⟨RX7, "allHangingOn", "(I)I"⟩
def RX8 : String := "SlotFleet"
def TX8 : u_T := fun k => match k with
  | 0 => ("SlotFleet", "tape", "[B", true)
  | 1 => ("SlotFleet", "tapeLength", "I", false)
  | 2 => ("SlotFleet", "faultKind", "I", false)
  | 3 => ("SlotFleet", "faultPlace", "I", false)
  | 4 => ("SlotFleet", "reader", "LSlotFleet$Reader;", true)
  | 5 => ("SlotFleet", "plan", "LSlotFleet$Plan;", true)
  | 6 => ("SlotFleet", "now", "LSlotFleet$State;", false)
  | 7 => ("SlotFleet", "ahead", "LSlotFleet$State;", true)
  | 8 => ("SlotFleet", "choice", "LSlotFleet$Choice;", true)
  | 9 => ("SlotFleet", "stepper", "LSlotFleet$Stepper;", true)
  | 10 => ("SlotFleet", "web", "LSlotFleet$Web;", true)
  | 11 => ("SlotFleet", "history", "LSlotFleet$History;", true)
  | 12 => ("SlotFleet", "sightings", "LSlotFleet$Sightings;", true)
  | 13 => ("SlotFleet", "boxes", "[LSlotFleet$State;", true)
  | 14 => ("SlotFleet", "boxFull", "[Z", true)
  | 15 => ("SlotFleet", "lying", "[I", true)
  | 16 => ("SlotFleet", "lyingCount", "I", false)
  | _ => ("SlotFleet", "time", "I", false)
def tyX8 : Nat → FieldType := fun k => match k with
  | 0 => .array .byte
  | 1 => .int
  | 2 => .int
  | 3 => .int
  | 4 => .object "SlotFleet$Reader"
  | 5 => .object "SlotFleet$Plan"
  | 6 => .object "SlotFleet$State"
  | 7 => .object "SlotFleet$State"
  | 8 => .object "SlotFleet$Choice"
  | 9 => .object "SlotFleet$Stepper"
  | 10 => .object "SlotFleet$Web"
  | 11 => .object "SlotFleet$History"
  | 12 => .object "SlotFleet$Sightings"
  | 13 => .array (.object "SlotFleet$State")
  | 14 => .array .boolean
  | 15 => .array .int
  | 16 => .int
  | _ => .int
theorem nmX8 : ∀ a, a < 18 → ∀ b, b < 18 → a ≠ b → (TX8 a).2.1 ≠ (TX8 b).2.1 := by decide +kernel
theorem tyX8_ok : ∀ k, k < 18 → parseFieldDescriptor (TX8 k).2.2.1 = some (tyX8 k) := by decide +kernel
abbrev cX8_init : ByteArray := prog_1_method_1_code
def yX8_init : MethodName := ⟨RX8, "<init>", "()V"⟩
abbrev cX8_feed : ByteArray := prog_1_method_2_code
def yX8_feed : MethodName := ⟨RX8, "feed", "(IIIII)I"⟩
abbrev cX8_putOnTape : ByteArray := prog_1_method_3_code
def yX8_putOnTape : MethodName := ⟨RX8, "putOnTape", "(I)V"⟩
abbrev cX8_end : ByteArray := prog_1_method_4_code
def yX8_end : MethodName := ⟨RX8, "end", "(I)I"⟩
abbrev cX8_fleet : ByteArray := prog_1_method_5_code
def yX8_fleet : MethodName := ⟨RX8, "fleet", "()I"⟩
abbrev cX8_fault : ByteArray := prog_1_method_6_code
def yX8_fault : MethodName := ⟨RX8, "fault", "(I)I"⟩
abbrev cX8_ship : ByteArray := prog_1_method_7_code
def yX8_ship : MethodName := ⟨RX8, "ship", "(II)I"⟩
abbrev cX8_own : ByteArray := prog_1_method_8_code
def yX8_own : MethodName := ⟨RX8, "own", "(III)I"⟩
abbrev cX8_map : ByteArray := prog_1_method_9_code
def yX8_map : MethodName := ⟨RX8, "map", "(III)I"⟩
abbrev cX8_known : ByteArray := prog_1_method_10_code
def yX8_known : MethodName := ⟨RX8, "known", "(III)I"⟩
abbrev cX8_far : ByteArray := prog_1_method_11_code
def yX8_far : MethodName := ⟨RX8, "far", "(II)I"⟩
abbrev cX8_step : ByteArray := prog_1_method_12_code
def yX8_step : MethodName := ⟨RX8, "step", "()I"⟩
abbrev cX8_steer : ByteArray := prog_1_method_13_code
def yX8_steer : MethodName := ⟨RX8, "steer", "(III)I"⟩
abbrev cX8_isMove : ByteArray := prog_1_method_14_code
def yX8_isMove : MethodName := ⟨RX8, "isMove", "(I)Z"⟩
abbrev cX8_turn : ByteArray := prog_1_method_15_code
def yX8_turn : MethodName := ⟨RX8, "turn", "(I)I"⟩
abbrev cX8_undo : ByteArray := prog_1_method_16_code
def yX8_undo : MethodName := ⟨RX8, "undo", "()Z"⟩
abbrev cX8_redo : ByteArray := prog_1_method_17_code
def yX8_redo : MethodName := ⟨RX8, "redo", "()Z"⟩
abbrev cX8_candidates : ByteArray := prog_1_method_18_code
def yX8_candidates : MethodName := ⟨RX8, "candidates", "(II)I"⟩
abbrev cX8_free : ByteArray := prog_1_method_19_code
def yX8_free : MethodName := ⟨RX8, "free", "(I)I"⟩
abbrev cX8_reuse : ByteArray := prog_1_method_20_code
def yX8_reuse : MethodName := ⟨RX8, "reuse", "(II)I"⟩
abbrev cX8_rate : ByteArray := prog_1_method_21_code
def yX8_rate : MethodName := ⟨RX8, "rate", "(I)I"⟩
abbrev cX8_next : ByteArray := prog_1_method_22_code
def yX8_next : MethodName := ⟨RX8, "next", "(I)I"⟩
abbrev cX8_will : ByteArray := prog_1_method_23_code
def yX8_will : MethodName := ⟨RX8, "will", "(II)I"⟩
abbrev cX8_clashes : ByteArray := prog_1_method_24_code
def yX8_clashes : MethodName := ⟨RX8, "clashes", "(I)I"⟩
abbrev cX8_agree : ByteArray := prog_1_method_25_code
def yX8_agree : MethodName := ⟨RX8, "agree", "(II)I"⟩
abbrev cX8_wrong : ByteArray := prog_1_method_26_code
def yX8_wrong : MethodName := ⟨RX8, "wrong", "(I)I"⟩
abbrev cX8_hidden : ByteArray := prog_1_method_27_code
def yX8_hidden : MethodName := ⟨RX8, "hidden", "(II)I"⟩
abbrev cX8_colours : ByteArray := prog_1_method_28_code
def yX8_colours : MethodName := ⟨RX8, "colours", "(I)I"⟩
abbrev cX8_crowd : ByteArray := prog_1_method_29_code
def yX8_crowd : MethodName := ⟨RX8, "crowd", "(I)I"⟩
abbrev cX8_parts : ByteArray := prog_1_method_30_code
def yX8_parts : MethodName := ⟨RX8, "parts", "()I"⟩
abbrev cX8_twins : ByteArray := prog_1_method_31_code
def yX8_twins : MethodName := ⟨RX8, "twins", "()I"⟩
abbrev cX8_meet : ByteArray := prog_1_method_32_code
def yX8_meet : MethodName := ⟨RX8, "meet", "(III)I"⟩
abbrev cX8_lit : ByteArray := prog_1_method_33_code
def yX8_lit : MethodName := ⟨RX8, "lit", "()I"⟩
abbrev cX8_taken : ByteArray := prog_1_method_34_code
def yX8_taken : MethodName := ⟨RX8, "taken", "()I"⟩
abbrev cX8_fullest : ByteArray := prog_1_method_35_code
def yX8_fullest : MethodName := ⟨RX8, "fullest", "(I)I"⟩
abbrev cX8_strangers : ByteArray := prog_1_method_36_code
def yX8_strangers : MethodName := ⟨RX8, "strangers", "(I)I"⟩
abbrev cX8_best : ByteArray := prog_1_method_37_code
def yX8_best : MethodName := ⟨RX8, "best", "()I"⟩
abbrev cX8_reach : ByteArray := prog_1_method_38_code
def yX8_reach : MethodName := ⟨RX8, "reach", "(I)I"⟩
abbrev cX8_law : ByteArray := prog_1_method_39_code
def yX8_law : MethodName := ⟨RX8, "law", "(III)I"⟩
abbrev cX8_odds : ByteArray := prog_1_method_40_code
def yX8_odds : MethodName := ⟨RX8, "odds", "(II)I"⟩
abbrev cX8_commonDivisor : ByteArray := prog_1_method_41_code
def yX8_commonDivisor : MethodName := ⟨RX8, "commonDivisor", "(II)I"⟩
abbrev cX8_near : ByteArray := prog_1_method_42_code
def yX8_near : MethodName := ⟨RX8, "near", "(I)I"⟩
abbrev cX8_layByDistance : ByteArray := prog_1_method_43_code
def yX8_layByDistance : MethodName := ⟨RX8, "layByDistance", "(II)V"⟩
abbrev cX8_lies : ByteArray := prog_1_method_44_code
def yX8_lies : MethodName := ⟨RX8, "lies", "(I)I"⟩
abbrev cX8_seen : ByteArray := prog_1_method_45_code
def yX8_seen : MethodName := ⟨RX8, "seen", "(IIZ)I"⟩
abbrev cX8_untell : ByteArray := prog_1_method_46_code
def yX8_untell : MethodName := ⟨RX8, "untell", "(I)Z"⟩
abbrev cX8_later : ByteArray := prog_1_method_47_code
def yX8_later : MethodName := ⟨RX8, "later", "(I)I"⟩
abbrev cX8_fits : ByteArray := prog_1_method_48_code
def yX8_fits : MethodName := ⟨RX8, "fits", "(I)I"⟩
abbrev cX8_sure : ByteArray := prog_1_method_49_code
def yX8_sure : MethodName := ⟨RX8, "sure", "(II)I"⟩
abbrev cX8_ask : ByteArray := prog_1_method_50_code
def yX8_ask : MethodName := ⟨RX8, "ask", "(III)I"⟩
abbrev cX8_image : ByteArray := prog_1_method_51_code
def yX8_image : MethodName := ⟨RX8, "image", "(I)I"⟩
abbrev cX8_back : ByteArray := prog_1_method_52_code
def yX8_back : MethodName := ⟨RX8, "back", "(I)I"⟩
abbrev cX8_about : ByteArray := prog_1_method_53_code
def yX8_about : MethodName := ⟨RX8, "about", "(I)I"⟩
def RX9 : String := "SlotFleetModel"
def TX9 : u_T := fun k => match k with
  | 0 => ("SlotFleetModel", "tape", "[B", true)
  | 1 => ("SlotFleetModel", "text", "[B", true)
  | 2 => ("SlotFleetModel", "taped", "I", false)
  | 3 => ("SlotFleetModel", "size", "I", false)
  | 4 => ("SlotFleetModel", "faultKind", "I", false)
  | 5 => ("SlotFleetModel", "faultPlace", "I", false)
  | 6 => ("SlotFleetModel", "at", "I", false)
  | 7 => ("SlotFleetModel", "end", "I", false)
  | 8 => ("SlotFleetModel", "token", "I", false)
  | 9 => ("SlotFleetModel", "number", "I", false)
  | 10 => ("SlotFleetModel", "name", "J", false)
  | 11 => ("SlotFleetModel", "ships", "[I", true)
  | 12 => ("SlotFleetModel", "slots", "[I", true)
  | 13 => ("SlotFleetModel", "range", "[I", true)
  | 14 => ("SlotFleetModel", "wide", "[I", true)
  | 15 => ("SlotFleetModel", "least", "[I", true)
  | 16 => ("SlotFleetModel", "keeps", "[I", true)
  | 17 => ("SlotFleetModel", "units", "[I", true)
  | 18 => ("SlotFleetModel", "fades", "[I", true)
  | 19 => ("SlotFleetModel", "draw", "[I", true)
  | 20 => ("SlotFleetModel", "told", "[I", true)
  | 21 => ("SlotFleetModel", "across", "[I", true)
  | 22 => ("SlotFleetModel", "up", "[I", true)
  | 23 => ("SlotFleetModel", "goes", "[I", true)
  | 24 => ("SlotFleetModel", "climbs", "[I", true)
  | 25 => ("SlotFleetModel", "on", "[I", true)
  | 26 => ("SlotFleetModel", "ruleFrom", "[I", true)
  | 27 => ("SlotFleetModel", "ruleTo", "[I", true)
  | 28 => ("SlotFleetModel", "sName", "[J", true)
  | 29 => ("SlotFleetModel", "code", "[I", true)
  | 30 => ("SlotFleetModel", "codeNumber", "[I", true)
  | 31 => ("SlotFleetModel", "eWhat", "[I", true)
  | 32 => ("SlotFleetModel", "eSign", "[I", true)
  | 33 => ("SlotFleetModel", "pile", "[I", true)
  | 34 => ("SlotFleetModel", "bank", "I", false)
  | 35 => ("SlotFleetModel", "rb", "I", false)
  | 36 => ("SlotFleetModel", "codes", "I", false)
  | 37 => ("SlotFleetModel", "within", "I", false)
  | 38 => ("SlotFleetModel", "piled", "I", false)
  | 39 => ("SlotFleetModel", "unitsInRule", "I", false)
  | 40 => ("SlotFleetModel", "askShip", "I", false)
  | 41 => ("SlotFleetModel", "all", "[I", true)
  | 42 => ("SlotFleetModel", "kept", "[I", true)
  | 43 => ("SlotFleetModel", "thoughtWide", "I", false)
  | 44 => ("SlotFleetModel", "window", "[I", true)
  | 45 => ("SlotFleetModel", "keptSlot", "[I", true)
  | 46 => ("SlotFleetModel", "newSlot", "[I", true)
  | 47 => ("SlotFleetModel", "was", "[I", true)
  | 48 => ("SlotFleetModel", "acts", "I", false)
  | 49 => ("SlotFleetModel", "undone", "I", false)
  | 50 => ("SlotFleetModel", "laidRow", "[I", true)
  | 51 => ("SlotFleetModel", "laid", "I", false)
  | 52 => ("SlotFleetModel", "sFrame", "[I", true)
  | 53 => ("SlotFleetModel", "sShip", "[I", true)
  | 54 => ("SlotFleetModel", "sIs", "[I", true)
  | 55 => ("SlotFleetModel", "sTold", "[I", true)
  | 56 => ("SlotFleetModel", "sUntold", "[I", true)
  | 57 => ("SlotFleetModel", "seens", "I", false)
  | 58 => ("SlotFleetModel", "time", "I", false)
  | 59 => ("SlotFleetModel", "boxAll", "[I", true)
  | _ => ("SlotFleetModel", "isBoxed", "[Z", true)
def tyX9 : Nat → FieldType := fun k => match k with
  | 0 => .array .byte
  | 1 => .array .byte
  | 2 => .int
  | 3 => .int
  | 4 => .int
  | 5 => .int
  | 6 => .int
  | 7 => .int
  | 8 => .int
  | 9 => .int
  | 10 => .long
  | 11 => .array .int
  | 12 => .array .int
  | 13 => .array .int
  | 14 => .array .int
  | 15 => .array .int
  | 16 => .array .int
  | 17 => .array .int
  | 18 => .array .int
  | 19 => .array .int
  | 20 => .array .int
  | 21 => .array .int
  | 22 => .array .int
  | 23 => .array .int
  | 24 => .array .int
  | 25 => .array .int
  | 26 => .array .int
  | 27 => .array .int
  | 28 => .array .long
  | 29 => .array .int
  | 30 => .array .int
  | 31 => .array .int
  | 32 => .array .int
  | 33 => .array .int
  | 34 => .int
  | 35 => .int
  | 36 => .int
  | 37 => .int
  | 38 => .int
  | 39 => .int
  | 40 => .int
  | 41 => .array .int
  | 42 => .array .int
  | 43 => .int
  | 44 => .array .int
  | 45 => .array .int
  | 46 => .array .int
  | 47 => .array .int
  | 48 => .int
  | 49 => .int
  | 50 => .array .int
  | 51 => .int
  | 52 => .array .int
  | 53 => .array .int
  | 54 => .array .int
  | 55 => .array .int
  | 56 => .array .int
  | 57 => .int
  | 58 => .int
  | 59 => .array .int
  | _ => .array .boolean
theorem nmX9 : ∀ a, a < 61 → ∀ b, b < 61 → a ≠ b → (TX9 a).2.1 ≠ (TX9 b).2.1 := by decide +kernel
theorem tyX9_ok : ∀ k, k < 61 → parseFieldDescriptor (TX9 k).2.2.1 = some (tyX9 k) := by decide +kernel
abbrev cX9_init : ByteArray := prog_11_method_1_code
def yX9_init : MethodName := ⟨RX9, "<init>", "()V"⟩
abbrev cX9_sign : ByteArray := prog_11_method_2_code
def yX9_sign : MethodName := ⟨RX9, "sign", "(I)I"⟩
abbrev cX9_isLetter : ByteArray := prog_11_method_3_code
def yX9_isLetter : MethodName := ⟨RX9, "isLetter", "(I)Z"⟩
abbrev cX9_isDigit : ByteArray := prog_11_method_4_code
def yX9_isDigit : MethodName := ⟨RX9, "isDigit", "(I)Z"⟩
abbrev cX9_fails : ByteArray := prog_11_method_5_code
def yX9_fails : MethodName := ⟨RX9, "fails", "(II)V"⟩
abbrev cX9_isGood : ByteArray := prog_11_method_6_code
def yX9_isGood : MethodName := ⟨RX9, "isGood", "()Z"⟩
abbrev cX9_isKept : ByteArray := prog_11_method_7_code
def yX9_isKept : MethodName := ⟨RX9, "isKept", "(J)Z"⟩
abbrev cX9_isSign : ByteArray := prog_11_method_8_code
def yX9_isSign : MethodName := ⟨RX9, "isSign", "(I)Z"⟩
abbrev cX9_goOn : ByteArray := prog_11_method_9_code
def yX9_goOn : MethodName := ⟨RX9, "goOn", "()V"⟩
abbrev cX9_isSignHere : ByteArray := prog_11_method_10_code
def yX9_isSignHere : MethodName := ⟨RX9, "isSignHere", "(I)Z"⟩
abbrev cX9_isWord : ByteArray := prog_11_method_11_code
def yX9_isWord : MethodName := ⟨RX9, "isWord", "(J)Z"⟩
abbrev cX9_misplaced : ByteArray := prog_11_method_12_code
def yX9_misplaced : MethodName := ⟨RX9, "misplaced", "()V"⟩
abbrev cX9_must : ByteArray := prog_11_method_13_code
def yX9_must : MethodName := ⟨RX9, "must", "(Z)V"⟩
abbrev cX9_numeral : ByteArray := prog_11_method_14_code
def yX9_numeral : MethodName := ⟨RX9, "numeral", "(II)I"⟩
abbrev cX9_after : ByteArray := prog_11_method_15_code
def yX9_after : MethodName := ⟨RX9, "after", "(JII)I"⟩
abbrev cX9_clearBank : ByteArray := prog_11_method_16_code
def yX9_clearBank : MethodName := ⟨RX9, "clearBank", "()V"⟩
abbrev cX9_fleet : ByteArray := prog_11_method_17_code
def yX9_fleet : MethodName := ⟨RX9, "fleet", "()I"⟩
abbrev cX9_sortHere : ByteArray := prog_11_method_18_code
def yX9_sortHere : MethodName := ⟨RX9, "sortHere", "()I"⟩
abbrev cX9_isFull : ByteArray := prog_11_method_19_code
def yX9_isFull : MethodName := ⟨RX9, "isFull", "()Z"⟩
abbrev cX9_once : ByteArray := prog_11_method_20_code
def yX9_once : MethodName := ⟨RX9, "once", "(III)I"⟩
abbrev cX9_readLine : ByteArray := prog_11_method_21_code
def yX9_readLine : MethodName := ⟨RX9, "readLine", "()V"⟩
abbrev cX9_readShip : ByteArray := prog_11_method_22_code
def yX9_readShip : MethodName := ⟨RX9, "readShip", "()V"⟩
abbrev cX9_readRule : ByteArray := prog_11_method_23_code
def yX9_readRule : MethodName := ⟨RX9, "readRule", "()V"⟩
abbrev cX9_emit : ByteArray := prog_11_method_24_code
def yX9_emit : MethodName := ⟨RX9, "emit", "(II)V"⟩
abbrev cX9_pushE : ByteArray := prog_11_method_25_code
def yX9_pushE : MethodName := ⟨RX9, "pushE", "(II)V"⟩
abbrev cX9_e : ByteArray := prog_11_method_26_code
def yX9_e : MethodName := ⟨RX9, "e", "()V"⟩
abbrev cX9_wordHere : ByteArray := prog_11_method_27_code
def yX9_wordHere : MethodName := ⟨RX9, "wordHere", "()I"⟩
abbrev cX9_unit : ByteArray := prog_11_method_28_code
def yX9_unit : MethodName := ⟨RX9, "unit", "()Z"⟩
abbrev cX9_rankHere : ByteArray := prog_11_method_29_code
def yX9_rankHere : MethodName := ⟨RX9, "rankHere", "()I"⟩
abbrev cX9_isCompared : ByteArray := prog_11_method_30_code
def yX9_isCompared : MethodName := ⟨RX9, "isCompared", "()Z"⟩
abbrev cX9_behindUnit : ByteArray := prog_11_method_31_code
def yX9_behindUnit : MethodName := ⟨RX9, "behindUnit", "()Z"⟩
abbrev cX9_two : ByteArray := prog_11_method_32_code
def yX9_two : MethodName := ⟨RX9, "two", "(III)I"⟩
abbrev cX9_asked : ByteArray := prog_11_method_33_code
def yX9_asked : MethodName := ⟨RX9, "asked", "(II)I"⟩
abbrev cX9_comes : ByteArray := prog_11_method_34_code
def yX9_comes : MethodName := ⟨RX9, "comes", "()I"⟩
abbrev cX9_fault : ByteArray := prog_11_method_35_code
def yX9_fault : MethodName := ⟨RX9, "fault", "(I)I"⟩
abbrev cX9_isIn : ByteArray := prog_11_method_36_code
def yX9_isIn : MethodName := ⟨RX9, "isIn", "(III)Z"⟩
abbrev cX9_held : ByteArray := prog_11_method_37_code
def yX9_held : MethodName := ⟨RX9, "held", "(III)I"⟩
abbrev cX9_absolute : ByteArray := prog_11_method_38_code
def yX9_absolute : MethodName := ⟨RX9, "absolute", "(I)I"⟩
abbrev cX9_bit : ByteArray := prog_11_method_39_code
def yX9_bit : MethodName := ⟨RX9, "bit", "(II)Z"⟩
abbrev cX9_bitsOf : ByteArray := prog_11_method_40_code
def yX9_bitsOf : MethodName := ⟨RX9, "bitsOf", "(I)I"⟩
abbrev cX9_divisor : ByteArray := prog_11_method_41_code
def yX9_divisor : MethodName := ⟨RX9, "divisor", "(II)I"⟩
abbrev cX9_power : ByteArray := prog_11_method_42_code
def yX9_power : MethodName := ⟨RX9, "power", "(II)I"⟩
abbrev cX9_lots : ByteArray := prog_11_method_43_code
def yX9_lots : MethodName := ⟨RX9, "lots", "()I"⟩
abbrev cX9_round : ByteArray := prog_11_method_44_code
def yX9_round : MethodName := ⟨RX9, "round", "()I"⟩
abbrev cX9_isShip : ByteArray := prog_11_method_45_code
def yX9_isShip : MethodName := ⟨RX9, "isShip", "(I)Z"⟩
abbrev cX9_isSlot : ByteArray := prog_11_method_46_code
def yX9_isSlot : MethodName := ⟨RX9, "isSlot", "(I)Z"⟩
abbrev cX9_isOn : ByteArray := prog_11_method_47_code
def yX9_isOn : MethodName := ⟨RX9, "isOn", "(I)Z"⟩
abbrev cX9_litNow : ByteArray := prog_11_method_48_code
def yX9_litNow : MethodName := ⟨RX9, "litNow", "()I"⟩
abbrev cX9_apart : ByteArray := prog_11_method_49_code
def yX9_apart : MethodName := ⟨RX9, "apart", "(II)I"⟩
abbrev cX9_doHear : ByteArray := prog_11_method_50_code
def yX9_doHear : MethodName := ⟨RX9, "doHear", "(II)Z"⟩
abbrev cX9_speedOf : ByteArray := prog_11_method_51_code
def yX9_speedOf : MethodName := ⟨RX9, "speedOf", "(I)I"⟩
abbrev cX9_holderIn : ByteArray := prog_11_method_52_code
def yX9_holderIn : MethodName := ⟨RX9, "holderIn", "(II)I"⟩
abbrev cX9_heardOf : ByteArray := prog_11_method_53_code
def yX9_heardOf : MethodName := ⟨RX9, "heardOf", "(I)I"⟩
abbrev cX9_ownedBy : ByteArray := prog_11_method_54_code
def yX9_ownedBy : MethodName := ⟨RX9, "ownedBy", "(I)I"⟩
abbrev cX9_rateOf : ByteArray := prog_11_method_55_code
def yX9_rateOf : MethodName := ⟨RX9, "rateOf", "(I)I"⟩
abbrev cX9_startAnew : ByteArray := prog_11_method_56_code
def yX9_startAnew : MethodName := ⟨RX9, "startAnew", "()V"⟩
abbrev cX9_layTold : ByteArray := prog_11_method_57_code
def yX9_layTold : MethodName := ⟨RX9, "layTold", "()V"⟩
abbrev cX9_forget : ByteArray := prog_11_method_58_code
def yX9_forget : MethodName := ⟨RX9, "forget", "(I)V"⟩
abbrev cX9_keepNow : ByteArray := prog_11_method_59_code
def yX9_keepNow : MethodName := ⟨RX9, "keepNow", "()V"⟩
abbrev cX9_bringBack : ByteArray := prog_11_method_60_code
def yX9_bringBack : MethodName := ⟨RX9, "bringBack", "()V"⟩
abbrev cX9_drawOn : ByteArray := prog_11_method_61_code
def yX9_drawOn : MethodName := ⟨RX9, "drawOn", "()I"⟩
abbrev cX9_layWindow : ByteArray := prog_11_method_62_code
def yX9_layWindow : MethodName := ⟨RX9, "layWindow", "(I)I"⟩
abbrev cX9_awayFrom : ByteArray := prog_11_method_63_code
def yX9_awayFrom : MethodName := ⟨RX9, "awayFrom", "(II)I"⟩
abbrev cX9_farthestOf : ByteArray := prog_11_method_64_code
def yX9_farthestOf : MethodName := ⟨RX9, "farthestOf", "(III)I"⟩
abbrev cX9_freeOf : ByteArray := prog_11_method_65_code
def yX9_freeOf : MethodName := ⟨RX9, "freeOf", "(I)I"⟩
abbrev cX9_candidatesOf : ByteArray := prog_11_method_66_code
def yX9_candidatesOf : MethodName := ⟨RX9, "candidatesOf", "(II)I"⟩
abbrev cX9_choose : ByteArray := prog_11_method_67_code
def yX9_choose : MethodName := ⟨RX9, "choose", "(II)I"⟩
abbrev cX9_newLeft : ByteArray := prog_11_method_68_code
def yX9_newLeft : MethodName := ⟨RX9, "newLeft", "()I"⟩
abbrev cX9_beginFrame : ByteArray := prog_11_method_69_code
def yX9_beginFrame : MethodName := ⟨RX9, "beginFrame", "()V"⟩
abbrev cX9_ageEntry : ByteArray := prog_11_method_70_code
def yX9_ageEntry : MethodName := ⟨RX9, "ageEntry", "(I)V"⟩
abbrev cX9_seekSlots : ByteArray := prog_11_method_71_code
def yX9_seekSlots : MethodName := ⟨RX9, "seekSlots", "(I)V"⟩
abbrev cX9_own1 : ByteArray := prog_11_method_72_code
def yX9_own1 : MethodName := ⟨RX9, "own1", "(IIIII)V"⟩
abbrev cX9_dueOf : ByteArray := prog_11_method_73_code
def yX9_dueOf : MethodName := ⟨RX9, "dueOf", "(II)I"⟩
abbrev cX9_report : ByteArray := prog_11_method_74_code
def yX9_report : MethodName := ⟨RX9, "report", "(II)Z"⟩
abbrev cX9_holds : ByteArray := prog_11_method_75_code
def yX9_holds : MethodName := ⟨RX9, "holds", "(IIII)V"⟩
abbrev cX9_hear : ByteArray := prog_11_method_76_code
def yX9_hear : MethodName := ⟨RX9, "hear", "(II)V"⟩
abbrev cX9_listen : ByteArray := prog_11_method_77_code
def yX9_listen : MethodName := ⟨RX9, "listen", "(III)V"⟩
abbrev cX9_goStep : ByteArray := prog_11_method_78_code
def yX9_goStep : MethodName := ⟨RX9, "goStep", "()I"⟩
abbrev cX9_ship : ByteArray := prog_11_method_79_code
def yX9_ship : MethodName := ⟨RX9, "ship", "(II)I"⟩
abbrev cX9_own : ByteArray := prog_11_method_80_code
def yX9_own : MethodName := ⟨RX9, "own", "(III)I"⟩
abbrev cX9_map : ByteArray := prog_11_method_81_code
def yX9_map : MethodName := ⟨RX9, "map", "(III)I"⟩
abbrev cX9_known : ByteArray := prog_11_method_82_code
def yX9_known : MethodName := ⟨RX9, "known", "(III)I"⟩
abbrev cX9_far : ByteArray := prog_11_method_83_code
def yX9_far : MethodName := ⟨RX9, "far", "(II)I"⟩
abbrev cX9_candidates : ByteArray := prog_11_method_84_code
def yX9_candidates : MethodName := ⟨RX9, "candidates", "(II)I"⟩
abbrev cX9_free : ByteArray := prog_11_method_85_code
def yX9_free : MethodName := ⟨RX9, "free", "(I)I"⟩
abbrev cX9_reuse : ByteArray := prog_11_method_86_code
def yX9_reuse : MethodName := ⟨RX9, "reuse", "(II)I"⟩
abbrev cX9_rate : ByteArray := prog_11_method_87_code
def yX9_rate : MethodName := ⟨RX9, "rate", "(I)I"⟩
abbrev cX9_law : ByteArray := prog_11_method_88_code
def yX9_law : MethodName := ⟨RX9, "law", "(III)I"⟩
abbrev cX9_agree : ByteArray := prog_11_method_89_code
def yX9_agree : MethodName := ⟨RX9, "agree", "(II)I"⟩
abbrev cX9_wrong : ByteArray := prog_11_method_90_code
def yX9_wrong : MethodName := ⟨RX9, "wrong", "(I)I"⟩
abbrev cX9_lit : ByteArray := prog_11_method_91_code
def yX9_lit : MethodName := ⟨RX9, "lit", "()I"⟩
abbrev cX9_taken : ByteArray := prog_11_method_92_code
def yX9_taken : MethodName := ⟨RX9, "taken", "()I"⟩
abbrev cX9_best : ByteArray := prog_11_method_93_code
def yX9_best : MethodName := ⟨RX9, "best", "()I"⟩
abbrev cX9_fullest : ByteArray := prog_11_method_94_code
def yX9_fullest : MethodName := ⟨RX9, "fullest", "(I)I"⟩
abbrev cX9_strangers : ByteArray := prog_11_method_95_code
def yX9_strangers : MethodName := ⟨RX9, "strangers", "(I)I"⟩
abbrev cX9_twins : ByteArray := prog_11_method_96_code
def yX9_twins : MethodName := ⟨RX9, "twins", "()I"⟩
abbrev cX9_keepAct : ByteArray := prog_11_method_97_code
def yX9_keepAct : MethodName := ⟨RX9, "keepAct", "()V"⟩
abbrev cX9_swapAll : ByteArray := prog_11_method_98_code
def yX9_swapAll : MethodName := ⟨RX9, "swapAll", "()V"⟩
abbrev cX9_step : ByteArray := prog_11_method_99_code
def yX9_step : MethodName := ⟨RX9, "step", "()I"⟩
abbrev cX9_steer : ByteArray := prog_11_method_100_code
def yX9_steer : MethodName := ⟨RX9, "steer", "(III)I"⟩
abbrev cX9_turn : ByteArray := prog_11_method_101_code
def yX9_turn : MethodName := ⟨RX9, "turn", "(I)I"⟩
abbrev cX9_undo : ByteArray := prog_11_method_102_code
def yX9_undo : MethodName := ⟨RX9, "undo", "()Z"⟩
abbrev cX9_redo : ByteArray := prog_11_method_103_code
def yX9_redo : MethodName := ⟨RX9, "redo", "()Z"⟩
abbrev cX9_next : ByteArray := prog_11_method_104_code
def yX9_next : MethodName := ⟨RX9, "next", "(I)I"⟩
abbrev cX9_goSteps : ByteArray := prog_11_method_105_code
def yX9_goSteps : MethodName := ⟨RX9, "goSteps", "(I)V"⟩
abbrev cX9_will : ByteArray := prog_11_method_106_code
def yX9_will : MethodName := ⟨RX9, "will", "(II)I"⟩
abbrev cX9_clashes : ByteArray := prog_11_method_107_code
def yX9_clashes : MethodName := ⟨RX9, "clashes", "(I)I"⟩
abbrev cX9_hiddenBy : ByteArray := prog_11_method_108_code
def yX9_hiddenBy : MethodName := ⟨RX9, "hiddenBy", "(II)I"⟩
abbrev cX9_hidden : ByteArray := prog_11_method_109_code
def yX9_hidden : MethodName := ⟨RX9, "hidden", "(II)I"⟩
abbrev cX9_mustDiffer : ByteArray := prog_11_method_110_code
def yX9_mustDiffer : MethodName := ⟨RX9, "mustDiffer", "(III)Z"⟩
abbrev cX9_digitOf : ByteArray := prog_11_method_111_code
def yX9_digitOf : MethodName := ⟨RX9, "digitOf", "(III)I"⟩
abbrev cX9_isColoured : ByteArray := prog_11_method_112_code
def yX9_isColoured : MethodName := ⟨RX9, "isColoured", "(III)Z"⟩
abbrev cX9_canColour : ByteArray := prog_11_method_113_code
def yX9_canColour : MethodName := ⟨RX9, "canColour", "(II)Z"⟩
abbrev cX9_colours : ByteArray := prog_11_method_114_code
def yX9_colours : MethodName := ⟨RX9, "colours", "(I)I"⟩
abbrev cX9_isCrowd : ByteArray := prog_11_method_115_code
def yX9_isCrowd : MethodName := ⟨RX9, "isCrowd", "(I)Z"⟩
abbrev cX9_crowd : ByteArray := prog_11_method_116_code
def yX9_crowd : MethodName := ⟨RX9, "crowd", "(I)I"⟩
abbrev cX9_parts : ByteArray := prog_11_method_117_code
def yX9_parts : MethodName := ⟨RX9, "parts", "()I"⟩
abbrev cX9_inRange : ByteArray := prog_11_method_118_code
def yX9_inRange : MethodName := ⟨RX9, "inRange", "(I)I"⟩
abbrev cX9_meet : ByteArray := prog_11_method_119_code
def yX9_meet : MethodName := ⟨RX9, "meet", "(III)I"⟩
abbrev cX9_reach : ByteArray := prog_11_method_120_code
def yX9_reach : MethodName := ⟨RX9, "reach", "(I)I"⟩
abbrev cX9_lies : ByteArray := prog_11_method_121_code
def yX9_lies : MethodName := ⟨RX9, "lies", "(I)I"⟩
abbrev cX9_near : ByteArray := prog_11_method_122_code
def yX9_near : MethodName := ⟨RX9, "near", "(I)I"⟩
abbrev cX9_odds : ByteArray := prog_11_method_123_code
def yX9_odds : MethodName := ⟨RX9, "odds", "(II)I"⟩
abbrev cX9_seen : ByteArray := prog_11_method_124_code
def yX9_seen : MethodName := ⟨RX9, "seen", "(IIZ)I"⟩
abbrev cX9_untell : ByteArray := prog_11_method_125_code
def yX9_untell : MethodName := ⟨RX9, "untell", "(I)Z"⟩
abbrev cX9_later : ByteArray := prog_11_method_126_code
def yX9_later : MethodName := ⟨RX9, "later", "(I)I"⟩
abbrev cX9_wasNear : ByteArray := prog_11_method_127_code
def yX9_wasNear : MethodName := ⟨RX9, "wasNear", "(III)Z"⟩
abbrev cX9_doesFit : ByteArray := prog_11_method_128_code
def yX9_doesFit : MethodName := ⟨RX9, "doesFit", "(II)Z"⟩
abbrev cX9_fits : ByteArray := prog_11_method_129_code
def yX9_fits : MethodName := ⟨RX9, "fits", "(I)I"⟩
abbrev cX9_sure : ByteArray := prog_11_method_130_code
def yX9_sure : MethodName := ⟨RX9, "sure", "(II)I"⟩
abbrev cX9_mostBy : ByteArray := prog_11_method_131_code
def yX9_mostBy : MethodName := ⟨RX9, "mostBy", "(III)I"⟩
abbrev cX9_ask : ByteArray := prog_11_method_132_code
def yX9_ask : MethodName := ⟨RX9, "ask", "(III)I"⟩
abbrev cX9_image : ByteArray := prog_11_method_133_code
def yX9_image : MethodName := ⟨RX9, "image", "(I)I"⟩
abbrev cX9_back : ByteArray := prog_11_method_134_code
def yX9_back : MethodName := ⟨RX9, "back", "(I)I"⟩
abbrev cX9_about : ByteArray := prog_11_method_135_code
def yX9_about : MethodName := ⟨RX9, "about", "(I)I"⟩
abbrev cX9_feed : ByteArray := prog_11_method_136_code
def yX9_feed : MethodName := ⟨RX9, "feed", "(IIIII)I"⟩
abbrev cX9_end : ByteArray := prog_11_method_137_code
def yX9_end : MethodName := ⟨RX9, "end", "(I)I"⟩
def RJ11 : String := "java/lang/Character"
abbrev cJ11_isValidCodePoint_9a6ad : ByteArray := prog_12_method_11_code
def yJ11_isValidCodePoint_9a6ad : MethodName := ⟨RJ11, "isValidCodePoint", "(I)Z"⟩
abbrev cJ11_highSurrogate_5068e : ByteArray := prog_12_method_28_code
def yJ11_highSurrogate_5068e : MethodName := ⟨RJ11, "highSurrogate", "(I)C"⟩
abbrev cJ11_lowSurrogate_5068e : ByteArray := prog_12_method_29_code
def yJ11_lowSurrogate_5068e : MethodName := ⟨RJ11, "lowSurrogate", "(I)C"⟩
def RJ6 : String := "java/lang/Integer"
abbrev cJ6_bitCount_0f7a4 : ByteArray := prog_13_method_49_code
def yJ6_bitCount_0f7a4 : MethodName := ⟨RJ6, "bitCount", "(I)I"⟩
def RJ9 : String := "java/lang/Math"
abbrev cJ9_floorMod_7cf53 : ByteArray := prog_14_method_50_code
def yJ9_floorMod_7cf53 : MethodName := ⟨RJ9, "floorMod", "(II)I"⟩
abbrev cJ9_abs_0f7a4 : ByteArray := prog_14_method_59_code
def yJ9_abs_0f7a4 : MethodName := ⟨RJ9, "abs", "(I)I"⟩
abbrev cJ9_max_7cf53 : ByteArray := prog_14_method_65_code
def yJ9_max_7cf53 : MethodName := ⟨RJ9, "max", "(II)I"⟩
abbrev cJ9_min_7cf53 : ByteArray := prog_14_method_69_code
def yJ9_min_7cf53 : MethodName := ⟨RJ9, "min", "(II)I"⟩
def RJ0 : String := "java/lang/String"
abbrev cJ0_length_8abf5 : ByteArray := prog_15_method_54_code
def yJ0_length_8abf5 : MethodName := ⟨RJ0, "length", "()I"⟩
abbrev cJ0_charAt_5068e : ByteArray := prog_15_method_56_code
def yJ0_charAt_5068e : MethodName := ⟨RJ0, "charAt", "(I)C"⟩
abbrev cJ0_indexOf_0f7a4 : ByteArray := prog_15_method_79_code
def yJ0_indexOf_0f7a4 : MethodName := ⟨RJ0, "indexOf", "(I)I"⟩
abbrev cJ0_indexOf_7cf53 : ByteArray := prog_15_method_80_code
def yJ0_indexOf_7cf53 : MethodName := ⟨RJ0, "indexOf", "(II)I"⟩
abbrev cJ0_coder_7d493 : ByteArray := prog_15_method_152_code
def yJ0_coder_7d493 : MethodName := ⟨RJ0, "coder", "()B"⟩
abbrev cJ0_isLatin1_aae02 : ByteArray := prog_15_method_154_code
def yJ0_isLatin1_aae02 : MethodName := ⟨RJ0, "isLatin1", "()Z"⟩
abbrev cJ0_checkIndex_df160 : ByteArray := prog_15_method_155_code
def yJ0_checkIndex_df160 : MethodName := ⟨RJ0, "checkIndex", "(II)V"⟩
abbrev cJ0_checkBoundsBeginEnd_23922 : ByteArray := prog_15_method_158_code
def yJ0_checkBoundsBeginEnd_23922 : MethodName := ⟨RJ0, "checkBoundsBeginEnd", "(III)V"⟩
def RJ1 : String := "java/lang/StringLatin1"
abbrev cJ1_charAt_3b067 : ByteArray := prog_16_method_2_code
def yJ1_charAt_3b067 : MethodName := ⟨RJ1, "charAt", "([BI)C"⟩
abbrev cJ1_canEncode_9a6ad : ByteArray := prog_16_method_4_code
def yJ1_canEncode_9a6ad : MethodName := ⟨RJ1, "canEncode", "(I)Z"⟩
abbrev cJ1_indexOf_4cfef : ByteArray := prog_16_method_22_code
def yJ1_indexOf_4cfef : MethodName := ⟨RJ1, "indexOf", "([BIII)I"⟩
abbrev cJ1_indexOfChar_4cfef : ByteArray := prog_16_method_23_code
def yJ1_indexOfChar_4cfef : MethodName := ⟨RJ1, "indexOfChar", "([BIII)I"⟩
def RJ2 : String := "java/lang/StringUTF16"
abbrev cJ2_getChar_3b067 : ByteArray := prog_17_method_5_code
def yJ2_getChar_3b067 : MethodName := ⟨RJ2, "getChar", "([BI)C"⟩
abbrev cJ2_length_9d52b : ByteArray := prog_17_method_6_code
def yJ2_length_9d52b : MethodName := ⟨RJ2, "length", "([B)I"⟩
abbrev cJ2_indexOf_4cfef : ByteArray := prog_17_method_40_code
def yJ2_indexOf_4cfef : MethodName := ⟨RJ2, "indexOf", "([BIII)I"⟩
abbrev cJ2_indexOfChar_4cfef : ByteArray := prog_17_method_47_code
def yJ2_indexOfChar_4cfef : MethodName := ⟨RJ2, "indexOfChar", "([BIII)I"⟩
abbrev cJ2_indexOfCharUnsafe_4cfef : ByteArray := prog_17_method_48_code
def yJ2_indexOfCharUnsafe_4cfef : MethodName := ⟨RJ2, "indexOfCharUnsafe", "([BIII)I"⟩
abbrev cJ2_indexOfSupplementary_4cfef : ByteArray := prog_17_method_49_code
def yJ2_indexOfSupplementary_4cfef : MethodName := ⟨RJ2, "indexOfSupplementary", "([BIII)I"⟩
abbrev cJ2_charAt_3b067 : ByteArray := prog_17_method_83_code
def yJ2_charAt_3b067 : MethodName := ⟨RJ2, "charAt", "([BI)C"⟩
abbrev cJ2_checkIndex_2214a : ByteArray := prog_17_method_91_code
def yJ2_checkIndex_2214a : MethodName := ⟨RJ2, "checkIndex", "(I[B)V"⟩
abbrev cJ2_checkBoundsBeginEnd_d044e : ByteArray := prog_17_method_93_code
def yJ2_checkBoundsBeginEnd_d044e : MethodName := ⟨RJ2, "checkBoundsBeginEnd", "(II[B)V"⟩
def RJ10 : String := "java/lang/System"
def RJ3 : String := "jdk/internal/util/Preconditions"
abbrev cJ3_checkIndex_8e157 : ByteArray := prog_19_method_11_code
def yJ3_checkIndex_8e157 : MethodName := ⟨RJ3, "checkIndex", "(IILjava/util/function/BiFunction;)I"⟩
abbrev cJ3_checkFromToIndex_8c36e : ByteArray := prog_19_method_12_code
def yJ3_checkFromToIndex_8c36e : MethodName := ⟨RJ3, "checkFromToIndex", "(IIILjava/util/function/BiFunction;)I"⟩
def RL : String := "SlotFleetLaw"
abbrev cL_law : ByteArray := code
def yL_law : MethodName := ⟨RL, "law", "([I)Z"⟩
abbrev vwCl : List vw_C := [(RX0, TX0, 5), (RX1, TX1, 4), (RX2, TX2, 17), (RX3, TX3, 13), (RX4, TX4, 11), (RX5, TX5, 18), (RX6, TX6, 4), (RX7, TX7, 4), (RX8, TX8, 18), (RX9, TX9, 61)]
