section
-- ===== PART A: goes FIRST, ahead of the names: the tables' words, and 'selects' of the private methods out of them =====
/-- a private method of a class that the tables say can be made, by its rows of tables_1 -/
def lw_okq (q : MethodName × Nat) : Prop := (q.1.cls ≠ "java/lang/invoke/MethodHandle" ∧ q.1.cls ≠ "java/lang/invoke/VarHandle") ∧ Cond.instantiable q.1.cls q.2 ∈ tables_1 ∧ Cond.privateMethod q.1 ∈ tables_1 ∧ Cond.instanceMethod q.1 ∈ tables_1
theorem lw_p0 : lw_okq (⟨"ShadowMachine$Format", "isNan", "(J)Z"⟩, 9) := ⟨⟨by decide +kernel, by decide +kernel⟩, List.mem_of_getElem? (i := 105) (by decide +kernel), List.mem_of_getElem? (i := 103) (by decide +kernel), List.mem_of_getElem? (i := 104) (by decide +kernel)⟩
theorem lw_p1 : lw_okq (⟨"ShadowMachine", "put", "(IIJI)V"⟩, 8) := ⟨⟨by decide +kernel, by decide +kernel⟩, List.mem_of_getElem? (i := 14) (by decide +kernel), List.mem_of_getElem? (i := 115) (by decide +kernel), List.mem_of_getElem? (i := 116) (by decide +kernel)⟩
theorem lw_p2 : lw_okq (⟨"ShadowMachine$Format", "rounded", "(ZIJ)J"⟩, 9) := ⟨⟨by decide +kernel, by decide +kernel⟩, List.mem_of_getElem? (i := 105) (by decide +kernel), List.mem_of_getElem? (i := 157) (by decide +kernel), List.mem_of_getElem? (i := 158) (by decide +kernel)⟩
theorem lw_p3 : lw_okq (⟨"ShadowMachine$Format", "signed", "(ZJ)J"⟩, 9) := ⟨⟨by decide +kernel, by decide +kernel⟩, List.mem_of_getElem? (i := 105) (by decide +kernel), List.mem_of_getElem? (i := 171) (by decide +kernel), List.mem_of_getElem? (i := 172) (by decide +kernel)⟩
theorem lw_p4 : lw_okq (⟨"ShadowMachine$Format", "isZero", "(J)Z"⟩, 9) := ⟨⟨by decide +kernel, by decide +kernel⟩, List.mem_of_getElem? (i := 105) (by decide +kernel), List.mem_of_getElem? (i := 186) (by decide +kernel), List.mem_of_getElem? (i := 187) (by decide +kernel)⟩
theorem lw_p5 : lw_okq (⟨"ShadowMachine$Format", "exponent", "(J)I"⟩, 9) := ⟨⟨by decide +kernel, by decide +kernel⟩, List.mem_of_getElem? (i := 105) (by decide +kernel), List.mem_of_getElem? (i := 190) (by decide +kernel), List.mem_of_getElem? (i := 191) (by decide +kernel)⟩
theorem lw_p6 : lw_okq (⟨"ShadowMachine$Format", "unscaled", "(J)J"⟩, 9) := ⟨⟨by decide +kernel, by decide +kernel⟩, List.mem_of_getElem? (i := 105) (by decide +kernel), List.mem_of_getElem? (i := 194) (by decide +kernel), List.mem_of_getElem? (i := 195) (by decide +kernel)⟩
theorem lw_p7 : lw_okq (⟨"ShadowMachine$Format", "isInfinite", "(J)Z"⟩, 9) := ⟨⟨by decide +kernel, by decide +kernel⟩, List.mem_of_getElem? (i := 105) (by decide +kernel), List.mem_of_getElem? (i := 201) (by decide +kernel), List.mem_of_getElem? (i := 202) (by decide +kernel)⟩
theorem lw_p8 : lw_okq (⟨"ShadowMachine$Format", "isNegative", "(J)Z"⟩, 9) := ⟨⟨by decide +kernel, by decide +kernel⟩, List.mem_of_getElem? (i := 105) (by decide +kernel), List.mem_of_getElem? (i := 205) (by decide +kernel), List.mem_of_getElem? (i := 206) (by decide +kernel)⟩
theorem lw_p9 : lw_okq (⟨"ShadowMachine$Format", "significand", "(J)J"⟩, 9) := ⟨⟨by decide +kernel, by decide +kernel⟩, List.mem_of_getElem? (i := 105) (by decide +kernel), List.mem_of_getElem? (i := 210) (by decide +kernel), List.mem_of_getElem? (i := 211) (by decide +kernel)⟩
theorem lw_p10 : lw_okq (⟨"ShadowMachine", "failed", "(I)I"⟩, 8) := ⟨⟨by decide +kernel, by decide +kernel⟩, List.mem_of_getElem? (i := 14) (by decide +kernel), List.mem_of_getElem? (i := 252) (by decide +kernel), List.mem_of_getElem? (i := 253) (by decide +kernel)⟩
theorem lw_p11 : lw_okq (⟨"ShadowMachine$Format", "sumInOrder", "(JJ)J"⟩, 9) := ⟨⟨by decide +kernel, by decide +kernel⟩, List.mem_of_getElem? (i := 105) (by decide +kernel), List.mem_of_getElem? (i := 264) (by decide +kernel), List.mem_of_getElem? (i := 265) (by decide +kernel)⟩
theorem lw_p12 : lw_okq (⟨"ShadowMachine$Format", "order", "(J)J"⟩, 9) := ⟨⟨by decide +kernel, by decide +kernel⟩, List.mem_of_getElem? (i := 105) (by decide +kernel), List.mem_of_getElem? (i := 301) (by decide +kernel), List.mem_of_getElem? (i := 302) (by decide +kernel)⟩
theorem lw_p13 : lw_okq (⟨"ShadowMachine", "shadowOfTwo", "(III)I"⟩, 8) := ⟨⟨by decide +kernel, by decide +kernel⟩, List.mem_of_getElem? (i := 14) (by decide +kernel), List.mem_of_getElem? (i := 332) (by decide +kernel), List.mem_of_getElem? (i := 333) (by decide +kernel)⟩
theorem lw_p14 : lw_okq (⟨"ShadowMachine", "giveUp", "(II)V"⟩, 8) := ⟨⟨by decide +kernel, by decide +kernel⟩, List.mem_of_getElem? (i := 14) (by decide +kernel), List.mem_of_getElem? (i := 339) (by decide +kernel), List.mem_of_getElem? (i := 340) (by decide +kernel)⟩
theorem lw_p15 : lw_okq (⟨"ShadowMachine", "isInt", "(I)Z"⟩, 8) := ⟨⟨by decide +kernel, by decide +kernel⟩, List.mem_of_getElem? (i := 14) (by decide +kernel), List.mem_of_getElem? (i := 365) (by decide +kernel), List.mem_of_getElem? (i := 366) (by decide +kernel)⟩
def lw_privs_1 : List (MethodName × Nat) := [(⟨"ShadowMachine$Format", "isNan", "(J)Z"⟩, 9), (⟨"ShadowMachine", "put", "(IIJI)V"⟩, 8), (⟨"ShadowMachine$Format", "rounded", "(ZIJ)J"⟩, 9), (⟨"ShadowMachine$Format", "signed", "(ZJ)J"⟩, 9), (⟨"ShadowMachine$Format", "isZero", "(J)Z"⟩, 9), (⟨"ShadowMachine$Format", "exponent", "(J)I"⟩, 9), (⟨"ShadowMachine$Format", "unscaled", "(J)J"⟩, 9), (⟨"ShadowMachine$Format", "isInfinite", "(J)Z"⟩, 9), (⟨"ShadowMachine$Format", "isNegative", "(J)Z"⟩, 9), (⟨"ShadowMachine$Format", "significand", "(J)J"⟩, 9), (⟨"ShadowMachine", "failed", "(I)I"⟩, 8), (⟨"ShadowMachine$Format", "sumInOrder", "(JJ)J"⟩, 9), (⟨"ShadowMachine$Format", "order", "(J)J"⟩, 9), (⟨"ShadowMachine", "shadowOfTwo", "(III)I"⟩, 8), (⟨"ShadowMachine", "giveUp", "(II)V"⟩, 8), (⟨"ShadowMachine", "isInt", "(I)Z"⟩, 8)]
theorem lw_r1 : ∀ q ∈ lw_privs_1, lw_okq q := List.forall_mem_cons.mpr ⟨lw_p0, List.forall_mem_cons.mpr ⟨lw_p1, List.forall_mem_cons.mpr ⟨lw_p2, List.forall_mem_cons.mpr ⟨lw_p3, List.forall_mem_cons.mpr ⟨lw_p4, List.forall_mem_cons.mpr ⟨lw_p5, List.forall_mem_cons.mpr ⟨lw_p6, List.forall_mem_cons.mpr ⟨lw_p7, List.forall_mem_cons.mpr ⟨lw_p8, List.forall_mem_cons.mpr ⟨lw_p9, List.forall_mem_cons.mpr ⟨lw_p10, List.forall_mem_cons.mpr ⟨lw_p11, List.forall_mem_cons.mpr ⟨lw_p12, List.forall_mem_cons.mpr ⟨lw_p13, List.forall_mem_cons.mpr ⟨lw_p14, List.forall_mem_cons.mpr ⟨lw_p15, fun _ h => absurd h List.not_mem_nil⟩⟩⟩⟩⟩⟩⟩⟩⟩⟩⟩⟩⟩⟩⟩⟩
theorem lw_p16 : lw_okq (⟨"ShadowMachine", "unheld", "()LShadowMachine$Cells;"⟩, 8) := ⟨⟨by decide +kernel, by decide +kernel⟩, List.mem_of_getElem? (i := 14) (by decide +kernel), List.mem_of_getElem? (i := 370) (by decide +kernel), List.mem_of_getElem? (i := 371) (by decide +kernel)⟩
theorem lw_p17 : lw_okq (⟨"ShadowMachine", "isHeld", "(LShadowMachine$Cells;)Z"⟩, 8) := ⟨⟨by decide +kernel, by decide +kernel⟩, List.mem_of_getElem? (i := 14) (by decide +kernel), List.mem_of_getElem? (i := 374) (by decide +kernel), List.mem_of_getElem? (i := 375) (by decide +kernel)⟩
theorem lw_p18 : lw_okq (⟨"ShadowMachine$Cells", "narrowed", "(J)J"⟩, 4) := ⟨⟨by decide +kernel, by decide +kernel⟩, List.mem_of_getElem? (i := 39) (by decide +kernel), List.mem_of_getElem? (i := 406) (by decide +kernel), List.mem_of_getElem? (i := 407) (by decide +kernel)⟩
theorem lw_p19 : lw_okq (⟨"ShadowMachine", "dependentRegisters", "()I"⟩, 8) := ⟨⟨by decide +kernel, by decide +kernel⟩, List.mem_of_getElem? (i := 14) (by decide +kernel), List.mem_of_getElem? (i := 468) (by decide +kernel), List.mem_of_getElem? (i := 469) (by decide +kernel)⟩
theorem lw_p20 : lw_okq (⟨"ShadowMachineModel", "out", "(II)Z"⟩, 21) := ⟨⟨by decide +kernel, by decide +kernel⟩, List.mem_of_getElem? (i := 472) (by decide +kernel), List.mem_of_getElem? (i := 547) (by decide +kernel), List.mem_of_getElem? (i := 548) (by decide +kernel)⟩
theorem lw_p21 : lw_okq (⟨"ShadowMachineModel", "clean", "(IJ)J"⟩, 21) := ⟨⟨by decide +kernel, by decide +kernel⟩, List.mem_of_getElem? (i := 472) (by decide +kernel), List.mem_of_getElem? (i := 551) (by decide +kernel), List.mem_of_getElem? (i := 552) (by decide +kernel)⟩
theorem lw_p22 : lw_okq (⟨"ShadowMachineModel", "isNone", "(ZJ)Z"⟩, 21) := ⟨⟨by decide +kernel, by decide +kernel⟩, List.mem_of_getElem? (i := 472) (by decide +kernel), List.mem_of_getElem? (i := 555) (by decide +kernel), List.mem_of_getElem? (i := 556) (by decide +kernel)⟩
theorem lw_p23 : lw_okq (⟨"ShadowMachineModel", "take", "(IJZ)V"⟩, 21) := ⟨⟨by decide +kernel, by decide +kernel⟩, List.mem_of_getElem? (i := 472) (by decide +kernel), List.mem_of_getElem? (i := 559) (by decide +kernel), List.mem_of_getElem? (i := 560) (by decide +kernel)⟩
theorem lw_p24 : lw_okq (⟨"ShadowMachineModel", "places", "(Z)I"⟩, 21) := ⟨⟨by decide +kernel, by decide +kernel⟩, List.mem_of_getElem? (i := 472) (by decide +kernel), List.mem_of_getElem? (i := 563) (by decide +kernel), List.mem_of_getElem? (i := 564) (by decide +kernel)⟩
theorem lw_p25 : lw_okq (⟨"ShadowMachineModel", "least", "(Z)I"⟩, 21) := ⟨⟨by decide +kernel, by decide +kernel⟩, List.mem_of_getElem? (i := 472) (by decide +kernel), List.mem_of_getElem? (i := 569) (by decide +kernel), List.mem_of_getElem? (i := 570) (by decide +kernel)⟩
theorem lw_p26 : lw_okq (⟨"ShadowMachineModel", "none", "(Z)J"⟩, 21) := ⟨⟨by decide +kernel, by decide +kernel⟩, List.mem_of_getElem? (i := 472) (by decide +kernel), List.mem_of_getElem? (i := 573) (by decide +kernel), List.mem_of_getElem? (i := 574) (by decide +kernel)⟩
theorem lw_p27 : lw_okq (⟨"ShadowMachineModel", "put", "(IJIZ)V"⟩, 21) := ⟨⟨by decide +kernel, by decide +kernel⟩, List.mem_of_getElem? (i := 472) (by decide +kernel), List.mem_of_getElem? (i := 579) (by decide +kernel), List.mem_of_getElem? (i := 580) (by decide +kernel)⟩
theorem lw_p28 : lw_okq (⟨"ShadowMachineModel", "kindAfter", "(I)I"⟩, 21) := ⟨⟨by decide +kernel, by decide +kernel⟩, List.mem_of_getElem? (i := 472) (by decide +kernel), List.mem_of_getElem? (i := 591) (by decide +kernel), List.mem_of_getElem? (i := 592) (by decide +kernel)⟩
theorem lw_p29 : lw_okq (⟨"ShadowMachineModel", "wanted", "(I)I"⟩, 21) := ⟨⟨by decide +kernel, by decide +kernel⟩, List.mem_of_getElem? (i := 472) (by decide +kernel), List.mem_of_getElem? (i := 595) (by decide +kernel), List.mem_of_getElem? (i := 596) (by decide +kernel)⟩
theorem lw_p30 : lw_okq (⟨"ShadowMachineModel", "converted", "(IJ)J"⟩, 21) := ⟨⟨by decide +kernel, by decide +kernel⟩, List.mem_of_getElem? (i := 472) (by decide +kernel), List.mem_of_getElem? (i := 599) (by decide +kernel), List.mem_of_getElem? (i := 600) (by decide +kernel)⟩
theorem lw_p31 : lw_okq (⟨"ShadowMachineModel", "fromWhole", "(ZJ)J"⟩, 21) := ⟨⟨by decide +kernel, by decide +kernel⟩, List.mem_of_getElem? (i := 472) (by decide +kernel), List.mem_of_getElem? (i := 603) (by decide +kernel), List.mem_of_getElem? (i := 604) (by decide +kernel)⟩
def lw_privs_2 : List (MethodName × Nat) := [(⟨"ShadowMachine", "unheld", "()LShadowMachine$Cells;"⟩, 8), (⟨"ShadowMachine", "isHeld", "(LShadowMachine$Cells;)Z"⟩, 8), (⟨"ShadowMachine$Cells", "narrowed", "(J)J"⟩, 4), (⟨"ShadowMachine", "dependentRegisters", "()I"⟩, 8), (⟨"ShadowMachineModel", "out", "(II)Z"⟩, 21), (⟨"ShadowMachineModel", "clean", "(IJ)J"⟩, 21), (⟨"ShadowMachineModel", "isNone", "(ZJ)Z"⟩, 21), (⟨"ShadowMachineModel", "take", "(IJZ)V"⟩, 21), (⟨"ShadowMachineModel", "places", "(Z)I"⟩, 21), (⟨"ShadowMachineModel", "least", "(Z)I"⟩, 21), (⟨"ShadowMachineModel", "none", "(Z)J"⟩, 21), (⟨"ShadowMachineModel", "put", "(IJIZ)V"⟩, 21), (⟨"ShadowMachineModel", "kindAfter", "(I)I"⟩, 21), (⟨"ShadowMachineModel", "wanted", "(I)I"⟩, 21), (⟨"ShadowMachineModel", "converted", "(IJ)J"⟩, 21), (⟨"ShadowMachineModel", "fromWhole", "(ZJ)J"⟩, 21)]
theorem lw_r2 : ∀ q ∈ lw_privs_2, lw_okq q := List.forall_mem_cons.mpr ⟨lw_p16, List.forall_mem_cons.mpr ⟨lw_p17, List.forall_mem_cons.mpr ⟨lw_p18, List.forall_mem_cons.mpr ⟨lw_p19, List.forall_mem_cons.mpr ⟨lw_p20, List.forall_mem_cons.mpr ⟨lw_p21, List.forall_mem_cons.mpr ⟨lw_p22, List.forall_mem_cons.mpr ⟨lw_p23, List.forall_mem_cons.mpr ⟨lw_p24, List.forall_mem_cons.mpr ⟨lw_p25, List.forall_mem_cons.mpr ⟨lw_p26, List.forall_mem_cons.mpr ⟨lw_p27, List.forall_mem_cons.mpr ⟨lw_p28, List.forall_mem_cons.mpr ⟨lw_p29, List.forall_mem_cons.mpr ⟨lw_p30, List.forall_mem_cons.mpr ⟨lw_p31, fun _ h => absurd h List.not_mem_nil⟩⟩⟩⟩⟩⟩⟩⟩⟩⟩⟩⟩⟩⟩⟩⟩
theorem lw_p32 : lw_okq (⟨"ShadowMachineModel", "round", "(ZZJIZ)J"⟩, 21) := ⟨⟨by decide +kernel, by decide +kernel⟩, List.mem_of_getElem? (i := 472) (by decide +kernel), List.mem_of_getElem? (i := 609) (by decide +kernel), List.mem_of_getElem? (i := 610) (by decide +kernel)⟩
theorem lw_p33 : lw_okq (⟨"ShadowMachineModel", "lengthOf", "(J)I"⟩, 21) := ⟨⟨by decide +kernel, by decide +kernel⟩, List.mem_of_getElem? (i := 472) (by decide +kernel), List.mem_of_getElem? (i := 613) (by decide +kernel), List.mem_of_getElem? (i := 614) (by decide +kernel)⟩
theorem lw_p34 : lw_okq (⟨"ShadowMachineModel", "infinite", "(Z)J"⟩, 21) := ⟨⟨by decide +kernel, by decide +kernel⟩, List.mem_of_getElem? (i := 472) (by decide +kernel), List.mem_of_getElem? (i := 617) (by decide +kernel), List.mem_of_getElem? (i := 618) (by decide +kernel)⟩
theorem lw_p35 : lw_okq (⟨"ShadowMachineModel", "signed", "(ZZJ)J"⟩, 21) := ⟨⟨by decide +kernel, by decide +kernel⟩, List.mem_of_getElem? (i := 472) (by decide +kernel), List.mem_of_getElem? (i := 623) (by decide +kernel), List.mem_of_getElem? (i := 624) (by decide +kernel)⟩
theorem lw_p36 : lw_okq (⟨"ShadowMachineModel", "toWhole", "(ZJZ)J"⟩, 21) := ⟨⟨by decide +kernel, by decide +kernel⟩, List.mem_of_getElem? (i := 472) (by decide +kernel), List.mem_of_getElem? (i := 629) (by decide +kernel), List.mem_of_getElem? (i := 630) (by decide +kernel)⟩
theorem lw_p37 : lw_okq (⟨"ShadowMachineModel", "otherFormat", "(ZJ)J"⟩, 21) := ⟨⟨by decide +kernel, by decide +kernel⟩, List.mem_of_getElem? (i := 472) (by decide +kernel), List.mem_of_getElem? (i := 633) (by decide +kernel), List.mem_of_getElem? (i := 634) (by decide +kernel)⟩
theorem lw_p38 : lw_okq (⟨"ShadowMachineModel", "turned", "(IIJ)J"⟩, 21) := ⟨⟨by decide +kernel, by decide +kernel⟩, List.mem_of_getElem? (i := 472) (by decide +kernel), List.mem_of_getElem? (i := 637) (by decide +kernel), List.mem_of_getElem? (i := 638) (by decide +kernel)⟩
theorem lw_p39 : lw_okq (⟨"ShadowMachineModel", "fix", "(II)V"⟩, 21) := ⟨⟨by decide +kernel, by decide +kernel⟩, List.mem_of_getElem? (i := 472) (by decide +kernel), List.mem_of_getElem? (i := 645) (by decide +kernel), List.mem_of_getElem? (i := 646) (by decide +kernel)⟩
theorem lw_p40 : lw_okq (⟨"ShadowMachineModel", "compared", "(IJJI)I"⟩, 21) := ⟨⟨by decide +kernel, by decide +kernel⟩, List.mem_of_getElem? (i := 472) (by decide +kernel), List.mem_of_getElem? (i := 649) (by decide +kernel), List.mem_of_getElem? (i := 650) (by decide +kernel)⟩
theorem lw_p41 : lw_okq (⟨"ShadowMachineModel", "rank", "(ZJ)J"⟩, 21) := ⟨⟨by decide +kernel, by decide +kernel⟩, List.mem_of_getElem? (i := 472) (by decide +kernel), List.mem_of_getElem? (i := 653) (by decide +kernel), List.mem_of_getElem? (i := 654) (by decide +kernel)⟩
theorem lw_p42 : lw_okq (⟨"ShadowMachineModel", "whole", "(IZJJ)J"⟩, 21) := ⟨⟨by decide +kernel, by decide +kernel⟩, List.mem_of_getElem? (i := 472) (by decide +kernel), List.mem_of_getElem? (i := 658) (by decide +kernel), List.mem_of_getElem? (i := 659) (by decide +kernel)⟩
theorem lw_p43 : lw_okq (⟨"ShadowMachineModel", "pointed", "(IZJJ)J"⟩, 21) := ⟨⟨by decide +kernel, by decide +kernel⟩, List.mem_of_getElem? (i := 472) (by decide +kernel), List.mem_of_getElem? (i := 663) (by decide +kernel), List.mem_of_getElem? (i := 664) (by decide +kernel)⟩
theorem lw_p44 : lw_okq (⟨"ShadowMachineModel", "sum", "(ZJJ)J"⟩, 21) := ⟨⟨by decide +kernel, by decide +kernel⟩, List.mem_of_getElem? (i := 472) (by decide +kernel), List.mem_of_getElem? (i := 667) (by decide +kernel), List.mem_of_getElem? (i := 668) (by decide +kernel)⟩
theorem lw_p45 : lw_okq (⟨"ShadowMachineModel", "spread", "(I)V"⟩, 21) := ⟨⟨by decide +kernel, by decide +kernel⟩, List.mem_of_getElem? (i := 472) (by decide +kernel), List.mem_of_getElem? (i := 671) (by decide +kernel), List.mem_of_getElem? (i := 672) (by decide +kernel)⟩
theorem lw_p46 : lw_okq (⟨"ShadowMachineModel", "product", "(ZJJ)J"⟩, 21) := ⟨⟨by decide +kernel, by decide +kernel⟩, List.mem_of_getElem? (i := 472) (by decide +kernel), List.mem_of_getElem? (i := 675) (by decide +kernel), List.mem_of_getElem? (i := 676) (by decide +kernel)⟩
theorem lw_p47 : lw_okq (⟨"ShadowMachineModel", "quotient", "(ZJJ)J"⟩, 21) := ⟨⟨by decide +kernel, by decide +kernel⟩, List.mem_of_getElem? (i := 472) (by decide +kernel), List.mem_of_getElem? (i := 679) (by decide +kernel), List.mem_of_getElem? (i := 680) (by decide +kernel)⟩
def lw_privs_3 : List (MethodName × Nat) := [(⟨"ShadowMachineModel", "round", "(ZZJIZ)J"⟩, 21), (⟨"ShadowMachineModel", "lengthOf", "(J)I"⟩, 21), (⟨"ShadowMachineModel", "infinite", "(Z)J"⟩, 21), (⟨"ShadowMachineModel", "signed", "(ZZJ)J"⟩, 21), (⟨"ShadowMachineModel", "toWhole", "(ZJZ)J"⟩, 21), (⟨"ShadowMachineModel", "otherFormat", "(ZJ)J"⟩, 21), (⟨"ShadowMachineModel", "turned", "(IIJ)J"⟩, 21), (⟨"ShadowMachineModel", "fix", "(II)V"⟩, 21), (⟨"ShadowMachineModel", "compared", "(IJJI)I"⟩, 21), (⟨"ShadowMachineModel", "rank", "(ZJ)J"⟩, 21), (⟨"ShadowMachineModel", "whole", "(IZJJ)J"⟩, 21), (⟨"ShadowMachineModel", "pointed", "(IZJJ)J"⟩, 21), (⟨"ShadowMachineModel", "sum", "(ZJJ)J"⟩, 21), (⟨"ShadowMachineModel", "spread", "(I)V"⟩, 21), (⟨"ShadowMachineModel", "product", "(ZJJ)J"⟩, 21), (⟨"ShadowMachineModel", "quotient", "(ZJJ)J"⟩, 21)]
theorem lw_r3 : ∀ q ∈ lw_privs_3, lw_okq q := List.forall_mem_cons.mpr ⟨lw_p32, List.forall_mem_cons.mpr ⟨lw_p33, List.forall_mem_cons.mpr ⟨lw_p34, List.forall_mem_cons.mpr ⟨lw_p35, List.forall_mem_cons.mpr ⟨lw_p36, List.forall_mem_cons.mpr ⟨lw_p37, List.forall_mem_cons.mpr ⟨lw_p38, List.forall_mem_cons.mpr ⟨lw_p39, List.forall_mem_cons.mpr ⟨lw_p40, List.forall_mem_cons.mpr ⟨lw_p41, List.forall_mem_cons.mpr ⟨lw_p42, List.forall_mem_cons.mpr ⟨lw_p43, List.forall_mem_cons.mpr ⟨lw_p44, List.forall_mem_cons.mpr ⟨lw_p45, List.forall_mem_cons.mpr ⟨lw_p46, List.forall_mem_cons.mpr ⟨lw_p47, fun _ h => absurd h List.not_mem_nil⟩⟩⟩⟩⟩⟩⟩⟩⟩⟩⟩⟩⟩⟩⟩⟩
theorem lw_p48 : lw_okq (⟨"ShadowMachineModel", "remainder", "(ZJJ)J"⟩, 21) := ⟨⟨by decide +kernel, by decide +kernel⟩, List.mem_of_getElem? (i := 472) (by decide +kernel), List.mem_of_getElem? (i := 683) (by decide +kernel), List.mem_of_getElem? (i := 684) (by decide +kernel)⟩
theorem lw_p49 : lw_okq (⟨"ShadowMachineModel", "exception", "(I)I"⟩, 21) := ⟨⟨by decide +kernel, by decide +kernel⟩, List.mem_of_getElem? (i := 472) (by decide +kernel), List.mem_of_getElem? (i := 696) (by decide +kernel), List.mem_of_getElem? (i := 697) (by decide +kernel)⟩
theorem lw_p50 : lw_okq (⟨"ShadowMachineModel", "kindOf", "(I)I"⟩, 21) := ⟨⟨by decide +kernel, by decide +kernel⟩, List.mem_of_getElem? (i := 472) (by decide +kernel), List.mem_of_getElem? (i := 712) (by decide +kernel), List.mem_of_getElem? (i := 713) (by decide +kernel)⟩
theorem lw_p51 : lw_okq (⟨"ShadowMachineModel", "stored", "(IJ)J"⟩, 21) := ⟨⟨by decide +kernel, by decide +kernel⟩, List.mem_of_getElem? (i := 472) (by decide +kernel), List.mem_of_getElem? (i := 720) (by decide +kernel), List.mem_of_getElem? (i := 721) (by decide +kernel)⟩
def lw_privs_4 : List (MethodName × Nat) := [(⟨"ShadowMachineModel", "remainder", "(ZJJ)J"⟩, 21), (⟨"ShadowMachineModel", "exception", "(I)I"⟩, 21), (⟨"ShadowMachineModel", "kindOf", "(I)I"⟩, 21), (⟨"ShadowMachineModel", "stored", "(IJ)J"⟩, 21)]
theorem lw_r4 : ∀ q ∈ lw_privs_4, lw_okq q := List.forall_mem_cons.mpr ⟨lw_p48, List.forall_mem_cons.mpr ⟨lw_p49, List.forall_mem_cons.mpr ⟨lw_p50, List.forall_mem_cons.mpr ⟨lw_p51, fun _ h => absurd h List.not_mem_nil⟩⟩⟩⟩
def lw_privs : List (MethodName × Nat) := lw_privs_1 ++ (lw_privs_2 ++ (lw_privs_3 ++ (lw_privs_4)))
def lw_tbl : List Cond := k2_sels lw_privs ++ tables_1
theorem lw_privs_ok : ∀ q ∈ lw_privs, lw_okq q := by
  show ∀ q ∈ lw_privs_1 ++ (lw_privs_2 ++ (lw_privs_3 ++ (lw_privs_4))), lw_okq q
  exact List.forall_mem_append.mpr ⟨lw_r1, List.forall_mem_append.mpr ⟨lw_r2, List.forall_mem_append.mpr ⟨lw_r3, lw_r4⟩⟩⟩
end
section
def RX0 : String := "ShadowMachine$Cells"
def TX0 : u_T := fun k => match k with
  | 0 => ("ShadowMachine$Cells", "values", "[J", true)
  | 1 => ("ShadowMachine$Cells", "shadows", "[I", true)
  | 2 => ("ShadowMachine$Cells", "sort", "I", false)
  | _ => ("ShadowMachine$Cells", "size", "I", false)
def tyX0 : Nat → FieldType := fun k => match k with
  | 0 => .array .long
  | 1 => .array .int
  | 2 => .int
  | _ => .int
abbrev wsX00 : List Cond := u_ws RX0 TX0 4
theorem nmX0 : ∀ a, a < 4 → ∀ b, b < 4 → a ≠ b → (TX0 a).2.1 ≠ (TX0 b).2.1 := by decide +kernel
theorem tyX0_ok : ∀ k, k < 4 → parseFieldDescriptor (TX0 k).2.2.1 = some (tyX0 k) := by decide +kernel
abbrev cX0_init : ByteArray := prog_2_method_1_code
def yX0_init : MethodName := ⟨RX0, "<init>", "()V"⟩
abbrev cX0_renew : ByteArray := prog_2_method_2_code
def yX0_renew : MethodName := ⟨RX0, "renew", "(II)V"⟩
abbrev cX0_kindTaken : ByteArray := prog_2_method_3_code
def yX0_kindTaken : MethodName := ⟨RX0, "kindTaken", "()I"⟩
abbrev cX0_hasRun : ByteArray := prog_2_method_4_code
def yX0_hasRun : MethodName := ⟨RX0, "hasRun", "(II)Z"⟩
abbrev cX0_keep : ByteArray := prog_2_method_5_code
def yX0_keep : MethodName := ⟨RX0, "keep", "(IJI)V"⟩
abbrev cX0_narrowed : ByteArray := prog_2_method_6_code
def yX0_narrowed : MethodName := ⟨RX0, "narrowed", "(J)J"⟩
def RX1 : String := "ShadowMachine$Format"
def TX1 : u_T := fun k => match k with
  | _ => ("", "", "", false)
def tyX1 : Nat → FieldType := fun k => match k with
  | _ => .int
abbrev wsX10 : List Cond := u_ws RX1 TX1 0
theorem nmX1 : ∀ a, a < 0 → ∀ b, b < 0 → a ≠ b → (TX1 a).2.1 ≠ (TX1 b).2.1 := by decide +kernel
theorem tyX1_ok : ∀ k, k < 0 → parseFieldDescriptor (TX1 k).2.2.1 = some (tyX1 k) := by decide +kernel
abbrev cX1_withOneNan : ByteArray := prog_3_method_4_code
def yX1_withOneNan : MethodName := ⟨RX1, "withOneNan", "(J)J"⟩
abbrev cX1_negated : ByteArray := prog_3_method_5_code
def yX1_negated : MethodName := ⟨RX1, "negated", "(J)J"⟩
abbrev cX1_magnitude : ByteArray := prog_3_method_6_code
def yX1_magnitude : MethodName := ⟨RX1, "magnitude", "(J)J"⟩
abbrev cX1_least : ByteArray := prog_3_method_7_code
def yX1_least : MethodName := ⟨RX1, "least", "(JJ)J"⟩
abbrev cX1_greatest : ByteArray := prog_3_method_8_code
def yX1_greatest : MethodName := ⟨RX1, "greatest", "(JJ)J"⟩
abbrev cX1_compared : ByteArray := prog_3_method_9_code
def yX1_compared : MethodName := ⟨RX1, "compared", "(JJI)I"⟩
abbrev cX1_ofWhole : ByteArray := prog_3_method_10_code
def yX1_ofWhole : MethodName := ⟨RX1, "ofWhole", "(J)J"⟩
abbrev cX1_ofOther : ByteArray := prog_3_method_11_code
def yX1_ofOther : MethodName := ⟨RX1, "ofOther", "(LShadowMachine$Format;J)J"⟩
abbrev cX1_truncated : ByteArray := prog_3_method_12_code
def yX1_truncated : MethodName := ⟨RX1, "truncated", "(J)J"⟩
abbrev cX1_sum : ByteArray := prog_3_method_13_code
def yX1_sum : MethodName := ⟨RX1, "sum", "(JJ)J"⟩
abbrev cX1_sumInOrder : ByteArray := prog_3_method_14_code
def yX1_sumInOrder : MethodName := ⟨RX1, "sumInOrder", "(JJ)J"⟩
abbrev cX1_product : ByteArray := prog_3_method_15_code
def yX1_product : MethodName := ⟨RX1, "product", "(JJ)J"⟩
abbrev cX1_quotient : ByteArray := prog_3_method_16_code
def yX1_quotient : MethodName := ⟨RX1, "quotient", "(JJ)J"⟩
abbrev cX1_remainder : ByteArray := prog_3_method_17_code
def yX1_remainder : MethodName := ⟨RX1, "remainder", "(JJ)J"⟩
abbrev cX1_isNan : ByteArray := prog_3_method_18_code
def yX1_isNan : MethodName := ⟨RX1, "isNan", "(J)Z"⟩
abbrev cX1_isInfinite : ByteArray := prog_3_method_19_code
def yX1_isInfinite : MethodName := ⟨RX1, "isInfinite", "(J)Z"⟩
abbrev cX1_isZero : ByteArray := prog_3_method_20_code
def yX1_isZero : MethodName := ⟨RX1, "isZero", "(J)Z"⟩
abbrev cX1_isNegative : ByteArray := prog_3_method_21_code
def yX1_isNegative : MethodName := ⟨RX1, "isNegative", "(J)Z"⟩
abbrev cX1_signed : ByteArray := prog_3_method_22_code
def yX1_signed : MethodName := ⟨RX1, "signed", "(ZJ)J"⟩
abbrev cX1_order : ByteArray := prog_3_method_23_code
def yX1_order : MethodName := ⟨RX1, "order", "(J)J"⟩
abbrev cX1_exponent : ByteArray := prog_3_method_24_code
def yX1_exponent : MethodName := ⟨RX1, "exponent", "(J)I"⟩
abbrev cX1_significand : ByteArray := prog_3_method_25_code
def yX1_significand : MethodName := ⟨RX1, "significand", "(J)J"⟩
abbrev cX1_unscaled : ByteArray := prog_3_method_26_code
def yX1_unscaled : MethodName := ⟨RX1, "unscaled", "(J)J"⟩
abbrev cX1_placesUp : ByteArray := prog_3_method_27_code
def yX1_placesUp : MethodName := ⟨RX1, "placesUp", "(J)I"⟩
abbrev cX1_rounded : ByteArray := prog_3_method_28_code
def yX1_rounded : MethodName := ⟨RX1, "rounded", "(ZIJ)J"⟩
abbrev cX1_shiftedToEven : ByteArray := prog_3_method_29_code
def yX1_shiftedToEven : MethodName := ⟨RX1, "shiftedToEven", "(JI)J"⟩
abbrev cX1_shiftedDown : ByteArray := prog_3_method_30_code
def yX1_shiftedDown : MethodName := ⟨RX1, "shiftedDown", "(JI)J"⟩
abbrev cX1_highProduct : ByteArray := prog_3_method_31_code
def yX1_highProduct : MethodName := ⟨RX1, "highProduct", "(JJ)J"⟩
abbrev cX1_longQuotient : ByteArray := prog_3_method_32_code
def yX1_longQuotient : MethodName := ⟨RX1, "longQuotient", "(JJ)J"⟩
abbrev cX1_longRemainder : ByteArray := prog_3_method_33_code
def yX1_longRemainder : MethodName := ⟨RX1, "longRemainder", "(JJI)J"⟩
def RX2 : String := "ShadowMachine$Notes"
def TX2 : u_T := fun k => match k with
  | 0 => ("ShadowMachine$Notes", "numbers", "[I", true)
  | _ => ("ShadowMachine$Notes", "added", "I", false)
def tyX2 : Nat → FieldType := fun k => match k with
  | 0 => .array .int
  | _ => .int
abbrev wsX20 : List Cond := u_ws RX2 TX2 2
theorem nmX2 : ∀ a, a < 2 → ∀ b, b < 2 → a ≠ b → (TX2 a).2.1 ≠ (TX2 b).2.1 := by decide +kernel
theorem tyX2_ok : ∀ k, k < 2 → parseFieldDescriptor (TX2 k).2.2.1 = some (tyX2 k) := by decide +kernel
abbrev cX2_init : ByteArray := prog_4_method_1_code
def yX2_init : MethodName := ⟨RX2, "<init>", "()V"⟩
abbrev cX2_add : ByteArray := prog_4_method_2_code
def yX2_add : MethodName := ⟨RX2, "add", "(III)V"⟩
abbrev cX2_told : ByteArray := prog_4_method_3_code
def yX2_told : MethodName := ⟨RX2, "told", "(II)J"⟩
abbrev cX2_startOf : ByteArray := prog_4_method_4_code
def yX2_startOf : MethodName := ⟨RX2, "startOf", "(I)I"⟩
def RX3 : String := "ShadowMachine$Pair"
def TX3 : u_T := fun k => match k with
  | _ => ("", "", "", false)
def tyX3 : Nat → FieldType := fun k => match k with
  | _ => .int
abbrev wsX30 : List Cond := u_ws RX3 TX3 0
theorem nmX3 : ∀ a, a < 0 → ∀ b, b < 0 → a ≠ b → (TX3 a).2.1 ≠ (TX3 b).2.1 := by decide +kernel
theorem tyX3_ok : ∀ k, k < 0 → parseFieldDescriptor (TX3 k).2.2.1 = some (tyX3 k) := by decide +kernel
abbrev cX3_takes : ByteArray := prog_5_method_2_code
def yX3_takes : MethodName := ⟨RX3, "takes", "(III)Z"⟩
abbrev cX3_divides : ByteArray := prog_5_method_3_code
def yX3_divides : MethodName := ⟨RX3, "divides", "(I)Z"⟩
abbrev cX3_calculates : ByteArray := prog_5_method_4_code
def yX3_calculates : MethodName := ⟨RX3, "calculates", "(I)Z"⟩
abbrev cX3_mixes : ByteArray := prog_5_method_5_code
def yX3_mixes : MethodName := ⟨RX3, "mixes", "(I)Z"⟩
abbrev cX3_resultKind : ByteArray := prog_5_method_6_code
def yX3_resultKind : MethodName := ⟨RX3, "resultKind", "(II)I"⟩
abbrev cX3_wholeResult : ByteArray := prog_5_method_7_code
def yX3_wholeResult : MethodName := ⟨RX3, "wholeResult", "(IIJJ)J"⟩
abbrev cX3_calculated : ByteArray := prog_5_method_8_code
def yX3_calculated : MethodName := ⟨RX3, "calculated", "(IJJ)J"⟩
abbrev cX3_combined : ByteArray := prog_5_method_9_code
def yX3_combined : MethodName := ⟨RX3, "combined", "(IIJJ)J"⟩
abbrev cX3_floatingResult : ByteArray := prog_5_method_10_code
def yX3_floatingResult : MethodName := ⟨RX3, "floatingResult", "(ILShadowMachine$Format;JJ)J"⟩
def RX4 : String := "ShadowMachine$Single"
def TX4 : u_T := fun k => match k with
  | _ => ("", "", "", false)
def tyX4 : Nat → FieldType := fun k => match k with
  | _ => .int
abbrev wsX40 : List Cond := u_ws RX4 TX4 0
theorem nmX4 : ∀ a, a < 0 → ∀ b, b < 0 → a ≠ b → (TX4 a).2.1 ≠ (TX4 b).2.1 := by decide +kernel
theorem tyX4_ok : ∀ k, k < 0 → parseFieldDescriptor (TX4 k).2.2.1 = some (tyX4 k) := by decide +kernel
abbrev cX4_takes : ByteArray := prog_6_method_2_code
def yX4_takes : MethodName := ⟨RX4, "takes", "(II)Z"⟩
abbrev cX4_rounds : ByteArray := prog_6_method_3_code
def yX4_rounds : MethodName := ⟨RX4, "rounds", "(I)Z"⟩
abbrev cX4_resultKind : ByteArray := prog_6_method_4_code
def yX4_resultKind : MethodName := ⟨RX4, "resultKind", "(II)I"⟩
abbrev cX4_result : ByteArray := prog_6_method_5_code
def yX4_result : MethodName := ⟨RX4, "result", "(IIJ)J"⟩
abbrev cX4_nearestInt : ByteArray := prog_6_method_6_code
def yX4_nearestInt : MethodName := ⟨RX4, "nearestInt", "(J)J"⟩
def RX5 : String := "ShadowMachine"
def TX5 : u_T := fun k => match k with
  | 0 => ("ShadowMachine", "kinds", "[I", true)
  | 1 => ("ShadowMachine", "values", "[J", true)
  | 2 => ("ShadowMachine", "shadows", "[I", true)
  | 3 => ("ShadowMachine", "arrays", "[LShadowMachine$Cells;", true)
  | 4 => ("ShadowMachine", "pool", "[LShadowMachine$Cells;", true)
  | 5 => ("ShadowMachine", "pins", "LShadowMachine$Notes;", true)
  | 6 => ("ShadowMachine", "ways", "LShadowMachine$Notes;", true)
  | _ => ("ShadowMachine", "exceptions", "I", false)
def tyX5 : Nat → FieldType := fun k => match k with
  | 0 => .array .int
  | 1 => .array .long
  | 2 => .array .int
  | 3 => .array (.object "ShadowMachine$Cells")
  | 4 => .array (.object "ShadowMachine$Cells")
  | 5 => .object "ShadowMachine$Notes"
  | 6 => .object "ShadowMachine$Notes"
  | _ => .int
abbrev wsX50 : List Cond := u_ws RX5 TX5 8
theorem nmX5 : ∀ a, a < 8 → ∀ b, b < 8 → a ≠ b → (TX5 a).2.1 ≠ (TX5 b).2.1 := by decide +kernel
theorem tyX5_ok : ∀ k, k < 8 → parseFieldDescriptor (TX5 k).2.2.1 = some (tyX5 k) := by decide +kernel
abbrev cX5_init : ByteArray := prog_1_method_1_code
def yX5_init : MethodName := ⟨RX5, "<init>", "()V"⟩
abbrev cX5_constant : ByteArray := prog_1_method_2_code
def yX5_constant : MethodName := ⟨RX5, "constant", "(IIJ)I"⟩
abbrev cX5_input : ByteArray := prog_1_method_3_code
def yX5_input : MethodName := ⟨RX5, "input", "(IIJI)I"⟩
abbrev cX5_one : ByteArray := prog_1_method_4_code
def yX5_one : MethodName := ⟨RX5, "one", "(III)I"⟩
abbrev cX5_two : ByteArray := prog_1_method_5_code
def yX5_two : MethodName := ⟨RX5, "two", "(IIII)I"⟩
abbrev cX5_move : ByteArray := prog_1_method_6_code
def yX5_move : MethodName := ⟨RX5, "move", "(II)I"⟩
abbrev cX5_array : ByteArray := prog_1_method_7_code
def yX5_array : MethodName := ⟨RX5, "array", "(III)I"⟩
abbrev cX5_drop : ByteArray := prog_1_method_8_code
def yX5_drop : MethodName := ⟨RX5, "drop", "(I)I"⟩
abbrev cX5_share : ByteArray := prog_1_method_9_code
def yX5_share : MethodName := ⟨RX5, "share", "(II)I"⟩
abbrev cX5_load : ByteArray := prog_1_method_10_code
def yX5_load : MethodName := ⟨RX5, "load", "(III)I"⟩
abbrev cX5_store : ByteArray := prog_1_method_11_code
def yX5_store : MethodName := ⟨RX5, "store", "(III)I"⟩
abbrev cX5_length : ByteArray := prog_1_method_12_code
def yX5_length : MethodName := ⟨RX5, "length", "(II)I"⟩
abbrev cX5_copy : ByteArray := prog_1_method_13_code
def yX5_copy : MethodName := ⟨RX5, "copy", "(IIIII)I"⟩
abbrev cX5_branch : ByteArray := prog_1_method_14_code
def yX5_branch : MethodName := ⟨RX5, "branch", "(III)I"⟩
abbrev cX5_kind : ByteArray := prog_1_method_15_code
def yX5_kind : MethodName := ⟨RX5, "kind", "(I)I"⟩
abbrev cX5_bits : ByteArray := prog_1_method_16_code
def yX5_bits : MethodName := ⟨RX5, "bits", "(I)J"⟩
abbrev cX5_shadow : ByteArray := prog_1_method_17_code
def yX5_shadow : MethodName := ⟨RX5, "shadow", "(I)I"⟩
abbrev cX5_cell : ByteArray := prog_1_method_18_code
def yX5_cell : MethodName := ⟨RX5, "cell", "(III)J"⟩
abbrev cX5_pin : ByteArray := prog_1_method_19_code
def yX5_pin : MethodName := ⟨RX5, "pin", "(II)J"⟩
abbrev cX5_way : ByteArray := prog_1_method_20_code
def yX5_way : MethodName := ⟨RX5, "way", "(II)J"⟩
abbrev cX5_count : ByteArray := prog_1_method_21_code
def yX5_count : MethodName := ⟨RX5, "count", "(I)I"⟩
abbrev cX5_isBelow : ByteArray := prog_1_method_22_code
def yX5_isBelow : MethodName := ⟨RX5, "isBelow", "(JI)Z"⟩
abbrev cX5_isFloating : ByteArray := prog_1_method_23_code
def yX5_isFloating : MethodName := ⟨RX5, "isFloating", "(I)Z"⟩
abbrev cX5_formatOf : ByteArray := prog_1_method_24_code
def yX5_formatOf : MethodName := ⟨RX5, "formatOf", "(I)LShadowMachine$Format;"⟩
abbrev cX5_held : ByteArray := prog_1_method_25_code
def yX5_held : MethodName := ⟨RX5, "held", "(IJ)J"⟩
abbrev cX5_joined : ByteArray := prog_1_method_26_code
def yX5_joined : MethodName := ⟨RX5, "joined", "(II)I"⟩
abbrev cX5_inexact : ByteArray := prog_1_method_27_code
def yX5_inexact : MethodName := ⟨RX5, "inexact", "(I)I"⟩
abbrev cX5_isSo : ByteArray := prog_1_method_28_code
def yX5_isSo : MethodName := ⟨RX5, "isSo", "(IJJ)Z"⟩
abbrev cX5_isInt : ByteArray := prog_1_method_29_code
def yX5_isInt : MethodName := ⟨RX5, "isInt", "(I)Z"⟩
abbrev cX5_put : ByteArray := prog_1_method_30_code
def yX5_put : MethodName := ⟨RX5, "put", "(IIJI)V"⟩
abbrev cX5_failed : ByteArray := prog_1_method_31_code
def yX5_failed : MethodName := ⟨RX5, "failed", "(I)I"⟩
abbrev cX5_giveUp : ByteArray := prog_1_method_32_code
def yX5_giveUp : MethodName := ⟨RX5, "giveUp", "(II)V"⟩
abbrev cX5_shadowOfTwo : ByteArray := prog_1_method_33_code
def yX5_shadowOfTwo : MethodName := ⟨RX5, "shadowOfTwo", "(III)I"⟩
abbrev cX5_dependentRegisters : ByteArray := prog_1_method_34_code
def yX5_dependentRegisters : MethodName := ⟨RX5, "dependentRegisters", "()I"⟩
abbrev cX5_unheld : ByteArray := prog_1_method_35_code
def yX5_unheld : MethodName := ⟨RX5, "unheld", "()LShadowMachine$Cells;"⟩
abbrev cX5_isHeld : ByteArray := prog_1_method_36_code
def yX5_isHeld : MethodName := ⟨RX5, "isHeld", "(LShadowMachine$Cells;)Z"⟩
def RX6 : String := "ShadowMachineModel"
def TX6 : u_T := fun k => match k with
  | 0 => ("ShadowMachineModel", "kind", "[I", true)
  | 1 => ("ShadowMachineModel", "set", "[I", true)
  | 2 => ("ShadowMachineModel", "bits", "[J", true)
  | 3 => ("ShadowMachineModel", "exact", "[Z", true)
  | 4 => ("ShadowMachineModel", "store", "[I", true)
  | 5 => ("ShadowMachineModel", "sort", "[I", true)
  | 6 => ("ShadowMachineModel", "size", "[I", true)
  | 7 => ("ShadowMachineModel", "pinOp", "[I", true)
  | 8 => ("ShadowMachineModel", "pinSet", "[I", true)
  | 9 => ("ShadowMachineModel", "wayTo", "[I", true)
  | 10 => ("ShadowMachineModel", "waySet", "[I", true)
  | 11 => ("ShadowMachineModel", "wayExact", "[I", true)
  | 12 => ("ShadowMachineModel", "pins", "I", false)
  | 13 => ("ShadowMachineModel", "ways", "I", false)
  | 14 => ("ShadowMachineModel", "thrown", "I", false)
  | 15 => ("ShadowMachineModel", "moved", "[I", true)
  | 16 => ("ShadowMachineModel", "movedBits", "[J", true)
  | 17 => ("ShadowMachineModel", "sortOf", "[I", true)
  | 18 => ("ShadowMachineModel", "power", "[I", true)
  | 19 => ("ShadowMachineModel", "minus", "[Z", true)
  | _ => ("ShadowMachineModel", "part", "[J", true)
def tyX6 : Nat → FieldType := fun k => match k with
  | 0 => .array .int
  | 1 => .array .int
  | 2 => .array .long
  | 3 => .array .boolean
  | 4 => .array .int
  | 5 => .array .int
  | 6 => .array .int
  | 7 => .array .int
  | 8 => .array .int
  | 9 => .array .int
  | 10 => .array .int
  | 11 => .array .int
  | 12 => .int
  | 13 => .int
  | 14 => .int
  | 15 => .array .int
  | 16 => .array .long
  | 17 => .array .int
  | 18 => .array .int
  | 19 => .array .boolean
  | _ => .array .long
abbrev wsX60 : List Cond := u_ws RX6 TX6 21
theorem nmX6 : ∀ a, a < 21 → ∀ b, b < 21 → a ≠ b → (TX6 a).2.1 ≠ (TX6 b).2.1 := by decide +kernel
theorem tyX6_ok : ∀ k, k < 21 → parseFieldDescriptor (TX6 k).2.2.1 = some (tyX6 k) := by decide +kernel
abbrev cX6_init : ByteArray := prog_8_method_1_code
def yX6_init : MethodName := ⟨RX6, "<init>", "()V"⟩
abbrev cX6_out : ByteArray := prog_8_method_2_code
def yX6_out : MethodName := ⟨RX6, "out", "(II)Z"⟩
abbrev cX6_places : ByteArray := prog_8_method_3_code
def yX6_places : MethodName := ⟨RX6, "places", "(Z)I"⟩
abbrev cX6_least : ByteArray := prog_8_method_4_code
def yX6_least : MethodName := ⟨RX6, "least", "(Z)I"⟩
abbrev cX6_none : ByteArray := prog_8_method_5_code
def yX6_none : MethodName := ⟨RX6, "none", "(Z)J"⟩
abbrev cX6_infinite : ByteArray := prog_8_method_6_code
def yX6_infinite : MethodName := ⟨RX6, "infinite", "(Z)J"⟩
abbrev cX6_signed : ByteArray := prog_8_method_7_code
def yX6_signed : MethodName := ⟨RX6, "signed", "(ZZJ)J"⟩
abbrev cX6_lengthOf : ByteArray := prog_8_method_8_code
def yX6_lengthOf : MethodName := ⟨RX6, "lengthOf", "(J)I"⟩
abbrev cX6_take : ByteArray := prog_8_method_9_code
def yX6_take : MethodName := ⟨RX6, "take", "(IJZ)V"⟩
abbrev cX6_spread : ByteArray := prog_8_method_10_code
def yX6_spread : MethodName := ⟨RX6, "spread", "(I)V"⟩
abbrev cX6_round : ByteArray := prog_8_method_11_code
def yX6_round : MethodName := ⟨RX6, "round", "(ZZJIZ)J"⟩
abbrev cX6_sum : ByteArray := prog_8_method_12_code
def yX6_sum : MethodName := ⟨RX6, "sum", "(ZJJ)J"⟩
abbrev cX6_product : ByteArray := prog_8_method_13_code
def yX6_product : MethodName := ⟨RX6, "product", "(ZJJ)J"⟩
abbrev cX6_quotient : ByteArray := prog_8_method_14_code
def yX6_quotient : MethodName := ⟨RX6, "quotient", "(ZJJ)J"⟩
abbrev cX6_remainder : ByteArray := prog_8_method_15_code
def yX6_remainder : MethodName := ⟨RX6, "remainder", "(ZJJ)J"⟩
abbrev cX6_fromWhole : ByteArray := prog_8_method_16_code
def yX6_fromWhole : MethodName := ⟨RX6, "fromWhole", "(ZJ)J"⟩
abbrev cX6_toWhole : ByteArray := prog_8_method_17_code
def yX6_toWhole : MethodName := ⟨RX6, "toWhole", "(ZJZ)J"⟩
abbrev cX6_otherFormat : ByteArray := prog_8_method_18_code
def yX6_otherFormat : MethodName := ⟨RX6, "otherFormat", "(ZJ)J"⟩
abbrev cX6_isNone : ByteArray := prog_8_method_19_code
def yX6_isNone : MethodName := ⟨RX6, "isNone", "(ZJ)Z"⟩
abbrev cX6_rank : ByteArray := prog_8_method_20_code
def yX6_rank : MethodName := ⟨RX6, "rank", "(ZJ)J"⟩
abbrev cX6_compared : ByteArray := prog_8_method_21_code
def yX6_compared : MethodName := ⟨RX6, "compared", "(IJJI)I"⟩
abbrev cX6_clean : ByteArray := prog_8_method_22_code
def yX6_clean : MethodName := ⟨RX6, "clean", "(IJ)J"⟩
abbrev cX6_put : ByteArray := prog_8_method_23_code
def yX6_put : MethodName := ⟨RX6, "put", "(IJIZ)V"⟩
abbrev cX6_fix : ByteArray := prog_8_method_24_code
def yX6_fix : MethodName := ⟨RX6, "fix", "(II)V"⟩
abbrev cX6_constant : ByteArray := prog_8_method_25_code
def yX6_constant : MethodName := ⟨RX6, "constant", "(IIJ)I"⟩
abbrev cX6_input : ByteArray := prog_8_method_26_code
def yX6_input : MethodName := ⟨RX6, "input", "(IIJI)I"⟩
abbrev cX6_wanted : ByteArray := prog_8_method_27_code
def yX6_wanted : MethodName := ⟨RX6, "wanted", "(I)I"⟩
abbrev cX6_converted : ByteArray := prog_8_method_28_code
def yX6_converted : MethodName := ⟨RX6, "converted", "(IJ)J"⟩
abbrev cX6_kindAfter : ByteArray := prog_8_method_29_code
def yX6_kindAfter : MethodName := ⟨RX6, "kindAfter", "(I)I"⟩
abbrev cX6_turned : ByteArray := prog_8_method_30_code
def yX6_turned : MethodName := ⟨RX6, "turned", "(IIJ)J"⟩
abbrev cX6_one : ByteArray := prog_8_method_31_code
def yX6_one : MethodName := ⟨RX6, "one", "(III)I"⟩
abbrev cX6_whole : ByteArray := prog_8_method_32_code
def yX6_whole : MethodName := ⟨RX6, "whole", "(IZJJ)J"⟩
abbrev cX6_pointed : ByteArray := prog_8_method_33_code
def yX6_pointed : MethodName := ⟨RX6, "pointed", "(IZJJ)J"⟩
abbrev cX6_two : ByteArray := prog_8_method_34_code
def yX6_two : MethodName := ⟨RX6, "two", "(IIII)I"⟩
abbrev cX6_move : ByteArray := prog_8_method_35_code
def yX6_move : MethodName := ⟨RX6, "move", "(II)I"⟩
abbrev cX6_exception : ByteArray := prog_8_method_36_code
def yX6_exception : MethodName := ⟨RX6, "exception", "(I)I"⟩
abbrev cX6_array : ByteArray := prog_8_method_37_code
def yX6_array : MethodName := ⟨RX6, "array", "(III)I"⟩
abbrev cX6_drop : ByteArray := prog_8_method_38_code
def yX6_drop : MethodName := ⟨RX6, "drop", "(I)I"⟩
abbrev cX6_share : ByteArray := prog_8_method_39_code
def yX6_share : MethodName := ⟨RX6, "share", "(II)I"⟩
abbrev cX6_kindOf : ByteArray := prog_8_method_40_code
def yX6_kindOf : MethodName := ⟨RX6, "kindOf", "(I)I"⟩
abbrev cX6_load : ByteArray := prog_8_method_41_code
def yX6_load : MethodName := ⟨RX6, "load", "(III)I"⟩
abbrev cX6_stored : ByteArray := prog_8_method_42_code
def yX6_stored : MethodName := ⟨RX6, "stored", "(IJ)J"⟩
abbrev cX6_store : ByteArray := prog_8_method_43_code
def yX6_store : MethodName := ⟨RX6, "store", "(III)I"⟩
abbrev cX6_length : ByteArray := prog_8_method_44_code
def yX6_length : MethodName := ⟨RX6, "length", "(II)I"⟩
abbrev cX6_copy : ByteArray := prog_8_method_45_code
def yX6_copy : MethodName := ⟨RX6, "copy", "(IIIII)I"⟩
abbrev cX6_branch : ByteArray := prog_8_method_46_code
def yX6_branch : MethodName := ⟨RX6, "branch", "(III)I"⟩
abbrev cX6_kind : ByteArray := prog_8_method_47_code
def yX6_kind : MethodName := ⟨RX6, "kind", "(I)I"⟩
abbrev cX6_bits : ByteArray := prog_8_method_48_code
def yX6_bits : MethodName := ⟨RX6, "bits", "(I)J"⟩
abbrev cX6_shadow : ByteArray := prog_8_method_49_code
def yX6_shadow : MethodName := ⟨RX6, "shadow", "(I)I"⟩
abbrev cX6_cell : ByteArray := prog_8_method_50_code
def yX6_cell : MethodName := ⟨RX6, "cell", "(III)J"⟩
abbrev cX6_pin : ByteArray := prog_8_method_51_code
def yX6_pin : MethodName := ⟨RX6, "pin", "(II)J"⟩
abbrev cX6_way : ByteArray := prog_8_method_52_code
def yX6_way : MethodName := ⟨RX6, "way", "(II)J"⟩
abbrev cX6_count : ByteArray := prog_8_method_53_code
def yX6_count : MethodName := ⟨RX6, "count", "(I)I"⟩
def RJx29ce0 : String := "java/lang/Enum"
def TJx29ce0 : u_T := fun k => match k with
  | _ => ("", "", "", false)
def tyJx29ce0 : Nat → FieldType := fun k => match k with
  | _ => .int
abbrev wsJx29ce00 : List Cond := u_ws RJx29ce0 TJx29ce0 0
theorem nmJx29ce0 : ∀ a, a < 0 → ∀ b, b < 0 → a ≠ b → (TJx29ce0 a).2.1 ≠ (TJx29ce0 b).2.1 := by decide +kernel
theorem tyJx29ce0_ok : ∀ k, k < 0 → parseFieldDescriptor (TJx29ce0 k).2.2.1 = some (tyJx29ce0 k) := by decide +kernel
def RJ6 : String := "java/lang/Integer"
def TJ6 : u_T := fun k => match k with
  | _ => ("", "", "", false)
def tyJ6 : Nat → FieldType := fun k => match k with
  | _ => .int
abbrev wsJ60 : List Cond := u_ws RJ6 TJ6 0
theorem nmJ6 : ∀ a, a < 0 → ∀ b, b < 0 → a ≠ b → (TJ6 a).2.1 ≠ (TJ6 b).2.1 := by decide +kernel
theorem tyJ6_ok : ∀ k, k < 0 → parseFieldDescriptor (TJ6 k).2.2.1 = some (tyJ6 k) := by decide +kernel
abbrev cJ6_numberOfLeadingZeros_0f7a4 : ByteArray := prog_10_method_47_code
def yJ6_numberOfLeadingZeros_0f7a4 : MethodName := ⟨RJ6, "numberOfLeadingZeros", "(I)I"⟩
def RJ13 : String := "java/lang/Long"
def TJ13 : u_T := fun k => match k with
  | _ => ("", "", "", false)
def tyJ13 : Nat → FieldType := fun k => match k with
  | _ => .int
abbrev wsJ130 : List Cond := u_ws RJ13 TJ13 0
theorem nmJ13 : ∀ a, a < 0 → ∀ b, b < 0 → a ≠ b → (TJ13 a).2.1 ≠ (TJ13 b).2.1 := by decide +kernel
theorem tyJ13_ok : ∀ k, k < 0 → parseFieldDescriptor (TJ13 k).2.2.1 = some (tyJ13 k) := by decide +kernel
abbrev cJ13_compare_74951 : ByteArray := prog_11_method_42_code
def yJ13_compare_74951 : MethodName := ⟨RJ13, "compare", "(JJ)I"⟩
abbrev cJ13_numberOfLeadingZeros_95d88 : ByteArray := prog_11_method_48_code
def yJ13_numberOfLeadingZeros_95d88 : MethodName := ⟨RJ13, "numberOfLeadingZeros", "(J)I"⟩
def RJ9 : String := "java/lang/Math"
def TJ9 : u_T := fun k => match k with
  | _ => ("", "", "", false)
def tyJ9 : Nat → FieldType := fun k => match k with
  | _ => .int
abbrev wsJ90 : List Cond := u_ws RJ9 TJ9 0
theorem nmJ9 : ∀ a, a < 0 → ∀ b, b < 0 → a ≠ b → (TJ9 a).2.1 ≠ (TJ9 b).2.1 := by decide +kernel
theorem tyJ9_ok : ∀ k, k < 0 → parseFieldDescriptor (TJ9 k).2.2.1 = some (tyJ9 k) := by decide +kernel
abbrev cJ9_abs_067f4 : ByteArray := prog_12_method_61_code
def yJ9_abs_067f4 : MethodName := ⟨RJ9, "abs", "(J)J"⟩
abbrev cJ9_max_7cf53 : ByteArray := prog_12_method_65_code
def yJ9_max_7cf53 : MethodName := ⟨RJ9, "max", "(II)I"⟩
abbrev cJ9_max_f86c9 : ByteArray := prog_12_method_66_code
def yJ9_max_f86c9 : MethodName := ⟨RJ9, "max", "(JJ)J"⟩
abbrev cJ9_min_7cf53 : ByteArray := prog_12_method_69_code
def yJ9_min_7cf53 : MethodName := ⟨RJ9, "min", "(II)I"⟩
abbrev cJ9_min_f86c9 : ByteArray := prog_12_method_70_code
def yJ9_min_f86c9 : MethodName := ⟨RJ9, "min", "(JJ)J"⟩
def RJ10 : String := "java/lang/System"
def TJ10 : u_T := fun k => match k with
  | _ => ("", "", "", false)
def tyJ10 : Nat → FieldType := fun k => match k with
  | _ => .int
abbrev wsJ100 : List Cond := u_ws RJ10 TJ10 0
theorem nmJ10 : ∀ a, a < 0 → ∀ b, b < 0 → a ≠ b → (TJ10 a).2.1 ≠ (TJ10 b).2.1 := by decide +kernel
theorem tyJ10_ok : ∀ k, k < 0 → parseFieldDescriptor (TJ10 k).2.2.1 = some (tyJ10 k) := by decide +kernel
def RL : String := "ShadowMachineLaw"
abbrev cL_law : ByteArray := code
def yL_law : MethodName := ⟨RL, "law", "([I)Z"⟩
end
section
theorem dX0_init_0 : decode cX0_init 0 = .ok (.aload_n 0, 1) := by decide +kernel
theorem dX0_init_1 : decode cX0_init 1 = .ok (.invokespecial 3, 3) := by decide +kernel
theorem dX0_init_4 : decode cX0_init 4 = .ok (.aload_n 0, 1) := by decide +kernel
theorem dX0_init_5 : decode cX0_init 5 = .ok (.bipush 12, 2) := by decide +kernel
theorem dX0_init_7 : decode cX0_init 7 = .ok (.newarray .long, 2) := by decide +kernel
theorem dX0_init_9 : decode cX0_init 9 = .ok (.putfield 9, 3) := by decide +kernel
theorem dX0_init_12 : decode cX0_init 12 = .ok (.aload_n 0, 1) := by decide +kernel
theorem dX0_init_13 : decode cX0_init 13 = .ok (.bipush 12, 2) := by decide +kernel
theorem dX0_init_15 : decode cX0_init 15 = .ok (.newarray .int, 2) := by decide +kernel
theorem dX0_init_17 : decode cX0_init 17 = .ok (.putfield 15, 3) := by decide +kernel
theorem dX0_init_20 : decode cX0_init 20 = .ok (.return_, 1) := by decide +kernel
theorem dX0_renew_0 : decode cX0_renew 0 = .ok (.aload_n 0, 1) := by decide +kernel
theorem dX0_renew_1 : decode cX0_renew 1 = .ok (.iload_n 1, 1) := by decide +kernel
theorem dX0_renew_2 : decode cX0_renew 2 = .ok (.putfield 19, 3) := by decide +kernel
theorem dX0_renew_5 : decode cX0_renew 5 = .ok (.aload_n 0, 1) := by decide +kernel
theorem dX0_renew_6 : decode cX0_renew 6 = .ok (.iload_n 2, 1) := by decide +kernel
theorem dX0_renew_7 : decode cX0_renew 7 = .ok (.putfield 23, 3) := by decide +kernel
theorem dX0_renew_10 : decode cX0_renew 10 = .ok (.iconst 0, 1) := by decide +kernel
theorem dX0_renew_11 : decode cX0_renew 11 = .ok (.istore_n 3, 1) := by decide +kernel
theorem dX0_renew_12 : decode cX0_renew 12 = .ok (.iload_n 3, 1) := by decide +kernel
theorem dX0_renew_13 : decode cX0_renew 13 = .ok (.bipush 12, 2) := by decide +kernel
theorem dX0_renew_15 : decode cX0_renew 15 = .ok (.if_icmp .ge 24, 3) := by decide +kernel
theorem dX0_renew_18 : decode cX0_renew 18 = .ok (.aload_n 0, 1) := by decide +kernel
theorem dX0_renew_19 : decode cX0_renew 19 = .ok (.getfield 9, 3) := by decide +kernel
theorem dX0_renew_22 : decode cX0_renew 22 = .ok (.iload_n 3, 1) := by decide +kernel
theorem dX0_renew_23 : decode cX0_renew 23 = .ok (.lconst 0, 1) := by decide +kernel
theorem dX0_renew_24 : decode cX0_renew 24 = .ok (.lastore, 1) := by decide +kernel
theorem dX0_renew_25 : decode cX0_renew 25 = .ok (.aload_n 0, 1) := by decide +kernel
theorem dX0_renew_26 : decode cX0_renew 26 = .ok (.getfield 15, 3) := by decide +kernel
theorem dX0_renew_29 : decode cX0_renew 29 = .ok (.iload_n 3, 1) := by decide +kernel
theorem dX0_renew_30 : decode cX0_renew 30 = .ok (.bipush 64, 2) := by decide +kernel
theorem dX0_renew_32 : decode cX0_renew 32 = .ok (.iastore, 1) := by decide +kernel
theorem dX0_renew_33 : decode cX0_renew 33 = .ok (.iinc 3 1, 3) := by decide +kernel
theorem dX0_renew_36 : decode cX0_renew 36 = .ok (.goto (-24), 3) := by decide +kernel
theorem dX0_renew_39 : decode cX0_renew 39 = .ok (.return_, 1) := by decide +kernel
theorem dX0_kindTaken_0 : decode cX0_kindTaken 0 = .ok (.aload_n 0, 1) := by decide +kernel
theorem dX0_kindTaken_1 : decode cX0_kindTaken 1 = .ok (.getfield 19, 3) := by decide +kernel
theorem dX0_kindTaken_4 : decode cX0_kindTaken 4 = .ok (.iconst 4, 1) := by decide +kernel
theorem dX0_kindTaken_5 : decode cX0_kindTaken 5 = .ok (.if_icmp .ge 7, 3) := by decide +kernel
theorem dX0_kindTaken_8 : decode cX0_kindTaken 8 = .ok (.iconst 0, 1) := by decide +kernel
theorem dX0_kindTaken_9 : decode cX0_kindTaken 9 = .ok (.goto 9, 3) := by decide +kernel
theorem dX0_kindTaken_12 : decode cX0_kindTaken 12 = .ok (.aload_n 0, 1) := by decide +kernel
theorem dX0_kindTaken_13 : decode cX0_kindTaken 13 = .ok (.getfield 19, 3) := by decide +kernel
theorem dX0_kindTaken_16 : decode cX0_kindTaken 16 = .ok (.iconst 4, 1) := by decide +kernel
theorem dX0_kindTaken_17 : decode cX0_kindTaken 17 = .ok (.isub, 1) := by decide +kernel
theorem dX0_kindTaken_18 : decode cX0_kindTaken 18 = .ok (.ireturn, 1) := by decide +kernel
theorem dX0_hasRun_0 : decode cX0_hasRun 0 = .ok (.iload_n 1, 1) := by decide +kernel
theorem dX0_hasRun_1 : decode cX0_hasRun 1 = .ok (.ifCond .lt 25, 3) := by decide +kernel
theorem dX0_hasRun_4 : decode cX0_hasRun 4 = .ok (.iload_n 2, 1) := by decide +kernel
theorem dX0_hasRun_5 : decode cX0_hasRun 5 = .ok (.ifCond .lt 21, 3) := by decide +kernel
theorem dX0_hasRun_8 : decode cX0_hasRun 8 = .ok (.iload_n 1, 1) := by decide +kernel
theorem dX0_hasRun_9 : decode cX0_hasRun 9 = .ok (.i2l, 1) := by decide +kernel
theorem dX0_hasRun_10 : decode cX0_hasRun 10 = .ok (.iload_n 2, 1) := by decide +kernel
theorem dX0_hasRun_11 : decode cX0_hasRun 11 = .ok (.i2l, 1) := by decide +kernel
theorem dX0_hasRun_12 : decode cX0_hasRun 12 = .ok (.ladd, 1) := by decide +kernel
theorem dX0_hasRun_13 : decode cX0_hasRun 13 = .ok (.aload_n 0, 1) := by decide +kernel
theorem dX0_hasRun_14 : decode cX0_hasRun 14 = .ok (.getfield 23, 3) := by decide +kernel
theorem dX0_hasRun_17 : decode cX0_hasRun 17 = .ok (.i2l, 1) := by decide +kernel
theorem dX0_hasRun_18 : decode cX0_hasRun 18 = .ok (.lcmp, 1) := by decide +kernel
theorem dX0_hasRun_19 : decode cX0_hasRun 19 = .ok (.ifCond .gt 7, 3) := by decide +kernel
theorem dX0_hasRun_22 : decode cX0_hasRun 22 = .ok (.iconst 1, 1) := by decide +kernel
theorem dX0_hasRun_23 : decode cX0_hasRun 23 = .ok (.goto 4, 3) := by decide +kernel
theorem dX0_hasRun_26 : decode cX0_hasRun 26 = .ok (.iconst 0, 1) := by decide +kernel
theorem dX0_hasRun_27 : decode cX0_hasRun 27 = .ok (.ireturn, 1) := by decide +kernel
theorem dX0_keep_0 : decode cX0_keep 0 = .ok (.aload_n 0, 1) := by decide +kernel
theorem dX0_keep_1 : decode cX0_keep 1 = .ok (.getfield 9, 3) := by decide +kernel
theorem dX0_keep_4 : decode cX0_keep 4 = .ok (.iload_n 1, 1) := by decide +kernel
theorem dX0_keep_5 : decode cX0_keep 5 = .ok (.aload_n 0, 1) := by decide +kernel
theorem dX0_keep_6 : decode cX0_keep 6 = .ok (.lload_n 2, 1) := by decide +kernel
theorem dX0_keep_7 : decode cX0_keep 7 = .ok (.invokevirtual 26, 3) := by decide +kernel
theorem dX0_keep_10 : decode cX0_keep 10 = .ok (.lastore, 1) := by decide +kernel
theorem dX0_keep_11 : decode cX0_keep 11 = .ok (.aload_n 0, 1) := by decide +kernel
theorem dX0_keep_12 : decode cX0_keep 12 = .ok (.getfield 15, 3) := by decide +kernel
theorem dX0_keep_15 : decode cX0_keep 15 = .ok (.iload_n 1, 1) := by decide +kernel
theorem dX0_keep_16 : decode cX0_keep 16 = .ok (.aload_n 0, 1) := by decide +kernel
theorem dX0_keep_17 : decode cX0_keep 17 = .ok (.getfield 19, 3) := by decide +kernel
theorem dX0_keep_20 : decode cX0_keep 20 = .ok (.iconst 4, 1) := by decide +kernel
theorem dX0_keep_21 : decode cX0_keep 21 = .ok (.if_icmp .ge 11, 3) := by decide +kernel
theorem dX0_keep_24 : decode cX0_keep 24 = .ok (.iload 4, 2) := by decide +kernel
theorem dX0_keep_26 : decode cX0_keep 26 = .ok (.invokestatic 30, 3) := by decide +kernel
theorem dX0_keep_29 : decode cX0_keep 29 = .ok (.goto 5, 3) := by decide +kernel
theorem dX0_keep_32 : decode cX0_keep 32 = .ok (.iload 4, 2) := by decide +kernel
theorem dX0_keep_34 : decode cX0_keep 34 = .ok (.iastore, 1) := by decide +kernel
theorem dX0_keep_35 : decode cX0_keep 35 = .ok (.return_, 1) := by decide +kernel
theorem dX0_narrowed_0 : decode cX0_narrowed 0 = .ok (.aload_n 0, 1) := by decide +kernel
theorem dX0_narrowed_1 : decode cX0_narrowed 1 = .ok (.getfield 19, 3) := by decide +kernel
theorem dX0_narrowed_4 : decode cX0_narrowed 4 = .ok (.tableswitch 51 0 3 #[32, 36, 41, 46], 32) := by decide +kernel
theorem dX0_narrowed_36 : decode cX0_narrowed 36 = .ok (.lload_n 1, 1) := by decide +kernel
theorem dX0_narrowed_37 : decode cX0_narrowed 37 = .ok (.lconst 1, 1) := by decide +kernel
theorem dX0_narrowed_38 : decode cX0_narrowed 38 = .ok (.land, 1) := by decide +kernel
theorem dX0_narrowed_39 : decode cX0_narrowed 39 = .ok (.lreturn, 1) := by decide +kernel
theorem dX0_narrowed_40 : decode cX0_narrowed 40 = .ok (.lload_n 1, 1) := by decide +kernel
theorem dX0_narrowed_41 : decode cX0_narrowed 41 = .ok (.l2i, 1) := by decide +kernel
theorem dX0_narrowed_42 : decode cX0_narrowed 42 = .ok (.i2b, 1) := by decide +kernel
theorem dX0_narrowed_43 : decode cX0_narrowed 43 = .ok (.i2l, 1) := by decide +kernel
theorem dX0_narrowed_44 : decode cX0_narrowed 44 = .ok (.lreturn, 1) := by decide +kernel
theorem dX0_narrowed_45 : decode cX0_narrowed 45 = .ok (.lload_n 1, 1) := by decide +kernel
theorem dX0_narrowed_46 : decode cX0_narrowed 46 = .ok (.l2i, 1) := by decide +kernel
theorem dX0_narrowed_47 : decode cX0_narrowed 47 = .ok (.i2c, 1) := by decide +kernel
theorem dX0_narrowed_48 : decode cX0_narrowed 48 = .ok (.i2l, 1) := by decide +kernel
theorem dX0_narrowed_49 : decode cX0_narrowed 49 = .ok (.lreturn, 1) := by decide +kernel
theorem dX0_narrowed_50 : decode cX0_narrowed 50 = .ok (.lload_n 1, 1) := by decide +kernel
theorem dX0_narrowed_51 : decode cX0_narrowed 51 = .ok (.l2i, 1) := by decide +kernel
theorem dX0_narrowed_52 : decode cX0_narrowed 52 = .ok (.i2s, 1) := by decide +kernel
theorem dX0_narrowed_53 : decode cX0_narrowed 53 = .ok (.i2l, 1) := by decide +kernel
theorem dX0_narrowed_54 : decode cX0_narrowed 54 = .ok (.lreturn, 1) := by decide +kernel
theorem dX0_narrowed_55 : decode cX0_narrowed 55 = .ok (.lload_n 1, 1) := by decide +kernel
theorem dX0_narrowed_56 : decode cX0_narrowed 56 = .ok (.lreturn, 1) := by decide +kernel
theorem dX1_withOneNan_0 : decode cX1_withOneNan 0 = .ok (.aload_n 0, 1) := by decide +kernel
theorem dX1_withOneNan_1 : decode cX1_withOneNan 1 = .ok (.lload_n 1, 1) := by decide +kernel
theorem dX1_withOneNan_2 : decode cX1_withOneNan 2 = .ok (.invokevirtual 51, 3) := by decide +kernel
theorem dX1_withOneNan_5 : decode cX1_withOneNan 5 = .ok (.ifCond .eq 10, 3) := by decide +kernel
theorem dX1_withOneNan_8 : decode cX1_withOneNan 8 = .ok (.aload_n 0, 1) := by decide +kernel
theorem dX1_withOneNan_9 : decode cX1_withOneNan 9 = .ok (.getfield 48, 3) := by decide +kernel
theorem dX1_withOneNan_12 : decode cX1_withOneNan 12 = .ok (.goto 4, 3) := by decide +kernel
theorem dX1_withOneNan_15 : decode cX1_withOneNan 15 = .ok (.lload_n 1, 1) := by decide +kernel
theorem dX1_withOneNan_16 : decode cX1_withOneNan 16 = .ok (.lreturn, 1) := by decide +kernel
theorem dX1_negated_0 : decode cX1_negated 0 = .ok (.aload_n 0, 1) := by decide +kernel
theorem dX1_negated_1 : decode cX1_negated 1 = .ok (.lload_n 1, 1) := by decide +kernel
theorem dX1_negated_2 : decode cX1_negated 2 = .ok (.invokevirtual 51, 3) := by decide +kernel
theorem dX1_negated_5 : decode cX1_negated 5 = .ok (.ifCond .eq 10, 3) := by decide +kernel
theorem dX1_negated_8 : decode cX1_negated 8 = .ok (.aload_n 0, 1) := by decide +kernel
theorem dX1_negated_9 : decode cX1_negated 9 = .ok (.getfield 48, 3) := by decide +kernel
theorem dX1_negated_12 : decode cX1_negated 12 = .ok (.goto 9, 3) := by decide +kernel
theorem dX1_negated_15 : decode cX1_negated 15 = .ok (.lload_n 1, 1) := by decide +kernel
theorem dX1_negated_16 : decode cX1_negated 16 = .ok (.aload_n 0, 1) := by decide +kernel
theorem dX1_negated_17 : decode cX1_negated 17 = .ok (.getfield 36, 3) := by decide +kernel
theorem dX1_negated_20 : decode cX1_negated 20 = .ok (.lxor, 1) := by decide +kernel
theorem dX1_negated_21 : decode cX1_negated 21 = .ok (.lreturn, 1) := by decide +kernel
theorem dX1_magnitude_0 : decode cX1_magnitude 0 = .ok (.lload_n 1, 1) := by decide +kernel
theorem dX1_magnitude_1 : decode cX1_magnitude 1 = .ok (.aload_n 0, 1) := by decide +kernel
theorem dX1_magnitude_2 : decode cX1_magnitude 2 = .ok (.getfield 36, 3) := by decide +kernel
theorem dX1_magnitude_5 : decode cX1_magnitude 5 = .ok (.ldc2_w 40, 3) := by decide +kernel
theorem dX1_magnitude_8 : decode cX1_magnitude 8 = .ok (.lxor, 1) := by decide +kernel
theorem dX1_magnitude_9 : decode cX1_magnitude 9 = .ok (.land, 1) := by decide +kernel
theorem dX1_magnitude_10 : decode cX1_magnitude 10 = .ok (.lreturn, 1) := by decide +kernel
theorem dX1_least_0 : decode cX1_least 0 = .ok (.aload_n 0, 1) := by decide +kernel
theorem dX1_least_1 : decode cX1_least 1 = .ok (.lload_n 1, 1) := by decide +kernel
theorem dX1_least_2 : decode cX1_least 2 = .ok (.invokevirtual 51, 3) := by decide +kernel
theorem dX1_least_5 : decode cX1_least 5 = .ok (.ifCond .ne 11, 3) := by decide +kernel
theorem dX1_least_8 : decode cX1_least 8 = .ok (.aload_n 0, 1) := by decide +kernel
theorem dX1_least_9 : decode cX1_least 9 = .ok (.lload_n 3, 1) := by decide +kernel
theorem dX1_least_10 : decode cX1_least 10 = .ok (.invokevirtual 51, 3) := by decide +kernel
theorem dX1_least_13 : decode cX1_least 13 = .ok (.ifCond .eq 8, 3) := by decide +kernel
theorem dX1_least_16 : decode cX1_least 16 = .ok (.aload_n 0, 1) := by decide +kernel
theorem dX1_least_17 : decode cX1_least 17 = .ok (.getfield 48, 3) := by decide +kernel
theorem dX1_least_20 : decode cX1_least 20 = .ok (.lreturn, 1) := by decide +kernel
theorem dX1_least_21 : decode cX1_least 21 = .ok (.aload_n 0, 1) := by decide +kernel
theorem dX1_least_22 : decode cX1_least 22 = .ok (.lload_n 1, 1) := by decide +kernel
theorem dX1_least_23 : decode cX1_least 23 = .ok (.invokevirtual 55, 3) := by decide +kernel
theorem dX1_least_26 : decode cX1_least 26 = .ok (.aload_n 0, 1) := by decide +kernel
theorem dX1_least_27 : decode cX1_least 27 = .ok (.lload_n 3, 1) := by decide +kernel
theorem dX1_least_28 : decode cX1_least 28 = .ok (.invokevirtual 55, 3) := by decide +kernel
theorem dX1_least_31 : decode cX1_least 31 = .ok (.lcmp, 1) := by decide +kernel
theorem dX1_least_32 : decode cX1_least 32 = .ok (.ifCond .ne 9, 3) := by decide +kernel
theorem dX1_least_35 : decode cX1_least 35 = .ok (.lload_n 1, 1) := by decide +kernel
theorem dX1_least_36 : decode cX1_least 36 = .ok (.lload_n 3, 1) := by decide +kernel
theorem dX1_least_37 : decode cX1_least 37 = .ok (.lor, 1) := by decide +kernel
theorem dX1_least_38 : decode cX1_least 38 = .ok (.goto 22, 3) := by decide +kernel
theorem dX1_least_41 : decode cX1_least 41 = .ok (.aload_n 0, 1) := by decide +kernel
theorem dX1_least_42 : decode cX1_least 42 = .ok (.lload_n 1, 1) := by decide +kernel
theorem dX1_least_43 : decode cX1_least 43 = .ok (.invokevirtual 55, 3) := by decide +kernel
theorem dX1_least_46 : decode cX1_least 46 = .ok (.aload_n 0, 1) := by decide +kernel
theorem dX1_least_47 : decode cX1_least 47 = .ok (.lload_n 3, 1) := by decide +kernel
theorem dX1_least_48 : decode cX1_least 48 = .ok (.invokevirtual 55, 3) := by decide +kernel
theorem dX1_least_51 : decode cX1_least 51 = .ok (.lcmp, 1) := by decide +kernel
theorem dX1_least_52 : decode cX1_least 52 = .ok (.ifCond .ge 7, 3) := by decide +kernel
theorem dX1_least_55 : decode cX1_least 55 = .ok (.lload_n 1, 1) := by decide +kernel
theorem dX1_least_56 : decode cX1_least 56 = .ok (.goto 4, 3) := by decide +kernel
theorem dX1_least_59 : decode cX1_least 59 = .ok (.lload_n 3, 1) := by decide +kernel
theorem dX1_least_60 : decode cX1_least 60 = .ok (.lreturn, 1) := by decide +kernel
theorem dX1_greatest_0 : decode cX1_greatest 0 = .ok (.aload_n 0, 1) := by decide +kernel
theorem dX1_greatest_1 : decode cX1_greatest 1 = .ok (.lload_n 1, 1) := by decide +kernel
theorem dX1_greatest_2 : decode cX1_greatest 2 = .ok (.invokevirtual 51, 3) := by decide +kernel
theorem dX1_greatest_5 : decode cX1_greatest 5 = .ok (.ifCond .ne 11, 3) := by decide +kernel
theorem dX1_greatest_8 : decode cX1_greatest 8 = .ok (.aload_n 0, 1) := by decide +kernel
theorem dX1_greatest_9 : decode cX1_greatest 9 = .ok (.lload_n 3, 1) := by decide +kernel
theorem dX1_greatest_10 : decode cX1_greatest 10 = .ok (.invokevirtual 51, 3) := by decide +kernel
theorem dX1_greatest_13 : decode cX1_greatest 13 = .ok (.ifCond .eq 8, 3) := by decide +kernel
theorem dX1_greatest_16 : decode cX1_greatest 16 = .ok (.aload_n 0, 1) := by decide +kernel
theorem dX1_greatest_17 : decode cX1_greatest 17 = .ok (.getfield 48, 3) := by decide +kernel
theorem dX1_greatest_20 : decode cX1_greatest 20 = .ok (.lreturn, 1) := by decide +kernel
theorem dX1_greatest_21 : decode cX1_greatest 21 = .ok (.aload_n 0, 1) := by decide +kernel
theorem dX1_greatest_22 : decode cX1_greatest 22 = .ok (.lload_n 1, 1) := by decide +kernel
theorem dX1_greatest_23 : decode cX1_greatest 23 = .ok (.invokevirtual 55, 3) := by decide +kernel
theorem dX1_greatest_26 : decode cX1_greatest 26 = .ok (.aload_n 0, 1) := by decide +kernel
theorem dX1_greatest_27 : decode cX1_greatest 27 = .ok (.lload_n 3, 1) := by decide +kernel
theorem dX1_greatest_28 : decode cX1_greatest 28 = .ok (.invokevirtual 55, 3) := by decide +kernel
theorem dX1_greatest_31 : decode cX1_greatest 31 = .ok (.lcmp, 1) := by decide +kernel
theorem dX1_greatest_32 : decode cX1_greatest 32 = .ok (.ifCond .ne 9, 3) := by decide +kernel
theorem dX1_greatest_35 : decode cX1_greatest 35 = .ok (.lload_n 1, 1) := by decide +kernel
theorem dX1_greatest_36 : decode cX1_greatest 36 = .ok (.lload_n 3, 1) := by decide +kernel
theorem dX1_greatest_37 : decode cX1_greatest 37 = .ok (.land, 1) := by decide +kernel
theorem dX1_greatest_38 : decode cX1_greatest 38 = .ok (.goto 22, 3) := by decide +kernel
theorem dX1_greatest_41 : decode cX1_greatest 41 = .ok (.aload_n 0, 1) := by decide +kernel
theorem dX1_greatest_42 : decode cX1_greatest 42 = .ok (.lload_n 1, 1) := by decide +kernel
theorem dX1_greatest_43 : decode cX1_greatest 43 = .ok (.invokevirtual 55, 3) := by decide +kernel
theorem dX1_greatest_46 : decode cX1_greatest 46 = .ok (.aload_n 0, 1) := by decide +kernel
theorem dX1_greatest_47 : decode cX1_greatest 47 = .ok (.lload_n 3, 1) := by decide +kernel
theorem dX1_greatest_48 : decode cX1_greatest 48 = .ok (.invokevirtual 55, 3) := by decide +kernel
theorem dX1_greatest_51 : decode cX1_greatest 51 = .ok (.lcmp, 1) := by decide +kernel
theorem dX1_greatest_52 : decode cX1_greatest 52 = .ok (.ifCond .le 7, 3) := by decide +kernel
theorem dX1_greatest_55 : decode cX1_greatest 55 = .ok (.lload_n 1, 1) := by decide +kernel
theorem dX1_greatest_56 : decode cX1_greatest 56 = .ok (.goto 4, 3) := by decide +kernel
theorem dX1_greatest_59 : decode cX1_greatest 59 = .ok (.lload_n 3, 1) := by decide +kernel
theorem dX1_greatest_60 : decode cX1_greatest 60 = .ok (.lreturn, 1) := by decide +kernel
theorem dX1_compared_0 : decode cX1_compared 0 = .ok (.aload_n 0, 1) := by decide +kernel
theorem dX1_compared_1 : decode cX1_compared 1 = .ok (.lload_n 1, 1) := by decide +kernel
theorem dX1_compared_2 : decode cX1_compared 2 = .ok (.invokevirtual 51, 3) := by decide +kernel
theorem dX1_compared_5 : decode cX1_compared 5 = .ok (.ifCond .ne 11, 3) := by decide +kernel
theorem dX1_compared_8 : decode cX1_compared 8 = .ok (.aload_n 0, 1) := by decide +kernel
theorem dX1_compared_9 : decode cX1_compared 9 = .ok (.lload_n 3, 1) := by decide +kernel
theorem dX1_compared_10 : decode cX1_compared 10 = .ok (.invokevirtual 51, 3) := by decide +kernel
theorem dX1_compared_13 : decode cX1_compared 13 = .ok (.ifCond .eq 8, 3) := by decide +kernel
theorem dX1_compared_16 : decode cX1_compared 16 = .ok (.iload 5, 2) := by decide +kernel
theorem dX1_compared_18 : decode cX1_compared 18 = .ok (.goto 16, 3) := by decide +kernel
theorem dX1_compared_21 : decode cX1_compared 21 = .ok (.aload_n 0, 1) := by decide +kernel
theorem dX1_compared_22 : decode cX1_compared 22 = .ok (.lload_n 1, 1) := by decide +kernel
theorem dX1_compared_23 : decode cX1_compared 23 = .ok (.invokevirtual 55, 3) := by decide +kernel
theorem dX1_compared_26 : decode cX1_compared 26 = .ok (.aload_n 0, 1) := by decide +kernel
theorem dX1_compared_27 : decode cX1_compared 27 = .ok (.lload_n 3, 1) := by decide +kernel
theorem dX1_compared_28 : decode cX1_compared 28 = .ok (.invokevirtual 55, 3) := by decide +kernel
theorem dX1_compared_31 : decode cX1_compared 31 = .ok (.invokestatic 59, 3) := by decide +kernel
theorem dX1_compared_34 : decode cX1_compared 34 = .ok (.ireturn, 1) := by decide +kernel
theorem dX1_ofWhole_0 : decode cX1_ofWhole 0 = .ok (.lload_n 1, 1) := by decide +kernel
theorem dX1_ofWhole_1 : decode cX1_ofWhole 1 = .ok (.lconst 0, 1) := by decide +kernel
theorem dX1_ofWhole_2 : decode cX1_ofWhole 2 = .ok (.lcmp, 1) := by decide +kernel
theorem dX1_ofWhole_3 : decode cX1_ofWhole 3 = .ok (.ifCond .ne 5, 3) := by decide +kernel
theorem dX1_ofWhole_6 : decode cX1_ofWhole 6 = .ok (.lconst 0, 1) := by decide +kernel
theorem dX1_ofWhole_7 : decode cX1_ofWhole 7 = .ok (.lreturn, 1) := by decide +kernel
theorem dX1_ofWhole_8 : decode cX1_ofWhole 8 = .ok (.lload_n 1, 1) := by decide +kernel
theorem dX1_ofWhole_9 : decode cX1_ofWhole 9 = .ok (.ldc2_w 65, 3) := by decide +kernel
theorem dX1_ofWhole_12 : decode cX1_ofWhole 12 = .ok (.lcmp, 1) := by decide +kernel
theorem dX1_ofWhole_13 : decode cX1_ofWhole 13 = .ok (.ifCond .ne 13, 3) := by decide +kernel
theorem dX1_ofWhole_16 : decode cX1_ofWhole 16 = .ok (.aload_n 0, 1) := by decide +kernel
theorem dX1_ofWhole_17 : decode cX1_ofWhole 17 = .ok (.iconst 1, 1) := by decide +kernel
theorem dX1_ofWhole_18 : decode cX1_ofWhole 18 = .ok (.iconst 1, 1) := by decide +kernel
theorem dX1_ofWhole_19 : decode cX1_ofWhole 19 = .ok (.ldc2_w 67, 3) := by decide +kernel
theorem dX1_ofWhole_22 : decode cX1_ofWhole 22 = .ok (.invokevirtual 69, 3) := by decide +kernel
theorem dX1_ofWhole_25 : decode cX1_ofWhole 25 = .ok (.lreturn, 1) := by decide +kernel
theorem dX1_ofWhole_26 : decode cX1_ofWhole 26 = .ok (.aload_n 0, 1) := by decide +kernel
theorem dX1_ofWhole_27 : decode cX1_ofWhole 27 = .ok (.lload_n 1, 1) := by decide +kernel
theorem dX1_ofWhole_28 : decode cX1_ofWhole 28 = .ok (.lconst 0, 1) := by decide +kernel
theorem dX1_ofWhole_29 : decode cX1_ofWhole 29 = .ok (.lcmp, 1) := by decide +kernel
theorem dX1_ofWhole_30 : decode cX1_ofWhole 30 = .ok (.ifCond .ge 7, 3) := by decide +kernel
theorem dX1_ofWhole_33 : decode cX1_ofWhole 33 = .ok (.iconst 1, 1) := by decide +kernel
theorem dX1_ofWhole_34 : decode cX1_ofWhole 34 = .ok (.goto 4, 3) := by decide +kernel
theorem dX1_ofWhole_37 : decode cX1_ofWhole 37 = .ok (.iconst 0, 1) := by decide +kernel
theorem dX1_ofWhole_38 : decode cX1_ofWhole 38 = .ok (.iconst 0, 1) := by decide +kernel
theorem dX1_ofWhole_39 : decode cX1_ofWhole 39 = .ok (.lload_n 1, 1) := by decide +kernel
theorem dX1_ofWhole_40 : decode cX1_ofWhole 40 = .ok (.invokestatic 73, 3) := by decide +kernel
theorem dX1_ofWhole_43 : decode cX1_ofWhole 43 = .ok (.invokevirtual 69, 3) := by decide +kernel
theorem dX1_ofWhole_46 : decode cX1_ofWhole 46 = .ok (.lreturn, 1) := by decide +kernel
theorem dX1_ofOther_0 : decode cX1_ofOther 0 = .ok (.aload_n 1, 1) := by decide +kernel
theorem dX1_ofOther_1 : decode cX1_ofOther 1 = .ok (.lload_n 2, 1) := by decide +kernel
theorem dX1_ofOther_2 : decode cX1_ofOther 2 = .ok (.invokevirtual 51, 3) := by decide +kernel
theorem dX1_ofOther_5 : decode cX1_ofOther 5 = .ok (.ifCond .eq 8, 3) := by decide +kernel
theorem dX1_ofOther_8 : decode cX1_ofOther 8 = .ok (.aload_n 0, 1) := by decide +kernel
theorem dX1_ofOther_9 : decode cX1_ofOther 9 = .ok (.getfield 48, 3) := by decide +kernel
theorem dX1_ofOther_12 : decode cX1_ofOther 12 = .ok (.lreturn, 1) := by decide +kernel
theorem dX1_ofOther_13 : decode cX1_ofOther 13 = .ok (.aload_n 1, 1) := by decide +kernel
theorem dX1_ofOther_14 : decode cX1_ofOther 14 = .ok (.lload_n 2, 1) := by decide +kernel
theorem dX1_ofOther_15 : decode cX1_ofOther 15 = .ok (.invokevirtual 78, 3) := by decide +kernel
theorem dX1_ofOther_18 : decode cX1_ofOther 18 = .ok (.ifCond .eq 17, 3) := by decide +kernel
theorem dX1_ofOther_21 : decode cX1_ofOther 21 = .ok (.aload_n 0, 1) := by decide +kernel
theorem dX1_ofOther_22 : decode cX1_ofOther 22 = .ok (.aload_n 1, 1) := by decide +kernel
theorem dX1_ofOther_23 : decode cX1_ofOther 23 = .ok (.lload_n 2, 1) := by decide +kernel
theorem dX1_ofOther_24 : decode cX1_ofOther 24 = .ok (.invokevirtual 81, 3) := by decide +kernel
theorem dX1_ofOther_27 : decode cX1_ofOther 27 = .ok (.aload_n 0, 1) := by decide +kernel
theorem dX1_ofOther_28 : decode cX1_ofOther 28 = .ok (.getfield 45, 3) := by decide +kernel
theorem dX1_ofOther_31 : decode cX1_ofOther 31 = .ok (.invokevirtual 84, 3) := by decide +kernel
theorem dX1_ofOther_34 : decode cX1_ofOther 34 = .ok (.lreturn, 1) := by decide +kernel
theorem dX1_ofOther_35 : decode cX1_ofOther 35 = .ok (.aload_n 1, 1) := by decide +kernel
theorem dX1_ofOther_36 : decode cX1_ofOther 36 = .ok (.lload_n 2, 1) := by decide +kernel
theorem dX1_ofOther_37 : decode cX1_ofOther 37 = .ok (.invokevirtual 88, 3) := by decide +kernel
theorem dX1_ofOther_40 : decode cX1_ofOther 40 = .ok (.ifCond .eq 14, 3) := by decide +kernel
theorem dX1_ofOther_43 : decode cX1_ofOther 43 = .ok (.aload_n 0, 1) := by decide +kernel
theorem dX1_ofOther_44 : decode cX1_ofOther 44 = .ok (.aload_n 1, 1) := by decide +kernel
theorem dX1_ofOther_45 : decode cX1_ofOther 45 = .ok (.lload_n 2, 1) := by decide +kernel
theorem dX1_ofOther_46 : decode cX1_ofOther 46 = .ok (.invokevirtual 81, 3) := by decide +kernel
theorem dX1_ofOther_49 : decode cX1_ofOther 49 = .ok (.lconst 0, 1) := by decide +kernel
theorem dX1_ofOther_50 : decode cX1_ofOther 50 = .ok (.invokevirtual 84, 3) := by decide +kernel
theorem dX1_ofOther_53 : decode cX1_ofOther 53 = .ok (.lreturn, 1) := by decide +kernel
theorem dX1_ofOther_54 : decode cX1_ofOther 54 = .ok (.aload_n 0, 1) := by decide +kernel
theorem dX1_ofOther_55 : decode cX1_ofOther 55 = .ok (.aload_n 1, 1) := by decide +kernel
theorem dX1_ofOther_56 : decode cX1_ofOther 56 = .ok (.lload_n 2, 1) := by decide +kernel
theorem dX1_ofOther_57 : decode cX1_ofOther 57 = .ok (.invokevirtual 81, 3) := by decide +kernel
theorem dX1_ofOther_60 : decode cX1_ofOther 60 = .ok (.aload_n 1, 1) := by decide +kernel
theorem dX1_ofOther_61 : decode cX1_ofOther 61 = .ok (.lload_n 2, 1) := by decide +kernel
theorem dX1_ofOther_62 : decode cX1_ofOther 62 = .ok (.invokevirtual 91, 3) := by decide +kernel
theorem dX1_ofOther_65 : decode cX1_ofOther 65 = .ok (.aload_n 1, 1) := by decide +kernel
theorem dX1_ofOther_66 : decode cX1_ofOther 66 = .ok (.lload_n 2, 1) := by decide +kernel
theorem dX1_ofOther_67 : decode cX1_ofOther 67 = .ok (.invokevirtual 95, 3) := by decide +kernel
theorem dX1_ofOther_70 : decode cX1_ofOther 70 = .ok (.invokevirtual 69, 3) := by decide +kernel
theorem dX1_ofOther_73 : decode cX1_ofOther 73 = .ok (.lreturn, 1) := by decide +kernel
theorem dX1_truncated_0 : decode cX1_truncated 0 = .ok (.aload_n 0, 1) := by decide +kernel
theorem dX1_truncated_1 : decode cX1_truncated 1 = .ok (.lload_n 1, 1) := by decide +kernel
theorem dX1_truncated_2 : decode cX1_truncated 2 = .ok (.invokevirtual 51, 3) := by decide +kernel
theorem dX1_truncated_5 : decode cX1_truncated 5 = .ok (.ifCond .ne 11, 3) := by decide +kernel
theorem dX1_truncated_8 : decode cX1_truncated 8 = .ok (.aload_n 0, 1) := by decide +kernel
theorem dX1_truncated_9 : decode cX1_truncated 9 = .ok (.lload_n 1, 1) := by decide +kernel
theorem dX1_truncated_10 : decode cX1_truncated 10 = .ok (.invokevirtual 88, 3) := by decide +kernel
theorem dX1_truncated_13 : decode cX1_truncated 13 = .ok (.ifCond .eq 5, 3) := by decide +kernel
theorem dX1_truncated_16 : decode cX1_truncated 16 = .ok (.lconst 0, 1) := by decide +kernel
theorem dX1_truncated_17 : decode cX1_truncated 17 = .ok (.lreturn, 1) := by decide +kernel
theorem dX1_truncated_18 : decode cX1_truncated 18 = .ok (.aload_n 0, 1) := by decide +kernel
theorem dX1_truncated_19 : decode cX1_truncated 19 = .ok (.lload_n 1, 1) := by decide +kernel
theorem dX1_truncated_20 : decode cX1_truncated 20 = .ok (.invokevirtual 91, 3) := by decide +kernel
theorem dX1_truncated_23 : decode cX1_truncated 23 = .ok (.istore_n 3, 1) := by decide +kernel
theorem dX1_truncated_24 : decode cX1_truncated 24 = .ok (.aload_n 0, 1) := by decide +kernel
theorem dX1_truncated_25 : decode cX1_truncated 25 = .ok (.lload_n 1, 1) := by decide +kernel
theorem dX1_truncated_26 : decode cX1_truncated 26 = .ok (.invokevirtual 78, 3) := by decide +kernel
theorem dX1_truncated_29 : decode cX1_truncated 29 = .ok (.ifCond .ne 9, 3) := by decide +kernel
theorem dX1_truncated_32 : decode cX1_truncated 32 = .ok (.iload_n 3, 1) := by decide +kernel
theorem dX1_truncated_33 : decode cX1_truncated 33 = .ok (.bipush 10, 2) := by decide +kernel
theorem dX1_truncated_35 : decode cX1_truncated 35 = .ok (.if_icmp .le 21, 3) := by decide +kernel
theorem dX1_truncated_38 : decode cX1_truncated 38 = .ok (.aload_n 0, 1) := by decide +kernel
theorem dX1_truncated_39 : decode cX1_truncated 39 = .ok (.lload_n 1, 1) := by decide +kernel
theorem dX1_truncated_40 : decode cX1_truncated 40 = .ok (.invokevirtual 81, 3) := by decide +kernel
theorem dX1_truncated_43 : decode cX1_truncated 43 = .ok (.ifCond .eq 9, 3) := by decide +kernel
theorem dX1_truncated_46 : decode cX1_truncated 46 = .ok (.ldc2_w 65, 3) := by decide +kernel
theorem dX1_truncated_49 : decode cX1_truncated 49 = .ok (.goto 6, 3) := by decide +kernel
theorem dX1_truncated_52 : decode cX1_truncated 52 = .ok (.ldc2_w 98, 3) := by decide +kernel
theorem dX1_truncated_55 : decode cX1_truncated 55 = .ok (.lreturn, 1) := by decide +kernel
theorem dX1_truncated_56 : decode cX1_truncated 56 = .ok (.iload_n 3, 1) := by decide +kernel
theorem dX1_truncated_57 : decode cX1_truncated 57 = .ok (.bipush (-53), 2) := by decide +kernel
theorem dX1_truncated_59 : decode cX1_truncated 59 = .ok (.if_icmp .gt 5, 3) := by decide +kernel
theorem dX1_truncated_62 : decode cX1_truncated 62 = .ok (.lconst 0, 1) := by decide +kernel
theorem dX1_truncated_63 : decode cX1_truncated 63 = .ok (.lreturn, 1) := by decide +kernel
theorem dX1_truncated_64 : decode cX1_truncated 64 = .ok (.iload_n 3, 1) := by decide +kernel
theorem dX1_truncated_65 : decode cX1_truncated 65 = .ok (.ifCond .ge 14, 3) := by decide +kernel
theorem dX1_truncated_68 : decode cX1_truncated 68 = .ok (.aload_n 0, 1) := by decide +kernel
theorem dX1_truncated_69 : decode cX1_truncated 69 = .ok (.lload_n 1, 1) := by decide +kernel
theorem dX1_truncated_70 : decode cX1_truncated 70 = .ok (.invokevirtual 95, 3) := by decide +kernel
theorem dX1_truncated_73 : decode cX1_truncated 73 = .ok (.iload_n 3, 1) := by decide +kernel
theorem dX1_truncated_74 : decode cX1_truncated 74 = .ok (.ineg, 1) := by decide +kernel
theorem dX1_truncated_75 : decode cX1_truncated 75 = .ok (.lushr, 1) := by decide +kernel
theorem dX1_truncated_76 : decode cX1_truncated 76 = .ok (.goto 10, 3) := by decide +kernel
theorem dX1_truncated_79 : decode cX1_truncated 79 = .ok (.aload_n 0, 1) := by decide +kernel
theorem dX1_truncated_80 : decode cX1_truncated 80 = .ok (.lload_n 1, 1) := by decide +kernel
theorem dX1_truncated_81 : decode cX1_truncated 81 = .ok (.invokevirtual 95, 3) := by decide +kernel
theorem dX1_truncated_84 : decode cX1_truncated 84 = .ok (.iload_n 3, 1) := by decide +kernel
theorem dX1_truncated_85 : decode cX1_truncated 85 = .ok (.lshl, 1) := by decide +kernel
theorem dX1_truncated_86 : decode cX1_truncated 86 = .ok (.lstore 4, 2) := by decide +kernel
theorem dX1_truncated_88 : decode cX1_truncated 88 = .ok (.aload_n 0, 1) := by decide +kernel
theorem dX1_truncated_89 : decode cX1_truncated 89 = .ok (.lload_n 1, 1) := by decide +kernel
theorem dX1_truncated_90 : decode cX1_truncated 90 = .ok (.invokevirtual 81, 3) := by decide +kernel
theorem dX1_truncated_93 : decode cX1_truncated 93 = .ok (.ifCond .eq 9, 3) := by decide +kernel
theorem dX1_truncated_96 : decode cX1_truncated 96 = .ok (.lload 4, 2) := by decide +kernel
theorem dX1_truncated_98 : decode cX1_truncated 98 = .ok (.lneg, 1) := by decide +kernel
theorem dX1_truncated_99 : decode cX1_truncated 99 = .ok (.goto 5, 3) := by decide +kernel
theorem dX1_truncated_102 : decode cX1_truncated 102 = .ok (.lload 4, 2) := by decide +kernel
theorem dX1_truncated_104 : decode cX1_truncated 104 = .ok (.lreturn, 1) := by decide +kernel
theorem dX1_sum_0 : decode cX1_sum 0 = .ok (.aload_n 0, 1) := by decide +kernel
theorem dX1_sum_1 : decode cX1_sum 1 = .ok (.lload_n 1, 1) := by decide +kernel
theorem dX1_sum_2 : decode cX1_sum 2 = .ok (.invokevirtual 51, 3) := by decide +kernel
theorem dX1_sum_5 : decode cX1_sum 5 = .ok (.ifCond .ne 11, 3) := by decide +kernel
theorem dX1_sum_8 : decode cX1_sum 8 = .ok (.aload_n 0, 1) := by decide +kernel
theorem dX1_sum_9 : decode cX1_sum 9 = .ok (.lload_n 3, 1) := by decide +kernel
theorem dX1_sum_10 : decode cX1_sum 10 = .ok (.invokevirtual 51, 3) := by decide +kernel
theorem dX1_sum_13 : decode cX1_sum 13 = .ok (.ifCond .eq 8, 3) := by decide +kernel
theorem dX1_sum_16 : decode cX1_sum 16 = .ok (.aload_n 0, 1) := by decide +kernel
theorem dX1_sum_17 : decode cX1_sum 17 = .ok (.getfield 48, 3) := by decide +kernel
theorem dX1_sum_20 : decode cX1_sum 20 = .ok (.lreturn, 1) := by decide +kernel
theorem dX1_sum_21 : decode cX1_sum 21 = .ok (.aload_n 0, 1) := by decide +kernel
theorem dX1_sum_22 : decode cX1_sum 22 = .ok (.lload_n 1, 1) := by decide +kernel
theorem dX1_sum_23 : decode cX1_sum 23 = .ok (.invokevirtual 78, 3) := by decide +kernel
theorem dX1_sum_26 : decode cX1_sum 26 = .ok (.ifCond .eq 26, 3) := by decide +kernel
theorem dX1_sum_29 : decode cX1_sum 29 = .ok (.aload_n 0, 1) := by decide +kernel
theorem dX1_sum_30 : decode cX1_sum 30 = .ok (.lload_n 3, 1) := by decide +kernel
theorem dX1_sum_31 : decode cX1_sum 31 = .ok (.invokevirtual 78, 3) := by decide +kernel
theorem dX1_sum_34 : decode cX1_sum 34 = .ok (.ifCond .eq 16, 3) := by decide +kernel
theorem dX1_sum_37 : decode cX1_sum 37 = .ok (.lload_n 1, 1) := by decide +kernel
theorem dX1_sum_38 : decode cX1_sum 38 = .ok (.lload_n 3, 1) := by decide +kernel
theorem dX1_sum_39 : decode cX1_sum 39 = .ok (.lcmp, 1) := by decide +kernel
theorem dX1_sum_40 : decode cX1_sum 40 = .ok (.ifCond .eq 10, 3) := by decide +kernel
theorem dX1_sum_43 : decode cX1_sum 43 = .ok (.aload_n 0, 1) := by decide +kernel
theorem dX1_sum_44 : decode cX1_sum 44 = .ok (.getfield 48, 3) := by decide +kernel
theorem dX1_sum_47 : decode cX1_sum 47 = .ok (.goto 4, 3) := by decide +kernel
theorem dX1_sum_50 : decode cX1_sum 50 = .ok (.lload_n 1, 1) := by decide +kernel
theorem dX1_sum_51 : decode cX1_sum 51 = .ok (.lreturn, 1) := by decide +kernel
theorem dX1_sum_52 : decode cX1_sum 52 = .ok (.aload_n 0, 1) := by decide +kernel
theorem dX1_sum_53 : decode cX1_sum 53 = .ok (.lload_n 3, 1) := by decide +kernel
theorem dX1_sum_54 : decode cX1_sum 54 = .ok (.invokevirtual 78, 3) := by decide +kernel
theorem dX1_sum_57 : decode cX1_sum 57 = .ok (.ifCond .eq 5, 3) := by decide +kernel
theorem dX1_sum_60 : decode cX1_sum 60 = .ok (.lload_n 3, 1) := by decide +kernel
theorem dX1_sum_61 : decode cX1_sum 61 = .ok (.lreturn, 1) := by decide +kernel
theorem dX1_sum_62 : decode cX1_sum 62 = .ok (.aload_n 0, 1) := by decide +kernel
theorem dX1_sum_63 : decode cX1_sum 63 = .ok (.lload_n 1, 1) := by decide +kernel
theorem dX1_sum_64 : decode cX1_sum 64 = .ok (.invokevirtual 88, 3) := by decide +kernel
theorem dX1_sum_67 : decode cX1_sum 67 = .ok (.ifCond .eq 19, 3) := by decide +kernel
theorem dX1_sum_70 : decode cX1_sum 70 = .ok (.aload_n 0, 1) := by decide +kernel
theorem dX1_sum_71 : decode cX1_sum 71 = .ok (.lload_n 3, 1) := by decide +kernel
theorem dX1_sum_72 : decode cX1_sum 72 = .ok (.invokevirtual 88, 3) := by decide +kernel
theorem dX1_sum_75 : decode cX1_sum 75 = .ok (.ifCond .eq 9, 3) := by decide +kernel
theorem dX1_sum_78 : decode cX1_sum 78 = .ok (.lload_n 1, 1) := by decide +kernel
theorem dX1_sum_79 : decode cX1_sum 79 = .ok (.lload_n 3, 1) := by decide +kernel
theorem dX1_sum_80 : decode cX1_sum 80 = .ok (.land, 1) := by decide +kernel
theorem dX1_sum_81 : decode cX1_sum 81 = .ok (.goto 4, 3) := by decide +kernel
theorem dX1_sum_84 : decode cX1_sum 84 = .ok (.lload_n 3, 1) := by decide +kernel
theorem dX1_sum_85 : decode cX1_sum 85 = .ok (.lreturn, 1) := by decide +kernel
theorem dX1_sum_86 : decode cX1_sum 86 = .ok (.aload_n 0, 1) := by decide +kernel
theorem dX1_sum_87 : decode cX1_sum 87 = .ok (.lload_n 3, 1) := by decide +kernel
theorem dX1_sum_88 : decode cX1_sum 88 = .ok (.invokevirtual 88, 3) := by decide +kernel
theorem dX1_sum_91 : decode cX1_sum 91 = .ok (.ifCond .eq 5, 3) := by decide +kernel
theorem dX1_sum_94 : decode cX1_sum 94 = .ok (.lload_n 1, 1) := by decide +kernel
theorem dX1_sum_95 : decode cX1_sum 95 = .ok (.lreturn, 1) := by decide +kernel
theorem dX1_sum_96 : decode cX1_sum 96 = .ok (.aload_n 0, 1) := by decide +kernel
theorem dX1_sum_97 : decode cX1_sum 97 = .ok (.lload_n 1, 1) := by decide +kernel
theorem dX1_sum_98 : decode cX1_sum 98 = .ok (.invokevirtual 91, 3) := by decide +kernel
theorem dX1_sum_101 : decode cX1_sum 101 = .ok (.aload_n 0, 1) := by decide +kernel
theorem dX1_sum_102 : decode cX1_sum 102 = .ok (.lload_n 3, 1) := by decide +kernel
theorem dX1_sum_103 : decode cX1_sum 103 = .ok (.invokevirtual 91, 3) := by decide +kernel
theorem dX1_sum_106 : decode cX1_sum 106 = .ok (.if_icmp .lt 12, 3) := by decide +kernel
theorem dX1_sum_109 : decode cX1_sum 109 = .ok (.aload_n 0, 1) := by decide +kernel
theorem dX1_sum_110 : decode cX1_sum 110 = .ok (.lload_n 1, 1) := by decide +kernel
theorem dX1_sum_111 : decode cX1_sum 111 = .ok (.lload_n 3, 1) := by decide +kernel
theorem dX1_sum_112 : decode cX1_sum 112 = .ok (.invokevirtual 100, 3) := by decide +kernel
theorem dX1_sum_115 : decode cX1_sum 115 = .ok (.goto 9, 3) := by decide +kernel
theorem dX1_sum_118 : decode cX1_sum 118 = .ok (.aload_n 0, 1) := by decide +kernel
theorem dX1_sum_119 : decode cX1_sum 119 = .ok (.lload_n 3, 1) := by decide +kernel
theorem dX1_sum_120 : decode cX1_sum 120 = .ok (.lload_n 1, 1) := by decide +kernel
theorem dX1_sum_121 : decode cX1_sum 121 = .ok (.invokevirtual 100, 3) := by decide +kernel
theorem dX1_sum_124 : decode cX1_sum 124 = .ok (.lreturn, 1) := by decide +kernel
theorem dX1_sumInOrder_0 : decode cX1_sumInOrder 0 = .ok (.aload_n 0, 1) := by decide +kernel
theorem dX1_sumInOrder_1 : decode cX1_sumInOrder 1 = .ok (.lload_n 1, 1) := by decide +kernel
theorem dX1_sumInOrder_2 : decode cX1_sumInOrder 2 = .ok (.invokevirtual 91, 3) := by decide +kernel
theorem dX1_sumInOrder_5 : decode cX1_sumInOrder 5 = .ok (.istore 5, 2) := by decide +kernel
theorem dX1_sumInOrder_7 : decode cX1_sumInOrder 7 = .ok (.aload_n 0, 1) := by decide +kernel
theorem dX1_sumInOrder_8 : decode cX1_sumInOrder 8 = .ok (.lload_n 1, 1) := by decide +kernel
theorem dX1_sumInOrder_9 : decode cX1_sumInOrder 9 = .ok (.invokevirtual 95, 3) := by decide +kernel
theorem dX1_sumInOrder_12 : decode cX1_sumInOrder 12 = .ok (.bipush 9, 2) := by decide +kernel
theorem dX1_sumInOrder_14 : decode cX1_sumInOrder 14 = .ok (.lshl, 1) := by decide +kernel
theorem dX1_sumInOrder_15 : decode cX1_sumInOrder 15 = .ok (.lstore 6, 2) := by decide +kernel
theorem dX1_sumInOrder_17 : decode cX1_sumInOrder 17 = .ok (.aload_n 0, 1) := by decide +kernel
theorem dX1_sumInOrder_18 : decode cX1_sumInOrder 18 = .ok (.lload_n 3, 1) := by decide +kernel
theorem dX1_sumInOrder_19 : decode cX1_sumInOrder 19 = .ok (.invokevirtual 95, 3) := by decide +kernel
theorem dX1_sumInOrder_22 : decode cX1_sumInOrder 22 = .ok (.bipush 9, 2) := by decide +kernel
theorem dX1_sumInOrder_24 : decode cX1_sumInOrder 24 = .ok (.lshl, 1) := by decide +kernel
theorem dX1_sumInOrder_25 : decode cX1_sumInOrder 25 = .ok (.iload 5, 2) := by decide +kernel
theorem dX1_sumInOrder_27 : decode cX1_sumInOrder 27 = .ok (.aload_n 0, 1) := by decide +kernel
theorem dX1_sumInOrder_28 : decode cX1_sumInOrder 28 = .ok (.lload_n 3, 1) := by decide +kernel
theorem dX1_sumInOrder_29 : decode cX1_sumInOrder 29 = .ok (.invokevirtual 91, 3) := by decide +kernel
theorem dX1_sumInOrder_32 : decode cX1_sumInOrder 32 = .ok (.isub, 1) := by decide +kernel
theorem dX1_sumInOrder_33 : decode cX1_sumInOrder 33 = .ok (.invokestatic 104, 3) := by decide +kernel
theorem dX1_sumInOrder_36 : decode cX1_sumInOrder 36 = .ok (.lstore 8, 2) := by decide +kernel
theorem dX1_sumInOrder_38 : decode cX1_sumInOrder 38 = .ok (.aload_n 0, 1) := by decide +kernel
theorem dX1_sumInOrder_39 : decode cX1_sumInOrder 39 = .ok (.lload_n 1, 1) := by decide +kernel
theorem dX1_sumInOrder_40 : decode cX1_sumInOrder 40 = .ok (.invokevirtual 81, 3) := by decide +kernel
theorem dX1_sumInOrder_43 : decode cX1_sumInOrder 43 = .ok (.aload_n 0, 1) := by decide +kernel
theorem dX1_sumInOrder_44 : decode cX1_sumInOrder 44 = .ok (.lload_n 3, 1) := by decide +kernel
theorem dX1_sumInOrder_45 : decode cX1_sumInOrder 45 = .ok (.invokevirtual 81, 3) := by decide +kernel
theorem dX1_sumInOrder_48 : decode cX1_sumInOrder 48 = .ok (.if_icmp .ne 23, 3) := by decide +kernel
theorem dX1_sumInOrder_51 : decode cX1_sumInOrder 51 = .ok (.aload_n 0, 1) := by decide +kernel
theorem dX1_sumInOrder_52 : decode cX1_sumInOrder 52 = .ok (.aload_n 0, 1) := by decide +kernel
theorem dX1_sumInOrder_53 : decode cX1_sumInOrder 53 = .ok (.lload_n 1, 1) := by decide +kernel
theorem dX1_sumInOrder_54 : decode cX1_sumInOrder 54 = .ok (.invokevirtual 81, 3) := by decide +kernel
theorem dX1_sumInOrder_57 : decode cX1_sumInOrder 57 = .ok (.iload 5, 2) := by decide +kernel
theorem dX1_sumInOrder_59 : decode cX1_sumInOrder 59 = .ok (.bipush 9, 2) := by decide +kernel
theorem dX1_sumInOrder_61 : decode cX1_sumInOrder 61 = .ok (.isub, 1) := by decide +kernel
theorem dX1_sumInOrder_62 : decode cX1_sumInOrder 62 = .ok (.lload 6, 2) := by decide +kernel
theorem dX1_sumInOrder_64 : decode cX1_sumInOrder 64 = .ok (.lload 8, 2) := by decide +kernel
theorem dX1_sumInOrder_66 : decode cX1_sumInOrder 66 = .ok (.ladd, 1) := by decide +kernel
theorem dX1_sumInOrder_67 : decode cX1_sumInOrder 67 = .ok (.invokevirtual 69, 3) := by decide +kernel
theorem dX1_sumInOrder_70 : decode cX1_sumInOrder 70 = .ok (.lreturn, 1) := by decide +kernel
theorem dX1_sumInOrder_71 : decode cX1_sumInOrder 71 = .ok (.lload 6, 2) := by decide +kernel
theorem dX1_sumInOrder_73 : decode cX1_sumInOrder 73 = .ok (.lload 8, 2) := by decide +kernel
theorem dX1_sumInOrder_75 : decode cX1_sumInOrder 75 = .ok (.lsub, 1) := by decide +kernel
theorem dX1_sumInOrder_76 : decode cX1_sumInOrder 76 = .ok (.lstore 10, 2) := by decide +kernel
theorem dX1_sumInOrder_78 : decode cX1_sumInOrder 78 = .ok (.lload 10, 2) := by decide +kernel
theorem dX1_sumInOrder_80 : decode cX1_sumInOrder 80 = .ok (.lconst 0, 1) := by decide +kernel
theorem dX1_sumInOrder_81 : decode cX1_sumInOrder 81 = .ok (.lcmp, 1) := by decide +kernel
theorem dX1_sumInOrder_82 : decode cX1_sumInOrder 82 = .ok (.ifCond .ne 5, 3) := by decide +kernel
theorem dX1_sumInOrder_85 : decode cX1_sumInOrder 85 = .ok (.lconst 0, 1) := by decide +kernel
theorem dX1_sumInOrder_86 : decode cX1_sumInOrder 86 = .ok (.lreturn, 1) := by decide +kernel
theorem dX1_sumInOrder_87 : decode cX1_sumInOrder 87 = .ok (.lload 10, 2) := by decide +kernel
theorem dX1_sumInOrder_89 : decode cX1_sumInOrder 89 = .ok (.lconst 0, 1) := by decide +kernel
theorem dX1_sumInOrder_90 : decode cX1_sumInOrder 90 = .ok (.lcmp, 1) := by decide +kernel
theorem dX1_sumInOrder_91 : decode cX1_sumInOrder 91 = .ok (.ifCond .le 11, 3) := by decide +kernel
theorem dX1_sumInOrder_94 : decode cX1_sumInOrder 94 = .ok (.aload_n 0, 1) := by decide +kernel
theorem dX1_sumInOrder_95 : decode cX1_sumInOrder 95 = .ok (.lload_n 1, 1) := by decide +kernel
theorem dX1_sumInOrder_96 : decode cX1_sumInOrder 96 = .ok (.invokevirtual 81, 3) := by decide +kernel
theorem dX1_sumInOrder_99 : decode cX1_sumInOrder 99 = .ok (.goto 8, 3) := by decide +kernel
theorem dX1_sumInOrder_102 : decode cX1_sumInOrder 102 = .ok (.aload_n 0, 1) := by decide +kernel
theorem dX1_sumInOrder_103 : decode cX1_sumInOrder 103 = .ok (.lload_n 3, 1) := by decide +kernel
theorem dX1_sumInOrder_104 : decode cX1_sumInOrder 104 = .ok (.invokevirtual 81, 3) := by decide +kernel
theorem dX1_sumInOrder_107 : decode cX1_sumInOrder 107 = .ok (.istore 12, 2) := by decide +kernel
theorem dX1_sumInOrder_109 : decode cX1_sumInOrder 109 = .ok (.aload_n 0, 1) := by decide +kernel
theorem dX1_sumInOrder_110 : decode cX1_sumInOrder 110 = .ok (.iload 12, 2) := by decide +kernel
theorem dX1_sumInOrder_112 : decode cX1_sumInOrder 112 = .ok (.iload 5, 2) := by decide +kernel
theorem dX1_sumInOrder_114 : decode cX1_sumInOrder 114 = .ok (.bipush 9, 2) := by decide +kernel
theorem dX1_sumInOrder_116 : decode cX1_sumInOrder 116 = .ok (.isub, 1) := by decide +kernel
theorem dX1_sumInOrder_117 : decode cX1_sumInOrder 117 = .ok (.lload 10, 2) := by decide +kernel
theorem dX1_sumInOrder_119 : decode cX1_sumInOrder 119 = .ok (.invokestatic 73, 3) := by decide +kernel
theorem dX1_sumInOrder_122 : decode cX1_sumInOrder 122 = .ok (.invokevirtual 69, 3) := by decide +kernel
theorem dX1_sumInOrder_125 : decode cX1_sumInOrder 125 = .ok (.lreturn, 1) := by decide +kernel
theorem dX1_product_0 : decode cX1_product 0 = .ok (.aload_n 0, 1) := by decide +kernel
theorem dX1_product_1 : decode cX1_product 1 = .ok (.lload_n 1, 1) := by decide +kernel
theorem dX1_product_2 : decode cX1_product 2 = .ok (.invokevirtual 51, 3) := by decide +kernel
theorem dX1_product_5 : decode cX1_product 5 = .ok (.ifCond .ne 11, 3) := by decide +kernel
theorem dX1_product_8 : decode cX1_product 8 = .ok (.aload_n 0, 1) := by decide +kernel
theorem dX1_product_9 : decode cX1_product 9 = .ok (.lload_n 3, 1) := by decide +kernel
theorem dX1_product_10 : decode cX1_product 10 = .ok (.invokevirtual 51, 3) := by decide +kernel
theorem dX1_product_13 : decode cX1_product 13 = .ok (.ifCond .eq 8, 3) := by decide +kernel
theorem dX1_product_16 : decode cX1_product 16 = .ok (.aload_n 0, 1) := by decide +kernel
theorem dX1_product_17 : decode cX1_product 17 = .ok (.getfield 48, 3) := by decide +kernel
theorem dX1_product_20 : decode cX1_product 20 = .ok (.lreturn, 1) := by decide +kernel
theorem dX1_product_21 : decode cX1_product 21 = .ok (.aload_n 0, 1) := by decide +kernel
theorem dX1_product_22 : decode cX1_product 22 = .ok (.lload_n 1, 1) := by decide +kernel
theorem dX1_product_23 : decode cX1_product 23 = .ok (.invokevirtual 81, 3) := by decide +kernel
theorem dX1_product_26 : decode cX1_product 26 = .ok (.aload_n 0, 1) := by decide +kernel
theorem dX1_product_27 : decode cX1_product 27 = .ok (.lload_n 3, 1) := by decide +kernel
theorem dX1_product_28 : decode cX1_product 28 = .ok (.invokevirtual 81, 3) := by decide +kernel
theorem dX1_product_31 : decode cX1_product 31 = .ok (.if_icmp .eq 7, 3) := by decide +kernel
theorem dX1_product_34 : decode cX1_product 34 = .ok (.iconst 1, 1) := by decide +kernel
theorem dX1_product_35 : decode cX1_product 35 = .ok (.goto 4, 3) := by decide +kernel
theorem dX1_product_38 : decode cX1_product 38 = .ok (.iconst 0, 1) := by decide +kernel
theorem dX1_product_39 : decode cX1_product 39 = .ok (.istore 5, 2) := by decide +kernel
theorem dX1_product_41 : decode cX1_product 41 = .ok (.aload_n 0, 1) := by decide +kernel
theorem dX1_product_42 : decode cX1_product 42 = .ok (.lload_n 1, 1) := by decide +kernel
theorem dX1_product_43 : decode cX1_product 43 = .ok (.invokevirtual 88, 3) := by decide +kernel
theorem dX1_product_46 : decode cX1_product 46 = .ok (.ifCond .ne 11, 3) := by decide +kernel
theorem dX1_product_49 : decode cX1_product 49 = .ok (.aload_n 0, 1) := by decide +kernel
theorem dX1_product_50 : decode cX1_product 50 = .ok (.lload_n 3, 1) := by decide +kernel
theorem dX1_product_51 : decode cX1_product 51 = .ok (.invokevirtual 88, 3) := by decide +kernel
theorem dX1_product_54 : decode cX1_product 54 = .ok (.ifCond .eq 7, 3) := by decide +kernel
theorem dX1_product_57 : decode cX1_product 57 = .ok (.iconst 1, 1) := by decide +kernel
theorem dX1_product_58 : decode cX1_product 58 = .ok (.goto 4, 3) := by decide +kernel
theorem dX1_product_61 : decode cX1_product 61 = .ok (.iconst 0, 1) := by decide +kernel
theorem dX1_product_62 : decode cX1_product 62 = .ok (.istore 6, 2) := by decide +kernel
theorem dX1_product_64 : decode cX1_product 64 = .ok (.aload_n 0, 1) := by decide +kernel
theorem dX1_product_65 : decode cX1_product 65 = .ok (.lload_n 1, 1) := by decide +kernel
theorem dX1_product_66 : decode cX1_product 66 = .ok (.invokevirtual 78, 3) := by decide +kernel
theorem dX1_product_69 : decode cX1_product 69 = .ok (.ifCond .ne 11, 3) := by decide +kernel
theorem dX1_product_72 : decode cX1_product 72 = .ok (.aload_n 0, 1) := by decide +kernel
theorem dX1_product_73 : decode cX1_product 73 = .ok (.lload_n 3, 1) := by decide +kernel
theorem dX1_product_74 : decode cX1_product 74 = .ok (.invokevirtual 78, 3) := by decide +kernel
theorem dX1_product_77 : decode cX1_product 77 = .ok (.ifCond .eq 26, 3) := by decide +kernel
theorem dX1_product_80 : decode cX1_product 80 = .ok (.iload 6, 2) := by decide +kernel
theorem dX1_product_82 : decode cX1_product 82 = .ok (.ifCond .eq 10, 3) := by decide +kernel
theorem dX1_product_85 : decode cX1_product 85 = .ok (.aload_n 0, 1) := by decide +kernel
theorem dX1_product_86 : decode cX1_product 86 = .ok (.getfield 48, 3) := by decide +kernel
theorem dX1_product_89 : decode cX1_product 89 = .ok (.goto 13, 3) := by decide +kernel
theorem dX1_product_92 : decode cX1_product 92 = .ok (.aload_n 0, 1) := by decide +kernel
theorem dX1_product_93 : decode cX1_product 93 = .ok (.iload 5, 2) := by decide +kernel
theorem dX1_product_95 : decode cX1_product 95 = .ok (.aload_n 0, 1) := by decide +kernel
theorem dX1_product_96 : decode cX1_product 96 = .ok (.getfield 45, 3) := by decide +kernel
theorem dX1_product_99 : decode cX1_product 99 = .ok (.invokevirtual 84, 3) := by decide +kernel
theorem dX1_product_102 : decode cX1_product 102 = .ok (.lreturn, 1) := by decide +kernel
theorem dX1_product_103 : decode cX1_product 103 = .ok (.iload 6, 2) := by decide +kernel
theorem dX1_product_105 : decode cX1_product 105 = .ok (.ifCond .eq 11, 3) := by decide +kernel
theorem dX1_product_108 : decode cX1_product 108 = .ok (.aload_n 0, 1) := by decide +kernel
theorem dX1_product_109 : decode cX1_product 109 = .ok (.iload 5, 2) := by decide +kernel
theorem dX1_product_111 : decode cX1_product 111 = .ok (.lconst 0, 1) := by decide +kernel
theorem dX1_product_112 : decode cX1_product 112 = .ok (.invokevirtual 84, 3) := by decide +kernel
theorem dX1_product_115 : decode cX1_product 115 = .ok (.lreturn, 1) := by decide +kernel
theorem dX1_product_116 : decode cX1_product 116 = .ok (.aload_n 0, 1) := by decide +kernel
theorem dX1_product_117 : decode cX1_product 117 = .ok (.lload_n 1, 1) := by decide +kernel
theorem dX1_product_118 : decode cX1_product 118 = .ok (.invokevirtual 91, 3) := by decide +kernel
theorem dX1_product_121 : decode cX1_product 121 = .ok (.aload_n 0, 1) := by decide +kernel
theorem dX1_product_122 : decode cX1_product 122 = .ok (.lload_n 3, 1) := by decide +kernel
theorem dX1_product_123 : decode cX1_product 123 = .ok (.invokevirtual 91, 3) := by decide +kernel
theorem dX1_product_126 : decode cX1_product 126 = .ok (.iadd, 1) := by decide +kernel
theorem dX1_product_127 : decode cX1_product 127 = .ok (.bipush 44, 2) := by decide +kernel
theorem dX1_product_129 : decode cX1_product 129 = .ok (.iadd, 1) := by decide +kernel
theorem dX1_product_130 : decode cX1_product 130 = .ok (.istore 7, 2) := by decide +kernel
theorem dX1_product_132 : decode cX1_product 132 = .ok (.aload_n 0, 1) := by decide +kernel
theorem dX1_product_133 : decode cX1_product 133 = .ok (.iload 5, 2) := by decide +kernel
theorem dX1_product_135 : decode cX1_product 135 = .ok (.iload 7, 2) := by decide +kernel
theorem dX1_product_137 : decode cX1_product 137 = .ok (.aload_n 0, 1) := by decide +kernel
theorem dX1_product_138 : decode cX1_product 138 = .ok (.lload_n 1, 1) := by decide +kernel
theorem dX1_product_139 : decode cX1_product 139 = .ok (.invokevirtual 95, 3) := by decide +kernel
theorem dX1_product_142 : decode cX1_product 142 = .ok (.aload_n 0, 1) := by decide +kernel
theorem dX1_product_143 : decode cX1_product 143 = .ok (.lload_n 3, 1) := by decide +kernel
theorem dX1_product_144 : decode cX1_product 144 = .ok (.invokevirtual 95, 3) := by decide +kernel
theorem dX1_product_147 : decode cX1_product 147 = .ok (.invokestatic 108, 3) := by decide +kernel
theorem dX1_product_150 : decode cX1_product 150 = .ok (.invokevirtual 69, 3) := by decide +kernel
theorem dX1_product_153 : decode cX1_product 153 = .ok (.lreturn, 1) := by decide +kernel
theorem dX1_quotient_0 : decode cX1_quotient 0 = .ok (.aload_n 0, 1) := by decide +kernel
theorem dX1_quotient_1 : decode cX1_quotient 1 = .ok (.lload_n 1, 1) := by decide +kernel
theorem dX1_quotient_2 : decode cX1_quotient 2 = .ok (.invokevirtual 51, 3) := by decide +kernel
theorem dX1_quotient_5 : decode cX1_quotient 5 = .ok (.ifCond .ne 43, 3) := by decide +kernel
theorem dX1_quotient_8 : decode cX1_quotient 8 = .ok (.aload_n 0, 1) := by decide +kernel
theorem dX1_quotient_9 : decode cX1_quotient 9 = .ok (.lload_n 3, 1) := by decide +kernel
theorem dX1_quotient_10 : decode cX1_quotient 10 = .ok (.invokevirtual 51, 3) := by decide +kernel
theorem dX1_quotient_13 : decode cX1_quotient 13 = .ok (.ifCond .ne 35, 3) := by decide +kernel
theorem dX1_quotient_16 : decode cX1_quotient 16 = .ok (.aload_n 0, 1) := by decide +kernel
theorem dX1_quotient_17 : decode cX1_quotient 17 = .ok (.lload_n 1, 1) := by decide +kernel
theorem dX1_quotient_18 : decode cX1_quotient 18 = .ok (.invokevirtual 78, 3) := by decide +kernel
theorem dX1_quotient_21 : decode cX1_quotient 21 = .ok (.ifCond .eq 11, 3) := by decide +kernel
theorem dX1_quotient_24 : decode cX1_quotient 24 = .ok (.aload_n 0, 1) := by decide +kernel
theorem dX1_quotient_25 : decode cX1_quotient 25 = .ok (.lload_n 3, 1) := by decide +kernel
theorem dX1_quotient_26 : decode cX1_quotient 26 = .ok (.invokevirtual 78, 3) := by decide +kernel
theorem dX1_quotient_29 : decode cX1_quotient 29 = .ok (.ifCond .ne 19, 3) := by decide +kernel
theorem dX1_quotient_32 : decode cX1_quotient 32 = .ok (.aload_n 0, 1) := by decide +kernel
theorem dX1_quotient_33 : decode cX1_quotient 33 = .ok (.lload_n 1, 1) := by decide +kernel
theorem dX1_quotient_34 : decode cX1_quotient 34 = .ok (.invokevirtual 88, 3) := by decide +kernel
theorem dX1_quotient_37 : decode cX1_quotient 37 = .ok (.ifCond .eq 16, 3) := by decide +kernel
theorem dX1_quotient_40 : decode cX1_quotient 40 = .ok (.aload_n 0, 1) := by decide +kernel
theorem dX1_quotient_41 : decode cX1_quotient 41 = .ok (.lload_n 3, 1) := by decide +kernel
theorem dX1_quotient_42 : decode cX1_quotient 42 = .ok (.invokevirtual 88, 3) := by decide +kernel
theorem dX1_quotient_45 : decode cX1_quotient 45 = .ok (.ifCond .eq 8, 3) := by decide +kernel
theorem dX1_quotient_48 : decode cX1_quotient 48 = .ok (.aload_n 0, 1) := by decide +kernel
theorem dX1_quotient_49 : decode cX1_quotient 49 = .ok (.getfield 48, 3) := by decide +kernel
theorem dX1_quotient_52 : decode cX1_quotient 52 = .ok (.lreturn, 1) := by decide +kernel
theorem dX1_quotient_53 : decode cX1_quotient 53 = .ok (.aload_n 0, 1) := by decide +kernel
theorem dX1_quotient_54 : decode cX1_quotient 54 = .ok (.lload_n 1, 1) := by decide +kernel
theorem dX1_quotient_55 : decode cX1_quotient 55 = .ok (.invokevirtual 81, 3) := by decide +kernel
theorem dX1_quotient_58 : decode cX1_quotient 58 = .ok (.aload_n 0, 1) := by decide +kernel
theorem dX1_quotient_59 : decode cX1_quotient 59 = .ok (.lload_n 3, 1) := by decide +kernel
theorem dX1_quotient_60 : decode cX1_quotient 60 = .ok (.invokevirtual 81, 3) := by decide +kernel
theorem dX1_quotient_63 : decode cX1_quotient 63 = .ok (.if_icmp .eq 7, 3) := by decide +kernel
theorem dX1_quotient_66 : decode cX1_quotient 66 = .ok (.iconst 1, 1) := by decide +kernel
theorem dX1_quotient_67 : decode cX1_quotient 67 = .ok (.goto 4, 3) := by decide +kernel
theorem dX1_quotient_70 : decode cX1_quotient 70 = .ok (.iconst 0, 1) := by decide +kernel
theorem dX1_quotient_71 : decode cX1_quotient 71 = .ok (.istore 5, 2) := by decide +kernel
theorem dX1_quotient_73 : decode cX1_quotient 73 = .ok (.aload_n 0, 1) := by decide +kernel
theorem dX1_quotient_74 : decode cX1_quotient 74 = .ok (.lload_n 1, 1) := by decide +kernel
theorem dX1_quotient_75 : decode cX1_quotient 75 = .ok (.invokevirtual 78, 3) := by decide +kernel
theorem dX1_quotient_78 : decode cX1_quotient 78 = .ok (.ifCond .ne 11, 3) := by decide +kernel
theorem dX1_quotient_81 : decode cX1_quotient 81 = .ok (.aload_n 0, 1) := by decide +kernel
theorem dX1_quotient_82 : decode cX1_quotient 82 = .ok (.lload_n 3, 1) := by decide +kernel
theorem dX1_quotient_83 : decode cX1_quotient 83 = .ok (.invokevirtual 88, 3) := by decide +kernel
theorem dX1_quotient_86 : decode cX1_quotient 86 = .ok (.ifCond .eq 14, 3) := by decide +kernel
theorem dX1_quotient_89 : decode cX1_quotient 89 = .ok (.aload_n 0, 1) := by decide +kernel
theorem dX1_quotient_90 : decode cX1_quotient 90 = .ok (.iload 5, 2) := by decide +kernel
theorem dX1_quotient_92 : decode cX1_quotient 92 = .ok (.aload_n 0, 1) := by decide +kernel
theorem dX1_quotient_93 : decode cX1_quotient 93 = .ok (.getfield 45, 3) := by decide +kernel
theorem dX1_quotient_96 : decode cX1_quotient 96 = .ok (.invokevirtual 84, 3) := by decide +kernel
theorem dX1_quotient_99 : decode cX1_quotient 99 = .ok (.lreturn, 1) := by decide +kernel
theorem dX1_quotient_100 : decode cX1_quotient 100 = .ok (.aload_n 0, 1) := by decide +kernel
theorem dX1_quotient_101 : decode cX1_quotient 101 = .ok (.lload_n 1, 1) := by decide +kernel
theorem dX1_quotient_102 : decode cX1_quotient 102 = .ok (.invokevirtual 88, 3) := by decide +kernel
theorem dX1_quotient_105 : decode cX1_quotient 105 = .ok (.ifCond .ne 11, 3) := by decide +kernel
theorem dX1_quotient_108 : decode cX1_quotient 108 = .ok (.aload_n 0, 1) := by decide +kernel
theorem dX1_quotient_109 : decode cX1_quotient 109 = .ok (.lload_n 3, 1) := by decide +kernel
theorem dX1_quotient_110 : decode cX1_quotient 110 = .ok (.invokevirtual 78, 3) := by decide +kernel
theorem dX1_quotient_113 : decode cX1_quotient 113 = .ok (.ifCond .eq 11, 3) := by decide +kernel
theorem dX1_quotient_116 : decode cX1_quotient 116 = .ok (.aload_n 0, 1) := by decide +kernel
theorem dX1_quotient_117 : decode cX1_quotient 117 = .ok (.iload 5, 2) := by decide +kernel
theorem dX1_quotient_119 : decode cX1_quotient 119 = .ok (.lconst 0, 1) := by decide +kernel
theorem dX1_quotient_120 : decode cX1_quotient 120 = .ok (.invokevirtual 84, 3) := by decide +kernel
theorem dX1_quotient_123 : decode cX1_quotient 123 = .ok (.lreturn, 1) := by decide +kernel
theorem dX1_quotient_124 : decode cX1_quotient 124 = .ok (.aload_n 0, 1) := by decide +kernel
theorem dX1_quotient_125 : decode cX1_quotient 125 = .ok (.lload_n 1, 1) := by decide +kernel
theorem dX1_quotient_126 : decode cX1_quotient 126 = .ok (.invokevirtual 91, 3) := by decide +kernel
theorem dX1_quotient_129 : decode cX1_quotient 129 = .ok (.aload_n 0, 1) := by decide +kernel
theorem dX1_quotient_130 : decode cX1_quotient 130 = .ok (.lload_n 3, 1) := by decide +kernel
theorem dX1_quotient_131 : decode cX1_quotient 131 = .ok (.invokevirtual 91, 3) := by decide +kernel
theorem dX1_quotient_134 : decode cX1_quotient 134 = .ok (.isub, 1) := by decide +kernel
theorem dX1_quotient_135 : decode cX1_quotient 135 = .ok (.bipush 60, 2) := by decide +kernel
theorem dX1_quotient_137 : decode cX1_quotient 137 = .ok (.isub, 1) := by decide +kernel
theorem dX1_quotient_138 : decode cX1_quotient 138 = .ok (.istore 6, 2) := by decide +kernel
theorem dX1_quotient_140 : decode cX1_quotient 140 = .ok (.aload_n 0, 1) := by decide +kernel
theorem dX1_quotient_141 : decode cX1_quotient 141 = .ok (.iload 5, 2) := by decide +kernel
theorem dX1_quotient_143 : decode cX1_quotient 143 = .ok (.iload 6, 2) := by decide +kernel
theorem dX1_quotient_145 : decode cX1_quotient 145 = .ok (.aload_n 0, 1) := by decide +kernel
theorem dX1_quotient_146 : decode cX1_quotient 146 = .ok (.lload_n 1, 1) := by decide +kernel
theorem dX1_quotient_147 : decode cX1_quotient 147 = .ok (.invokevirtual 95, 3) := by decide +kernel
theorem dX1_quotient_150 : decode cX1_quotient 150 = .ok (.aload_n 0, 1) := by decide +kernel
theorem dX1_quotient_151 : decode cX1_quotient 151 = .ok (.lload_n 3, 1) := by decide +kernel
theorem dX1_quotient_152 : decode cX1_quotient 152 = .ok (.invokevirtual 95, 3) := by decide +kernel
theorem dX1_quotient_155 : decode cX1_quotient 155 = .ok (.invokestatic 111, 3) := by decide +kernel
theorem dX1_quotient_158 : decode cX1_quotient 158 = .ok (.invokevirtual 69, 3) := by decide +kernel
theorem dX1_quotient_161 : decode cX1_quotient 161 = .ok (.lreturn, 1) := by decide +kernel
theorem dX1_remainder_0 : decode cX1_remainder 0 = .ok (.aload_n 0, 1) := by decide +kernel
theorem dX1_remainder_1 : decode cX1_remainder 1 = .ok (.lload_n 1, 1) := by decide +kernel
theorem dX1_remainder_2 : decode cX1_remainder 2 = .ok (.invokevirtual 51, 3) := by decide +kernel
theorem dX1_remainder_5 : decode cX1_remainder 5 = .ok (.ifCond .ne 27, 3) := by decide +kernel
theorem dX1_remainder_8 : decode cX1_remainder 8 = .ok (.aload_n 0, 1) := by decide +kernel
theorem dX1_remainder_9 : decode cX1_remainder 9 = .ok (.lload_n 3, 1) := by decide +kernel
theorem dX1_remainder_10 : decode cX1_remainder 10 = .ok (.invokevirtual 51, 3) := by decide +kernel
theorem dX1_remainder_13 : decode cX1_remainder 13 = .ok (.ifCond .ne 19, 3) := by decide +kernel
theorem dX1_remainder_16 : decode cX1_remainder 16 = .ok (.aload_n 0, 1) := by decide +kernel
theorem dX1_remainder_17 : decode cX1_remainder 17 = .ok (.lload_n 1, 1) := by decide +kernel
theorem dX1_remainder_18 : decode cX1_remainder 18 = .ok (.invokevirtual 78, 3) := by decide +kernel
theorem dX1_remainder_21 : decode cX1_remainder 21 = .ok (.ifCond .ne 11, 3) := by decide +kernel
theorem dX1_remainder_24 : decode cX1_remainder 24 = .ok (.aload_n 0, 1) := by decide +kernel
theorem dX1_remainder_25 : decode cX1_remainder 25 = .ok (.lload_n 3, 1) := by decide +kernel
theorem dX1_remainder_26 : decode cX1_remainder 26 = .ok (.invokevirtual 88, 3) := by decide +kernel
theorem dX1_remainder_29 : decode cX1_remainder 29 = .ok (.ifCond .eq 8, 3) := by decide +kernel
theorem dX1_remainder_32 : decode cX1_remainder 32 = .ok (.aload_n 0, 1) := by decide +kernel
theorem dX1_remainder_33 : decode cX1_remainder 33 = .ok (.getfield 48, 3) := by decide +kernel
theorem dX1_remainder_36 : decode cX1_remainder 36 = .ok (.lreturn, 1) := by decide +kernel
theorem dX1_remainder_37 : decode cX1_remainder 37 = .ok (.aload_n 0, 1) := by decide +kernel
theorem dX1_remainder_38 : decode cX1_remainder 38 = .ok (.lload_n 1, 1) := by decide +kernel
theorem dX1_remainder_39 : decode cX1_remainder 39 = .ok (.invokevirtual 88, 3) := by decide +kernel
theorem dX1_remainder_42 : decode cX1_remainder 42 = .ok (.ifCond .ne 24, 3) := by decide +kernel
theorem dX1_remainder_45 : decode cX1_remainder 45 = .ok (.aload_n 0, 1) := by decide +kernel
theorem dX1_remainder_46 : decode cX1_remainder 46 = .ok (.lload_n 3, 1) := by decide +kernel
theorem dX1_remainder_47 : decode cX1_remainder 47 = .ok (.invokevirtual 78, 3) := by decide +kernel
theorem dX1_remainder_50 : decode cX1_remainder 50 = .ok (.ifCond .ne 16, 3) := by decide +kernel
theorem dX1_remainder_53 : decode cX1_remainder 53 = .ok (.aload_n 0, 1) := by decide +kernel
theorem dX1_remainder_54 : decode cX1_remainder 54 = .ok (.lload_n 1, 1) := by decide +kernel
theorem dX1_remainder_55 : decode cX1_remainder 55 = .ok (.invokevirtual 91, 3) := by decide +kernel
theorem dX1_remainder_58 : decode cX1_remainder 58 = .ok (.aload_n 0, 1) := by decide +kernel
theorem dX1_remainder_59 : decode cX1_remainder 59 = .ok (.lload_n 3, 1) := by decide +kernel
theorem dX1_remainder_60 : decode cX1_remainder 60 = .ok (.invokevirtual 91, 3) := by decide +kernel
theorem dX1_remainder_63 : decode cX1_remainder 63 = .ok (.if_icmp .ge 5, 3) := by decide +kernel
theorem dX1_remainder_66 : decode cX1_remainder 66 = .ok (.lload_n 1, 1) := by decide +kernel
theorem dX1_remainder_67 : decode cX1_remainder 67 = .ok (.lreturn, 1) := by decide +kernel
theorem dX1_remainder_68 : decode cX1_remainder 68 = .ok (.aload_n 0, 1) := by decide +kernel
theorem dX1_remainder_69 : decode cX1_remainder 69 = .ok (.lload_n 1, 1) := by decide +kernel
theorem dX1_remainder_70 : decode cX1_remainder 70 = .ok (.invokevirtual 95, 3) := by decide +kernel
theorem dX1_remainder_73 : decode cX1_remainder 73 = .ok (.aload_n 0, 1) := by decide +kernel
theorem dX1_remainder_74 : decode cX1_remainder 74 = .ok (.lload_n 3, 1) := by decide +kernel
theorem dX1_remainder_75 : decode cX1_remainder 75 = .ok (.invokevirtual 95, 3) := by decide +kernel
theorem dX1_remainder_78 : decode cX1_remainder 78 = .ok (.aload_n 0, 1) := by decide +kernel
theorem dX1_remainder_79 : decode cX1_remainder 79 = .ok (.lload_n 1, 1) := by decide +kernel
theorem dX1_remainder_80 : decode cX1_remainder 80 = .ok (.invokevirtual 91, 3) := by decide +kernel
theorem dX1_remainder_83 : decode cX1_remainder 83 = .ok (.aload_n 0, 1) := by decide +kernel
theorem dX1_remainder_84 : decode cX1_remainder 84 = .ok (.lload_n 3, 1) := by decide +kernel
theorem dX1_remainder_85 : decode cX1_remainder 85 = .ok (.invokevirtual 91, 3) := by decide +kernel
theorem dX1_remainder_88 : decode cX1_remainder 88 = .ok (.isub, 1) := by decide +kernel
theorem dX1_remainder_89 : decode cX1_remainder 89 = .ok (.invokestatic 114, 3) := by decide +kernel
theorem dX1_remainder_92 : decode cX1_remainder 92 = .ok (.lstore 5, 2) := by decide +kernel
theorem dX1_remainder_94 : decode cX1_remainder 94 = .ok (.lload 5, 2) := by decide +kernel
theorem dX1_remainder_96 : decode cX1_remainder 96 = .ok (.lconst 0, 1) := by decide +kernel
theorem dX1_remainder_97 : decode cX1_remainder 97 = .ok (.lcmp, 1) := by decide +kernel
theorem dX1_remainder_98 : decode cX1_remainder 98 = .ok (.ifCond .ne 16, 3) := by decide +kernel
theorem dX1_remainder_101 : decode cX1_remainder 101 = .ok (.aload_n 0, 1) := by decide +kernel
theorem dX1_remainder_102 : decode cX1_remainder 102 = .ok (.aload_n 0, 1) := by decide +kernel
theorem dX1_remainder_103 : decode cX1_remainder 103 = .ok (.lload_n 1, 1) := by decide +kernel
theorem dX1_remainder_104 : decode cX1_remainder 104 = .ok (.invokevirtual 81, 3) := by decide +kernel
theorem dX1_remainder_107 : decode cX1_remainder 107 = .ok (.lconst 0, 1) := by decide +kernel
theorem dX1_remainder_108 : decode cX1_remainder 108 = .ok (.invokevirtual 84, 3) := by decide +kernel
theorem dX1_remainder_111 : decode cX1_remainder 111 = .ok (.goto 19, 3) := by decide +kernel
theorem dX1_remainder_114 : decode cX1_remainder 114 = .ok (.aload_n 0, 1) := by decide +kernel
theorem dX1_remainder_115 : decode cX1_remainder 115 = .ok (.aload_n 0, 1) := by decide +kernel
theorem dX1_remainder_116 : decode cX1_remainder 116 = .ok (.lload_n 1, 1) := by decide +kernel
theorem dX1_remainder_117 : decode cX1_remainder 117 = .ok (.invokevirtual 81, 3) := by decide +kernel
theorem dX1_remainder_120 : decode cX1_remainder 120 = .ok (.aload_n 0, 1) := by decide +kernel
theorem dX1_remainder_121 : decode cX1_remainder 121 = .ok (.lload_n 3, 1) := by decide +kernel
theorem dX1_remainder_122 : decode cX1_remainder 122 = .ok (.invokevirtual 91, 3) := by decide +kernel
theorem dX1_remainder_125 : decode cX1_remainder 125 = .ok (.lload 5, 2) := by decide +kernel
theorem dX1_remainder_127 : decode cX1_remainder 127 = .ok (.invokevirtual 69, 3) := by decide +kernel
theorem dX1_remainder_130 : decode cX1_remainder 130 = .ok (.lreturn, 1) := by decide +kernel
theorem dX1_isNan_0 : decode cX1_isNan 0 = .ok (.aload_n 0, 1) := by decide +kernel
theorem dX1_isNan_1 : decode cX1_isNan 1 = .ok (.lload_n 1, 1) := by decide +kernel
theorem dX1_isNan_2 : decode cX1_isNan 2 = .ok (.invokevirtual 118, 3) := by decide +kernel
theorem dX1_isNan_5 : decode cX1_isNan 5 = .ok (.aload_n 0, 1) := by decide +kernel
theorem dX1_isNan_6 : decode cX1_isNan 6 = .ok (.getfield 45, 3) := by decide +kernel
theorem dX1_isNan_9 : decode cX1_isNan 9 = .ok (.lcmp, 1) := by decide +kernel
theorem dX1_isNan_10 : decode cX1_isNan 10 = .ok (.ifCond .le 7, 3) := by decide +kernel
theorem dX1_isNan_13 : decode cX1_isNan 13 = .ok (.iconst 1, 1) := by decide +kernel
theorem dX1_isNan_14 : decode cX1_isNan 14 = .ok (.goto 4, 3) := by decide +kernel
theorem dX1_isNan_17 : decode cX1_isNan 17 = .ok (.iconst 0, 1) := by decide +kernel
theorem dX1_isNan_18 : decode cX1_isNan 18 = .ok (.ireturn, 1) := by decide +kernel
theorem dX1_isInfinite_0 : decode cX1_isInfinite 0 = .ok (.aload_n 0, 1) := by decide +kernel
theorem dX1_isInfinite_1 : decode cX1_isInfinite 1 = .ok (.lload_n 1, 1) := by decide +kernel
theorem dX1_isInfinite_2 : decode cX1_isInfinite 2 = .ok (.invokevirtual 118, 3) := by decide +kernel
theorem dX1_isInfinite_5 : decode cX1_isInfinite 5 = .ok (.aload_n 0, 1) := by decide +kernel
theorem dX1_isInfinite_6 : decode cX1_isInfinite 6 = .ok (.getfield 45, 3) := by decide +kernel
theorem dX1_isInfinite_9 : decode cX1_isInfinite 9 = .ok (.lcmp, 1) := by decide +kernel
theorem dX1_isInfinite_10 : decode cX1_isInfinite 10 = .ok (.ifCond .ne 7, 3) := by decide +kernel
theorem dX1_isInfinite_13 : decode cX1_isInfinite 13 = .ok (.iconst 1, 1) := by decide +kernel
theorem dX1_isInfinite_14 : decode cX1_isInfinite 14 = .ok (.goto 4, 3) := by decide +kernel
theorem dX1_isInfinite_17 : decode cX1_isInfinite 17 = .ok (.iconst 0, 1) := by decide +kernel
theorem dX1_isInfinite_18 : decode cX1_isInfinite 18 = .ok (.ireturn, 1) := by decide +kernel
theorem dX1_isZero_0 : decode cX1_isZero 0 = .ok (.aload_n 0, 1) := by decide +kernel
theorem dX1_isZero_1 : decode cX1_isZero 1 = .ok (.lload_n 1, 1) := by decide +kernel
theorem dX1_isZero_2 : decode cX1_isZero 2 = .ok (.invokevirtual 118, 3) := by decide +kernel
theorem dX1_isZero_5 : decode cX1_isZero 5 = .ok (.lconst 0, 1) := by decide +kernel
theorem dX1_isZero_6 : decode cX1_isZero 6 = .ok (.lcmp, 1) := by decide +kernel
theorem dX1_isZero_7 : decode cX1_isZero 7 = .ok (.ifCond .ne 7, 3) := by decide +kernel
theorem dX1_isZero_10 : decode cX1_isZero 10 = .ok (.iconst 1, 1) := by decide +kernel
theorem dX1_isZero_11 : decode cX1_isZero 11 = .ok (.goto 4, 3) := by decide +kernel
theorem dX1_isZero_14 : decode cX1_isZero 14 = .ok (.iconst 0, 1) := by decide +kernel
theorem dX1_isZero_15 : decode cX1_isZero 15 = .ok (.ireturn, 1) := by decide +kernel
theorem dX1_isNegative_0 : decode cX1_isNegative 0 = .ok (.lload_n 1, 1) := by decide +kernel
theorem dX1_isNegative_1 : decode cX1_isNegative 1 = .ok (.aload_n 0, 1) := by decide +kernel
theorem dX1_isNegative_2 : decode cX1_isNegative 2 = .ok (.getfield 36, 3) := by decide +kernel
theorem dX1_isNegative_5 : decode cX1_isNegative 5 = .ok (.land, 1) := by decide +kernel
theorem dX1_isNegative_6 : decode cX1_isNegative 6 = .ok (.lconst 0, 1) := by decide +kernel
theorem dX1_isNegative_7 : decode cX1_isNegative 7 = .ok (.lcmp, 1) := by decide +kernel
theorem dX1_isNegative_8 : decode cX1_isNegative 8 = .ok (.ifCond .eq 7, 3) := by decide +kernel
theorem dX1_isNegative_11 : decode cX1_isNegative 11 = .ok (.iconst 1, 1) := by decide +kernel
theorem dX1_isNegative_12 : decode cX1_isNegative 12 = .ok (.goto 4, 3) := by decide +kernel
theorem dX1_isNegative_15 : decode cX1_isNegative 15 = .ok (.iconst 0, 1) := by decide +kernel
theorem dX1_isNegative_16 : decode cX1_isNegative 16 = .ok (.ireturn, 1) := by decide +kernel
theorem dX1_signed_0 : decode cX1_signed 0 = .ok (.iload_n 1, 1) := by decide +kernel
theorem dX1_signed_1 : decode cX1_signed 1 = .ok (.ifCond .eq 12, 3) := by decide +kernel
theorem dX1_signed_4 : decode cX1_signed 4 = .ok (.lload_n 2, 1) := by decide +kernel
theorem dX1_signed_5 : decode cX1_signed 5 = .ok (.aload_n 0, 1) := by decide +kernel
theorem dX1_signed_6 : decode cX1_signed 6 = .ok (.getfield 36, 3) := by decide +kernel
theorem dX1_signed_9 : decode cX1_signed 9 = .ok (.lor, 1) := by decide +kernel
theorem dX1_signed_10 : decode cX1_signed 10 = .ok (.goto 4, 3) := by decide +kernel
theorem dX1_signed_13 : decode cX1_signed 13 = .ok (.lload_n 2, 1) := by decide +kernel
theorem dX1_signed_14 : decode cX1_signed 14 = .ok (.lreturn, 1) := by decide +kernel
theorem dX1_order_0 : decode cX1_order 0 = .ok (.aload_n 0, 1) := by decide +kernel
theorem dX1_order_1 : decode cX1_order 1 = .ok (.lload_n 1, 1) := by decide +kernel
theorem dX1_order_2 : decode cX1_order 2 = .ok (.invokevirtual 81, 3) := by decide +kernel
theorem dX1_order_5 : decode cX1_order 5 = .ok (.ifCond .eq 12, 3) := by decide +kernel
theorem dX1_order_8 : decode cX1_order 8 = .ok (.aload_n 0, 1) := by decide +kernel
theorem dX1_order_9 : decode cX1_order 9 = .ok (.lload_n 1, 1) := by decide +kernel
theorem dX1_order_10 : decode cX1_order 10 = .ok (.invokevirtual 118, 3) := by decide +kernel
theorem dX1_order_13 : decode cX1_order 13 = .ok (.lneg, 1) := by decide +kernel
theorem dX1_order_14 : decode cX1_order 14 = .ok (.goto 4, 3) := by decide +kernel
theorem dX1_order_17 : decode cX1_order 17 = .ok (.lload_n 1, 1) := by decide +kernel
theorem dX1_order_18 : decode cX1_order 18 = .ok (.lreturn, 1) := by decide +kernel
theorem dX1_exponent_0 : decode cX1_exponent 0 = .ok (.aload_n 0, 1) := by decide +kernel
theorem dX1_exponent_1 : decode cX1_exponent 1 = .ok (.lload_n 1, 1) := by decide +kernel
theorem dX1_exponent_2 : decode cX1_exponent 2 = .ok (.invokevirtual 118, 3) := by decide +kernel
theorem dX1_exponent_5 : decode cX1_exponent 5 = .ok (.aload_n 0, 1) := by decide +kernel
theorem dX1_exponent_6 : decode cX1_exponent 6 = .ok (.getfield 29, 3) := by decide +kernel
theorem dX1_exponent_9 : decode cX1_exponent 9 = .ok (.lushr, 1) := by decide +kernel
theorem dX1_exponent_10 : decode cX1_exponent 10 = .ok (.l2i, 1) := by decide +kernel
theorem dX1_exponent_11 : decode cX1_exponent 11 = .ok (.istore_n 3, 1) := by decide +kernel
theorem dX1_exponent_12 : decode cX1_exponent 12 = .ok (.aload_n 0, 1) := by decide +kernel
theorem dX1_exponent_13 : decode cX1_exponent 13 = .ok (.getfield 33, 3) := by decide +kernel
theorem dX1_exponent_16 : decode cX1_exponent 16 = .ok (.iload_n 3, 1) := by decide +kernel
theorem dX1_exponent_17 : decode cX1_exponent 17 = .ok (.iconst 1, 1) := by decide +kernel
theorem dX1_exponent_18 : decode cX1_exponent 18 = .ok (.isub, 1) := by decide +kernel
theorem dX1_exponent_19 : decode cX1_exponent 19 = .ok (.iconst 0, 1) := by decide +kernel
theorem dX1_exponent_20 : decode cX1_exponent 20 = .ok (.invokestatic 121, 3) := by decide +kernel
theorem dX1_exponent_23 : decode cX1_exponent 23 = .ok (.iadd, 1) := by decide +kernel
theorem dX1_exponent_24 : decode cX1_exponent 24 = .ok (.aload_n 0, 1) := by decide +kernel
theorem dX1_exponent_25 : decode cX1_exponent 25 = .ok (.lload_n 1, 1) := by decide +kernel
theorem dX1_exponent_26 : decode cX1_exponent 26 = .ok (.invokevirtual 125, 3) := by decide +kernel
theorem dX1_exponent_29 : decode cX1_exponent 29 = .ok (.invokestatic 128, 3) := by decide +kernel
theorem dX1_exponent_32 : decode cX1_exponent 32 = .ok (.isub, 1) := by decide +kernel
theorem dX1_exponent_33 : decode cX1_exponent 33 = .ok (.ireturn, 1) := by decide +kernel
theorem dX1_significand_0 : decode cX1_significand 0 = .ok (.aload_n 0, 1) := by decide +kernel
theorem dX1_significand_1 : decode cX1_significand 1 = .ok (.lload_n 1, 1) := by decide +kernel
theorem dX1_significand_2 : decode cX1_significand 2 = .ok (.invokevirtual 125, 3) := by decide +kernel
theorem dX1_significand_5 : decode cX1_significand 5 = .ok (.lstore_n 3, 1) := by decide +kernel
theorem dX1_significand_6 : decode cX1_significand 6 = .ok (.lload_n 3, 1) := by decide +kernel
theorem dX1_significand_7 : decode cX1_significand 7 = .ok (.lload_n 3, 1) := by decide +kernel
theorem dX1_significand_8 : decode cX1_significand 8 = .ok (.invokestatic 128, 3) := by decide +kernel
theorem dX1_significand_11 : decode cX1_significand 11 = .ok (.lshl, 1) := by decide +kernel
theorem dX1_significand_12 : decode cX1_significand 12 = .ok (.lreturn, 1) := by decide +kernel
theorem dX1_unscaled_0 : decode cX1_unscaled 0 = .ok (.lconst 1, 1) := by decide +kernel
theorem dX1_unscaled_1 : decode cX1_unscaled 1 = .ok (.aload_n 0, 1) := by decide +kernel
theorem dX1_unscaled_2 : decode cX1_unscaled 2 = .ok (.getfield 29, 3) := by decide +kernel
theorem dX1_unscaled_5 : decode cX1_unscaled 5 = .ok (.lshl, 1) := by decide +kernel
theorem dX1_unscaled_6 : decode cX1_unscaled 6 = .ok (.lstore_n 3, 1) := by decide +kernel
theorem dX1_unscaled_7 : decode cX1_unscaled 7 = .ok (.lload_n 1, 1) := by decide +kernel
theorem dX1_unscaled_8 : decode cX1_unscaled 8 = .ok (.lload_n 3, 1) := by decide +kernel
theorem dX1_unscaled_9 : decode cX1_unscaled 9 = .ok (.lconst 1, 1) := by decide +kernel
theorem dX1_unscaled_10 : decode cX1_unscaled 10 = .ok (.lsub, 1) := by decide +kernel
theorem dX1_unscaled_11 : decode cX1_unscaled 11 = .ok (.land, 1) := by decide +kernel
theorem dX1_unscaled_12 : decode cX1_unscaled 12 = .ok (.lstore 5, 2) := by decide +kernel
theorem dX1_unscaled_14 : decode cX1_unscaled 14 = .ok (.aload_n 0, 1) := by decide +kernel
theorem dX1_unscaled_15 : decode cX1_unscaled 15 = .ok (.lload_n 1, 1) := by decide +kernel
theorem dX1_unscaled_16 : decode cX1_unscaled 16 = .ok (.invokevirtual 118, 3) := by decide +kernel
theorem dX1_unscaled_19 : decode cX1_unscaled 19 = .ok (.lload_n 3, 1) := by decide +kernel
theorem dX1_unscaled_20 : decode cX1_unscaled 20 = .ok (.lcmp, 1) := by decide +kernel
theorem dX1_unscaled_21 : decode cX1_unscaled 21 = .ok (.ifCond .ge 8, 3) := by decide +kernel
theorem dX1_unscaled_24 : decode cX1_unscaled 24 = .ok (.lload 5, 2) := by decide +kernel
theorem dX1_unscaled_26 : decode cX1_unscaled 26 = .ok (.goto 7, 3) := by decide +kernel
theorem dX1_unscaled_29 : decode cX1_unscaled 29 = .ok (.lload 5, 2) := by decide +kernel
theorem dX1_unscaled_31 : decode cX1_unscaled 31 = .ok (.lload_n 3, 1) := by decide +kernel
theorem dX1_unscaled_32 : decode cX1_unscaled 32 = .ok (.lor, 1) := by decide +kernel
theorem dX1_unscaled_33 : decode cX1_unscaled 33 = .ok (.lreturn, 1) := by decide +kernel
theorem dX1_placesUp_0 : decode cX1_placesUp 0 = .ok (.lload_n 0, 1) := by decide +kernel
theorem dX1_placesUp_1 : decode cX1_placesUp 1 = .ok (.invokestatic 131, 3) := by decide +kernel
theorem dX1_placesUp_4 : decode cX1_placesUp 4 = .ok (.bipush 11, 2) := by decide +kernel
theorem dX1_placesUp_6 : decode cX1_placesUp 6 = .ok (.isub, 1) := by decide +kernel
theorem dX1_placesUp_7 : decode cX1_placesUp 7 = .ok (.iconst 0, 1) := by decide +kernel
theorem dX1_placesUp_8 : decode cX1_placesUp 8 = .ok (.invokestatic 121, 3) := by decide +kernel
theorem dX1_placesUp_11 : decode cX1_placesUp 11 = .ok (.ireturn, 1) := by decide +kernel
theorem dX1_rounded_0 : decode cX1_rounded 0 = .ok (.bipush 63, 2) := by decide +kernel
theorem dX1_rounded_2 : decode cX1_rounded 2 = .ok (.aload_n 0, 1) := by decide +kernel
theorem dX1_rounded_3 : decode cX1_rounded 3 = .ok (.getfield 29, 3) := by decide +kernel
theorem dX1_rounded_6 : decode cX1_rounded 6 = .ok (.isub, 1) := by decide +kernel
theorem dX1_rounded_7 : decode cX1_rounded 7 = .ok (.lload_n 3, 1) := by decide +kernel
theorem dX1_rounded_8 : decode cX1_rounded 8 = .ok (.invokestatic 131, 3) := by decide +kernel
theorem dX1_rounded_11 : decode cX1_rounded 11 = .ok (.isub, 1) := by decide +kernel
theorem dX1_rounded_12 : decode cX1_rounded 12 = .ok (.istore 5, 2) := by decide +kernel
theorem dX1_rounded_14 : decode cX1_rounded 14 = .ok (.iload 5, 2) := by decide +kernel
theorem dX1_rounded_16 : decode cX1_rounded 16 = .ok (.aload_n 0, 1) := by decide +kernel
theorem dX1_rounded_17 : decode cX1_rounded 17 = .ok (.getfield 33, 3) := by decide +kernel
theorem dX1_rounded_20 : decode cX1_rounded 20 = .ok (.iload_n 2, 1) := by decide +kernel
theorem dX1_rounded_21 : decode cX1_rounded 21 = .ok (.isub, 1) := by decide +kernel
theorem dX1_rounded_22 : decode cX1_rounded 22 = .ok (.invokestatic 121, 3) := by decide +kernel
theorem dX1_rounded_25 : decode cX1_rounded 25 = .ok (.istore 6, 2) := by decide +kernel
theorem dX1_rounded_27 : decode cX1_rounded 27 = .ok (.iload_n 2, 1) := by decide +kernel
theorem dX1_rounded_28 : decode cX1_rounded 28 = .ok (.iload 6, 2) := by decide +kernel
theorem dX1_rounded_30 : decode cX1_rounded 30 = .ok (.iadd, 1) := by decide +kernel
theorem dX1_rounded_31 : decode cX1_rounded 31 = .ok (.aload_n 0, 1) := by decide +kernel
theorem dX1_rounded_32 : decode cX1_rounded 32 = .ok (.getfield 33, 3) := by decide +kernel
theorem dX1_rounded_35 : decode cX1_rounded 35 = .ok (.isub, 1) := by decide +kernel
theorem dX1_rounded_36 : decode cX1_rounded 36 = .ok (.istore 7, 2) := by decide +kernel
theorem dX1_rounded_38 : decode cX1_rounded 38 = .ok (.iload 7, 2) := by decide +kernel
theorem dX1_rounded_40 : decode cX1_rounded 40 = .ok (.aload_n 0, 1) := by decide +kernel
theorem dX1_rounded_41 : decode cX1_rounded 41 = .ok (.getfield 42, 3) := by decide +kernel
theorem dX1_rounded_44 : decode cX1_rounded 44 = .ok (.iconst 1, 1) := by decide +kernel
theorem dX1_rounded_45 : decode cX1_rounded 45 = .ok (.isub, 1) := by decide +kernel
theorem dX1_rounded_46 : decode cX1_rounded 46 = .ok (.if_icmp .lt 13, 3) := by decide +kernel
theorem dX1_rounded_49 : decode cX1_rounded 49 = .ok (.aload_n 0, 1) := by decide +kernel
theorem dX1_rounded_50 : decode cX1_rounded 50 = .ok (.iload_n 1, 1) := by decide +kernel
theorem dX1_rounded_51 : decode cX1_rounded 51 = .ok (.aload_n 0, 1) := by decide +kernel
theorem dX1_rounded_52 : decode cX1_rounded 52 = .ok (.getfield 45, 3) := by decide +kernel
theorem dX1_rounded_55 : decode cX1_rounded 55 = .ok (.invokevirtual 84, 3) := by decide +kernel
theorem dX1_rounded_58 : decode cX1_rounded 58 = .ok (.lreturn, 1) := by decide +kernel
theorem dX1_rounded_59 : decode cX1_rounded 59 = .ok (.iload 6, 2) := by decide +kernel
theorem dX1_rounded_61 : decode cX1_rounded 61 = .ok (.ifCond .le 12, 3) := by decide +kernel
theorem dX1_rounded_64 : decode cX1_rounded 64 = .ok (.lload_n 3, 1) := by decide +kernel
theorem dX1_rounded_65 : decode cX1_rounded 65 = .ok (.iload 6, 2) := by decide +kernel
theorem dX1_rounded_67 : decode cX1_rounded 67 = .ok (.invokestatic 134, 3) := by decide +kernel
theorem dX1_rounded_70 : decode cX1_rounded 70 = .ok (.goto 8, 3) := by decide +kernel
theorem dX1_rounded_73 : decode cX1_rounded 73 = .ok (.lload_n 3, 1) := by decide +kernel
theorem dX1_rounded_74 : decode cX1_rounded 74 = .ok (.iload 6, 2) := by decide +kernel
theorem dX1_rounded_76 : decode cX1_rounded 76 = .ok (.ineg, 1) := by decide +kernel
theorem dX1_rounded_77 : decode cX1_rounded 77 = .ok (.lshl, 1) := by decide +kernel
theorem dX1_rounded_78 : decode cX1_rounded 78 = .ok (.lstore 8, 2) := by decide +kernel
theorem dX1_rounded_80 : decode cX1_rounded 80 = .ok (.aload_n 0, 1) := by decide +kernel
theorem dX1_rounded_81 : decode cX1_rounded 81 = .ok (.iload_n 1, 1) := by decide +kernel
theorem dX1_rounded_82 : decode cX1_rounded 82 = .ok (.iload 7, 2) := by decide +kernel
theorem dX1_rounded_84 : decode cX1_rounded 84 = .ok (.i2l, 1) := by decide +kernel
theorem dX1_rounded_85 : decode cX1_rounded 85 = .ok (.aload_n 0, 1) := by decide +kernel
theorem dX1_rounded_86 : decode cX1_rounded 86 = .ok (.getfield 29, 3) := by decide +kernel
theorem dX1_rounded_89 : decode cX1_rounded 89 = .ok (.lshl, 1) := by decide +kernel
theorem dX1_rounded_90 : decode cX1_rounded 90 = .ok (.lload 8, 2) := by decide +kernel
theorem dX1_rounded_92 : decode cX1_rounded 92 = .ok (.ladd, 1) := by decide +kernel
theorem dX1_rounded_93 : decode cX1_rounded 93 = .ok (.invokevirtual 84, 3) := by decide +kernel
theorem dX1_rounded_96 : decode cX1_rounded 96 = .ok (.lreturn, 1) := by decide +kernel
theorem dX1_shiftedToEven_0 : decode cX1_shiftedToEven 0 = .ok (.iload_n 2, 1) := by decide +kernel
theorem dX1_shiftedToEven_1 : decode cX1_shiftedToEven 1 = .ok (.bipush 63, 2) := by decide +kernel
theorem dX1_shiftedToEven_3 : decode cX1_shiftedToEven 3 = .ok (.if_icmp .le 5, 3) := by decide +kernel
theorem dX1_shiftedToEven_6 : decode cX1_shiftedToEven 6 = .ok (.lconst 0, 1) := by decide +kernel
theorem dX1_shiftedToEven_7 : decode cX1_shiftedToEven 7 = .ok (.lreturn, 1) := by decide +kernel
theorem dX1_shiftedToEven_8 : decode cX1_shiftedToEven 8 = .ok (.lload_n 0, 1) := by decide +kernel
theorem dX1_shiftedToEven_9 : decode cX1_shiftedToEven 9 = .ok (.iload_n 2, 1) := by decide +kernel
theorem dX1_shiftedToEven_10 : decode cX1_shiftedToEven 10 = .ok (.lushr, 1) := by decide +kernel
theorem dX1_shiftedToEven_11 : decode cX1_shiftedToEven 11 = .ok (.lstore_n 3, 1) := by decide +kernel
theorem dX1_shiftedToEven_12 : decode cX1_shiftedToEven 12 = .ok (.lload_n 0, 1) := by decide +kernel
theorem dX1_shiftedToEven_13 : decode cX1_shiftedToEven 13 = .ok (.lload_n 3, 1) := by decide +kernel
theorem dX1_shiftedToEven_14 : decode cX1_shiftedToEven 14 = .ok (.iload_n 2, 1) := by decide +kernel
theorem dX1_shiftedToEven_15 : decode cX1_shiftedToEven 15 = .ok (.lshl, 1) := by decide +kernel
theorem dX1_shiftedToEven_16 : decode cX1_shiftedToEven 16 = .ok (.lsub, 1) := by decide +kernel
theorem dX1_shiftedToEven_17 : decode cX1_shiftedToEven 17 = .ok (.lstore 5, 2) := by decide +kernel
theorem dX1_shiftedToEven_19 : decode cX1_shiftedToEven 19 = .ok (.lconst 1, 1) := by decide +kernel
theorem dX1_shiftedToEven_20 : decode cX1_shiftedToEven 20 = .ok (.iload_n 2, 1) := by decide +kernel
theorem dX1_shiftedToEven_21 : decode cX1_shiftedToEven 21 = .ok (.iconst 1, 1) := by decide +kernel
theorem dX1_shiftedToEven_22 : decode cX1_shiftedToEven 22 = .ok (.isub, 1) := by decide +kernel
theorem dX1_shiftedToEven_23 : decode cX1_shiftedToEven 23 = .ok (.lshl, 1) := by decide +kernel
theorem dX1_shiftedToEven_24 : decode cX1_shiftedToEven 24 = .ok (.lstore 7, 2) := by decide +kernel
theorem dX1_shiftedToEven_26 : decode cX1_shiftedToEven 26 = .ok (.lload 5, 2) := by decide +kernel
theorem dX1_shiftedToEven_28 : decode cX1_shiftedToEven 28 = .ok (.lload 7, 2) := by decide +kernel
theorem dX1_shiftedToEven_30 : decode cX1_shiftedToEven 30 = .ok (.lcmp, 1) := by decide +kernel
theorem dX1_shiftedToEven_31 : decode cX1_shiftedToEven 31 = .ok (.ifCond .gt 19, 3) := by decide +kernel
theorem dX1_shiftedToEven_34 : decode cX1_shiftedToEven 34 = .ok (.lload 5, 2) := by decide +kernel
theorem dX1_shiftedToEven_36 : decode cX1_shiftedToEven 36 = .ok (.lload 7, 2) := by decide +kernel
theorem dX1_shiftedToEven_38 : decode cX1_shiftedToEven 38 = .ok (.lcmp, 1) := by decide +kernel
theorem dX1_shiftedToEven_39 : decode cX1_shiftedToEven 39 = .ok (.ifCond .ne 15, 3) := by decide +kernel
theorem dX1_shiftedToEven_42 : decode cX1_shiftedToEven 42 = .ok (.lload_n 3, 1) := by decide +kernel
theorem dX1_shiftedToEven_43 : decode cX1_shiftedToEven 43 = .ok (.lconst 1, 1) := by decide +kernel
theorem dX1_shiftedToEven_44 : decode cX1_shiftedToEven 44 = .ok (.land, 1) := by decide +kernel
theorem dX1_shiftedToEven_45 : decode cX1_shiftedToEven 45 = .ok (.lconst 1, 1) := by decide +kernel
theorem dX1_shiftedToEven_46 : decode cX1_shiftedToEven 46 = .ok (.lcmp, 1) := by decide +kernel
theorem dX1_shiftedToEven_47 : decode cX1_shiftedToEven 47 = .ok (.ifCond .ne 7, 3) := by decide +kernel
theorem dX1_shiftedToEven_50 : decode cX1_shiftedToEven 50 = .ok (.iconst 1, 1) := by decide +kernel
theorem dX1_shiftedToEven_51 : decode cX1_shiftedToEven 51 = .ok (.goto 4, 3) := by decide +kernel
theorem dX1_shiftedToEven_54 : decode cX1_shiftedToEven 54 = .ok (.iconst 0, 1) := by decide +kernel
theorem dX1_shiftedToEven_55 : decode cX1_shiftedToEven 55 = .ok (.istore 9, 2) := by decide +kernel
theorem dX1_shiftedToEven_57 : decode cX1_shiftedToEven 57 = .ok (.iload 9, 2) := by decide +kernel
theorem dX1_shiftedToEven_59 : decode cX1_shiftedToEven 59 = .ok (.ifCond .eq 9, 3) := by decide +kernel
theorem dX1_shiftedToEven_62 : decode cX1_shiftedToEven 62 = .ok (.lload_n 3, 1) := by decide +kernel
theorem dX1_shiftedToEven_63 : decode cX1_shiftedToEven 63 = .ok (.lconst 1, 1) := by decide +kernel
theorem dX1_shiftedToEven_64 : decode cX1_shiftedToEven 64 = .ok (.ladd, 1) := by decide +kernel
theorem dX1_shiftedToEven_65 : decode cX1_shiftedToEven 65 = .ok (.goto 4, 3) := by decide +kernel
theorem dX1_shiftedToEven_68 : decode cX1_shiftedToEven 68 = .ok (.lload_n 3, 1) := by decide +kernel
theorem dX1_shiftedToEven_69 : decode cX1_shiftedToEven 69 = .ok (.lreturn, 1) := by decide +kernel
theorem dX1_shiftedDown_0 : decode cX1_shiftedDown 0 = .ok (.iload_n 2, 1) := by decide +kernel
theorem dX1_shiftedDown_1 : decode cX1_shiftedDown 1 = .ok (.bipush 62, 2) := by decide +kernel
theorem dX1_shiftedDown_3 : decode cX1_shiftedDown 3 = .ok (.if_icmp .le 5, 3) := by decide +kernel
theorem dX1_shiftedDown_6 : decode cX1_shiftedDown 6 = .ok (.lconst 1, 1) := by decide +kernel
theorem dX1_shiftedDown_7 : decode cX1_shiftedDown 7 = .ok (.lreturn, 1) := by decide +kernel
theorem dX1_shiftedDown_8 : decode cX1_shiftedDown 8 = .ok (.lload_n 0, 1) := by decide +kernel
theorem dX1_shiftedDown_9 : decode cX1_shiftedDown 9 = .ok (.iload_n 2, 1) := by decide +kernel
theorem dX1_shiftedDown_10 : decode cX1_shiftedDown 10 = .ok (.lushr, 1) := by decide +kernel
theorem dX1_shiftedDown_11 : decode cX1_shiftedDown 11 = .ok (.lstore_n 3, 1) := by decide +kernel
theorem dX1_shiftedDown_12 : decode cX1_shiftedDown 12 = .ok (.lload_n 3, 1) := by decide +kernel
theorem dX1_shiftedDown_13 : decode cX1_shiftedDown 13 = .ok (.iload_n 2, 1) := by decide +kernel
theorem dX1_shiftedDown_14 : decode cX1_shiftedDown 14 = .ok (.lshl, 1) := by decide +kernel
theorem dX1_shiftedDown_15 : decode cX1_shiftedDown 15 = .ok (.lload_n 0, 1) := by decide +kernel
theorem dX1_shiftedDown_16 : decode cX1_shiftedDown 16 = .ok (.lcmp, 1) := by decide +kernel
theorem dX1_shiftedDown_17 : decode cX1_shiftedDown 17 = .ok (.ifCond .ne 7, 3) := by decide +kernel
theorem dX1_shiftedDown_20 : decode cX1_shiftedDown 20 = .ok (.lload_n 3, 1) := by decide +kernel
theorem dX1_shiftedDown_21 : decode cX1_shiftedDown 21 = .ok (.goto 6, 3) := by decide +kernel
theorem dX1_shiftedDown_24 : decode cX1_shiftedDown 24 = .ok (.lload_n 3, 1) := by decide +kernel
theorem dX1_shiftedDown_25 : decode cX1_shiftedDown 25 = .ok (.lconst 1, 1) := by decide +kernel
theorem dX1_shiftedDown_26 : decode cX1_shiftedDown 26 = .ok (.lor, 1) := by decide +kernel
theorem dX1_shiftedDown_27 : decode cX1_shiftedDown 27 = .ok (.lreturn, 1) := by decide +kernel
theorem dX1_highProduct_0 : decode cX1_highProduct 0 = .ok (.lload_n 0, 1) := by decide +kernel
theorem dX1_highProduct_1 : decode cX1_highProduct 1 = .ok (.bipush 27, 2) := by decide +kernel
theorem dX1_highProduct_3 : decode cX1_highProduct 3 = .ok (.lushr, 1) := by decide +kernel
theorem dX1_highProduct_4 : decode cX1_highProduct 4 = .ok (.lstore 4, 2) := by decide +kernel
theorem dX1_highProduct_6 : decode cX1_highProduct 6 = .ok (.lload_n 0, 1) := by decide +kernel
theorem dX1_highProduct_7 : decode cX1_highProduct 7 = .ok (.ldc2_w 137, 3) := by decide +kernel
theorem dX1_highProduct_10 : decode cX1_highProduct 10 = .ok (.land, 1) := by decide +kernel
theorem dX1_highProduct_11 : decode cX1_highProduct 11 = .ok (.lstore 6, 2) := by decide +kernel
theorem dX1_highProduct_13 : decode cX1_highProduct 13 = .ok (.lload_n 2, 1) := by decide +kernel
theorem dX1_highProduct_14 : decode cX1_highProduct 14 = .ok (.bipush 27, 2) := by decide +kernel
theorem dX1_highProduct_16 : decode cX1_highProduct 16 = .ok (.lushr, 1) := by decide +kernel
theorem dX1_highProduct_17 : decode cX1_highProduct 17 = .ok (.lstore 8, 2) := by decide +kernel
theorem dX1_highProduct_19 : decode cX1_highProduct 19 = .ok (.lload_n 2, 1) := by decide +kernel
theorem dX1_highProduct_20 : decode cX1_highProduct 20 = .ok (.ldc2_w 137, 3) := by decide +kernel
theorem dX1_highProduct_23 : decode cX1_highProduct 23 = .ok (.land, 1) := by decide +kernel
theorem dX1_highProduct_24 : decode cX1_highProduct 24 = .ok (.lstore 10, 2) := by decide +kernel
theorem dX1_highProduct_26 : decode cX1_highProduct 26 = .ok (.lload 4, 2) := by decide +kernel
theorem dX1_highProduct_28 : decode cX1_highProduct 28 = .ok (.lload 10, 2) := by decide +kernel
theorem dX1_highProduct_30 : decode cX1_highProduct 30 = .ok (.lmul, 1) := by decide +kernel
theorem dX1_highProduct_31 : decode cX1_highProduct 31 = .ok (.lload 6, 2) := by decide +kernel
theorem dX1_highProduct_33 : decode cX1_highProduct 33 = .ok (.lload 8, 2) := by decide +kernel
theorem dX1_highProduct_35 : decode cX1_highProduct 35 = .ok (.lmul, 1) := by decide +kernel
theorem dX1_highProduct_36 : decode cX1_highProduct 36 = .ok (.ladd, 1) := by decide +kernel
theorem dX1_highProduct_37 : decode cX1_highProduct 37 = .ok (.lstore 12, 2) := by decide +kernel
theorem dX1_highProduct_39 : decode cX1_highProduct 39 = .ok (.lload 6, 2) := by decide +kernel
theorem dX1_highProduct_41 : decode cX1_highProduct 41 = .ok (.lload 10, 2) := by decide +kernel
theorem dX1_highProduct_43 : decode cX1_highProduct 43 = .ok (.lmul, 1) := by decide +kernel
theorem dX1_highProduct_44 : decode cX1_highProduct 44 = .ok (.lload 12, 2) := by decide +kernel
theorem dX1_highProduct_46 : decode cX1_highProduct 46 = .ok (.ldc2_w 137, 3) := by decide +kernel
theorem dX1_highProduct_49 : decode cX1_highProduct 49 = .ok (.land, 1) := by decide +kernel
theorem dX1_highProduct_50 : decode cX1_highProduct 50 = .ok (.bipush 27, 2) := by decide +kernel
theorem dX1_highProduct_52 : decode cX1_highProduct 52 = .ok (.lshl, 1) := by decide +kernel
theorem dX1_highProduct_53 : decode cX1_highProduct 53 = .ok (.ladd, 1) := by decide +kernel
theorem dX1_highProduct_54 : decode cX1_highProduct 54 = .ok (.lstore 14, 2) := by decide +kernel
theorem dX1_highProduct_56 : decode cX1_highProduct 56 = .ok (.lload 4, 2) := by decide +kernel
theorem dX1_highProduct_58 : decode cX1_highProduct 58 = .ok (.lload 8, 2) := by decide +kernel
theorem dX1_highProduct_60 : decode cX1_highProduct 60 = .ok (.lmul, 1) := by decide +kernel
theorem dX1_highProduct_61 : decode cX1_highProduct 61 = .ok (.lload 12, 2) := by decide +kernel
theorem dX1_highProduct_63 : decode cX1_highProduct 63 = .ok (.bipush 27, 2) := by decide +kernel
theorem dX1_highProduct_65 : decode cX1_highProduct 65 = .ok (.lushr, 1) := by decide +kernel
theorem dX1_highProduct_66 : decode cX1_highProduct 66 = .ok (.ladd, 1) := by decide +kernel
theorem dX1_highProduct_67 : decode cX1_highProduct 67 = .ok (.lstore 16, 2) := by decide +kernel
theorem dX1_highProduct_69 : decode cX1_highProduct 69 = .ok (.lload 16, 2) := by decide +kernel
theorem dX1_highProduct_71 : decode cX1_highProduct 71 = .ok (.bipush 10, 2) := by decide +kernel
theorem dX1_highProduct_73 : decode cX1_highProduct 73 = .ok (.lshl, 1) := by decide +kernel
theorem dX1_highProduct_74 : decode cX1_highProduct 74 = .ok (.lload 14, 2) := by decide +kernel
theorem dX1_highProduct_76 : decode cX1_highProduct 76 = .ok (.bipush 44, 2) := by decide +kernel
theorem dX1_highProduct_78 : decode cX1_highProduct 78 = .ok (.invokestatic 104, 3) := by decide +kernel
theorem dX1_highProduct_81 : decode cX1_highProduct 81 = .ok (.ladd, 1) := by decide +kernel
theorem dX1_highProduct_82 : decode cX1_highProduct 82 = .ok (.lreturn, 1) := by decide +kernel
theorem dX1_longQuotient_0 : decode cX1_longQuotient 0 = .ok (.lload_n 2, 1) := by decide +kernel
theorem dX1_longQuotient_1 : decode cX1_longQuotient 1 = .ok (.lconst 0, 1) := by decide +kernel
theorem dX1_longQuotient_2 : decode cX1_longQuotient 2 = .ok (.lcmp, 1) := by decide +kernel
theorem dX1_longQuotient_3 : decode cX1_longQuotient 3 = .ok (.ifCond .ne 5, 3) := by decide +kernel
theorem dX1_longQuotient_6 : decode cX1_longQuotient 6 = .ok (.lconst 0, 1) := by decide +kernel
theorem dX1_longQuotient_7 : decode cX1_longQuotient 7 = .ok (.lreturn, 1) := by decide +kernel
theorem dX1_longQuotient_8 : decode cX1_longQuotient 8 = .ok (.lload_n 0, 1) := by decide +kernel
theorem dX1_longQuotient_9 : decode cX1_longQuotient 9 = .ok (.lload_n 2, 1) := by decide +kernel
theorem dX1_longQuotient_10 : decode cX1_longQuotient 10 = .ok (.ldiv, 1) := by decide +kernel
theorem dX1_longQuotient_11 : decode cX1_longQuotient 11 = .ok (.lstore 4, 2) := by decide +kernel
theorem dX1_longQuotient_13 : decode cX1_longQuotient 13 = .ok (.lload_n 0, 1) := by decide +kernel
theorem dX1_longQuotient_14 : decode cX1_longQuotient 14 = .ok (.lload_n 2, 1) := by decide +kernel
theorem dX1_longQuotient_15 : decode cX1_longQuotient 15 = .ok (.lrem, 1) := by decide +kernel
theorem dX1_longQuotient_16 : decode cX1_longQuotient 16 = .ok (.lstore 6, 2) := by decide +kernel
theorem dX1_longQuotient_18 : decode cX1_longQuotient 18 = .ok (.iconst 0, 1) := by decide +kernel
theorem dX1_longQuotient_19 : decode cX1_longQuotient 19 = .ok (.istore 8, 2) := by decide +kernel
theorem dX1_longQuotient_21 : decode cX1_longQuotient 21 = .ok (.iload 8, 2) := by decide +kernel
theorem dX1_longQuotient_23 : decode cX1_longQuotient 23 = .ok (.bipush 6, 2) := by decide +kernel
theorem dX1_longQuotient_25 : decode cX1_longQuotient 25 = .ok (.if_icmp .ge 34, 3) := by decide +kernel
theorem dX1_longQuotient_28 : decode cX1_longQuotient 28 = .ok (.lload 6, 2) := by decide +kernel
theorem dX1_longQuotient_30 : decode cX1_longQuotient 30 = .ok (.bipush 10, 2) := by decide +kernel
theorem dX1_longQuotient_32 : decode cX1_longQuotient 32 = .ok (.lshl, 1) := by decide +kernel
theorem dX1_longQuotient_33 : decode cX1_longQuotient 33 = .ok (.lstore 6, 2) := by decide +kernel
theorem dX1_longQuotient_35 : decode cX1_longQuotient 35 = .ok (.lload 4, 2) := by decide +kernel
theorem dX1_longQuotient_37 : decode cX1_longQuotient 37 = .ok (.bipush 10, 2) := by decide +kernel
theorem dX1_longQuotient_39 : decode cX1_longQuotient 39 = .ok (.lshl, 1) := by decide +kernel
theorem dX1_longQuotient_40 : decode cX1_longQuotient 40 = .ok (.lload 6, 2) := by decide +kernel
theorem dX1_longQuotient_42 : decode cX1_longQuotient 42 = .ok (.lload_n 2, 1) := by decide +kernel
theorem dX1_longQuotient_43 : decode cX1_longQuotient 43 = .ok (.ldiv, 1) := by decide +kernel
theorem dX1_longQuotient_44 : decode cX1_longQuotient 44 = .ok (.ladd, 1) := by decide +kernel
theorem dX1_longQuotient_45 : decode cX1_longQuotient 45 = .ok (.lstore 4, 2) := by decide +kernel
theorem dX1_longQuotient_47 : decode cX1_longQuotient 47 = .ok (.lload 6, 2) := by decide +kernel
theorem dX1_longQuotient_49 : decode cX1_longQuotient 49 = .ok (.lload_n 2, 1) := by decide +kernel
theorem dX1_longQuotient_50 : decode cX1_longQuotient 50 = .ok (.lrem, 1) := by decide +kernel
theorem dX1_longQuotient_51 : decode cX1_longQuotient 51 = .ok (.lstore 6, 2) := by decide +kernel
theorem dX1_longQuotient_53 : decode cX1_longQuotient 53 = .ok (.iinc 8 1, 3) := by decide +kernel
theorem dX1_longQuotient_56 : decode cX1_longQuotient 56 = .ok (.goto (-35), 3) := by decide +kernel
theorem dX1_longQuotient_59 : decode cX1_longQuotient 59 = .ok (.lload 6, 2) := by decide +kernel
theorem dX1_longQuotient_61 : decode cX1_longQuotient 61 = .ok (.lconst 0, 1) := by decide +kernel
theorem dX1_longQuotient_62 : decode cX1_longQuotient 62 = .ok (.lcmp, 1) := by decide +kernel
theorem dX1_longQuotient_63 : decode cX1_longQuotient 63 = .ok (.ifCond .ne 8, 3) := by decide +kernel
theorem dX1_longQuotient_66 : decode cX1_longQuotient 66 = .ok (.lload 4, 2) := by decide +kernel
theorem dX1_longQuotient_68 : decode cX1_longQuotient 68 = .ok (.goto 7, 3) := by decide +kernel
theorem dX1_longQuotient_71 : decode cX1_longQuotient 71 = .ok (.lload 4, 2) := by decide +kernel
theorem dX1_longQuotient_73 : decode cX1_longQuotient 73 = .ok (.lconst 1, 1) := by decide +kernel
theorem dX1_longQuotient_74 : decode cX1_longQuotient 74 = .ok (.lor, 1) := by decide +kernel
theorem dX1_longQuotient_75 : decode cX1_longQuotient 75 = .ok (.lreturn, 1) := by decide +kernel
theorem dX1_longRemainder_0 : decode cX1_longRemainder 0 = .ok (.lload_n 2, 1) := by decide +kernel
theorem dX1_longRemainder_1 : decode cX1_longRemainder 1 = .ok (.lconst 0, 1) := by decide +kernel
theorem dX1_longRemainder_2 : decode cX1_longRemainder 2 = .ok (.lcmp, 1) := by decide +kernel
theorem dX1_longRemainder_3 : decode cX1_longRemainder 3 = .ok (.ifCond .ne 5, 3) := by decide +kernel
theorem dX1_longRemainder_6 : decode cX1_longRemainder 6 = .ok (.lconst 0, 1) := by decide +kernel
theorem dX1_longRemainder_7 : decode cX1_longRemainder 7 = .ok (.lreturn, 1) := by decide +kernel
theorem dX1_longRemainder_8 : decode cX1_longRemainder 8 = .ok (.lload_n 0, 1) := by decide +kernel
theorem dX1_longRemainder_9 : decode cX1_longRemainder 9 = .ok (.lload_n 2, 1) := by decide +kernel
theorem dX1_longRemainder_10 : decode cX1_longRemainder 10 = .ok (.lrem, 1) := by decide +kernel
theorem dX1_longRemainder_11 : decode cX1_longRemainder 11 = .ok (.lstore 5, 2) := by decide +kernel
theorem dX1_longRemainder_13 : decode cX1_longRemainder 13 = .ok (.iload 4, 2) := by decide +kernel
theorem dX1_longRemainder_15 : decode cX1_longRemainder 15 = .ok (.istore 7, 2) := by decide +kernel
theorem dX1_longRemainder_17 : decode cX1_longRemainder 17 = .ok (.iload 7, 2) := by decide +kernel
theorem dX1_longRemainder_19 : decode cX1_longRemainder 19 = .ok (.ifCond .le 23, 3) := by decide +kernel
theorem dX1_longRemainder_22 : decode cX1_longRemainder 22 = .ok (.lload 5, 2) := by decide +kernel
theorem dX1_longRemainder_24 : decode cX1_longRemainder 24 = .ok (.bipush 10, 2) := by decide +kernel
theorem dX1_longRemainder_26 : decode cX1_longRemainder 26 = .ok (.iload 7, 2) := by decide +kernel
theorem dX1_longRemainder_28 : decode cX1_longRemainder 28 = .ok (.invokestatic 139, 3) := by decide +kernel
theorem dX1_longRemainder_31 : decode cX1_longRemainder 31 = .ok (.lshl, 1) := by decide +kernel
theorem dX1_longRemainder_32 : decode cX1_longRemainder 32 = .ok (.lload_n 2, 1) := by decide +kernel
theorem dX1_longRemainder_33 : decode cX1_longRemainder 33 = .ok (.lrem, 1) := by decide +kernel
theorem dX1_longRemainder_34 : decode cX1_longRemainder 34 = .ok (.lstore 5, 2) := by decide +kernel
theorem dX1_longRemainder_36 : decode cX1_longRemainder 36 = .ok (.iinc 7 (-10), 3) := by decide +kernel
theorem dX1_longRemainder_39 : decode cX1_longRemainder 39 = .ok (.goto (-22), 3) := by decide +kernel
theorem dX1_longRemainder_42 : decode cX1_longRemainder 42 = .ok (.lload 5, 2) := by decide +kernel
theorem dX1_longRemainder_44 : decode cX1_longRemainder 44 = .ok (.lreturn, 1) := by decide +kernel
theorem dX2_init_0 : decode cX2_init 0 = .ok (.aload_n 0, 1) := by decide +kernel
theorem dX2_init_1 : decode cX2_init 1 = .ok (.invokespecial 3, 3) := by decide +kernel
theorem dX2_init_4 : decode cX2_init 4 = .ok (.aload_n 0, 1) := by decide +kernel
theorem dX2_init_5 : decode cX2_init 5 = .ok (.bipush 48, 2) := by decide +kernel
theorem dX2_init_7 : decode cX2_init 7 = .ok (.newarray .int, 2) := by decide +kernel
theorem dX2_init_9 : decode cX2_init 9 = .ok (.putfield 11, 3) := by decide +kernel
theorem dX2_init_12 : decode cX2_init 12 = .ok (.return_, 1) := by decide +kernel
theorem dX2_add_0 : decode cX2_add 0 = .ok (.aload_n 0, 1) := by decide +kernel
theorem dX2_add_1 : decode cX2_add 1 = .ok (.getfield 15, 3) := by decide +kernel
theorem dX2_add_4 : decode cX2_add 4 = .ok (.invokestatic 19, 3) := by decide +kernel
theorem dX2_add_7 : decode cX2_add 7 = .ok (.istore 4, 2) := by decide +kernel
theorem dX2_add_9 : decode cX2_add 9 = .ok (.aload_n 0, 1) := by decide +kernel
theorem dX2_add_10 : decode cX2_add 10 = .ok (.getfield 11, 3) := by decide +kernel
theorem dX2_add_13 : decode cX2_add 13 = .ok (.iload 4, 2) := by decide +kernel
theorem dX2_add_15 : decode cX2_add 15 = .ok (.iload_n 1, 1) := by decide +kernel
theorem dX2_add_16 : decode cX2_add 16 = .ok (.iastore, 1) := by decide +kernel
theorem dX2_add_17 : decode cX2_add 17 = .ok (.aload_n 0, 1) := by decide +kernel
theorem dX2_add_18 : decode cX2_add 18 = .ok (.getfield 11, 3) := by decide +kernel
theorem dX2_add_21 : decode cX2_add 21 = .ok (.iload 4, 2) := by decide +kernel
theorem dX2_add_23 : decode cX2_add 23 = .ok (.iconst 1, 1) := by decide +kernel
theorem dX2_add_24 : decode cX2_add 24 = .ok (.iadd, 1) := by decide +kernel
theorem dX2_add_25 : decode cX2_add 25 = .ok (.iload_n 2, 1) := by decide +kernel
theorem dX2_add_26 : decode cX2_add 26 = .ok (.iastore, 1) := by decide +kernel
theorem dX2_add_27 : decode cX2_add 27 = .ok (.aload_n 0, 1) := by decide +kernel
theorem dX2_add_28 : decode cX2_add 28 = .ok (.getfield 11, 3) := by decide +kernel
theorem dX2_add_31 : decode cX2_add 31 = .ok (.iload 4, 2) := by decide +kernel
theorem dX2_add_33 : decode cX2_add 33 = .ok (.iconst 2, 1) := by decide +kernel
theorem dX2_add_34 : decode cX2_add 34 = .ok (.iadd, 1) := by decide +kernel
theorem dX2_add_35 : decode cX2_add 35 = .ok (.iload_n 3, 1) := by decide +kernel
theorem dX2_add_36 : decode cX2_add 36 = .ok (.iastore, 1) := by decide +kernel
theorem dX2_add_37 : decode cX2_add 37 = .ok (.aload_n 0, 1) := by decide +kernel
theorem dX2_add_38 : decode cX2_add 38 = .ok (.dup, 1) := by decide +kernel
theorem dX2_add_39 : decode cX2_add 39 = .ok (.getfield 15, 3) := by decide +kernel
theorem dX2_add_42 : decode cX2_add 42 = .ok (.iconst 1, 1) := by decide +kernel
theorem dX2_add_43 : decode cX2_add 43 = .ok (.iadd, 1) := by decide +kernel
theorem dX2_add_44 : decode cX2_add 44 = .ok (.putfield 15, 3) := by decide +kernel
theorem dX2_add_47 : decode cX2_add 47 = .ok (.return_, 1) := by decide +kernel
theorem dX2_told_0 : decode cX2_told 0 = .ok (.iload_n 1, 1) := by decide +kernel
theorem dX2_told_1 : decode cX2_told 1 = .ok (.ifCond .lt 26, 3) := by decide +kernel
theorem dX2_told_4 : decode cX2_told 4 = .ok (.iload_n 1, 1) := by decide +kernel
theorem dX2_told_5 : decode cX2_told 5 = .ok (.bipush 16, 2) := by decide +kernel
theorem dX2_told_7 : decode cX2_told 7 = .ok (.if_icmp .ge 20, 3) := by decide +kernel
theorem dX2_told_10 : decode cX2_told 10 = .ok (.iload_n 1, 1) := by decide +kernel
theorem dX2_told_11 : decode cX2_told 11 = .ok (.aload_n 0, 1) := by decide +kernel
theorem dX2_told_12 : decode cX2_told 12 = .ok (.getfield 15, 3) := by decide +kernel
theorem dX2_told_15 : decode cX2_told 15 = .ok (.if_icmp .ge 12, 3) := by decide +kernel
theorem dX2_told_18 : decode cX2_told 18 = .ok (.iload_n 2, 1) := by decide +kernel
theorem dX2_told_19 : decode cX2_told 19 = .ok (.i2l, 1) := by decide +kernel
theorem dX2_told_20 : decode cX2_told 20 = .ok (.iconst 3, 1) := by decide +kernel
theorem dX2_told_21 : decode cX2_told 21 = .ok (.invokestatic 23, 3) := by decide +kernel
theorem dX2_told_24 : decode cX2_told 24 = .ok (.ifCond .ne 7, 3) := by decide +kernel
theorem dX2_told_27 : decode cX2_told 27 = .ok (.ldc2_w 27, 3) := by decide +kernel
theorem dX2_told_30 : decode cX2_told 30 = .ok (.lreturn, 1) := by decide +kernel
theorem dX2_told_31 : decode cX2_told 31 = .ok (.aload_n 0, 1) := by decide +kernel
theorem dX2_told_32 : decode cX2_told 32 = .ok (.getfield 11, 3) := by decide +kernel
theorem dX2_told_35 : decode cX2_told 35 = .ok (.aload_n 0, 1) := by decide +kernel
theorem dX2_told_36 : decode cX2_told 36 = .ok (.getfield 15, 3) := by decide +kernel
theorem dX2_told_39 : decode cX2_told 39 = .ok (.iconst 1, 1) := by decide +kernel
theorem dX2_told_40 : decode cX2_told 40 = .ok (.isub, 1) := by decide +kernel
theorem dX2_told_41 : decode cX2_told 41 = .ok (.iload_n 1, 1) := by decide +kernel
theorem dX2_told_42 : decode cX2_told 42 = .ok (.isub, 1) := by decide +kernel
theorem dX2_told_43 : decode cX2_told 43 = .ok (.invokestatic 19, 3) := by decide +kernel
theorem dX2_told_46 : decode cX2_told 46 = .ok (.iload_n 2, 1) := by decide +kernel
theorem dX2_told_47 : decode cX2_told 47 = .ok (.iadd, 1) := by decide +kernel
theorem dX2_told_48 : decode cX2_told 48 = .ok (.iaload, 1) := by decide +kernel
theorem dX2_told_49 : decode cX2_told 49 = .ok (.i2l, 1) := by decide +kernel
theorem dX2_told_50 : decode cX2_told 50 = .ok (.lreturn, 1) := by decide +kernel
theorem dX2_startOf_0 : decode cX2_startOf 0 = .ok (.iload_n 0, 1) := by decide +kernel
theorem dX2_startOf_1 : decode cX2_startOf 1 = .ok (.bipush 15, 2) := by decide +kernel
theorem dX2_startOf_3 : decode cX2_startOf 3 = .ok (.iand, 1) := by decide +kernel
theorem dX2_startOf_4 : decode cX2_startOf 4 = .ok (.iconst 3, 1) := by decide +kernel
theorem dX2_startOf_5 : decode cX2_startOf 5 = .ok (.imul, 1) := by decide +kernel
theorem dX2_startOf_6 : decode cX2_startOf 6 = .ok (.ireturn, 1) := by decide +kernel
theorem dX3_takes_0 : decode cX3_takes 0 = .ok (.iload_n 0, 1) := by decide +kernel
theorem dX3_takes_1 : decode cX3_takes 1 = .ok (.bipush 20, 2) := by decide +kernel
theorem dX3_takes_3 : decode cX3_takes 3 = .ok (.if_icmp .lt 9, 3) := by decide +kernel
theorem dX3_takes_6 : decode cX3_takes 6 = .ok (.iload_n 0, 1) := by decide +kernel
theorem dX3_takes_7 : decode cX3_takes 7 = .ok (.bipush 34, 2) := by decide +kernel
theorem dX3_takes_9 : decode cX3_takes 9 = .ok (.if_icmp .le 5, 3) := by decide +kernel
theorem dX3_takes_12 : decode cX3_takes 12 = .ok (.iconst 0, 1) := by decide +kernel
theorem dX3_takes_13 : decode cX3_takes 13 = .ok (.ireturn, 1) := by decide +kernel
theorem dX3_takes_14 : decode cX3_takes 14 = .ok (.iload_n 0, 1) := by decide +kernel
theorem dX3_takes_15 : decode cX3_takes 15 = .ok (.bipush 27, 2) := by decide +kernel
theorem dX3_takes_17 : decode cX3_takes 17 = .ok (.if_icmp .lt 26, 3) := by decide +kernel
theorem dX3_takes_20 : decode cX3_takes 20 = .ok (.iload_n 0, 1) := by decide +kernel
theorem dX3_takes_21 : decode cX3_takes 21 = .ok (.bipush 29, 2) := by decide +kernel
theorem dX3_takes_23 : decode cX3_takes 23 = .ok (.if_icmp .gt 20, 3) := by decide +kernel
theorem dX3_takes_26 : decode cX3_takes 26 = .ok (.iload_n 1, 1) := by decide +kernel
theorem dX3_takes_27 : decode cX3_takes 27 = .ok (.invokestatic 11, 3) := by decide +kernel
theorem dX3_takes_30 : decode cX3_takes 30 = .ok (.ifCond .ne 11, 3) := by decide +kernel
theorem dX3_takes_33 : decode cX3_takes 33 = .ok (.iload_n 2, 1) := by decide +kernel
theorem dX3_takes_34 : decode cX3_takes 34 = .ok (.ifCond .ne 7, 3) := by decide +kernel
theorem dX3_takes_37 : decode cX3_takes 37 = .ok (.iconst 1, 1) := by decide +kernel
theorem dX3_takes_38 : decode cX3_takes 38 = .ok (.goto 4, 3) := by decide +kernel
theorem dX3_takes_41 : decode cX3_takes 41 = .ok (.iconst 0, 1) := by decide +kernel
theorem dX3_takes_42 : decode cX3_takes 42 = .ok (.ireturn, 1) := by decide +kernel
theorem dX3_takes_43 : decode cX3_takes 43 = .ok (.iload_n 1, 1) := by decide +kernel
theorem dX3_takes_44 : decode cX3_takes 44 = .ok (.iload_n 2, 1) := by decide +kernel
theorem dX3_takes_45 : decode cX3_takes 45 = .ok (.if_icmp .eq 5, 3) := by decide +kernel
theorem dX3_takes_48 : decode cX3_takes 48 = .ok (.iconst 0, 1) := by decide +kernel
theorem dX3_takes_49 : decode cX3_takes 49 = .ok (.ireturn, 1) := by decide +kernel
theorem dX3_takes_50 : decode cX3_takes 50 = .ok (.iload_n 0, 1) := by decide +kernel
theorem dX3_takes_51 : decode cX3_takes 51 = .ok (.bipush 30, 2) := by decide +kernel
theorem dX3_takes_53 : decode cX3_takes 53 = .ok (.if_icmp .lt 22, 3) := by decide +kernel
theorem dX3_takes_56 : decode cX3_takes 56 = .ok (.iload_n 0, 1) := by decide +kernel
theorem dX3_takes_57 : decode cX3_takes 57 = .ok (.bipush 32, 2) := by decide +kernel
theorem dX3_takes_59 : decode cX3_takes 59 = .ok (.if_icmp .gt 16, 3) := by decide +kernel
theorem dX3_takes_62 : decode cX3_takes 62 = .ok (.iload_n 1, 1) := by decide +kernel
theorem dX3_takes_63 : decode cX3_takes 63 = .ok (.invokestatic 11, 3) := by decide +kernel
theorem dX3_takes_66 : decode cX3_takes 66 = .ok (.ifCond .ne 7, 3) := by decide +kernel
theorem dX3_takes_69 : decode cX3_takes 69 = .ok (.iconst 1, 1) := by decide +kernel
theorem dX3_takes_70 : decode cX3_takes 70 = .ok (.goto 4, 3) := by decide +kernel
theorem dX3_takes_73 : decode cX3_takes 73 = .ok (.iconst 0, 1) := by decide +kernel
theorem dX3_takes_74 : decode cX3_takes 74 = .ok (.ireturn, 1) := by decide +kernel
theorem dX3_takes_75 : decode cX3_takes 75 = .ok (.iload_n 0, 1) := by decide +kernel
theorem dX3_takes_76 : decode cX3_takes 76 = .ok (.bipush 33, 2) := by decide +kernel
theorem dX3_takes_78 : decode cX3_takes 78 = .ok (.if_icmp .lt 7, 3) := by decide +kernel
theorem dX3_takes_81 : decode cX3_takes 81 = .ok (.iload_n 1, 1) := by decide +kernel
theorem dX3_takes_82 : decode cX3_takes 82 = .ok (.ifCond .eq 7, 3) := by decide +kernel
theorem dX3_takes_85 : decode cX3_takes 85 = .ok (.iconst 1, 1) := by decide +kernel
theorem dX3_takes_86 : decode cX3_takes 86 = .ok (.goto 4, 3) := by decide +kernel
theorem dX3_takes_89 : decode cX3_takes 89 = .ok (.iconst 0, 1) := by decide +kernel
theorem dX3_takes_90 : decode cX3_takes 90 = .ok (.ireturn, 1) := by decide +kernel
theorem dX3_divides_0 : decode cX3_divides 0 = .ok (.iload_n 0, 1) := by decide +kernel
theorem dX3_divides_1 : decode cX3_divides 1 = .ok (.bipush 23, 2) := by decide +kernel
theorem dX3_divides_3 : decode cX3_divides 3 = .ok (.if_icmp .eq 9, 3) := by decide +kernel
theorem dX3_divides_6 : decode cX3_divides 6 = .ok (.iload_n 0, 1) := by decide +kernel
theorem dX3_divides_7 : decode cX3_divides 7 = .ok (.bipush 24, 2) := by decide +kernel
theorem dX3_divides_9 : decode cX3_divides 9 = .ok (.if_icmp .ne 7, 3) := by decide +kernel
theorem dX3_divides_12 : decode cX3_divides 12 = .ok (.iconst 1, 1) := by decide +kernel
theorem dX3_divides_13 : decode cX3_divides 13 = .ok (.goto 4, 3) := by decide +kernel
theorem dX3_divides_16 : decode cX3_divides 16 = .ok (.iconst 0, 1) := by decide +kernel
theorem dX3_divides_17 : decode cX3_divides 17 = .ok (.ireturn, 1) := by decide +kernel
theorem dX3_calculates_0 : decode cX3_calculates 0 = .ok (.iload_n 0, 1) := by decide +kernel
theorem dX3_calculates_1 : decode cX3_calculates 1 = .ok (.bipush 20, 2) := by decide +kernel
theorem dX3_calculates_3 : decode cX3_calculates 3 = .ok (.if_icmp .lt 13, 3) := by decide +kernel
theorem dX3_calculates_6 : decode cX3_calculates 6 = .ok (.iload_n 0, 1) := by decide +kernel
theorem dX3_calculates_7 : decode cX3_calculates 7 = .ok (.bipush 24, 2) := by decide +kernel
theorem dX3_calculates_9 : decode cX3_calculates 9 = .ok (.if_icmp .gt 7, 3) := by decide +kernel
theorem dX3_calculates_12 : decode cX3_calculates 12 = .ok (.iconst 1, 1) := by decide +kernel
theorem dX3_calculates_13 : decode cX3_calculates 13 = .ok (.goto 4, 3) := by decide +kernel
theorem dX3_calculates_16 : decode cX3_calculates 16 = .ok (.iconst 0, 1) := by decide +kernel
theorem dX3_calculates_17 : decode cX3_calculates 17 = .ok (.ireturn, 1) := by decide +kernel
theorem dX3_mixes_0 : decode cX3_mixes 0 = .ok (.iload_n 0, 1) := by decide +kernel
theorem dX3_mixes_1 : decode cX3_mixes 1 = .ok (.bipush 22, 2) := by decide +kernel
theorem dX3_mixes_3 : decode cX3_mixes 3 = .ok (.if_icmp .eq 10, 3) := by decide +kernel
theorem dX3_mixes_6 : decode cX3_mixes 6 = .ok (.iload_n 0, 1) := by decide +kernel
theorem dX3_mixes_7 : decode cX3_mixes 7 = .ok (.invokestatic 15, 3) := by decide +kernel
theorem dX3_mixes_10 : decode cX3_mixes 10 = .ok (.ifCond .eq 7, 3) := by decide +kernel
theorem dX3_mixes_13 : decode cX3_mixes 13 = .ok (.iconst 1, 1) := by decide +kernel
theorem dX3_mixes_14 : decode cX3_mixes 14 = .ok (.goto 4, 3) := by decide +kernel
theorem dX3_mixes_17 : decode cX3_mixes 17 = .ok (.iconst 0, 1) := by decide +kernel
theorem dX3_mixes_18 : decode cX3_mixes 18 = .ok (.ireturn, 1) := by decide +kernel
theorem dX3_resultKind_0 : decode cX3_resultKind 0 = .ok (.iload_n 0, 1) := by decide +kernel
theorem dX3_resultKind_1 : decode cX3_resultKind 1 = .ok (.bipush 33, 2) := by decide +kernel
theorem dX3_resultKind_3 : decode cX3_resultKind 3 = .ok (.if_icmp .lt 7, 3) := by decide +kernel
theorem dX3_resultKind_6 : decode cX3_resultKind 6 = .ok (.iconst 0, 1) := by decide +kernel
theorem dX3_resultKind_7 : decode cX3_resultKind 7 = .ok (.goto 4, 3) := by decide +kernel
theorem dX3_resultKind_10 : decode cX3_resultKind 10 = .ok (.iload_n 1, 1) := by decide +kernel
theorem dX3_resultKind_11 : decode cX3_resultKind 11 = .ok (.ireturn, 1) := by decide +kernel
theorem dX3_wholeResult_0 : decode cX3_wholeResult 0 = .ok (.iload_n 0, 1) := by decide +kernel
theorem dX3_wholeResult_1 : decode cX3_wholeResult 1 = .ok (.bipush 27, 2) := by decide +kernel
theorem dX3_wholeResult_3 : decode cX3_wholeResult 3 = .ok (.if_icmp .ge 13, 3) := by decide +kernel
theorem dX3_wholeResult_6 : decode cX3_wholeResult 6 = .ok (.iload_n 0, 1) := by decide +kernel
theorem dX3_wholeResult_7 : decode cX3_wholeResult 7 = .ok (.lload_n 2, 1) := by decide +kernel
theorem dX3_wholeResult_8 : decode cX3_wholeResult 8 = .ok (.lload 4, 2) := by decide +kernel
theorem dX3_wholeResult_10 : decode cX3_wholeResult 10 = .ok (.invokestatic 18, 3) := by decide +kernel
theorem dX3_wholeResult_13 : decode cX3_wholeResult 13 = .ok (.goto 11, 3) := by decide +kernel
theorem dX3_wholeResult_16 : decode cX3_wholeResult 16 = .ok (.iload_n 0, 1) := by decide +kernel
theorem dX3_wholeResult_17 : decode cX3_wholeResult 17 = .ok (.iload_n 1, 1) := by decide +kernel
theorem dX3_wholeResult_18 : decode cX3_wholeResult 18 = .ok (.lload_n 2, 1) := by decide +kernel
theorem dX3_wholeResult_19 : decode cX3_wholeResult 19 = .ok (.lload 4, 2) := by decide +kernel
theorem dX3_wholeResult_21 : decode cX3_wholeResult 21 = .ok (.invokestatic 22, 3) := by decide +kernel
theorem dX3_wholeResult_24 : decode cX3_wholeResult 24 = .ok (.lstore 6, 2) := by decide +kernel
theorem dX3_wholeResult_26 : decode cX3_wholeResult 26 = .ok (.iload_n 1, 1) := by decide +kernel
theorem dX3_wholeResult_27 : decode cX3_wholeResult 27 = .ok (.ifCond .ne 10, 3) := by decide +kernel
theorem dX3_wholeResult_30 : decode cX3_wholeResult 30 = .ok (.lload 6, 2) := by decide +kernel
theorem dX3_wholeResult_32 : decode cX3_wholeResult 32 = .ok (.l2i, 1) := by decide +kernel
theorem dX3_wholeResult_33 : decode cX3_wholeResult 33 = .ok (.i2l, 1) := by decide +kernel
theorem dX3_wholeResult_34 : decode cX3_wholeResult 34 = .ok (.goto 5, 3) := by decide +kernel
theorem dX3_wholeResult_37 : decode cX3_wholeResult 37 = .ok (.lload 6, 2) := by decide +kernel
theorem dX3_wholeResult_39 : decode cX3_wholeResult 39 = .ok (.lreturn, 1) := by decide +kernel
theorem dX3_calculated_0 : decode cX3_calculated 0 = .ok (.iload_n 0, 1) := by decide +kernel
theorem dX3_calculated_1 : decode cX3_calculated 1 = .ok (.tableswitch 85 20 25 #[39, 43, 47, 51, 65, 79], 39) := by decide +kernel
theorem dX3_calculated_40 : decode cX3_calculated 40 = .ok (.lload_n 1, 1) := by decide +kernel
theorem dX3_calculated_41 : decode cX3_calculated 41 = .ok (.lload_n 3, 1) := by decide +kernel
theorem dX3_calculated_42 : decode cX3_calculated 42 = .ok (.ladd, 1) := by decide +kernel
theorem dX3_calculated_43 : decode cX3_calculated 43 = .ok (.lreturn, 1) := by decide +kernel
theorem dX3_calculated_44 : decode cX3_calculated 44 = .ok (.lload_n 1, 1) := by decide +kernel
theorem dX3_calculated_45 : decode cX3_calculated 45 = .ok (.lload_n 3, 1) := by decide +kernel
theorem dX3_calculated_46 : decode cX3_calculated 46 = .ok (.lsub, 1) := by decide +kernel
theorem dX3_calculated_47 : decode cX3_calculated 47 = .ok (.lreturn, 1) := by decide +kernel
theorem dX3_calculated_48 : decode cX3_calculated 48 = .ok (.lload_n 1, 1) := by decide +kernel
theorem dX3_calculated_49 : decode cX3_calculated 49 = .ok (.lload_n 3, 1) := by decide +kernel
theorem dX3_calculated_50 : decode cX3_calculated 50 = .ok (.lmul, 1) := by decide +kernel
theorem dX3_calculated_51 : decode cX3_calculated 51 = .ok (.lreturn, 1) := by decide +kernel
theorem dX3_calculated_52 : decode cX3_calculated 52 = .ok (.lload_n 3, 1) := by decide +kernel
theorem dX3_calculated_53 : decode cX3_calculated 53 = .ok (.lconst 0, 1) := by decide +kernel
theorem dX3_calculated_54 : decode cX3_calculated 54 = .ok (.lcmp, 1) := by decide +kernel
theorem dX3_calculated_55 : decode cX3_calculated 55 = .ok (.ifCond .ne 7, 3) := by decide +kernel
theorem dX3_calculated_58 : decode cX3_calculated 58 = .ok (.lconst 0, 1) := by decide +kernel
theorem dX3_calculated_59 : decode cX3_calculated 59 = .ok (.goto 6, 3) := by decide +kernel
theorem dX3_calculated_62 : decode cX3_calculated 62 = .ok (.lload_n 1, 1) := by decide +kernel
theorem dX3_calculated_63 : decode cX3_calculated 63 = .ok (.lload_n 3, 1) := by decide +kernel
theorem dX3_calculated_64 : decode cX3_calculated 64 = .ok (.ldiv, 1) := by decide +kernel
theorem dX3_calculated_65 : decode cX3_calculated 65 = .ok (.lreturn, 1) := by decide +kernel
theorem dX3_calculated_66 : decode cX3_calculated 66 = .ok (.lload_n 3, 1) := by decide +kernel
theorem dX3_calculated_67 : decode cX3_calculated 67 = .ok (.lconst 0, 1) := by decide +kernel
theorem dX3_calculated_68 : decode cX3_calculated 68 = .ok (.lcmp, 1) := by decide +kernel
theorem dX3_calculated_69 : decode cX3_calculated 69 = .ok (.ifCond .ne 7, 3) := by decide +kernel
theorem dX3_calculated_72 : decode cX3_calculated 72 = .ok (.lconst 0, 1) := by decide +kernel
theorem dX3_calculated_73 : decode cX3_calculated 73 = .ok (.goto 6, 3) := by decide +kernel
theorem dX3_calculated_76 : decode cX3_calculated 76 = .ok (.lload_n 1, 1) := by decide +kernel
theorem dX3_calculated_77 : decode cX3_calculated 77 = .ok (.lload_n 3, 1) := by decide +kernel
theorem dX3_calculated_78 : decode cX3_calculated 78 = .ok (.lrem, 1) := by decide +kernel
theorem dX3_calculated_79 : decode cX3_calculated 79 = .ok (.lreturn, 1) := by decide +kernel
theorem dX3_calculated_80 : decode cX3_calculated 80 = .ok (.lload_n 1, 1) := by decide +kernel
theorem dX3_calculated_81 : decode cX3_calculated 81 = .ok (.lload_n 3, 1) := by decide +kernel
theorem dX3_calculated_82 : decode cX3_calculated 82 = .ok (.invokestatic 26, 3) := by decide +kernel
theorem dX3_calculated_85 : decode cX3_calculated 85 = .ok (.lreturn, 1) := by decide +kernel
theorem dX3_calculated_86 : decode cX3_calculated 86 = .ok (.lload_n 1, 1) := by decide +kernel
theorem dX3_calculated_87 : decode cX3_calculated 87 = .ok (.lload_n 3, 1) := by decide +kernel
theorem dX3_calculated_88 : decode cX3_calculated 88 = .ok (.invokestatic 32, 3) := by decide +kernel
theorem dX3_calculated_91 : decode cX3_calculated 91 = .ok (.lreturn, 1) := by decide +kernel
theorem dX3_combined_0 : decode cX3_combined 0 = .ok (.lload 4, 2) := by decide +kernel
theorem dX3_combined_2 : decode cX3_combined 2 = .ok (.l2i, 1) := by decide +kernel
theorem dX3_combined_3 : decode cX3_combined 3 = .ok (.iload_n 1, 1) := by decide +kernel
theorem dX3_combined_4 : decode cX3_combined 4 = .ok (.ifCond .ne 8, 3) := by decide +kernel
theorem dX3_combined_7 : decode cX3_combined 7 = .ok (.bipush 31, 2) := by decide +kernel
theorem dX3_combined_9 : decode cX3_combined 9 = .ok (.goto 5, 3) := by decide +kernel
theorem dX3_combined_12 : decode cX3_combined 12 = .ok (.bipush 63, 2) := by decide +kernel
theorem dX3_combined_14 : decode cX3_combined 14 = .ok (.iand, 1) := by decide +kernel
theorem dX3_combined_15 : decode cX3_combined 15 = .ok (.istore 6, 2) := by decide +kernel
theorem dX3_combined_17 : decode cX3_combined 17 = .ok (.iload_n 0, 1) := by decide +kernel
theorem dX3_combined_18 : decode cX3_combined 18 = .ok (.tableswitch 80 27 32 #[38, 43, 48, 65, 70, 75], 38) := by decide +kernel
theorem dX3_combined_56 : decode cX3_combined 56 = .ok (.lload_n 2, 1) := by decide +kernel
theorem dX3_combined_57 : decode cX3_combined 57 = .ok (.iload 6, 2) := by decide +kernel
theorem dX3_combined_59 : decode cX3_combined 59 = .ok (.lshl, 1) := by decide +kernel
theorem dX3_combined_60 : decode cX3_combined 60 = .ok (.lreturn, 1) := by decide +kernel
theorem dX3_combined_61 : decode cX3_combined 61 = .ok (.lload_n 2, 1) := by decide +kernel
theorem dX3_combined_62 : decode cX3_combined 62 = .ok (.iload 6, 2) := by decide +kernel
theorem dX3_combined_64 : decode cX3_combined 64 = .ok (.lshr, 1) := by decide +kernel
theorem dX3_combined_65 : decode cX3_combined 65 = .ok (.lreturn, 1) := by decide +kernel
theorem dX3_combined_66 : decode cX3_combined 66 = .ok (.iload_n 1, 1) := by decide +kernel
theorem dX3_combined_67 : decode cX3_combined 67 = .ok (.ifCond .ne 11, 3) := by decide +kernel
theorem dX3_combined_70 : decode cX3_combined 70 = .ok (.lload_n 2, 1) := by decide +kernel
theorem dX3_combined_71 : decode cX3_combined 71 = .ok (.ldc2_w 35, 3) := by decide +kernel
theorem dX3_combined_74 : decode cX3_combined 74 = .ok (.land, 1) := by decide +kernel
theorem dX3_combined_75 : decode cX3_combined 75 = .ok (.goto 4, 3) := by decide +kernel
theorem dX3_combined_78 : decode cX3_combined 78 = .ok (.lload_n 2, 1) := by decide +kernel
theorem dX3_combined_79 : decode cX3_combined 79 = .ok (.iload 6, 2) := by decide +kernel
theorem dX3_combined_81 : decode cX3_combined 81 = .ok (.lushr, 1) := by decide +kernel
theorem dX3_combined_82 : decode cX3_combined 82 = .ok (.lreturn, 1) := by decide +kernel
theorem dX3_combined_83 : decode cX3_combined 83 = .ok (.lload_n 2, 1) := by decide +kernel
theorem dX3_combined_84 : decode cX3_combined 84 = .ok (.lload 4, 2) := by decide +kernel
theorem dX3_combined_86 : decode cX3_combined 86 = .ok (.land, 1) := by decide +kernel
theorem dX3_combined_87 : decode cX3_combined 87 = .ok (.lreturn, 1) := by decide +kernel
theorem dX3_combined_88 : decode cX3_combined 88 = .ok (.lload_n 2, 1) := by decide +kernel
theorem dX3_combined_89 : decode cX3_combined 89 = .ok (.lload 4, 2) := by decide +kernel
theorem dX3_combined_91 : decode cX3_combined 91 = .ok (.lor, 1) := by decide +kernel
theorem dX3_combined_92 : decode cX3_combined 92 = .ok (.lreturn, 1) := by decide +kernel
theorem dX3_combined_93 : decode cX3_combined 93 = .ok (.lload_n 2, 1) := by decide +kernel
theorem dX3_combined_94 : decode cX3_combined 94 = .ok (.lload 4, 2) := by decide +kernel
theorem dX3_combined_96 : decode cX3_combined 96 = .ok (.lxor, 1) := by decide +kernel
theorem dX3_combined_97 : decode cX3_combined 97 = .ok (.lreturn, 1) := by decide +kernel
theorem dX3_combined_98 : decode cX3_combined 98 = .ok (.lload_n 2, 1) := by decide +kernel
theorem dX3_combined_99 : decode cX3_combined 99 = .ok (.lload 4, 2) := by decide +kernel
theorem dX3_combined_101 : decode cX3_combined 101 = .ok (.invokestatic 37, 3) := by decide +kernel
theorem dX3_combined_104 : decode cX3_combined 104 = .ok (.i2l, 1) := by decide +kernel
theorem dX3_combined_105 : decode cX3_combined 105 = .ok (.lreturn, 1) := by decide +kernel
theorem dX3_floatingResult_0 : decode cX3_floatingResult 0 = .ok (.iload_n 0, 1) := by decide +kernel
theorem dX3_floatingResult_1 : decode cX3_floatingResult 1 = .ok (.tableswitch 141 20 33 #[71, 79, 91, 99, 107, 115, 123, 141, 141, 141, 141, 141, 141, 131], 71) := by decide +kernel
theorem dX3_floatingResult_72 : decode cX3_floatingResult 72 = .ok (.aload_n 1, 1) := by decide +kernel
theorem dX3_floatingResult_73 : decode cX3_floatingResult 73 = .ok (.lload_n 2, 1) := by decide +kernel
theorem dX3_floatingResult_74 : decode cX3_floatingResult 74 = .ok (.lload 4, 2) := by decide +kernel
theorem dX3_floatingResult_76 : decode cX3_floatingResult 76 = .ok (.invokevirtual 43, 3) := by decide +kernel
theorem dX3_floatingResult_79 : decode cX3_floatingResult 79 = .ok (.lreturn, 1) := by decide +kernel
theorem dX3_floatingResult_80 : decode cX3_floatingResult 80 = .ok (.aload_n 1, 1) := by decide +kernel
theorem dX3_floatingResult_81 : decode cX3_floatingResult 81 = .ok (.lload_n 2, 1) := by decide +kernel
theorem dX3_floatingResult_82 : decode cX3_floatingResult 82 = .ok (.aload_n 1, 1) := by decide +kernel
theorem dX3_floatingResult_83 : decode cX3_floatingResult 83 = .ok (.lload 4, 2) := by decide +kernel
theorem dX3_floatingResult_85 : decode cX3_floatingResult 85 = .ok (.invokevirtual 48, 3) := by decide +kernel
theorem dX3_floatingResult_88 : decode cX3_floatingResult 88 = .ok (.invokevirtual 43, 3) := by decide +kernel
theorem dX3_floatingResult_91 : decode cX3_floatingResult 91 = .ok (.lreturn, 1) := by decide +kernel
theorem dX3_floatingResult_92 : decode cX3_floatingResult 92 = .ok (.aload_n 1, 1) := by decide +kernel
theorem dX3_floatingResult_93 : decode cX3_floatingResult 93 = .ok (.lload_n 2, 1) := by decide +kernel
theorem dX3_floatingResult_94 : decode cX3_floatingResult 94 = .ok (.lload 4, 2) := by decide +kernel
theorem dX3_floatingResult_96 : decode cX3_floatingResult 96 = .ok (.invokevirtual 52, 3) := by decide +kernel
theorem dX3_floatingResult_99 : decode cX3_floatingResult 99 = .ok (.lreturn, 1) := by decide +kernel
theorem dX3_floatingResult_100 : decode cX3_floatingResult 100 = .ok (.aload_n 1, 1) := by decide +kernel
theorem dX3_floatingResult_101 : decode cX3_floatingResult 101 = .ok (.lload_n 2, 1) := by decide +kernel
theorem dX3_floatingResult_102 : decode cX3_floatingResult 102 = .ok (.lload 4, 2) := by decide +kernel
theorem dX3_floatingResult_104 : decode cX3_floatingResult 104 = .ok (.invokevirtual 55, 3) := by decide +kernel
theorem dX3_floatingResult_107 : decode cX3_floatingResult 107 = .ok (.lreturn, 1) := by decide +kernel
theorem dX3_floatingResult_108 : decode cX3_floatingResult 108 = .ok (.aload_n 1, 1) := by decide +kernel
theorem dX3_floatingResult_109 : decode cX3_floatingResult 109 = .ok (.lload_n 2, 1) := by decide +kernel
theorem dX3_floatingResult_110 : decode cX3_floatingResult 110 = .ok (.lload 4, 2) := by decide +kernel
theorem dX3_floatingResult_112 : decode cX3_floatingResult 112 = .ok (.invokevirtual 58, 3) := by decide +kernel
theorem dX3_floatingResult_115 : decode cX3_floatingResult 115 = .ok (.lreturn, 1) := by decide +kernel
theorem dX3_floatingResult_116 : decode cX3_floatingResult 116 = .ok (.aload_n 1, 1) := by decide +kernel
theorem dX3_floatingResult_117 : decode cX3_floatingResult 117 = .ok (.lload_n 2, 1) := by decide +kernel
theorem dX3_floatingResult_118 : decode cX3_floatingResult 118 = .ok (.lload 4, 2) := by decide +kernel
theorem dX3_floatingResult_120 : decode cX3_floatingResult 120 = .ok (.invokevirtual 61, 3) := by decide +kernel
theorem dX3_floatingResult_123 : decode cX3_floatingResult 123 = .ok (.lreturn, 1) := by decide +kernel
theorem dX3_floatingResult_124 : decode cX3_floatingResult 124 = .ok (.aload_n 1, 1) := by decide +kernel
theorem dX3_floatingResult_125 : decode cX3_floatingResult 125 = .ok (.lload_n 2, 1) := by decide +kernel
theorem dX3_floatingResult_126 : decode cX3_floatingResult 126 = .ok (.lload 4, 2) := by decide +kernel
theorem dX3_floatingResult_128 : decode cX3_floatingResult 128 = .ok (.invokevirtual 64, 3) := by decide +kernel
theorem dX3_floatingResult_131 : decode cX3_floatingResult 131 = .ok (.lreturn, 1) := by decide +kernel
theorem dX3_floatingResult_132 : decode cX3_floatingResult 132 = .ok (.aload_n 1, 1) := by decide +kernel
theorem dX3_floatingResult_133 : decode cX3_floatingResult 133 = .ok (.lload_n 2, 1) := by decide +kernel
theorem dX3_floatingResult_134 : decode cX3_floatingResult 134 = .ok (.lload 4, 2) := by decide +kernel
theorem dX3_floatingResult_136 : decode cX3_floatingResult 136 = .ok (.iconst (-1), 1) := by decide +kernel
theorem dX3_floatingResult_137 : decode cX3_floatingResult 137 = .ok (.invokevirtual 67, 3) := by decide +kernel
theorem dX3_floatingResult_140 : decode cX3_floatingResult 140 = .ok (.i2l, 1) := by decide +kernel
theorem dX3_floatingResult_141 : decode cX3_floatingResult 141 = .ok (.lreturn, 1) := by decide +kernel
theorem dX3_floatingResult_142 : decode cX3_floatingResult 142 = .ok (.aload_n 1, 1) := by decide +kernel
theorem dX3_floatingResult_143 : decode cX3_floatingResult 143 = .ok (.lload_n 2, 1) := by decide +kernel
theorem dX3_floatingResult_144 : decode cX3_floatingResult 144 = .ok (.lload 4, 2) := by decide +kernel
theorem dX3_floatingResult_146 : decode cX3_floatingResult 146 = .ok (.iconst 1, 1) := by decide +kernel
theorem dX3_floatingResult_147 : decode cX3_floatingResult 147 = .ok (.invokevirtual 67, 3) := by decide +kernel
theorem dX3_floatingResult_150 : decode cX3_floatingResult 150 = .ok (.i2l, 1) := by decide +kernel
theorem dX3_floatingResult_151 : decode cX3_floatingResult 151 = .ok (.lreturn, 1) := by decide +kernel
theorem dX4_takes_0 : decode cX4_takes 0 = .ok (.iload_n 0, 1) := by decide +kernel
theorem dX4_takes_1 : decode cX4_takes 1 = .ok (.i2l, 1) := by decide +kernel
theorem dX4_takes_2 : decode cX4_takes 2 = .ok (.bipush 15, 2) := by decide +kernel
theorem dX4_takes_4 : decode cX4_takes 4 = .ok (.invokestatic 11, 3) := by decide +kernel
theorem dX4_takes_7 : decode cX4_takes 7 = .ok (.ifCond .eq 18, 3) := by decide +kernel
theorem dX4_takes_10 : decode cX4_takes 10 = .ok (.getstatic 15, 3) := by decide +kernel
theorem dX4_takes_13 : decode cX4_takes 13 = .ok (.iload_n 0, 1) := by decide +kernel
theorem dX4_takes_14 : decode cX4_takes 14 = .ok (.iaload, 1) := by decide +kernel
theorem dX4_takes_15 : decode cX4_takes 15 = .ok (.iload_n 1, 1) := by decide +kernel
theorem dX4_takes_16 : decode cX4_takes 16 = .ok (.if_icmp .ne 7, 3) := by decide +kernel
theorem dX4_takes_19 : decode cX4_takes 19 = .ok (.iconst 1, 1) := by decide +kernel
theorem dX4_takes_20 : decode cX4_takes 20 = .ok (.goto 4, 3) := by decide +kernel
theorem dX4_takes_23 : decode cX4_takes 23 = .ok (.iconst 0, 1) := by decide +kernel
theorem dX4_takes_24 : decode cX4_takes 24 = .ok (.ireturn, 1) := by decide +kernel
theorem dX4_takes_25 : decode cX4_takes 25 = .ok (.iload_n 0, 1) := by decide +kernel
theorem dX4_takes_26 : decode cX4_takes 26 = .ok (.tableswitch 50 15 18 #[30, 30, 32, 37], 30) := by decide +kernel
theorem dX4_takes_56 : decode cX4_takes 56 = .ok (.iconst 1, 1) := by decide +kernel
theorem dX4_takes_57 : decode cX4_takes 57 = .ok (.ireturn, 1) := by decide +kernel
theorem dX4_takes_58 : decode cX4_takes 58 = .ok (.iload_n 1, 1) := by decide +kernel
theorem dX4_takes_59 : decode cX4_takes 59 = .ok (.invokestatic 19, 3) := by decide +kernel
theorem dX4_takes_62 : decode cX4_takes 62 = .ok (.ireturn, 1) := by decide +kernel
theorem dX4_takes_63 : decode cX4_takes 63 = .ok (.iload_n 1, 1) := by decide +kernel
theorem dX4_takes_64 : decode cX4_takes 64 = .ok (.invokestatic 19, 3) := by decide +kernel
theorem dX4_takes_67 : decode cX4_takes 67 = .ok (.ifCond .ne 7, 3) := by decide +kernel
theorem dX4_takes_70 : decode cX4_takes 70 = .ok (.iconst 1, 1) := by decide +kernel
theorem dX4_takes_71 : decode cX4_takes 71 = .ok (.goto 4, 3) := by decide +kernel
theorem dX4_takes_74 : decode cX4_takes 74 = .ok (.iconst 0, 1) := by decide +kernel
theorem dX4_takes_75 : decode cX4_takes 75 = .ok (.ireturn, 1) := by decide +kernel
theorem dX4_takes_76 : decode cX4_takes 76 = .ok (.iconst 0, 1) := by decide +kernel
theorem dX4_takes_77 : decode cX4_takes 77 = .ok (.ireturn, 1) := by decide +kernel
theorem dX4_rounds_0 : decode cX4_rounds 0 = .ok (.iload_n 0, 1) := by decide +kernel
theorem dX4_rounds_1 : decode cX4_rounds 1 = .ok (.iconst 1, 1) := by decide +kernel
theorem dX4_rounds_2 : decode cX4_rounds 2 = .ok (.if_icmp .eq 19, 3) := by decide +kernel
theorem dX4_rounds_5 : decode cX4_rounds 5 = .ok (.iload_n 0, 1) := by decide +kernel
theorem dX4_rounds_6 : decode cX4_rounds 6 = .ok (.iconst 4, 1) := by decide +kernel
theorem dX4_rounds_7 : decode cX4_rounds 7 = .ok (.if_icmp .eq 14, 3) := by decide +kernel
theorem dX4_rounds_10 : decode cX4_rounds 10 = .ok (.iload_n 0, 1) := by decide +kernel
theorem dX4_rounds_11 : decode cX4_rounds 11 = .ok (.iconst 5, 1) := by decide +kernel
theorem dX4_rounds_12 : decode cX4_rounds 12 = .ok (.if_icmp .eq 9, 3) := by decide +kernel
theorem dX4_rounds_15 : decode cX4_rounds 15 = .ok (.iload_n 0, 1) := by decide +kernel
theorem dX4_rounds_16 : decode cX4_rounds 16 = .ok (.bipush 11, 2) := by decide +kernel
theorem dX4_rounds_18 : decode cX4_rounds 18 = .ok (.if_icmp .ne 7, 3) := by decide +kernel
theorem dX4_rounds_21 : decode cX4_rounds 21 = .ok (.iconst 1, 1) := by decide +kernel
theorem dX4_rounds_22 : decode cX4_rounds 22 = .ok (.goto 4, 3) := by decide +kernel
theorem dX4_rounds_25 : decode cX4_rounds 25 = .ok (.iconst 0, 1) := by decide +kernel
theorem dX4_rounds_26 : decode cX4_rounds 26 = .ok (.ireturn, 1) := by decide +kernel
theorem dX4_resultKind_0 : decode cX4_resultKind 0 = .ok (.iload_n 0, 1) := by decide +kernel
theorem dX4_resultKind_1 : decode cX4_resultKind 1 = .ok (.i2l, 1) := by decide +kernel
theorem dX4_resultKind_2 : decode cX4_resultKind 2 = .ok (.bipush 15, 2) := by decide +kernel
theorem dX4_resultKind_4 : decode cX4_resultKind 4 = .ok (.invokestatic 11, 3) := by decide +kernel
theorem dX4_resultKind_7 : decode cX4_resultKind 7 = .ok (.ifCond .eq 9, 3) := by decide +kernel
theorem dX4_resultKind_10 : decode cX4_resultKind 10 = .ok (.getstatic 23, 3) := by decide +kernel
theorem dX4_resultKind_13 : decode cX4_resultKind 13 = .ok (.iload_n 0, 1) := by decide +kernel
theorem dX4_resultKind_14 : decode cX4_resultKind 14 = .ok (.iaload, 1) := by decide +kernel
theorem dX4_resultKind_15 : decode cX4_resultKind 15 = .ok (.ireturn, 1) := by decide +kernel
theorem dX4_resultKind_16 : decode cX4_resultKind 16 = .ok (.iload_n 0, 1) := by decide +kernel
theorem dX4_resultKind_17 : decode cX4_resultKind 17 = .ok (.bipush 17, 2) := by decide +kernel
theorem dX4_resultKind_19 : decode cX4_resultKind 19 = .ok (.if_icmp .ne 14, 3) := by decide +kernel
theorem dX4_resultKind_22 : decode cX4_resultKind 22 = .ok (.iload_n 1, 1) := by decide +kernel
theorem dX4_resultKind_23 : decode cX4_resultKind 23 = .ok (.iconst 2, 1) := by decide +kernel
theorem dX4_resultKind_24 : decode cX4_resultKind 24 = .ok (.if_icmp .ne 7, 3) := by decide +kernel
theorem dX4_resultKind_27 : decode cX4_resultKind 27 = .ok (.iconst 0, 1) := by decide +kernel
theorem dX4_resultKind_28 : decode cX4_resultKind 28 = .ok (.goto 4, 3) := by decide +kernel
theorem dX4_resultKind_31 : decode cX4_resultKind 31 = .ok (.iconst 1, 1) := by decide +kernel
theorem dX4_resultKind_32 : decode cX4_resultKind 32 = .ok (.ireturn, 1) := by decide +kernel
theorem dX4_resultKind_33 : decode cX4_resultKind 33 = .ok (.iload_n 0, 1) := by decide +kernel
theorem dX4_resultKind_34 : decode cX4_resultKind 34 = .ok (.bipush 18, 2) := by decide +kernel
theorem dX4_resultKind_36 : decode cX4_resultKind 36 = .ok (.if_icmp .ne 13, 3) := by decide +kernel
theorem dX4_resultKind_39 : decode cX4_resultKind 39 = .ok (.iload_n 1, 1) := by decide +kernel
theorem dX4_resultKind_40 : decode cX4_resultKind 40 = .ok (.ifCond .ne 7, 3) := by decide +kernel
theorem dX4_resultKind_43 : decode cX4_resultKind 43 = .ok (.iconst 2, 1) := by decide +kernel
theorem dX4_resultKind_44 : decode cX4_resultKind 44 = .ok (.goto 4, 3) := by decide +kernel
theorem dX4_resultKind_47 : decode cX4_resultKind 47 = .ok (.iconst 3, 1) := by decide +kernel
theorem dX4_resultKind_48 : decode cX4_resultKind 48 = .ok (.ireturn, 1) := by decide +kernel
theorem dX4_resultKind_49 : decode cX4_resultKind 49 = .ok (.iload_n 1, 1) := by decide +kernel
theorem dX4_resultKind_50 : decode cX4_resultKind 50 = .ok (.ireturn, 1) := by decide +kernel
theorem dX4_result_0 : decode cX4_result 0 = .ok (.iload_n 0, 1) := by decide +kernel
theorem dX4_result_1 : decode cX4_result 1 = .ok (.tableswitch 236 0 17 #[87, 93, 101, 89, 93, 101, 109, 120, 128, 139, 150, 158, 169, 174, 179, 184, 209, 87], 87) := by decide +kernel
theorem dX4_result_88 : decode cX4_result 88 = .ok (.lload_n 2, 1) := by decide +kernel
theorem dX4_result_89 : decode cX4_result 89 = .ok (.lreturn, 1) := by decide +kernel
theorem dX4_result_90 : decode cX4_result 90 = .ok (.lload_n 2, 1) := by decide +kernel
theorem dX4_result_91 : decode cX4_result 91 = .ok (.l2i, 1) := by decide +kernel
theorem dX4_result_92 : decode cX4_result 92 = .ok (.i2l, 1) := by decide +kernel
theorem dX4_result_93 : decode cX4_result 93 = .ok (.lreturn, 1) := by decide +kernel
theorem dX4_result_94 : decode cX4_result 94 = .ok (.getstatic 26, 3) := by decide +kernel
theorem dX4_result_97 : decode cX4_result 97 = .ok (.lload_n 2, 1) := by decide +kernel
theorem dX4_result_98 : decode cX4_result 98 = .ok (.invokevirtual 32, 3) := by decide +kernel
theorem dX4_result_101 : decode cX4_result 101 = .ok (.lreturn, 1) := by decide +kernel
theorem dX4_result_102 : decode cX4_result 102 = .ok (.getstatic 36, 3) := by decide +kernel
theorem dX4_result_105 : decode cX4_result 105 = .ok (.lload_n 2, 1) := by decide +kernel
theorem dX4_result_106 : decode cX4_result 106 = .ok (.invokevirtual 32, 3) := by decide +kernel
theorem dX4_result_109 : decode cX4_result 109 = .ok (.lreturn, 1) := by decide +kernel
theorem dX4_result_110 : decode cX4_result 110 = .ok (.getstatic 26, 3) := by decide +kernel
theorem dX4_result_113 : decode cX4_result 113 = .ok (.lload_n 2, 1) := by decide +kernel
theorem dX4_result_114 : decode cX4_result 114 = .ok (.invokevirtual 39, 3) := by decide +kernel
theorem dX4_result_117 : decode cX4_result 117 = .ok (.invokestatic 42, 3) := by decide +kernel
theorem dX4_result_120 : decode cX4_result 120 = .ok (.lreturn, 1) := by decide +kernel
theorem dX4_result_121 : decode cX4_result 121 = .ok (.getstatic 26, 3) := by decide +kernel
theorem dX4_result_124 : decode cX4_result 124 = .ok (.lload_n 2, 1) := by decide +kernel
theorem dX4_result_125 : decode cX4_result 125 = .ok (.invokevirtual 39, 3) := by decide +kernel
theorem dX4_result_128 : decode cX4_result 128 = .ok (.lreturn, 1) := by decide +kernel
theorem dX4_result_129 : decode cX4_result 129 = .ok (.getstatic 36, 3) := by decide +kernel
theorem dX4_result_132 : decode cX4_result 132 = .ok (.getstatic 26, 3) := by decide +kernel
theorem dX4_result_135 : decode cX4_result 135 = .ok (.lload_n 2, 1) := by decide +kernel
theorem dX4_result_136 : decode cX4_result 136 = .ok (.invokevirtual 45, 3) := by decide +kernel
theorem dX4_result_139 : decode cX4_result 139 = .ok (.lreturn, 1) := by decide +kernel
theorem dX4_result_140 : decode cX4_result 140 = .ok (.getstatic 36, 3) := by decide +kernel
theorem dX4_result_143 : decode cX4_result 143 = .ok (.lload_n 2, 1) := by decide +kernel
theorem dX4_result_144 : decode cX4_result 144 = .ok (.invokevirtual 39, 3) := by decide +kernel
theorem dX4_result_147 : decode cX4_result 147 = .ok (.invokestatic 42, 3) := by decide +kernel
theorem dX4_result_150 : decode cX4_result 150 = .ok (.lreturn, 1) := by decide +kernel
theorem dX4_result_151 : decode cX4_result 151 = .ok (.getstatic 36, 3) := by decide +kernel
theorem dX4_result_154 : decode cX4_result 154 = .ok (.lload_n 2, 1) := by decide +kernel
theorem dX4_result_155 : decode cX4_result 155 = .ok (.invokevirtual 39, 3) := by decide +kernel
theorem dX4_result_158 : decode cX4_result 158 = .ok (.lreturn, 1) := by decide +kernel
theorem dX4_result_159 : decode cX4_result 159 = .ok (.getstatic 26, 3) := by decide +kernel
theorem dX4_result_162 : decode cX4_result 162 = .ok (.getstatic 36, 3) := by decide +kernel
theorem dX4_result_165 : decode cX4_result 165 = .ok (.lload_n 2, 1) := by decide +kernel
theorem dX4_result_166 : decode cX4_result 166 = .ok (.invokevirtual 45, 3) := by decide +kernel
theorem dX4_result_169 : decode cX4_result 169 = .ok (.lreturn, 1) := by decide +kernel
theorem dX4_result_170 : decode cX4_result 170 = .ok (.lload_n 2, 1) := by decide +kernel
theorem dX4_result_171 : decode cX4_result 171 = .ok (.l2i, 1) := by decide +kernel
theorem dX4_result_172 : decode cX4_result 172 = .ok (.i2b, 1) := by decide +kernel
theorem dX4_result_173 : decode cX4_result 173 = .ok (.i2l, 1) := by decide +kernel
theorem dX4_result_174 : decode cX4_result 174 = .ok (.lreturn, 1) := by decide +kernel
theorem dX4_result_175 : decode cX4_result 175 = .ok (.lload_n 2, 1) := by decide +kernel
theorem dX4_result_176 : decode cX4_result 176 = .ok (.l2i, 1) := by decide +kernel
theorem dX4_result_177 : decode cX4_result 177 = .ok (.i2c, 1) := by decide +kernel
theorem dX4_result_178 : decode cX4_result 178 = .ok (.i2l, 1) := by decide +kernel
theorem dX4_result_179 : decode cX4_result 179 = .ok (.lreturn, 1) := by decide +kernel
theorem dX4_result_180 : decode cX4_result 180 = .ok (.lload_n 2, 1) := by decide +kernel
theorem dX4_result_181 : decode cX4_result 181 = .ok (.l2i, 1) := by decide +kernel
theorem dX4_result_182 : decode cX4_result 182 = .ok (.i2s, 1) := by decide +kernel
theorem dX4_result_183 : decode cX4_result 183 = .ok (.i2l, 1) := by decide +kernel
theorem dX4_result_184 : decode cX4_result 184 = .ok (.lreturn, 1) := by decide +kernel
theorem dX4_result_185 : decode cX4_result 185 = .ok (.iload_n 1, 1) := by decide +kernel
theorem dX4_result_186 : decode cX4_result 186 = .ok (.invokestatic 19, 3) := by decide +kernel
theorem dX4_result_189 : decode cX4_result 189 = .ok (.ifCond .eq 14, 3) := by decide +kernel
theorem dX4_result_192 : decode cX4_result 192 = .ok (.iload_n 1, 1) := by decide +kernel
theorem dX4_result_193 : decode cX4_result 193 = .ok (.invokestatic 49, 3) := by decide +kernel
theorem dX4_result_196 : decode cX4_result 196 = .ok (.lload_n 2, 1) := by decide +kernel
theorem dX4_result_197 : decode cX4_result 197 = .ok (.invokevirtual 53, 3) := by decide +kernel
theorem dX4_result_200 : decode cX4_result 200 = .ok (.goto 9, 3) := by decide +kernel
theorem dX4_result_203 : decode cX4_result 203 = .ok (.iload_n 1, 1) := by decide +kernel
theorem dX4_result_204 : decode cX4_result 204 = .ok (.lload_n 2, 1) := by decide +kernel
theorem dX4_result_205 : decode cX4_result 205 = .ok (.lneg, 1) := by decide +kernel
theorem dX4_result_206 : decode cX4_result 206 = .ok (.invokestatic 56, 3) := by decide +kernel
theorem dX4_result_209 : decode cX4_result 209 = .ok (.lreturn, 1) := by decide +kernel
theorem dX4_result_210 : decode cX4_result 210 = .ok (.iload_n 1, 1) := by decide +kernel
theorem dX4_result_211 : decode cX4_result 211 = .ok (.invokestatic 19, 3) := by decide +kernel
theorem dX4_result_214 : decode cX4_result 214 = .ok (.ifCond .eq 14, 3) := by decide +kernel
theorem dX4_result_217 : decode cX4_result 217 = .ok (.iload_n 1, 1) := by decide +kernel
theorem dX4_result_218 : decode cX4_result 218 = .ok (.invokestatic 49, 3) := by decide +kernel
theorem dX4_result_221 : decode cX4_result 221 = .ok (.lload_n 2, 1) := by decide +kernel
theorem dX4_result_222 : decode cX4_result 222 = .ok (.invokevirtual 60, 3) := by decide +kernel
theorem dX4_result_225 : decode cX4_result 225 = .ok (.goto 11, 3) := by decide +kernel
theorem dX4_result_228 : decode cX4_result 228 = .ok (.iload_n 1, 1) := by decide +kernel
theorem dX4_result_229 : decode cX4_result 229 = .ok (.lload_n 2, 1) := by decide +kernel
theorem dX4_result_230 : decode cX4_result 230 = .ok (.invokestatic 63, 3) := by decide +kernel
theorem dX4_result_233 : decode cX4_result 233 = .ok (.invokestatic 56, 3) := by decide +kernel
theorem dX4_result_236 : decode cX4_result 236 = .ok (.lreturn, 1) := by decide +kernel
theorem dX4_result_237 : decode cX4_result 237 = .ok (.iload_n 0, 1) := by decide +kernel
theorem dX4_result_238 : decode cX4_result 238 = .ok (.iload_n 1, 1) := by decide +kernel
theorem dX4_result_239 : decode cX4_result 239 = .ok (.invokestatic 68, 3) := by decide +kernel
theorem dX4_result_242 : decode cX4_result 242 = .ok (.lload_n 2, 1) := by decide +kernel
theorem dX4_result_243 : decode cX4_result 243 = .ok (.invokestatic 56, 3) := by decide +kernel
theorem dX4_result_246 : decode cX4_result 246 = .ok (.lreturn, 1) := by decide +kernel
theorem dX4_nearestInt_0 : decode cX4_nearestInt 0 = .ok (.ldc2_w 72, 3) := by decide +kernel
theorem dX4_nearestInt_3 : decode cX4_nearestInt 3 = .ok (.ldc2_w 74, 3) := by decide +kernel
theorem dX4_nearestInt_6 : decode cX4_nearestInt 6 = .ok (.lload_n 0, 1) := by decide +kernel
theorem dX4_nearestInt_7 : decode cX4_nearestInt 7 = .ok (.invokestatic 76, 3) := by decide +kernel
theorem dX4_nearestInt_10 : decode cX4_nearestInt 10 = .ok (.invokestatic 80, 3) := by decide +kernel
theorem dX4_nearestInt_13 : decode cX4_nearestInt 13 = .ok (.lreturn, 1) := by decide +kernel
theorem dX5_init_0 : decode cX5_init 0 = .ok (.aload_n 0, 1) := by decide +kernel
theorem dX5_init_1 : decode cX5_init 1 = .ok (.invokespecial 1, 3) := by decide +kernel
theorem dX5_init_4 : decode cX5_init 4 = .ok (.aload_n 0, 1) := by decide +kernel
theorem dX5_init_5 : decode cX5_init 5 = .ok (.bipush 8, 2) := by decide +kernel
theorem dX5_init_7 : decode cX5_init 7 = .ok (.newarray .int, 2) := by decide +kernel
theorem dX5_init_9 : decode cX5_init 9 = .ok (.putfield 9, 3) := by decide +kernel
theorem dX5_init_12 : decode cX5_init 12 = .ok (.aload_n 0, 1) := by decide +kernel
theorem dX5_init_13 : decode cX5_init 13 = .ok (.bipush 8, 2) := by decide +kernel
theorem dX5_init_15 : decode cX5_init 15 = .ok (.newarray .long, 2) := by decide +kernel
theorem dX5_init_17 : decode cX5_init 17 = .ok (.putfield 13, 3) := by decide +kernel
theorem dX5_init_20 : decode cX5_init 20 = .ok (.aload_n 0, 1) := by decide +kernel
theorem dX5_init_21 : decode cX5_init 21 = .ok (.bipush 8, 2) := by decide +kernel
theorem dX5_init_23 : decode cX5_init 23 = .ok (.newarray .int, 2) := by decide +kernel
theorem dX5_init_25 : decode cX5_init 25 = .ok (.putfield 17, 3) := by decide +kernel
theorem dX5_init_28 : decode cX5_init 28 = .ok (.aload_n 0, 1) := by decide +kernel
theorem dX5_init_29 : decode cX5_init 29 = .ok (.iconst 4, 1) := by decide +kernel
theorem dX5_init_30 : decode cX5_init 30 = .ok (.anewarray 20, 3) := by decide +kernel
theorem dX5_init_33 : decode cX5_init 33 = .ok (.putfield 22, 3) := by decide +kernel
theorem dX5_init_36 : decode cX5_init 36 = .ok (.aload_n 0, 1) := by decide +kernel
theorem dX5_init_37 : decode cX5_init 37 = .ok (.iconst 4, 1) := by decide +kernel
theorem dX5_init_38 : decode cX5_init 38 = .ok (.anewarray 20, 3) := by decide +kernel
theorem dX5_init_41 : decode cX5_init 41 = .ok (.putfield 26, 3) := by decide +kernel
theorem dX5_init_44 : decode cX5_init 44 = .ok (.aload_n 0, 1) := by decide +kernel
theorem dX5_init_45 : decode cX5_init 45 = .ok (.new 29, 3) := by decide +kernel
theorem dX5_init_48 : decode cX5_init 48 = .ok (.dup, 1) := by decide +kernel
theorem dX5_init_49 : decode cX5_init 49 = .ok (.invokespecial 31, 3) := by decide +kernel
theorem dX5_init_52 : decode cX5_init 52 = .ok (.putfield 32, 3) := by decide +kernel
theorem dX5_init_55 : decode cX5_init 55 = .ok (.aload_n 0, 1) := by decide +kernel
theorem dX5_init_56 : decode cX5_init 56 = .ok (.new 29, 3) := by decide +kernel
theorem dX5_init_59 : decode cX5_init 59 = .ok (.dup, 1) := by decide +kernel
theorem dX5_init_60 : decode cX5_init 60 = .ok (.invokespecial 31, 3) := by decide +kernel
theorem dX5_init_63 : decode cX5_init 63 = .ok (.putfield 36, 3) := by decide +kernel
theorem dX5_init_66 : decode cX5_init 66 = .ok (.iconst 0, 1) := by decide +kernel
theorem dX5_init_67 : decode cX5_init 67 = .ok (.istore_n 1, 1) := by decide +kernel
theorem dX5_init_68 : decode cX5_init 68 = .ok (.iload_n 1, 1) := by decide +kernel
theorem dX5_init_69 : decode cX5_init 69 = .ok (.bipush 8, 2) := by decide +kernel
theorem dX5_init_71 : decode cX5_init 71 = .ok (.if_icmp .ge 17, 3) := by decide +kernel
theorem dX5_init_74 : decode cX5_init 74 = .ok (.aload_n 0, 1) := by decide +kernel
theorem dX5_init_75 : decode cX5_init 75 = .ok (.getfield 17, 3) := by decide +kernel
theorem dX5_init_78 : decode cX5_init 78 = .ok (.iload_n 1, 1) := by decide +kernel
theorem dX5_init_79 : decode cX5_init 79 = .ok (.bipush 64, 2) := by decide +kernel
theorem dX5_init_81 : decode cX5_init 81 = .ok (.iastore, 1) := by decide +kernel
theorem dX5_init_82 : decode cX5_init 82 = .ok (.iinc 1 1, 3) := by decide +kernel
theorem dX5_init_85 : decode cX5_init 85 = .ok (.goto (-17), 3) := by decide +kernel
theorem dX5_init_88 : decode cX5_init 88 = .ok (.iconst 0, 1) := by decide +kernel
theorem dX5_init_89 : decode cX5_init 89 = .ok (.istore_n 1, 1) := by decide +kernel
theorem dX5_init_90 : decode cX5_init 90 = .ok (.iload_n 1, 1) := by decide +kernel
theorem dX5_init_91 : decode cX5_init 91 = .ok (.iconst 4, 1) := by decide +kernel
theorem dX5_init_92 : decode cX5_init 92 = .ok (.if_icmp .ge 22, 3) := by decide +kernel
theorem dX5_init_95 : decode cX5_init 95 = .ok (.aload_n 0, 1) := by decide +kernel
theorem dX5_init_96 : decode cX5_init 96 = .ok (.getfield 26, 3) := by decide +kernel
theorem dX5_init_99 : decode cX5_init 99 = .ok (.iload_n 1, 1) := by decide +kernel
theorem dX5_init_100 : decode cX5_init 100 = .ok (.new 20, 3) := by decide +kernel
theorem dX5_init_103 : decode cX5_init 103 = .ok (.dup, 1) := by decide +kernel
theorem dX5_init_104 : decode cX5_init 104 = .ok (.invokespecial 39, 3) := by decide +kernel
theorem dX5_init_107 : decode cX5_init 107 = .ok (.aastore, 1) := by decide +kernel
theorem dX5_init_108 : decode cX5_init 108 = .ok (.iinc 1 1, 3) := by decide +kernel
theorem dX5_init_111 : decode cX5_init 111 = .ok (.goto (-21), 3) := by decide +kernel
theorem dX5_init_114 : decode cX5_init 114 = .ok (.return_, 1) := by decide +kernel
theorem dX5_constant_0 : decode cX5_constant 0 = .ok (.iload_n 1, 1) := by decide +kernel
theorem dX5_constant_1 : decode cX5_constant 1 = .ok (.i2l, 1) := by decide +kernel
theorem dX5_constant_2 : decode cX5_constant 2 = .ok (.bipush 8, 2) := by decide +kernel
theorem dX5_constant_4 : decode cX5_constant 4 = .ok (.invokestatic 40, 3) := by decide +kernel
theorem dX5_constant_7 : decode cX5_constant 7 = .ok (.ifCond .eq 12, 3) := by decide +kernel
theorem dX5_constant_10 : decode cX5_constant 10 = .ok (.iload_n 2, 1) := by decide +kernel
theorem dX5_constant_11 : decode cX5_constant 11 = .ok (.i2l, 1) := by decide +kernel
theorem dX5_constant_12 : decode cX5_constant 12 = .ok (.iconst 4, 1) := by decide +kernel
theorem dX5_constant_13 : decode cX5_constant 13 = .ok (.invokestatic 40, 3) := by decide +kernel
theorem dX5_constant_16 : decode cX5_constant 16 = .ok (.ifCond .ne 5, 3) := by decide +kernel
theorem dX5_constant_19 : decode cX5_constant 19 = .ok (.iconst (-1), 1) := by decide +kernel
theorem dX5_constant_20 : decode cX5_constant 20 = .ok (.ireturn, 1) := by decide +kernel
theorem dX5_constant_21 : decode cX5_constant 21 = .ok (.aload_n 0, 1) := by decide +kernel
theorem dX5_constant_22 : decode cX5_constant 22 = .ok (.iload_n 1, 1) := by decide +kernel
theorem dX5_constant_23 : decode cX5_constant 23 = .ok (.iload_n 2, 1) := by decide +kernel
theorem dX5_constant_24 : decode cX5_constant 24 = .ok (.iload_n 2, 1) := by decide +kernel
theorem dX5_constant_25 : decode cX5_constant 25 = .ok (.lload_n 3, 1) := by decide +kernel
theorem dX5_constant_26 : decode cX5_constant 26 = .ok (.invokestatic 44, 3) := by decide +kernel
theorem dX5_constant_29 : decode cX5_constant 29 = .ok (.bipush 64, 2) := by decide +kernel
theorem dX5_constant_31 : decode cX5_constant 31 = .ok (.invokevirtual 48, 3) := by decide +kernel
theorem dX5_constant_34 : decode cX5_constant 34 = .ok (.iconst 0, 1) := by decide +kernel
theorem dX5_constant_35 : decode cX5_constant 35 = .ok (.ireturn, 1) := by decide +kernel
theorem dX5_input_0 : decode cX5_input 0 = .ok (.iload_n 1, 1) := by decide +kernel
theorem dX5_input_1 : decode cX5_input 1 = .ok (.i2l, 1) := by decide +kernel
theorem dX5_input_2 : decode cX5_input 2 = .ok (.bipush 8, 2) := by decide +kernel
theorem dX5_input_4 : decode cX5_input 4 = .ok (.invokestatic 40, 3) := by decide +kernel
theorem dX5_input_7 : decode cX5_input 7 = .ok (.ifCond .eq 23, 3) := by decide +kernel
theorem dX5_input_10 : decode cX5_input 10 = .ok (.iload_n 2, 1) := by decide +kernel
theorem dX5_input_11 : decode cX5_input 11 = .ok (.i2l, 1) := by decide +kernel
theorem dX5_input_12 : decode cX5_input 12 = .ok (.iconst 4, 1) := by decide +kernel
theorem dX5_input_13 : decode cX5_input 13 = .ok (.invokestatic 40, 3) := by decide +kernel
theorem dX5_input_16 : decode cX5_input 16 = .ok (.ifCond .eq 14, 3) := by decide +kernel
theorem dX5_input_19 : decode cX5_input 19 = .ok (.iload 5, 2) := by decide +kernel
theorem dX5_input_21 : decode cX5_input 21 = .ok (.i2l, 1) := by decide +kernel
theorem dX5_input_22 : decode cX5_input 22 = .ok (.bipush 6, 2) := by decide +kernel
theorem dX5_input_24 : decode cX5_input 24 = .ok (.invokestatic 40, 3) := by decide +kernel
theorem dX5_input_27 : decode cX5_input 27 = .ok (.ifCond .ne 5, 3) := by decide +kernel
theorem dX5_input_30 : decode cX5_input 30 = .ok (.iconst (-1), 1) := by decide +kernel
theorem dX5_input_31 : decode cX5_input 31 = .ok (.ireturn, 1) := by decide +kernel
theorem dX5_input_32 : decode cX5_input 32 = .ok (.aload_n 0, 1) := by decide +kernel
theorem dX5_input_33 : decode cX5_input 33 = .ok (.iload_n 1, 1) := by decide +kernel
theorem dX5_input_34 : decode cX5_input 34 = .ok (.iload_n 2, 1) := by decide +kernel
theorem dX5_input_35 : decode cX5_input 35 = .ok (.iload_n 2, 1) := by decide +kernel
theorem dX5_input_36 : decode cX5_input 36 = .ok (.lload_n 3, 1) := by decide +kernel
theorem dX5_input_37 : decode cX5_input 37 = .ok (.invokestatic 44, 3) := by decide +kernel
theorem dX5_input_40 : decode cX5_input 40 = .ok (.bipush 64, 2) := by decide +kernel
theorem dX5_input_42 : decode cX5_input 42 = .ok (.iconst 1, 1) := by decide +kernel
theorem dX5_input_43 : decode cX5_input 43 = .ok (.iload 5, 2) := by decide +kernel
theorem dX5_input_45 : decode cX5_input 45 = .ok (.ishl, 1) := by decide +kernel
theorem dX5_input_46 : decode cX5_input 46 = .ok (.iadd, 1) := by decide +kernel
theorem dX5_input_47 : decode cX5_input 47 = .ok (.invokevirtual 48, 3) := by decide +kernel
theorem dX5_input_50 : decode cX5_input 50 = .ok (.iconst 0, 1) := by decide +kernel
theorem dX5_input_51 : decode cX5_input 51 = .ok (.ireturn, 1) := by decide +kernel
theorem dX5_one_0 : decode cX5_one 0 = .ok (.iload_n 2, 1) := by decide +kernel
theorem dX5_one_1 : decode cX5_one 1 = .ok (.i2l, 1) := by decide +kernel
theorem dX5_one_2 : decode cX5_one 2 = .ok (.bipush 8, 2) := by decide +kernel
theorem dX5_one_4 : decode cX5_one 4 = .ok (.invokestatic 40, 3) := by decide +kernel
theorem dX5_one_7 : decode cX5_one 7 = .ok (.ifCond .eq 26, 3) := by decide +kernel
theorem dX5_one_10 : decode cX5_one 10 = .ok (.iload_n 3, 1) := by decide +kernel
theorem dX5_one_11 : decode cX5_one 11 = .ok (.i2l, 1) := by decide +kernel
theorem dX5_one_12 : decode cX5_one 12 = .ok (.bipush 8, 2) := by decide +kernel
theorem dX5_one_14 : decode cX5_one 14 = .ok (.invokestatic 40, 3) := by decide +kernel
theorem dX5_one_17 : decode cX5_one 17 = .ok (.ifCond .eq 16, 3) := by decide +kernel
theorem dX5_one_20 : decode cX5_one 20 = .ok (.iload_n 1, 1) := by decide +kernel
theorem dX5_one_21 : decode cX5_one 21 = .ok (.aload_n 0, 1) := by decide +kernel
theorem dX5_one_22 : decode cX5_one 22 = .ok (.getfield 9, 3) := by decide +kernel
theorem dX5_one_25 : decode cX5_one 25 = .ok (.iload_n 3, 1) := by decide +kernel
theorem dX5_one_26 : decode cX5_one 26 = .ok (.iaload, 1) := by decide +kernel
theorem dX5_one_27 : decode cX5_one 27 = .ok (.invokestatic 52, 3) := by decide +kernel
theorem dX5_one_30 : decode cX5_one 30 = .ok (.ifCond .ne 5, 3) := by decide +kernel
theorem dX5_one_33 : decode cX5_one 33 = .ok (.iconst (-1), 1) := by decide +kernel
theorem dX5_one_34 : decode cX5_one 34 = .ok (.ireturn, 1) := by decide +kernel
theorem dX5_one_35 : decode cX5_one 35 = .ok (.iload_n 1, 1) := by decide +kernel
theorem dX5_one_36 : decode cX5_one 36 = .ok (.invokestatic 58, 3) := by decide +kernel
theorem dX5_one_39 : decode cX5_one 39 = .ok (.ifCond .eq 15, 3) := by decide +kernel
theorem dX5_one_42 : decode cX5_one 42 = .ok (.aload_n 0, 1) := by decide +kernel
theorem dX5_one_43 : decode cX5_one 43 = .ok (.getfield 17, 3) := by decide +kernel
theorem dX5_one_46 : decode cX5_one 46 = .ok (.iload_n 3, 1) := by decide +kernel
theorem dX5_one_47 : decode cX5_one 47 = .ok (.iaload, 1) := by decide +kernel
theorem dX5_one_48 : decode cX5_one 48 = .ok (.invokestatic 62, 3) := by decide +kernel
theorem dX5_one_51 : decode cX5_one 51 = .ok (.goto 9, 3) := by decide +kernel
theorem dX5_one_54 : decode cX5_one 54 = .ok (.aload_n 0, 1) := by decide +kernel
theorem dX5_one_55 : decode cX5_one 55 = .ok (.getfield 17, 3) := by decide +kernel
theorem dX5_one_58 : decode cX5_one 58 = .ok (.iload_n 3, 1) := by decide +kernel
theorem dX5_one_59 : decode cX5_one 59 = .ok (.iaload, 1) := by decide +kernel
theorem dX5_one_60 : decode cX5_one 60 = .ok (.istore 4, 2) := by decide +kernel
theorem dX5_one_62 : decode cX5_one 62 = .ok (.aload_n 0, 1) := by decide +kernel
theorem dX5_one_63 : decode cX5_one 63 = .ok (.iload_n 2, 1) := by decide +kernel
theorem dX5_one_64 : decode cX5_one 64 = .ok (.iload_n 1, 1) := by decide +kernel
theorem dX5_one_65 : decode cX5_one 65 = .ok (.aload_n 0, 1) := by decide +kernel
theorem dX5_one_66 : decode cX5_one 66 = .ok (.getfield 9, 3) := by decide +kernel
theorem dX5_one_69 : decode cX5_one 69 = .ok (.iload_n 3, 1) := by decide +kernel
theorem dX5_one_70 : decode cX5_one 70 = .ok (.iaload, 1) := by decide +kernel
theorem dX5_one_71 : decode cX5_one 71 = .ok (.invokestatic 66, 3) := by decide +kernel
theorem dX5_one_74 : decode cX5_one 74 = .ok (.iload_n 1, 1) := by decide +kernel
theorem dX5_one_75 : decode cX5_one 75 = .ok (.aload_n 0, 1) := by decide +kernel
theorem dX5_one_76 : decode cX5_one 76 = .ok (.getfield 9, 3) := by decide +kernel
theorem dX5_one_79 : decode cX5_one 79 = .ok (.iload_n 3, 1) := by decide +kernel
theorem dX5_one_80 : decode cX5_one 80 = .ok (.iaload, 1) := by decide +kernel
theorem dX5_one_81 : decode cX5_one 81 = .ok (.aload_n 0, 1) := by decide +kernel
theorem dX5_one_82 : decode cX5_one 82 = .ok (.getfield 13, 3) := by decide +kernel
theorem dX5_one_85 : decode cX5_one 85 = .ok (.iload_n 3, 1) := by decide +kernel
theorem dX5_one_86 : decode cX5_one 86 = .ok (.laload, 1) := by decide +kernel
theorem dX5_one_87 : decode cX5_one 87 = .ok (.invokestatic 70, 3) := by decide +kernel
theorem dX5_one_90 : decode cX5_one 90 = .ok (.iload 4, 2) := by decide +kernel
theorem dX5_one_92 : decode cX5_one 92 = .ok (.invokevirtual 48, 3) := by decide +kernel
theorem dX5_one_95 : decode cX5_one 95 = .ok (.iconst 0, 1) := by decide +kernel
theorem dX5_one_96 : decode cX5_one 96 = .ok (.ireturn, 1) := by decide +kernel
theorem dX5_two_0 : decode cX5_two 0 = .ok (.iload_n 2, 1) := by decide +kernel
theorem dX5_two_1 : decode cX5_two 1 = .ok (.i2l, 1) := by decide +kernel
theorem dX5_two_2 : decode cX5_two 2 = .ok (.bipush 8, 2) := by decide +kernel
theorem dX5_two_4 : decode cX5_two 4 = .ok (.invokestatic 40, 3) := by decide +kernel
theorem dX5_two_7 : decode cX5_two 7 = .ok (.ifCond .eq 24, 3) := by decide +kernel
theorem dX5_two_10 : decode cX5_two 10 = .ok (.iload_n 3, 1) := by decide +kernel
theorem dX5_two_11 : decode cX5_two 11 = .ok (.i2l, 1) := by decide +kernel
theorem dX5_two_12 : decode cX5_two 12 = .ok (.bipush 8, 2) := by decide +kernel
theorem dX5_two_14 : decode cX5_two 14 = .ok (.invokestatic 40, 3) := by decide +kernel
theorem dX5_two_17 : decode cX5_two 17 = .ok (.ifCond .eq 14, 3) := by decide +kernel
theorem dX5_two_20 : decode cX5_two 20 = .ok (.iload 4, 2) := by decide +kernel
theorem dX5_two_22 : decode cX5_two 22 = .ok (.i2l, 1) := by decide +kernel
theorem dX5_two_23 : decode cX5_two 23 = .ok (.bipush 8, 2) := by decide +kernel
theorem dX5_two_25 : decode cX5_two 25 = .ok (.invokestatic 40, 3) := by decide +kernel
theorem dX5_two_28 : decode cX5_two 28 = .ok (.ifCond .ne 5, 3) := by decide +kernel
theorem dX5_two_31 : decode cX5_two 31 = .ok (.iconst (-1), 1) := by decide +kernel
theorem dX5_two_32 : decode cX5_two 32 = .ok (.ireturn, 1) := by decide +kernel
theorem dX5_two_33 : decode cX5_two 33 = .ok (.aload_n 0, 1) := by decide +kernel
theorem dX5_two_34 : decode cX5_two 34 = .ok (.getfield 9, 3) := by decide +kernel
theorem dX5_two_37 : decode cX5_two 37 = .ok (.iload_n 3, 1) := by decide +kernel
theorem dX5_two_38 : decode cX5_two 38 = .ok (.iaload, 1) := by decide +kernel
theorem dX5_two_39 : decode cX5_two 39 = .ok (.istore 5, 2) := by decide +kernel
theorem dX5_two_41 : decode cX5_two 41 = .ok (.iload_n 1, 1) := by decide +kernel
theorem dX5_two_42 : decode cX5_two 42 = .ok (.iload 5, 2) := by decide +kernel
theorem dX5_two_44 : decode cX5_two 44 = .ok (.aload_n 0, 1) := by decide +kernel
theorem dX5_two_45 : decode cX5_two 45 = .ok (.getfield 9, 3) := by decide +kernel
theorem dX5_two_48 : decode cX5_two 48 = .ok (.iload 4, 2) := by decide +kernel
theorem dX5_two_50 : decode cX5_two 50 = .ok (.iaload, 1) := by decide +kernel
theorem dX5_two_51 : decode cX5_two 51 = .ok (.invokestatic 74, 3) := by decide +kernel
end
section
theorem dX5_two_54 : decode cX5_two 54 = .ok (.ifCond .ne 5, 3) := by decide +kernel
theorem dX5_two_57 : decode cX5_two 57 = .ok (.iconst (-1), 1) := by decide +kernel
theorem dX5_two_58 : decode cX5_two 58 = .ok (.ireturn, 1) := by decide +kernel
theorem dX5_two_59 : decode cX5_two 59 = .ok (.iload_n 1, 1) := by decide +kernel
theorem dX5_two_60 : decode cX5_two 60 = .ok (.invokestatic 79, 3) := by decide +kernel
theorem dX5_two_63 : decode cX5_two 63 = .ok (.ifCond .eq 30, 3) := by decide +kernel
theorem dX5_two_66 : decode cX5_two 66 = .ok (.iload 5, 2) := by decide +kernel
theorem dX5_two_68 : decode cX5_two 68 = .ok (.invokestatic 82, 3) := by decide +kernel
theorem dX5_two_71 : decode cX5_two 71 = .ok (.ifCond .ne 22, 3) := by decide +kernel
theorem dX5_two_74 : decode cX5_two 74 = .ok (.aload_n 0, 1) := by decide +kernel
theorem dX5_two_75 : decode cX5_two 75 = .ok (.getfield 13, 3) := by decide +kernel
theorem dX5_two_78 : decode cX5_two 78 = .ok (.iload 4, 2) := by decide +kernel
theorem dX5_two_80 : decode cX5_two 80 = .ok (.laload, 1) := by decide +kernel
theorem dX5_two_81 : decode cX5_two 81 = .ok (.lconst 0, 1) := by decide +kernel
theorem dX5_two_82 : decode cX5_two 82 = .ok (.lcmp, 1) := by decide +kernel
theorem dX5_two_83 : decode cX5_two 83 = .ok (.ifCond .ne 10, 3) := by decide +kernel
theorem dX5_two_86 : decode cX5_two 86 = .ok (.aload_n 0, 1) := by decide +kernel
theorem dX5_two_87 : decode cX5_two 87 = .ok (.bipush (-2), 2) := by decide +kernel
theorem dX5_two_89 : decode cX5_two 89 = .ok (.invokevirtual 85, 3) := by decide +kernel
theorem dX5_two_92 : decode cX5_two 92 = .ok (.ireturn, 1) := by decide +kernel
theorem dX5_two_93 : decode cX5_two 93 = .ok (.iload 5, 2) := by decide +kernel
theorem dX5_two_95 : decode cX5_two 95 = .ok (.invokestatic 82, 3) := by decide +kernel
theorem dX5_two_98 : decode cX5_two 98 = .ok (.ifCond .eq 28, 3) := by decide +kernel
theorem dX5_two_101 : decode cX5_two 101 = .ok (.iload_n 1, 1) := by decide +kernel
theorem dX5_two_102 : decode cX5_two 102 = .ok (.iload 5, 2) := by decide +kernel
theorem dX5_two_104 : decode cX5_two 104 = .ok (.invokestatic 88, 3) := by decide +kernel
theorem dX5_two_107 : decode cX5_two 107 = .ok (.aload_n 0, 1) := by decide +kernel
theorem dX5_two_108 : decode cX5_two 108 = .ok (.getfield 13, 3) := by decide +kernel
theorem dX5_two_111 : decode cX5_two 111 = .ok (.iload_n 3, 1) := by decide +kernel
theorem dX5_two_112 : decode cX5_two 112 = .ok (.laload, 1) := by decide +kernel
theorem dX5_two_113 : decode cX5_two 113 = .ok (.aload_n 0, 1) := by decide +kernel
theorem dX5_two_114 : decode cX5_two 114 = .ok (.getfield 13, 3) := by decide +kernel
theorem dX5_two_117 : decode cX5_two 117 = .ok (.iload 4, 2) := by decide +kernel
theorem dX5_two_119 : decode cX5_two 119 = .ok (.laload, 1) := by decide +kernel
theorem dX5_two_120 : decode cX5_two 120 = .ok (.invokestatic 92, 3) := by decide +kernel
theorem dX5_two_123 : decode cX5_two 123 = .ok (.goto 22, 3) := by decide +kernel
theorem dX5_two_126 : decode cX5_two 126 = .ok (.iload_n 1, 1) := by decide +kernel
theorem dX5_two_127 : decode cX5_two 127 = .ok (.iload 5, 2) := by decide +kernel
theorem dX5_two_129 : decode cX5_two 129 = .ok (.aload_n 0, 1) := by decide +kernel
theorem dX5_two_130 : decode cX5_two 130 = .ok (.getfield 13, 3) := by decide +kernel
theorem dX5_two_133 : decode cX5_two 133 = .ok (.iload_n 3, 1) := by decide +kernel
theorem dX5_two_134 : decode cX5_two 134 = .ok (.laload, 1) := by decide +kernel
theorem dX5_two_135 : decode cX5_two 135 = .ok (.aload_n 0, 1) := by decide +kernel
theorem dX5_two_136 : decode cX5_two 136 = .ok (.getfield 13, 3) := by decide +kernel
theorem dX5_two_139 : decode cX5_two 139 = .ok (.iload 4, 2) := by decide +kernel
theorem dX5_two_141 : decode cX5_two 141 = .ok (.laload, 1) := by decide +kernel
theorem dX5_two_142 : decode cX5_two 142 = .ok (.invokestatic 96, 3) := by decide +kernel
theorem dX5_two_145 : decode cX5_two 145 = .ok (.lstore 6, 2) := by decide +kernel
theorem dX5_two_147 : decode cX5_two 147 = .ok (.aload_n 0, 1) := by decide +kernel
theorem dX5_two_148 : decode cX5_two 148 = .ok (.iload_n 2, 1) := by decide +kernel
theorem dX5_two_149 : decode cX5_two 149 = .ok (.iload_n 1, 1) := by decide +kernel
theorem dX5_two_150 : decode cX5_two 150 = .ok (.iload 5, 2) := by decide +kernel
theorem dX5_two_152 : decode cX5_two 152 = .ok (.invokestatic 100, 3) := by decide +kernel
theorem dX5_two_155 : decode cX5_two 155 = .ok (.lload 6, 2) := by decide +kernel
theorem dX5_two_157 : decode cX5_two 157 = .ok (.aload_n 0, 1) := by decide +kernel
theorem dX5_two_158 : decode cX5_two 158 = .ok (.iload_n 1, 1) := by decide +kernel
theorem dX5_two_159 : decode cX5_two 159 = .ok (.iload_n 3, 1) := by decide +kernel
theorem dX5_two_160 : decode cX5_two 160 = .ok (.iload 4, 2) := by decide +kernel
theorem dX5_two_162 : decode cX5_two 162 = .ok (.invokevirtual 101, 3) := by decide +kernel
theorem dX5_two_165 : decode cX5_two 165 = .ok (.invokevirtual 48, 3) := by decide +kernel
theorem dX5_two_168 : decode cX5_two 168 = .ok (.iconst 0, 1) := by decide +kernel
theorem dX5_two_169 : decode cX5_two 169 = .ok (.ireturn, 1) := by decide +kernel
theorem dX5_move_0 : decode cX5_move 0 = .ok (.iload_n 1, 1) := by decide +kernel
theorem dX5_move_1 : decode cX5_move 1 = .ok (.i2l, 1) := by decide +kernel
theorem dX5_move_2 : decode cX5_move 2 = .ok (.bipush 8, 2) := by decide +kernel
theorem dX5_move_4 : decode cX5_move 4 = .ok (.invokestatic 40, 3) := by decide +kernel
theorem dX5_move_7 : decode cX5_move 7 = .ok (.ifCond .eq 13, 3) := by decide +kernel
theorem dX5_move_10 : decode cX5_move 10 = .ok (.iload_n 2, 1) := by decide +kernel
theorem dX5_move_11 : decode cX5_move 11 = .ok (.i2l, 1) := by decide +kernel
theorem dX5_move_12 : decode cX5_move 12 = .ok (.bipush 8, 2) := by decide +kernel
theorem dX5_move_14 : decode cX5_move 14 = .ok (.invokestatic 40, 3) := by decide +kernel
theorem dX5_move_17 : decode cX5_move 17 = .ok (.ifCond .ne 5, 3) := by decide +kernel
theorem dX5_move_20 : decode cX5_move 20 = .ok (.iconst (-1), 1) := by decide +kernel
theorem dX5_move_21 : decode cX5_move 21 = .ok (.ireturn, 1) := by decide +kernel
theorem dX5_move_22 : decode cX5_move 22 = .ok (.aload_n 0, 1) := by decide +kernel
theorem dX5_move_23 : decode cX5_move 23 = .ok (.iload_n 1, 1) := by decide +kernel
theorem dX5_move_24 : decode cX5_move 24 = .ok (.aload_n 0, 1) := by decide +kernel
theorem dX5_move_25 : decode cX5_move 25 = .ok (.getfield 9, 3) := by decide +kernel
theorem dX5_move_28 : decode cX5_move 28 = .ok (.iload_n 2, 1) := by decide +kernel
theorem dX5_move_29 : decode cX5_move 29 = .ok (.iaload, 1) := by decide +kernel
theorem dX5_move_30 : decode cX5_move 30 = .ok (.aload_n 0, 1) := by decide +kernel
theorem dX5_move_31 : decode cX5_move 31 = .ok (.getfield 13, 3) := by decide +kernel
theorem dX5_move_34 : decode cX5_move 34 = .ok (.iload_n 2, 1) := by decide +kernel
theorem dX5_move_35 : decode cX5_move 35 = .ok (.laload, 1) := by decide +kernel
theorem dX5_move_36 : decode cX5_move 36 = .ok (.aload_n 0, 1) := by decide +kernel
theorem dX5_move_37 : decode cX5_move 37 = .ok (.getfield 17, 3) := by decide +kernel
theorem dX5_move_40 : decode cX5_move 40 = .ok (.iload_n 2, 1) := by decide +kernel
theorem dX5_move_41 : decode cX5_move 41 = .ok (.iaload, 1) := by decide +kernel
theorem dX5_move_42 : decode cX5_move 42 = .ok (.invokevirtual 48, 3) := by decide +kernel
theorem dX5_move_45 : decode cX5_move 45 = .ok (.iconst 0, 1) := by decide +kernel
theorem dX5_move_46 : decode cX5_move 46 = .ok (.ireturn, 1) := by decide +kernel
theorem dX5_array_0 : decode cX5_array 0 = .ok (.iload_n 1, 1) := by decide +kernel
theorem dX5_array_1 : decode cX5_array 1 = .ok (.i2l, 1) := by decide +kernel
theorem dX5_array_2 : decode cX5_array 2 = .ok (.iconst 4, 1) := by decide +kernel
theorem dX5_array_3 : decode cX5_array 3 = .ok (.invokestatic 40, 3) := by decide +kernel
theorem dX5_array_6 : decode cX5_array 6 = .ok (.ifCond .eq 34, 3) := by decide +kernel
theorem dX5_array_9 : decode cX5_array 9 = .ok (.iload_n 2, 1) := by decide +kernel
theorem dX5_array_10 : decode cX5_array 10 = .ok (.i2l, 1) := by decide +kernel
theorem dX5_array_11 : decode cX5_array 11 = .ok (.bipush 8, 2) := by decide +kernel
theorem dX5_array_13 : decode cX5_array 13 = .ok (.invokestatic 40, 3) := by decide +kernel
theorem dX5_array_16 : decode cX5_array 16 = .ok (.ifCond .eq 24, 3) := by decide +kernel
theorem dX5_array_19 : decode cX5_array 19 = .ok (.aload_n 0, 1) := by decide +kernel
theorem dX5_array_20 : decode cX5_array 20 = .ok (.iload_n 3, 1) := by decide +kernel
theorem dX5_array_21 : decode cX5_array 21 = .ok (.invokevirtual 105, 3) := by decide +kernel
theorem dX5_array_24 : decode cX5_array 24 = .ok (.ifCond .eq 16, 3) := by decide +kernel
theorem dX5_array_27 : decode cX5_array 27 = .ok (.aload_n 0, 1) := by decide +kernel
theorem dX5_array_28 : decode cX5_array 28 = .ok (.getfield 13, 3) := by decide +kernel
theorem dX5_array_31 : decode cX5_array 31 = .ok (.iload_n 3, 1) := by decide +kernel
theorem dX5_array_32 : decode cX5_array 32 = .ok (.laload, 1) := by decide +kernel
theorem dX5_array_33 : decode cX5_array 33 = .ok (.ldc2_w 108, 3) := by decide +kernel
theorem dX5_array_36 : decode cX5_array 36 = .ok (.lcmp, 1) := by decide +kernel
theorem dX5_array_37 : decode cX5_array 37 = .ok (.ifCond .le 5, 3) := by decide +kernel
theorem dX5_array_40 : decode cX5_array 40 = .ok (.iconst (-1), 1) := by decide +kernel
theorem dX5_array_41 : decode cX5_array 41 = .ok (.ireturn, 1) := by decide +kernel
theorem dX5_array_42 : decode cX5_array 42 = .ok (.aload_n 0, 1) := by decide +kernel
theorem dX5_array_43 : decode cX5_array 43 = .ok (.getfield 13, 3) := by decide +kernel
theorem dX5_array_46 : decode cX5_array 46 = .ok (.iload_n 3, 1) := by decide +kernel
theorem dX5_array_47 : decode cX5_array 47 = .ok (.laload, 1) := by decide +kernel
theorem dX5_array_48 : decode cX5_array 48 = .ok (.lconst 0, 1) := by decide +kernel
theorem dX5_array_49 : decode cX5_array 49 = .ok (.lcmp, 1) := by decide +kernel
theorem dX5_array_50 : decode cX5_array 50 = .ok (.ifCond .ge 10, 3) := by decide +kernel
theorem dX5_array_53 : decode cX5_array 53 = .ok (.aload_n 0, 1) := by decide +kernel
theorem dX5_array_54 : decode cX5_array 54 = .ok (.bipush (-5), 2) := by decide +kernel
theorem dX5_array_56 : decode cX5_array 56 = .ok (.invokevirtual 85, 3) := by decide +kernel
theorem dX5_array_59 : decode cX5_array 59 = .ok (.ireturn, 1) := by decide +kernel
theorem dX5_array_60 : decode cX5_array 60 = .ok (.aload_n 0, 1) := by decide +kernel
theorem dX5_array_61 : decode cX5_array 61 = .ok (.iload_n 3, 1) := by decide +kernel
theorem dX5_array_62 : decode cX5_array 62 = .ok (.bipush 40, 2) := by decide +kernel
theorem dX5_array_64 : decode cX5_array 64 = .ok (.invokevirtual 110, 3) := by decide +kernel
theorem dX5_array_67 : decode cX5_array 67 = .ok (.aload_n 0, 1) := by decide +kernel
theorem dX5_array_68 : decode cX5_array 68 = .ok (.getfield 22, 3) := by decide +kernel
theorem dX5_array_71 : decode cX5_array 71 = .ok (.iload_n 1, 1) := by decide +kernel
theorem dX5_array_72 : decode cX5_array 72 = .ok (.aconst_null, 1) := by decide +kernel
theorem dX5_array_73 : decode cX5_array 73 = .ok (.aastore, 1) := by decide +kernel
theorem dX5_array_74 : decode cX5_array 74 = .ok (.aload_n 0, 1) := by decide +kernel
theorem dX5_array_75 : decode cX5_array 75 = .ok (.invokevirtual 114, 3) := by decide +kernel
theorem dX5_array_78 : decode cX5_array 78 = .ok (.astore 4, 2) := by decide +kernel
theorem dX5_array_80 : decode cX5_array 80 = .ok (.aload 4, 2) := by decide +kernel
theorem dX5_array_82 : decode cX5_array 82 = .ok (.iload_n 2, 1) := by decide +kernel
theorem dX5_array_83 : decode cX5_array 83 = .ok (.aload_n 0, 1) := by decide +kernel
theorem dX5_array_84 : decode cX5_array 84 = .ok (.getfield 13, 3) := by decide +kernel
theorem dX5_array_87 : decode cX5_array 87 = .ok (.iload_n 3, 1) := by decide +kernel
theorem dX5_array_88 : decode cX5_array 88 = .ok (.laload, 1) := by decide +kernel
theorem dX5_array_89 : decode cX5_array 89 = .ok (.l2i, 1) := by decide +kernel
theorem dX5_array_90 : decode cX5_array 90 = .ok (.invokevirtual 118, 3) := by decide +kernel
theorem dX5_array_93 : decode cX5_array 93 = .ok (.aload_n 0, 1) := by decide +kernel
theorem dX5_array_94 : decode cX5_array 94 = .ok (.getfield 22, 3) := by decide +kernel
theorem dX5_array_97 : decode cX5_array 97 = .ok (.iload_n 1, 1) := by decide +kernel
theorem dX5_array_98 : decode cX5_array 98 = .ok (.aload 4, 2) := by decide +kernel
theorem dX5_array_100 : decode cX5_array 100 = .ok (.aastore, 1) := by decide +kernel
theorem dX5_array_101 : decode cX5_array 101 = .ok (.iconst 0, 1) := by decide +kernel
theorem dX5_array_102 : decode cX5_array 102 = .ok (.ireturn, 1) := by decide +kernel
theorem dX5_drop_0 : decode cX5_drop 0 = .ok (.iload_n 1, 1) := by decide +kernel
theorem dX5_drop_1 : decode cX5_drop 1 = .ok (.i2l, 1) := by decide +kernel
theorem dX5_drop_2 : decode cX5_drop 2 = .ok (.iconst 4, 1) := by decide +kernel
theorem dX5_drop_3 : decode cX5_drop 3 = .ok (.invokestatic 40, 3) := by decide +kernel
theorem dX5_drop_6 : decode cX5_drop 6 = .ok (.ifCond .ne 5, 3) := by decide +kernel
theorem dX5_drop_9 : decode cX5_drop 9 = .ok (.iconst (-1), 1) := by decide +kernel
theorem dX5_drop_10 : decode cX5_drop 10 = .ok (.ireturn, 1) := by decide +kernel
theorem dX5_drop_11 : decode cX5_drop 11 = .ok (.aload_n 0, 1) := by decide +kernel
theorem dX5_drop_12 : decode cX5_drop 12 = .ok (.getfield 22, 3) := by decide +kernel
theorem dX5_drop_15 : decode cX5_drop 15 = .ok (.iload_n 1, 1) := by decide +kernel
theorem dX5_drop_16 : decode cX5_drop 16 = .ok (.aconst_null, 1) := by decide +kernel
theorem dX5_drop_17 : decode cX5_drop 17 = .ok (.aastore, 1) := by decide +kernel
theorem dX5_drop_18 : decode cX5_drop 18 = .ok (.iconst 0, 1) := by decide +kernel
theorem dX5_drop_19 : decode cX5_drop 19 = .ok (.ireturn, 1) := by decide +kernel
theorem dX5_share_0 : decode cX5_share 0 = .ok (.iload_n 1, 1) := by decide +kernel
theorem dX5_share_1 : decode cX5_share 1 = .ok (.i2l, 1) := by decide +kernel
theorem dX5_share_2 : decode cX5_share 2 = .ok (.iconst 4, 1) := by decide +kernel
theorem dX5_share_3 : decode cX5_share 3 = .ok (.invokestatic 40, 3) := by decide +kernel
theorem dX5_share_6 : decode cX5_share 6 = .ok (.ifCond .eq 12, 3) := by decide +kernel
theorem dX5_share_9 : decode cX5_share 9 = .ok (.iload_n 2, 1) := by decide +kernel
theorem dX5_share_10 : decode cX5_share 10 = .ok (.i2l, 1) := by decide +kernel
theorem dX5_share_11 : decode cX5_share 11 = .ok (.iconst 4, 1) := by decide +kernel
theorem dX5_share_12 : decode cX5_share 12 = .ok (.invokestatic 40, 3) := by decide +kernel
theorem dX5_share_15 : decode cX5_share 15 = .ok (.ifCond .ne 5, 3) := by decide +kernel
theorem dX5_share_18 : decode cX5_share 18 = .ok (.iconst (-1), 1) := by decide +kernel
theorem dX5_share_19 : decode cX5_share 19 = .ok (.ireturn, 1) := by decide +kernel
theorem dX5_share_20 : decode cX5_share 20 = .ok (.aload_n 0, 1) := by decide +kernel
theorem dX5_share_21 : decode cX5_share 21 = .ok (.getfield 22, 3) := by decide +kernel
theorem dX5_share_24 : decode cX5_share 24 = .ok (.iload_n 1, 1) := by decide +kernel
theorem dX5_share_25 : decode cX5_share 25 = .ok (.aload_n 0, 1) := by decide +kernel
theorem dX5_share_26 : decode cX5_share 26 = .ok (.getfield 22, 3) := by decide +kernel
theorem dX5_share_29 : decode cX5_share 29 = .ok (.iload_n 2, 1) := by decide +kernel
theorem dX5_share_30 : decode cX5_share 30 = .ok (.aaload, 1) := by decide +kernel
theorem dX5_share_31 : decode cX5_share 31 = .ok (.aastore, 1) := by decide +kernel
theorem dX5_share_32 : decode cX5_share 32 = .ok (.iconst 0, 1) := by decide +kernel
theorem dX5_share_33 : decode cX5_share 33 = .ok (.ireturn, 1) := by decide +kernel
theorem dX5_load_0 : decode cX5_load 0 = .ok (.iload_n 1, 1) := by decide +kernel
theorem dX5_load_1 : decode cX5_load 1 = .ok (.i2l, 1) := by decide +kernel
theorem dX5_load_2 : decode cX5_load 2 = .ok (.bipush 8, 2) := by decide +kernel
theorem dX5_load_4 : decode cX5_load 4 = .ok (.invokestatic 40, 3) := by decide +kernel
theorem dX5_load_7 : decode cX5_load 7 = .ok (.ifCond .eq 20, 3) := by decide +kernel
theorem dX5_load_10 : decode cX5_load 10 = .ok (.iload_n 2, 1) := by decide +kernel
theorem dX5_load_11 : decode cX5_load 11 = .ok (.i2l, 1) := by decide +kernel
theorem dX5_load_12 : decode cX5_load 12 = .ok (.iconst 4, 1) := by decide +kernel
theorem dX5_load_13 : decode cX5_load 13 = .ok (.invokestatic 40, 3) := by decide +kernel
theorem dX5_load_16 : decode cX5_load 16 = .ok (.ifCond .eq 11, 3) := by decide +kernel
theorem dX5_load_19 : decode cX5_load 19 = .ok (.aload_n 0, 1) := by decide +kernel
theorem dX5_load_20 : decode cX5_load 20 = .ok (.iload_n 3, 1) := by decide +kernel
theorem dX5_load_21 : decode cX5_load 21 = .ok (.invokevirtual 105, 3) := by decide +kernel
theorem dX5_load_24 : decode cX5_load 24 = .ok (.ifCond .ne 5, 3) := by decide +kernel
theorem dX5_load_27 : decode cX5_load 27 = .ok (.iconst (-1), 1) := by decide +kernel
theorem dX5_load_28 : decode cX5_load 28 = .ok (.ireturn, 1) := by decide +kernel
theorem dX5_load_29 : decode cX5_load 29 = .ok (.aload_n 0, 1) := by decide +kernel
theorem dX5_load_30 : decode cX5_load 30 = .ok (.getfield 22, 3) := by decide +kernel
theorem dX5_load_33 : decode cX5_load 33 = .ok (.iload_n 2, 1) := by decide +kernel
theorem dX5_load_34 : decode cX5_load 34 = .ok (.aaload, 1) := by decide +kernel
theorem dX5_load_35 : decode cX5_load 35 = .ok (.astore 4, 2) := by decide +kernel
theorem dX5_load_37 : decode cX5_load 37 = .ok (.aload 4, 2) := by decide +kernel
theorem dX5_load_39 : decode cX5_load 39 = .ok (.ifnonnull 10, 3) := by decide +kernel
theorem dX5_load_42 : decode cX5_load 42 = .ok (.aload_n 0, 1) := by decide +kernel
theorem dX5_load_43 : decode cX5_load 43 = .ok (.bipush (-3), 2) := by decide +kernel
theorem dX5_load_45 : decode cX5_load 45 = .ok (.invokevirtual 85, 3) := by decide +kernel
theorem dX5_load_48 : decode cX5_load 48 = .ok (.ireturn, 1) := by decide +kernel
theorem dX5_load_49 : decode cX5_load 49 = .ok (.aload_n 0, 1) := by decide +kernel
theorem dX5_load_50 : decode cX5_load 50 = .ok (.getfield 13, 3) := by decide +kernel
theorem dX5_load_53 : decode cX5_load 53 = .ok (.iload_n 3, 1) := by decide +kernel
theorem dX5_load_54 : decode cX5_load 54 = .ok (.laload, 1) := by decide +kernel
theorem dX5_load_55 : decode cX5_load 55 = .ok (.aload 4, 2) := by decide +kernel
theorem dX5_load_57 : decode cX5_load 57 = .ok (.getfield 121, 3) := by decide +kernel
theorem dX5_load_60 : decode cX5_load 60 = .ok (.invokestatic 40, 3) := by decide +kernel
theorem dX5_load_63 : decode cX5_load 63 = .ok (.ifCond .ne 10, 3) := by decide +kernel
theorem dX5_load_66 : decode cX5_load 66 = .ok (.aload_n 0, 1) := by decide +kernel
theorem dX5_load_67 : decode cX5_load 67 = .ok (.bipush (-4), 2) := by decide +kernel
theorem dX5_load_69 : decode cX5_load 69 = .ok (.invokevirtual 85, 3) := by decide +kernel
theorem dX5_load_72 : decode cX5_load 72 = .ok (.ireturn, 1) := by decide +kernel
theorem dX5_load_73 : decode cX5_load 73 = .ok (.aload_n 0, 1) := by decide +kernel
theorem dX5_load_74 : decode cX5_load 74 = .ok (.getfield 13, 3) := by decide +kernel
theorem dX5_load_77 : decode cX5_load 77 = .ok (.iload_n 3, 1) := by decide +kernel
theorem dX5_load_78 : decode cX5_load 78 = .ok (.laload, 1) := by decide +kernel
theorem dX5_load_79 : decode cX5_load 79 = .ok (.l2i, 1) := by decide +kernel
theorem dX5_load_80 : decode cX5_load 80 = .ok (.istore 5, 2) := by decide +kernel
theorem dX5_load_82 : decode cX5_load 82 = .ok (.aload_n 0, 1) := by decide +kernel
theorem dX5_load_83 : decode cX5_load 83 = .ok (.iload_n 3, 1) := by decide +kernel
theorem dX5_load_84 : decode cX5_load 84 = .ok (.bipush 41, 2) := by decide +kernel
theorem dX5_load_86 : decode cX5_load 86 = .ok (.invokevirtual 110, 3) := by decide +kernel
theorem dX5_load_89 : decode cX5_load 89 = .ok (.aload_n 0, 1) := by decide +kernel
theorem dX5_load_90 : decode cX5_load 90 = .ok (.iload_n 1, 1) := by decide +kernel
theorem dX5_load_91 : decode cX5_load 91 = .ok (.aload 4, 2) := by decide +kernel
theorem dX5_load_93 : decode cX5_load 93 = .ok (.invokevirtual 125, 3) := by decide +kernel
theorem dX5_load_96 : decode cX5_load 96 = .ok (.aload 4, 2) := by decide +kernel
theorem dX5_load_98 : decode cX5_load 98 = .ok (.getfield 129, 3) := by decide +kernel
theorem dX5_load_101 : decode cX5_load 101 = .ok (.iload 5, 2) := by decide +kernel
theorem dX5_load_103 : decode cX5_load 103 = .ok (.laload, 1) := by decide +kernel
theorem dX5_load_104 : decode cX5_load 104 = .ok (.aload 4, 2) := by decide +kernel
theorem dX5_load_106 : decode cX5_load 106 = .ok (.getfield 130, 3) := by decide +kernel
theorem dX5_load_109 : decode cX5_load 109 = .ok (.iload 5, 2) := by decide +kernel
theorem dX5_load_111 : decode cX5_load 111 = .ok (.iaload, 1) := by decide +kernel
theorem dX5_load_112 : decode cX5_load 112 = .ok (.invokevirtual 48, 3) := by decide +kernel
theorem dX5_load_115 : decode cX5_load 115 = .ok (.iconst 0, 1) := by decide +kernel
theorem dX5_load_116 : decode cX5_load 116 = .ok (.ireturn, 1) := by decide +kernel
theorem dX5_store_0 : decode cX5_store 0 = .ok (.iload_n 1, 1) := by decide +kernel
theorem dX5_store_1 : decode cX5_store 1 = .ok (.i2l, 1) := by decide +kernel
theorem dX5_store_2 : decode cX5_store 2 = .ok (.iconst 4, 1) := by decide +kernel
theorem dX5_store_3 : decode cX5_store 3 = .ok (.invokestatic 40, 3) := by decide +kernel
theorem dX5_store_6 : decode cX5_store 6 = .ok (.ifCond .eq 21, 3) := by decide +kernel
theorem dX5_store_9 : decode cX5_store 9 = .ok (.aload_n 0, 1) := by decide +kernel
theorem dX5_store_10 : decode cX5_store 10 = .ok (.iload_n 2, 1) := by decide +kernel
theorem dX5_store_11 : decode cX5_store 11 = .ok (.invokevirtual 105, 3) := by decide +kernel
theorem dX5_store_14 : decode cX5_store 14 = .ok (.ifCond .eq 13, 3) := by decide +kernel
theorem dX5_store_17 : decode cX5_store 17 = .ok (.iload_n 3, 1) := by decide +kernel
theorem dX5_store_18 : decode cX5_store 18 = .ok (.i2l, 1) := by decide +kernel
theorem dX5_store_19 : decode cX5_store 19 = .ok (.bipush 8, 2) := by decide +kernel
theorem dX5_store_21 : decode cX5_store 21 = .ok (.invokestatic 40, 3) := by decide +kernel
theorem dX5_store_24 : decode cX5_store 24 = .ok (.ifCond .ne 5, 3) := by decide +kernel
theorem dX5_store_27 : decode cX5_store 27 = .ok (.iconst (-1), 1) := by decide +kernel
theorem dX5_store_28 : decode cX5_store 28 = .ok (.ireturn, 1) := by decide +kernel
theorem dX5_store_29 : decode cX5_store 29 = .ok (.aload_n 0, 1) := by decide +kernel
theorem dX5_store_30 : decode cX5_store 30 = .ok (.getfield 22, 3) := by decide +kernel
theorem dX5_store_33 : decode cX5_store 33 = .ok (.iload_n 1, 1) := by decide +kernel
theorem dX5_store_34 : decode cX5_store 34 = .ok (.aaload, 1) := by decide +kernel
theorem dX5_store_35 : decode cX5_store 35 = .ok (.astore 4, 2) := by decide +kernel
theorem dX5_store_37 : decode cX5_store 37 = .ok (.aload 4, 2) := by decide +kernel
theorem dX5_store_39 : decode cX5_store 39 = .ok (.ifnonnull 10, 3) := by decide +kernel
theorem dX5_store_42 : decode cX5_store 42 = .ok (.aload_n 0, 1) := by decide +kernel
theorem dX5_store_43 : decode cX5_store 43 = .ok (.bipush (-3), 2) := by decide +kernel
theorem dX5_store_45 : decode cX5_store 45 = .ok (.invokevirtual 85, 3) := by decide +kernel
theorem dX5_store_48 : decode cX5_store 48 = .ok (.ireturn, 1) := by decide +kernel
theorem dX5_store_49 : decode cX5_store 49 = .ok (.aload 4, 2) := by decide +kernel
theorem dX5_store_51 : decode cX5_store 51 = .ok (.invokevirtual 125, 3) := by decide +kernel
theorem dX5_store_54 : decode cX5_store 54 = .ok (.aload_n 0, 1) := by decide +kernel
theorem dX5_store_55 : decode cX5_store 55 = .ok (.getfield 9, 3) := by decide +kernel
theorem dX5_store_58 : decode cX5_store 58 = .ok (.iload_n 3, 1) := by decide +kernel
theorem dX5_store_59 : decode cX5_store 59 = .ok (.iaload, 1) := by decide +kernel
theorem dX5_store_60 : decode cX5_store 60 = .ok (.if_icmp .eq 10, 3) := by decide +kernel
theorem dX5_store_63 : decode cX5_store 63 = .ok (.aload_n 0, 1) := by decide +kernel
theorem dX5_store_64 : decode cX5_store 64 = .ok (.bipush (-6), 2) := by decide +kernel
theorem dX5_store_66 : decode cX5_store 66 = .ok (.invokevirtual 85, 3) := by decide +kernel
theorem dX5_store_69 : decode cX5_store 69 = .ok (.ireturn, 1) := by decide +kernel
theorem dX5_store_70 : decode cX5_store 70 = .ok (.aload_n 0, 1) := by decide +kernel
theorem dX5_store_71 : decode cX5_store 71 = .ok (.getfield 13, 3) := by decide +kernel
theorem dX5_store_74 : decode cX5_store 74 = .ok (.iload_n 2, 1) := by decide +kernel
theorem dX5_store_75 : decode cX5_store 75 = .ok (.laload, 1) := by decide +kernel
theorem dX5_store_76 : decode cX5_store 76 = .ok (.aload 4, 2) := by decide +kernel
theorem dX5_store_78 : decode cX5_store 78 = .ok (.getfield 121, 3) := by decide +kernel
theorem dX5_store_81 : decode cX5_store 81 = .ok (.invokestatic 40, 3) := by decide +kernel
theorem dX5_store_84 : decode cX5_store 84 = .ok (.ifCond .ne 10, 3) := by decide +kernel
theorem dX5_store_87 : decode cX5_store 87 = .ok (.aload_n 0, 1) := by decide +kernel
theorem dX5_store_88 : decode cX5_store 88 = .ok (.bipush (-4), 2) := by decide +kernel
theorem dX5_store_90 : decode cX5_store 90 = .ok (.invokevirtual 85, 3) := by decide +kernel
theorem dX5_store_93 : decode cX5_store 93 = .ok (.ireturn, 1) := by decide +kernel
theorem dX5_store_94 : decode cX5_store 94 = .ok (.aload 4, 2) := by decide +kernel
theorem dX5_store_96 : decode cX5_store 96 = .ok (.aload_n 0, 1) := by decide +kernel
theorem dX5_store_97 : decode cX5_store 97 = .ok (.getfield 13, 3) := by decide +kernel
theorem dX5_store_100 : decode cX5_store 100 = .ok (.iload_n 2, 1) := by decide +kernel
theorem dX5_store_101 : decode cX5_store 101 = .ok (.laload, 1) := by decide +kernel
theorem dX5_store_102 : decode cX5_store 102 = .ok (.l2i, 1) := by decide +kernel
theorem dX5_store_103 : decode cX5_store 103 = .ok (.aload_n 0, 1) := by decide +kernel
theorem dX5_store_104 : decode cX5_store 104 = .ok (.getfield 13, 3) := by decide +kernel
theorem dX5_store_107 : decode cX5_store 107 = .ok (.iload_n 3, 1) := by decide +kernel
theorem dX5_store_108 : decode cX5_store 108 = .ok (.laload, 1) := by decide +kernel
theorem dX5_store_109 : decode cX5_store 109 = .ok (.aload_n 0, 1) := by decide +kernel
theorem dX5_store_110 : decode cX5_store 110 = .ok (.getfield 17, 3) := by decide +kernel
theorem dX5_store_113 : decode cX5_store 113 = .ok (.iload_n 3, 1) := by decide +kernel
theorem dX5_store_114 : decode cX5_store 114 = .ok (.iaload, 1) := by decide +kernel
theorem dX5_store_115 : decode cX5_store 115 = .ok (.invokevirtual 131, 3) := by decide +kernel
theorem dX5_store_118 : decode cX5_store 118 = .ok (.aload_n 0, 1) := by decide +kernel
theorem dX5_store_119 : decode cX5_store 119 = .ok (.iload_n 2, 1) := by decide +kernel
theorem dX5_store_120 : decode cX5_store 120 = .ok (.bipush 42, 2) := by decide +kernel
theorem dX5_store_122 : decode cX5_store 122 = .ok (.invokevirtual 110, 3) := by decide +kernel
theorem dX5_store_125 : decode cX5_store 125 = .ok (.iconst 0, 1) := by decide +kernel
theorem dX5_store_126 : decode cX5_store 126 = .ok (.ireturn, 1) := by decide +kernel
theorem dX5_length_0 : decode cX5_length 0 = .ok (.iload_n 1, 1) := by decide +kernel
theorem dX5_length_1 : decode cX5_length 1 = .ok (.i2l, 1) := by decide +kernel
theorem dX5_length_2 : decode cX5_length 2 = .ok (.bipush 8, 2) := by decide +kernel
theorem dX5_length_4 : decode cX5_length 4 = .ok (.invokestatic 40, 3) := by decide +kernel
theorem dX5_length_7 : decode cX5_length 7 = .ok (.ifCond .eq 12, 3) := by decide +kernel
theorem dX5_length_10 : decode cX5_length 10 = .ok (.iload_n 2, 1) := by decide +kernel
theorem dX5_length_11 : decode cX5_length 11 = .ok (.i2l, 1) := by decide +kernel
theorem dX5_length_12 : decode cX5_length 12 = .ok (.iconst 4, 1) := by decide +kernel
theorem dX5_length_13 : decode cX5_length 13 = .ok (.invokestatic 40, 3) := by decide +kernel
theorem dX5_length_16 : decode cX5_length 16 = .ok (.ifCond .ne 5, 3) := by decide +kernel
theorem dX5_length_19 : decode cX5_length 19 = .ok (.iconst (-1), 1) := by decide +kernel
theorem dX5_length_20 : decode cX5_length 20 = .ok (.ireturn, 1) := by decide +kernel
theorem dX5_length_21 : decode cX5_length 21 = .ok (.aload_n 0, 1) := by decide +kernel
theorem dX5_length_22 : decode cX5_length 22 = .ok (.getfield 22, 3) := by decide +kernel
theorem dX5_length_25 : decode cX5_length 25 = .ok (.iload_n 2, 1) := by decide +kernel
theorem dX5_length_26 : decode cX5_length 26 = .ok (.aaload, 1) := by decide +kernel
theorem dX5_length_27 : decode cX5_length 27 = .ok (.astore_n 3, 1) := by decide +kernel
theorem dX5_length_28 : decode cX5_length 28 = .ok (.aload_n 3, 1) := by decide +kernel
theorem dX5_length_29 : decode cX5_length 29 = .ok (.ifnonnull 10, 3) := by decide +kernel
theorem dX5_length_32 : decode cX5_length 32 = .ok (.aload_n 0, 1) := by decide +kernel
theorem dX5_length_33 : decode cX5_length 33 = .ok (.bipush (-3), 2) := by decide +kernel
theorem dX5_length_35 : decode cX5_length 35 = .ok (.invokevirtual 85, 3) := by decide +kernel
theorem dX5_length_38 : decode cX5_length 38 = .ok (.ireturn, 1) := by decide +kernel
theorem dX5_length_39 : decode cX5_length 39 = .ok (.aload_n 0, 1) := by decide +kernel
theorem dX5_length_40 : decode cX5_length 40 = .ok (.iload_n 1, 1) := by decide +kernel
theorem dX5_length_41 : decode cX5_length 41 = .ok (.iconst 0, 1) := by decide +kernel
theorem dX5_length_42 : decode cX5_length 42 = .ok (.aload_n 3, 1) := by decide +kernel
theorem dX5_length_43 : decode cX5_length 43 = .ok (.getfield 121, 3) := by decide +kernel
theorem dX5_length_46 : decode cX5_length 46 = .ok (.i2l, 1) := by decide +kernel
theorem dX5_length_47 : decode cX5_length 47 = .ok (.bipush 64, 2) := by decide +kernel
theorem dX5_length_49 : decode cX5_length 49 = .ok (.invokevirtual 48, 3) := by decide +kernel
theorem dX5_length_52 : decode cX5_length 52 = .ok (.iconst 0, 1) := by decide +kernel
theorem dX5_length_53 : decode cX5_length 53 = .ok (.ireturn, 1) := by decide +kernel
theorem dX5_copy_0 : decode cX5_copy 0 = .ok (.iload_n 1, 1) := by decide +kernel
theorem dX5_copy_1 : decode cX5_copy 1 = .ok (.i2l, 1) := by decide +kernel
theorem dX5_copy_2 : decode cX5_copy 2 = .ok (.iconst 4, 1) := by decide +kernel
theorem dX5_copy_3 : decode cX5_copy 3 = .ok (.invokestatic 40, 3) := by decide +kernel
theorem dX5_copy_6 : decode cX5_copy 6 = .ok (.ifCond .eq 12, 3) := by decide +kernel
theorem dX5_copy_9 : decode cX5_copy 9 = .ok (.iload_n 3, 1) := by decide +kernel
theorem dX5_copy_10 : decode cX5_copy 10 = .ok (.i2l, 1) := by decide +kernel
theorem dX5_copy_11 : decode cX5_copy 11 = .ok (.iconst 4, 1) := by decide +kernel
theorem dX5_copy_12 : decode cX5_copy 12 = .ok (.invokestatic 40, 3) := by decide +kernel
theorem dX5_copy_15 : decode cX5_copy 15 = .ok (.ifCond .ne 5, 3) := by decide +kernel
theorem dX5_copy_18 : decode cX5_copy 18 = .ok (.iconst (-1), 1) := by decide +kernel
theorem dX5_copy_19 : decode cX5_copy 19 = .ok (.ireturn, 1) := by decide +kernel
theorem dX5_copy_20 : decode cX5_copy 20 = .ok (.aload_n 0, 1) := by decide +kernel
theorem dX5_copy_21 : decode cX5_copy 21 = .ok (.getfield 22, 3) := by decide +kernel
theorem dX5_copy_24 : decode cX5_copy 24 = .ok (.iload_n 1, 1) := by decide +kernel
theorem dX5_copy_25 : decode cX5_copy 25 = .ok (.aaload, 1) := by decide +kernel
theorem dX5_copy_26 : decode cX5_copy 26 = .ok (.astore 6, 2) := by decide +kernel
theorem dX5_copy_28 : decode cX5_copy 28 = .ok (.aload_n 0, 1) := by decide +kernel
theorem dX5_copy_29 : decode cX5_copy 29 = .ok (.getfield 22, 3) := by decide +kernel
theorem dX5_copy_32 : decode cX5_copy 32 = .ok (.iload_n 3, 1) := by decide +kernel
theorem dX5_copy_33 : decode cX5_copy 33 = .ok (.aaload, 1) := by decide +kernel
theorem dX5_copy_34 : decode cX5_copy 34 = .ok (.astore 7, 2) := by decide +kernel
theorem dX5_copy_36 : decode cX5_copy 36 = .ok (.aload 6, 2) := by decide +kernel
theorem dX5_copy_38 : decode cX5_copy 38 = .ok (.ifnull 8, 3) := by decide +kernel
theorem dX5_copy_41 : decode cX5_copy 41 = .ok (.aload 7, 2) := by decide +kernel
theorem dX5_copy_43 : decode cX5_copy 43 = .ok (.ifnonnull 10, 3) := by decide +kernel
theorem dX5_copy_46 : decode cX5_copy 46 = .ok (.aload_n 0, 1) := by decide +kernel
theorem dX5_copy_47 : decode cX5_copy 47 = .ok (.bipush (-3), 2) := by decide +kernel
theorem dX5_copy_49 : decode cX5_copy 49 = .ok (.invokevirtual 85, 3) := by decide +kernel
theorem dX5_copy_52 : decode cX5_copy 52 = .ok (.ireturn, 1) := by decide +kernel
theorem dX5_copy_53 : decode cX5_copy 53 = .ok (.aload 6, 2) := by decide +kernel
theorem dX5_copy_55 : decode cX5_copy 55 = .ok (.getfield 135, 3) := by decide +kernel
theorem dX5_copy_58 : decode cX5_copy 58 = .ok (.aload 7, 2) := by decide +kernel
theorem dX5_copy_60 : decode cX5_copy 60 = .ok (.getfield 135, 3) := by decide +kernel
theorem dX5_copy_63 : decode cX5_copy 63 = .ok (.if_icmp .eq 10, 3) := by decide +kernel
theorem dX5_copy_66 : decode cX5_copy 66 = .ok (.aload_n 0, 1) := by decide +kernel
theorem dX5_copy_67 : decode cX5_copy 67 = .ok (.bipush (-6), 2) := by decide +kernel
theorem dX5_copy_69 : decode cX5_copy 69 = .ok (.invokevirtual 85, 3) := by decide +kernel
theorem dX5_copy_72 : decode cX5_copy 72 = .ok (.ireturn, 1) := by decide +kernel
theorem dX5_copy_73 : decode cX5_copy 73 = .ok (.aload 6, 2) := by decide +kernel
theorem dX5_copy_75 : decode cX5_copy 75 = .ok (.iload_n 2, 1) := by decide +kernel
theorem dX5_copy_76 : decode cX5_copy 76 = .ok (.iload 5, 2) := by decide +kernel
theorem dX5_copy_78 : decode cX5_copy 78 = .ok (.invokevirtual 138, 3) := by decide +kernel
theorem dX5_copy_81 : decode cX5_copy 81 = .ok (.ifCond .eq 15, 3) := by decide +kernel
theorem dX5_copy_84 : decode cX5_copy 84 = .ok (.aload 7, 2) := by decide +kernel
theorem dX5_copy_86 : decode cX5_copy 86 = .ok (.iload 4, 2) := by decide +kernel
theorem dX5_copy_88 : decode cX5_copy 88 = .ok (.iload 5, 2) := by decide +kernel
theorem dX5_copy_90 : decode cX5_copy 90 = .ok (.invokevirtual 138, 3) := by decide +kernel
theorem dX5_copy_93 : decode cX5_copy 93 = .ok (.ifCond .ne 10, 3) := by decide +kernel
theorem dX5_copy_96 : decode cX5_copy 96 = .ok (.aload_n 0, 1) := by decide +kernel
theorem dX5_copy_97 : decode cX5_copy 97 = .ok (.bipush (-4), 2) := by decide +kernel
theorem dX5_copy_99 : decode cX5_copy 99 = .ok (.invokevirtual 85, 3) := by decide +kernel
theorem dX5_copy_102 : decode cX5_copy 102 = .ok (.ireturn, 1) := by decide +kernel
theorem dX5_copy_103 : decode cX5_copy 103 = .ok (.aload 6, 2) := by decide +kernel
theorem dX5_copy_105 : decode cX5_copy 105 = .ok (.getfield 129, 3) := by decide +kernel
theorem dX5_copy_108 : decode cX5_copy 108 = .ok (.iload_n 2, 1) := by decide +kernel
theorem dX5_copy_109 : decode cX5_copy 109 = .ok (.aload 7, 2) := by decide +kernel
theorem dX5_copy_111 : decode cX5_copy 111 = .ok (.getfield 129, 3) := by decide +kernel
theorem dX5_copy_114 : decode cX5_copy 114 = .ok (.iload 4, 2) := by decide +kernel
theorem dX5_copy_116 : decode cX5_copy 116 = .ok (.iload 5, 2) := by decide +kernel
theorem dX5_copy_118 : decode cX5_copy 118 = .ok (.invokestatic 141, 3) := by decide +kernel
theorem dX5_copy_121 : decode cX5_copy 121 = .ok (.aload 6, 2) := by decide +kernel
theorem dX5_copy_123 : decode cX5_copy 123 = .ok (.getfield 130, 3) := by decide +kernel
theorem dX5_copy_126 : decode cX5_copy 126 = .ok (.iload_n 2, 1) := by decide +kernel
theorem dX5_copy_127 : decode cX5_copy 127 = .ok (.aload 7, 2) := by decide +kernel
theorem dX5_copy_129 : decode cX5_copy 129 = .ok (.getfield 130, 3) := by decide +kernel
theorem dX5_copy_132 : decode cX5_copy 132 = .ok (.iload 4, 2) := by decide +kernel
theorem dX5_copy_134 : decode cX5_copy 134 = .ok (.iload 5, 2) := by decide +kernel
theorem dX5_copy_136 : decode cX5_copy 136 = .ok (.invokestatic 141, 3) := by decide +kernel
theorem dX5_copy_139 : decode cX5_copy 139 = .ok (.iconst 0, 1) := by decide +kernel
theorem dX5_copy_140 : decode cX5_copy 140 = .ok (.ireturn, 1) := by decide +kernel
theorem dX5_branch_0 : decode cX5_branch 0 = .ok (.iload_n 1, 1) := by decide +kernel
theorem dX5_branch_1 : decode cX5_branch 1 = .ok (.i2l, 1) := by decide +kernel
theorem dX5_branch_2 : decode cX5_branch 2 = .ok (.bipush 6, 2) := by decide +kernel
theorem dX5_branch_4 : decode cX5_branch 4 = .ok (.invokestatic 40, 3) := by decide +kernel
theorem dX5_branch_7 : decode cX5_branch 7 = .ok (.ifCond .eq 19, 3) := by decide +kernel
theorem dX5_branch_10 : decode cX5_branch 10 = .ok (.aload_n 0, 1) := by decide +kernel
theorem dX5_branch_11 : decode cX5_branch 11 = .ok (.iload_n 2, 1) := by decide +kernel
theorem dX5_branch_12 : decode cX5_branch 12 = .ok (.invokevirtual 105, 3) := by decide +kernel
theorem dX5_branch_15 : decode cX5_branch 15 = .ok (.ifCond .eq 11, 3) := by decide +kernel
theorem dX5_branch_18 : decode cX5_branch 18 = .ok (.aload_n 0, 1) := by decide +kernel
theorem dX5_branch_19 : decode cX5_branch 19 = .ok (.iload_n 3, 1) := by decide +kernel
theorem dX5_branch_20 : decode cX5_branch 20 = .ok (.invokevirtual 105, 3) := by decide +kernel
theorem dX5_branch_23 : decode cX5_branch 23 = .ok (.ifCond .ne 5, 3) := by decide +kernel
theorem dX5_branch_26 : decode cX5_branch 26 = .ok (.iconst (-1), 1) := by decide +kernel
theorem dX5_branch_27 : decode cX5_branch 27 = .ok (.ireturn, 1) := by decide +kernel
theorem dX5_branch_28 : decode cX5_branch 28 = .ok (.iload_n 1, 1) := by decide +kernel
theorem dX5_branch_29 : decode cX5_branch 29 = .ok (.aload_n 0, 1) := by decide +kernel
theorem dX5_branch_30 : decode cX5_branch 30 = .ok (.getfield 13, 3) := by decide +kernel
theorem dX5_branch_33 : decode cX5_branch 33 = .ok (.iload_n 2, 1) := by decide +kernel
theorem dX5_branch_34 : decode cX5_branch 34 = .ok (.laload, 1) := by decide +kernel
theorem dX5_branch_35 : decode cX5_branch 35 = .ok (.aload_n 0, 1) := by decide +kernel
theorem dX5_branch_36 : decode cX5_branch 36 = .ok (.getfield 13, 3) := by decide +kernel
theorem dX5_branch_39 : decode cX5_branch 39 = .ok (.iload_n 3, 1) := by decide +kernel
theorem dX5_branch_40 : decode cX5_branch 40 = .ok (.laload, 1) := by decide +kernel
theorem dX5_branch_41 : decode cX5_branch 41 = .ok (.invokestatic 147, 3) := by decide +kernel
theorem dX5_branch_44 : decode cX5_branch 44 = .ok (.ifCond .eq 7, 3) := by decide +kernel
theorem dX5_branch_47 : decode cX5_branch 47 = .ok (.iconst 1, 1) := by decide +kernel
theorem dX5_branch_48 : decode cX5_branch 48 = .ok (.goto 4, 3) := by decide +kernel
theorem dX5_branch_51 : decode cX5_branch 51 = .ok (.iconst 0, 1) := by decide +kernel
theorem dX5_branch_52 : decode cX5_branch 52 = .ok (.istore 4, 2) := by decide +kernel
theorem dX5_branch_54 : decode cX5_branch 54 = .ok (.aload_n 0, 1) := by decide +kernel
theorem dX5_branch_55 : decode cX5_branch 55 = .ok (.getfield 17, 3) := by decide +kernel
theorem dX5_branch_58 : decode cX5_branch 58 = .ok (.iload_n 2, 1) := by decide +kernel
theorem dX5_branch_59 : decode cX5_branch 59 = .ok (.iaload, 1) := by decide +kernel
theorem dX5_branch_60 : decode cX5_branch 60 = .ok (.aload_n 0, 1) := by decide +kernel
theorem dX5_branch_61 : decode cX5_branch 61 = .ok (.getfield 17, 3) := by decide +kernel
theorem dX5_branch_64 : decode cX5_branch 64 = .ok (.iload_n 3, 1) := by decide +kernel
theorem dX5_branch_65 : decode cX5_branch 65 = .ok (.iaload, 1) := by decide +kernel
theorem dX5_branch_66 : decode cX5_branch 66 = .ok (.invokestatic 151, 3) := by decide +kernel
theorem dX5_branch_69 : decode cX5_branch 69 = .ok (.istore 5, 2) := by decide +kernel
theorem dX5_branch_71 : decode cX5_branch 71 = .ok (.iload 5, 2) := by decide +kernel
theorem dX5_branch_73 : decode cX5_branch 73 = .ok (.bipush 63, 2) := by decide +kernel
theorem dX5_branch_75 : decode cX5_branch 75 = .ok (.iand, 1) := by decide +kernel
theorem dX5_branch_76 : decode cX5_branch 76 = .ok (.ifCond .eq 30, 3) := by decide +kernel
theorem dX5_branch_79 : decode cX5_branch 79 = .ok (.aload_n 0, 1) := by decide +kernel
theorem dX5_branch_80 : decode cX5_branch 80 = .ok (.getfield 36, 3) := by decide +kernel
theorem dX5_branch_83 : decode cX5_branch 83 = .ok (.iload 4, 2) := by decide +kernel
theorem dX5_branch_85 : decode cX5_branch 85 = .ok (.iload 5, 2) := by decide +kernel
theorem dX5_branch_87 : decode cX5_branch 87 = .ok (.bipush 63, 2) := by decide +kernel
theorem dX5_branch_89 : decode cX5_branch 89 = .ok (.iand, 1) := by decide +kernel
theorem dX5_branch_90 : decode cX5_branch 90 = .ok (.iload 5, 2) := by decide +kernel
theorem dX5_branch_92 : decode cX5_branch 92 = .ok (.bipush 64, 2) := by decide +kernel
theorem dX5_branch_94 : decode cX5_branch 94 = .ok (.iand, 1) := by decide +kernel
theorem dX5_branch_95 : decode cX5_branch 95 = .ok (.ifCond .eq 7, 3) := by decide +kernel
theorem dX5_branch_98 : decode cX5_branch 98 = .ok (.iconst 1, 1) := by decide +kernel
theorem dX5_branch_99 : decode cX5_branch 99 = .ok (.goto 4, 3) := by decide +kernel
theorem dX5_branch_102 : decode cX5_branch 102 = .ok (.iconst 0, 1) := by decide +kernel
theorem dX5_branch_103 : decode cX5_branch 103 = .ok (.invokevirtual 154, 3) := by decide +kernel
theorem dX5_branch_106 : decode cX5_branch 106 = .ok (.iload 4, 2) := by decide +kernel
theorem dX5_branch_108 : decode cX5_branch 108 = .ok (.ireturn, 1) := by decide +kernel
theorem dX5_kind_0 : decode cX5_kind 0 = .ok (.iload_n 1, 1) := by decide +kernel
theorem dX5_kind_1 : decode cX5_kind 1 = .ok (.i2l, 1) := by decide +kernel
theorem dX5_kind_2 : decode cX5_kind 2 = .ok (.bipush 8, 2) := by decide +kernel
theorem dX5_kind_4 : decode cX5_kind 4 = .ok (.invokestatic 40, 3) := by decide +kernel
theorem dX5_kind_7 : decode cX5_kind 7 = .ok (.ifCond .eq 12, 3) := by decide +kernel
theorem dX5_kind_10 : decode cX5_kind 10 = .ok (.aload_n 0, 1) := by decide +kernel
theorem dX5_kind_11 : decode cX5_kind 11 = .ok (.getfield 9, 3) := by decide +kernel
theorem dX5_kind_14 : decode cX5_kind 14 = .ok (.iload_n 1, 1) := by decide +kernel
theorem dX5_kind_15 : decode cX5_kind 15 = .ok (.iaload, 1) := by decide +kernel
theorem dX5_kind_16 : decode cX5_kind 16 = .ok (.goto 4, 3) := by decide +kernel
theorem dX5_kind_19 : decode cX5_kind 19 = .ok (.iconst (-1), 1) := by decide +kernel
theorem dX5_kind_20 : decode cX5_kind 20 = .ok (.ireturn, 1) := by decide +kernel
theorem dX5_bits_0 : decode cX5_bits 0 = .ok (.iload_n 1, 1) := by decide +kernel
theorem dX5_bits_1 : decode cX5_bits 1 = .ok (.i2l, 1) := by decide +kernel
theorem dX5_bits_2 : decode cX5_bits 2 = .ok (.bipush 8, 2) := by decide +kernel
theorem dX5_bits_4 : decode cX5_bits 4 = .ok (.invokestatic 40, 3) := by decide +kernel
theorem dX5_bits_7 : decode cX5_bits 7 = .ok (.ifCond .eq 12, 3) := by decide +kernel
theorem dX5_bits_10 : decode cX5_bits 10 = .ok (.aload_n 0, 1) := by decide +kernel
theorem dX5_bits_11 : decode cX5_bits 11 = .ok (.getfield 13, 3) := by decide +kernel
theorem dX5_bits_14 : decode cX5_bits 14 = .ok (.iload_n 1, 1) := by decide +kernel
theorem dX5_bits_15 : decode cX5_bits 15 = .ok (.laload, 1) := by decide +kernel
theorem dX5_bits_16 : decode cX5_bits 16 = .ok (.goto 6, 3) := by decide +kernel
theorem dX5_bits_19 : decode cX5_bits 19 = .ok (.ldc2_w 158, 3) := by decide +kernel
theorem dX5_bits_22 : decode cX5_bits 22 = .ok (.lreturn, 1) := by decide +kernel
theorem dX5_shadow_0 : decode cX5_shadow 0 = .ok (.iload_n 1, 1) := by decide +kernel
theorem dX5_shadow_1 : decode cX5_shadow 1 = .ok (.i2l, 1) := by decide +kernel
theorem dX5_shadow_2 : decode cX5_shadow 2 = .ok (.bipush 8, 2) := by decide +kernel
theorem dX5_shadow_4 : decode cX5_shadow 4 = .ok (.invokestatic 40, 3) := by decide +kernel
theorem dX5_shadow_7 : decode cX5_shadow 7 = .ok (.ifCond .eq 12, 3) := by decide +kernel
theorem dX5_shadow_10 : decode cX5_shadow 10 = .ok (.aload_n 0, 1) := by decide +kernel
theorem dX5_shadow_11 : decode cX5_shadow 11 = .ok (.getfield 17, 3) := by decide +kernel
theorem dX5_shadow_14 : decode cX5_shadow 14 = .ok (.iload_n 1, 1) := by decide +kernel
theorem dX5_shadow_15 : decode cX5_shadow 15 = .ok (.iaload, 1) := by decide +kernel
theorem dX5_shadow_16 : decode cX5_shadow 16 = .ok (.goto 4, 3) := by decide +kernel
theorem dX5_shadow_19 : decode cX5_shadow 19 = .ok (.iconst (-1), 1) := by decide +kernel
theorem dX5_shadow_20 : decode cX5_shadow 20 = .ok (.ireturn, 1) := by decide +kernel
theorem dX5_cell_0 : decode cX5_cell 0 = .ok (.iload_n 1, 1) := by decide +kernel
theorem dX5_cell_1 : decode cX5_cell 1 = .ok (.i2l, 1) := by decide +kernel
theorem dX5_cell_2 : decode cX5_cell 2 = .ok (.iconst 4, 1) := by decide +kernel
theorem dX5_cell_3 : decode cX5_cell 3 = .ok (.invokestatic 40, 3) := by decide +kernel
theorem dX5_cell_6 : decode cX5_cell 6 = .ok (.ifCond .eq 12, 3) := by decide +kernel
theorem dX5_cell_9 : decode cX5_cell 9 = .ok (.aload_n 0, 1) := by decide +kernel
theorem dX5_cell_10 : decode cX5_cell 10 = .ok (.getfield 22, 3) := by decide +kernel
theorem dX5_cell_13 : decode cX5_cell 13 = .ok (.iload_n 1, 1) := by decide +kernel
theorem dX5_cell_14 : decode cX5_cell 14 = .ok (.aaload, 1) := by decide +kernel
theorem dX5_cell_15 : decode cX5_cell 15 = .ok (.ifnonnull 7, 3) := by decide +kernel
theorem dX5_cell_18 : decode cX5_cell 18 = .ok (.ldc2_w 158, 3) := by decide +kernel
theorem dX5_cell_21 : decode cX5_cell 21 = .ok (.lreturn, 1) := by decide +kernel
theorem dX5_cell_22 : decode cX5_cell 22 = .ok (.aload_n 0, 1) := by decide +kernel
theorem dX5_cell_23 : decode cX5_cell 23 = .ok (.getfield 22, 3) := by decide +kernel
theorem dX5_cell_26 : decode cX5_cell 26 = .ok (.iload_n 1, 1) := by decide +kernel
theorem dX5_cell_27 : decode cX5_cell 27 = .ok (.aaload, 1) := by decide +kernel
theorem dX5_cell_28 : decode cX5_cell 28 = .ok (.astore 4, 2) := by decide +kernel
theorem dX5_cell_30 : decode cX5_cell 30 = .ok (.iload_n 3, 1) := by decide +kernel
theorem dX5_cell_31 : decode cX5_cell 31 = .ok (.iconst 2, 1) := by decide +kernel
theorem dX5_cell_32 : decode cX5_cell 32 = .ok (.if_icmp .ne 10, 3) := by decide +kernel
theorem dX5_cell_35 : decode cX5_cell 35 = .ok (.aload 4, 2) := by decide +kernel
theorem dX5_cell_37 : decode cX5_cell 37 = .ok (.getfield 135, 3) := by decide +kernel
theorem dX5_cell_40 : decode cX5_cell 40 = .ok (.i2l, 1) := by decide +kernel
theorem dX5_cell_41 : decode cX5_cell 41 = .ok (.lreturn, 1) := by decide +kernel
theorem dX5_cell_42 : decode cX5_cell 42 = .ok (.iload_n 2, 1) := by decide +kernel
theorem dX5_cell_43 : decode cX5_cell 43 = .ok (.i2l, 1) := by decide +kernel
theorem dX5_cell_44 : decode cX5_cell 44 = .ok (.aload 4, 2) := by decide +kernel
theorem dX5_cell_46 : decode cX5_cell 46 = .ok (.getfield 121, 3) := by decide +kernel
theorem dX5_cell_49 : decode cX5_cell 49 = .ok (.invokestatic 40, 3) := by decide +kernel
theorem dX5_cell_52 : decode cX5_cell 52 = .ok (.ifCond .eq 12, 3) := by decide +kernel
theorem dX5_cell_55 : decode cX5_cell 55 = .ok (.iload_n 3, 1) := by decide +kernel
theorem dX5_cell_56 : decode cX5_cell 56 = .ok (.i2l, 1) := by decide +kernel
theorem dX5_cell_57 : decode cX5_cell 57 = .ok (.iconst 2, 1) := by decide +kernel
theorem dX5_cell_58 : decode cX5_cell 58 = .ok (.invokestatic 40, 3) := by decide +kernel
theorem dX5_cell_61 : decode cX5_cell 61 = .ok (.ifCond .ne 7, 3) := by decide +kernel
theorem dX5_cell_64 : decode cX5_cell 64 = .ok (.ldc2_w 158, 3) := by decide +kernel
theorem dX5_cell_67 : decode cX5_cell 67 = .ok (.lreturn, 1) := by decide +kernel
theorem dX5_cell_68 : decode cX5_cell 68 = .ok (.iload_n 3, 1) := by decide +kernel
theorem dX5_cell_69 : decode cX5_cell 69 = .ok (.ifCond .ne 13, 3) := by decide +kernel
theorem dX5_cell_72 : decode cX5_cell 72 = .ok (.aload 4, 2) := by decide +kernel
theorem dX5_cell_74 : decode cX5_cell 74 = .ok (.getfield 129, 3) := by decide +kernel
theorem dX5_cell_77 : decode cX5_cell 77 = .ok (.iload_n 2, 1) := by decide +kernel
theorem dX5_cell_78 : decode cX5_cell 78 = .ok (.laload, 1) := by decide +kernel
theorem dX5_cell_79 : decode cX5_cell 79 = .ok (.goto 11, 3) := by decide +kernel
theorem dX5_cell_82 : decode cX5_cell 82 = .ok (.aload 4, 2) := by decide +kernel
theorem dX5_cell_84 : decode cX5_cell 84 = .ok (.getfield 130, 3) := by decide +kernel
theorem dX5_cell_87 : decode cX5_cell 87 = .ok (.iload_n 2, 1) := by decide +kernel
theorem dX5_cell_88 : decode cX5_cell 88 = .ok (.iaload, 1) := by decide +kernel
theorem dX5_cell_89 : decode cX5_cell 89 = .ok (.i2l, 1) := by decide +kernel
theorem dX5_cell_90 : decode cX5_cell 90 = .ok (.lreturn, 1) := by decide +kernel
theorem dX5_pin_0 : decode cX5_pin 0 = .ok (.iload_n 2, 1) := by decide +kernel
theorem dX5_pin_1 : decode cX5_pin 1 = .ok (.i2l, 1) := by decide +kernel
theorem dX5_pin_2 : decode cX5_pin 2 = .ok (.iconst 2, 1) := by decide +kernel
theorem dX5_pin_3 : decode cX5_pin 3 = .ok (.invokestatic 40, 3) := by decide +kernel
theorem dX5_pin_6 : decode cX5_pin 6 = .ok (.ifCond .eq 15, 3) := by decide +kernel
theorem dX5_pin_9 : decode cX5_pin 9 = .ok (.aload_n 0, 1) := by decide +kernel
theorem dX5_pin_10 : decode cX5_pin 10 = .ok (.getfield 32, 3) := by decide +kernel
theorem dX5_pin_13 : decode cX5_pin 13 = .ok (.iload_n 1, 1) := by decide +kernel
theorem dX5_pin_14 : decode cX5_pin 14 = .ok (.iload_n 2, 1) := by decide +kernel
theorem dX5_pin_15 : decode cX5_pin 15 = .ok (.invokevirtual 160, 3) := by decide +kernel
theorem dX5_pin_18 : decode cX5_pin 18 = .ok (.goto 6, 3) := by decide +kernel
theorem dX5_pin_21 : decode cX5_pin 21 = .ok (.ldc2_w 158, 3) := by decide +kernel
theorem dX5_pin_24 : decode cX5_pin 24 = .ok (.lreturn, 1) := by decide +kernel
theorem dX5_way_0 : decode cX5_way 0 = .ok (.iload_n 2, 1) := by decide +kernel
theorem dX5_way_1 : decode cX5_way 1 = .ok (.i2l, 1) := by decide +kernel
theorem dX5_way_2 : decode cX5_way 2 = .ok (.iconst 3, 1) := by decide +kernel
theorem dX5_way_3 : decode cX5_way 3 = .ok (.invokestatic 40, 3) := by decide +kernel
theorem dX5_way_6 : decode cX5_way 6 = .ok (.ifCond .eq 15, 3) := by decide +kernel
theorem dX5_way_9 : decode cX5_way 9 = .ok (.aload_n 0, 1) := by decide +kernel
theorem dX5_way_10 : decode cX5_way 10 = .ok (.getfield 36, 3) := by decide +kernel
theorem dX5_way_13 : decode cX5_way 13 = .ok (.iload_n 1, 1) := by decide +kernel
theorem dX5_way_14 : decode cX5_way 14 = .ok (.iload_n 2, 1) := by decide +kernel
theorem dX5_way_15 : decode cX5_way 15 = .ok (.invokevirtual 160, 3) := by decide +kernel
theorem dX5_way_18 : decode cX5_way 18 = .ok (.goto 6, 3) := by decide +kernel
theorem dX5_way_21 : decode cX5_way 21 = .ok (.ldc2_w 158, 3) := by decide +kernel
theorem dX5_way_24 : decode cX5_way 24 = .ok (.lreturn, 1) := by decide +kernel
theorem dX5_count_0 : decode cX5_count 0 = .ok (.iload_n 1, 1) := by decide +kernel
theorem dX5_count_1 : decode cX5_count 1 = .ok (.tableswitch 57 0 3 #[31, 39, 47, 52], 31) := by decide +kernel
theorem dX5_count_32 : decode cX5_count 32 = .ok (.aload_n 0, 1) := by decide +kernel
theorem dX5_count_33 : decode cX5_count 33 = .ok (.getfield 32, 3) := by decide +kernel
theorem dX5_count_36 : decode cX5_count 36 = .ok (.getfield 164, 3) := by decide +kernel
theorem dX5_count_39 : decode cX5_count 39 = .ok (.ireturn, 1) := by decide +kernel
theorem dX5_count_40 : decode cX5_count 40 = .ok (.aload_n 0, 1) := by decide +kernel
theorem dX5_count_41 : decode cX5_count 41 = .ok (.getfield 36, 3) := by decide +kernel
theorem dX5_count_44 : decode cX5_count 44 = .ok (.getfield 164, 3) := by decide +kernel
theorem dX5_count_47 : decode cX5_count 47 = .ok (.ireturn, 1) := by decide +kernel
theorem dX5_count_48 : decode cX5_count 48 = .ok (.aload_n 0, 1) := by decide +kernel
theorem dX5_count_49 : decode cX5_count 49 = .ok (.getfield 167, 3) := by decide +kernel
theorem dX5_count_52 : decode cX5_count 52 = .ok (.ireturn, 1) := by decide +kernel
theorem dX5_count_53 : decode cX5_count 53 = .ok (.aload_n 0, 1) := by decide +kernel
theorem dX5_count_54 : decode cX5_count 54 = .ok (.invokevirtual 170, 3) := by decide +kernel
theorem dX5_count_57 : decode cX5_count 57 = .ok (.ireturn, 1) := by decide +kernel
theorem dX5_count_58 : decode cX5_count 58 = .ok (.iconst (-1), 1) := by decide +kernel
theorem dX5_count_59 : decode cX5_count 59 = .ok (.ireturn, 1) := by decide +kernel
theorem dX5_isBelow_0 : decode cX5_isBelow 0 = .ok (.lload_n 0, 1) := by decide +kernel
theorem dX5_isBelow_1 : decode cX5_isBelow 1 = .ok (.lconst 0, 1) := by decide +kernel
theorem dX5_isBelow_2 : decode cX5_isBelow 2 = .ok (.lcmp, 1) := by decide +kernel
theorem dX5_isBelow_3 : decode cX5_isBelow 3 = .ok (.ifCond .lt 14, 3) := by decide +kernel
theorem dX5_isBelow_6 : decode cX5_isBelow 6 = .ok (.lload_n 0, 1) := by decide +kernel
theorem dX5_isBelow_7 : decode cX5_isBelow 7 = .ok (.iload_n 2, 1) := by decide +kernel
theorem dX5_isBelow_8 : decode cX5_isBelow 8 = .ok (.i2l, 1) := by decide +kernel
theorem dX5_isBelow_9 : decode cX5_isBelow 9 = .ok (.lcmp, 1) := by decide +kernel
theorem dX5_isBelow_10 : decode cX5_isBelow 10 = .ok (.ifCond .ge 7, 3) := by decide +kernel
theorem dX5_isBelow_13 : decode cX5_isBelow 13 = .ok (.iconst 1, 1) := by decide +kernel
theorem dX5_isBelow_14 : decode cX5_isBelow 14 = .ok (.goto 4, 3) := by decide +kernel
theorem dX5_isBelow_17 : decode cX5_isBelow 17 = .ok (.iconst 0, 1) := by decide +kernel
theorem dX5_isBelow_18 : decode cX5_isBelow 18 = .ok (.ireturn, 1) := by decide +kernel
theorem dX5_isFloating_0 : decode cX5_isFloating 0 = .ok (.iload_n 0, 1) := by decide +kernel
theorem dX5_isFloating_1 : decode cX5_isFloating 1 = .ok (.iconst 2, 1) := by decide +kernel
theorem dX5_isFloating_2 : decode cX5_isFloating 2 = .ok (.if_icmp .eq 8, 3) := by decide +kernel
theorem dX5_isFloating_5 : decode cX5_isFloating 5 = .ok (.iload_n 0, 1) := by decide +kernel
theorem dX5_isFloating_6 : decode cX5_isFloating 6 = .ok (.iconst 3, 1) := by decide +kernel
theorem dX5_isFloating_7 : decode cX5_isFloating 7 = .ok (.if_icmp .ne 7, 3) := by decide +kernel
theorem dX5_isFloating_10 : decode cX5_isFloating 10 = .ok (.iconst 1, 1) := by decide +kernel
theorem dX5_isFloating_11 : decode cX5_isFloating 11 = .ok (.goto 4, 3) := by decide +kernel
theorem dX5_isFloating_14 : decode cX5_isFloating 14 = .ok (.iconst 0, 1) := by decide +kernel
theorem dX5_isFloating_15 : decode cX5_isFloating 15 = .ok (.ireturn, 1) := by decide +kernel
theorem dX5_formatOf_0 : decode cX5_formatOf 0 = .ok (.iload_n 0, 1) := by decide +kernel
theorem dX5_formatOf_1 : decode cX5_formatOf 1 = .ok (.iconst 2, 1) := by decide +kernel
theorem dX5_formatOf_2 : decode cX5_formatOf 2 = .ok (.if_icmp .ne 9, 3) := by decide +kernel
theorem dX5_formatOf_5 : decode cX5_formatOf 5 = .ok (.getstatic 173, 3) := by decide +kernel
theorem dX5_formatOf_8 : decode cX5_formatOf 8 = .ok (.goto 6, 3) := by decide +kernel
theorem dX5_formatOf_11 : decode cX5_formatOf 11 = .ok (.getstatic 179, 3) := by decide +kernel
theorem dX5_formatOf_14 : decode cX5_formatOf 14 = .ok (.areturn, 1) := by decide +kernel
theorem dX5_held_0 : decode cX5_held 0 = .ok (.iload_n 0, 1) := by decide +kernel
theorem dX5_held_1 : decode cX5_held 1 = .ok (.ifCond .ne 7, 3) := by decide +kernel
theorem dX5_held_4 : decode cX5_held 4 = .ok (.lload_n 1, 1) := by decide +kernel
theorem dX5_held_5 : decode cX5_held 5 = .ok (.l2i, 1) := by decide +kernel
theorem dX5_held_6 : decode cX5_held 6 = .ok (.i2l, 1) := by decide +kernel
theorem dX5_held_7 : decode cX5_held 7 = .ok (.lreturn, 1) := by decide +kernel
theorem dX5_held_8 : decode cX5_held 8 = .ok (.iload_n 0, 1) := by decide +kernel
theorem dX5_held_9 : decode cX5_held 9 = .ok (.iconst 2, 1) := by decide +kernel
theorem dX5_held_10 : decode cX5_held 10 = .ok (.if_icmp .ne 13, 3) := by decide +kernel
theorem dX5_held_13 : decode cX5_held 13 = .ok (.getstatic 173, 3) := by decide +kernel
theorem dX5_held_16 : decode cX5_held 16 = .ok (.lload_n 1, 1) := by decide +kernel
theorem dX5_held_17 : decode cX5_held 17 = .ok (.l2i, 1) := by decide +kernel
theorem dX5_held_18 : decode cX5_held 18 = .ok (.i2l, 1) := by decide +kernel
theorem dX5_held_19 : decode cX5_held 19 = .ok (.invokevirtual 182, 3) := by decide +kernel
theorem dX5_held_22 : decode cX5_held 22 = .ok (.lreturn, 1) := by decide +kernel
theorem dX5_held_23 : decode cX5_held 23 = .ok (.iload_n 0, 1) := by decide +kernel
theorem dX5_held_24 : decode cX5_held 24 = .ok (.iconst 3, 1) := by decide +kernel
theorem dX5_held_25 : decode cX5_held 25 = .ok (.if_icmp .ne 13, 3) := by decide +kernel
theorem dX5_held_28 : decode cX5_held 28 = .ok (.getstatic 179, 3) := by decide +kernel
theorem dX5_held_31 : decode cX5_held 31 = .ok (.lload_n 1, 1) := by decide +kernel
theorem dX5_held_32 : decode cX5_held 32 = .ok (.invokevirtual 182, 3) := by decide +kernel
theorem dX5_held_35 : decode cX5_held 35 = .ok (.goto 4, 3) := by decide +kernel
theorem dX5_held_38 : decode cX5_held 38 = .ok (.lload_n 1, 1) := by decide +kernel
theorem dX5_held_39 : decode cX5_held 39 = .ok (.lreturn, 1) := by decide +kernel
theorem dX5_joined_0 : decode cX5_joined 0 = .ok (.iload_n 0, 1) := by decide +kernel
theorem dX5_joined_1 : decode cX5_joined 1 = .ok (.iload_n 1, 1) := by decide +kernel
theorem dX5_joined_2 : decode cX5_joined 2 = .ok (.ior, 1) := by decide +kernel
theorem dX5_joined_3 : decode cX5_joined 3 = .ok (.bipush 63, 2) := by decide +kernel
theorem dX5_joined_5 : decode cX5_joined 5 = .ok (.iand, 1) := by decide +kernel
theorem dX5_joined_6 : decode cX5_joined 6 = .ok (.iload_n 0, 1) := by decide +kernel
theorem dX5_joined_7 : decode cX5_joined 7 = .ok (.iload_n 1, 1) := by decide +kernel
theorem dX5_joined_8 : decode cX5_joined 8 = .ok (.iand, 1) := by decide +kernel
theorem dX5_joined_9 : decode cX5_joined 9 = .ok (.bipush 64, 2) := by decide +kernel
theorem dX5_joined_11 : decode cX5_joined 11 = .ok (.iand, 1) := by decide +kernel
theorem dX5_joined_12 : decode cX5_joined 12 = .ok (.ior, 1) := by decide +kernel
theorem dX5_joined_13 : decode cX5_joined 13 = .ok (.ireturn, 1) := by decide +kernel
theorem dX5_inexact_0 : decode cX5_inexact 0 = .ok (.iload_n 0, 1) := by decide +kernel
theorem dX5_inexact_1 : decode cX5_inexact 1 = .ok (.bipush 63, 2) := by decide +kernel
theorem dX5_inexact_3 : decode cX5_inexact 3 = .ok (.iand, 1) := by decide +kernel
theorem dX5_inexact_4 : decode cX5_inexact 4 = .ok (.istore_n 1, 1) := by decide +kernel
theorem dX5_inexact_5 : decode cX5_inexact 5 = .ok (.iload_n 1, 1) := by decide +kernel
theorem dX5_inexact_6 : decode cX5_inexact 6 = .ok (.ifCond .ne 8, 3) := by decide +kernel
theorem dX5_inexact_9 : decode cX5_inexact 9 = .ok (.bipush 64, 2) := by decide +kernel
theorem dX5_inexact_11 : decode cX5_inexact 11 = .ok (.goto 4, 3) := by decide +kernel
theorem dX5_inexact_14 : decode cX5_inexact 14 = .ok (.iload_n 1, 1) := by decide +kernel
theorem dX5_inexact_15 : decode cX5_inexact 15 = .ok (.ireturn, 1) := by decide +kernel
theorem dX5_isSo_0 : decode cX5_isSo 0 = .ok (.iload_n 0, 1) := by decide +kernel
theorem dX5_isSo_1 : decode cX5_isSo 1 = .ok (.tableswitch 95 0 4 #[35, 47, 59, 71, 83], 35) := by decide +kernel
theorem dX5_isSo_36 : decode cX5_isSo 36 = .ok (.lload_n 1, 1) := by decide +kernel
theorem dX5_isSo_37 : decode cX5_isSo 37 = .ok (.lload_n 3, 1) := by decide +kernel
theorem dX5_isSo_38 : decode cX5_isSo 38 = .ok (.lcmp, 1) := by decide +kernel
theorem dX5_isSo_39 : decode cX5_isSo 39 = .ok (.ifCond .ne 7, 3) := by decide +kernel
theorem dX5_isSo_42 : decode cX5_isSo 42 = .ok (.iconst 1, 1) := by decide +kernel
theorem dX5_isSo_43 : decode cX5_isSo 43 = .ok (.goto 4, 3) := by decide +kernel
theorem dX5_isSo_46 : decode cX5_isSo 46 = .ok (.iconst 0, 1) := by decide +kernel
theorem dX5_isSo_47 : decode cX5_isSo 47 = .ok (.ireturn, 1) := by decide +kernel
theorem dX5_isSo_48 : decode cX5_isSo 48 = .ok (.lload_n 1, 1) := by decide +kernel
theorem dX5_isSo_49 : decode cX5_isSo 49 = .ok (.lload_n 3, 1) := by decide +kernel
theorem dX5_isSo_50 : decode cX5_isSo 50 = .ok (.lcmp, 1) := by decide +kernel
theorem dX5_isSo_51 : decode cX5_isSo 51 = .ok (.ifCond .eq 7, 3) := by decide +kernel
theorem dX5_isSo_54 : decode cX5_isSo 54 = .ok (.iconst 1, 1) := by decide +kernel
theorem dX5_isSo_55 : decode cX5_isSo 55 = .ok (.goto 4, 3) := by decide +kernel
theorem dX5_isSo_58 : decode cX5_isSo 58 = .ok (.iconst 0, 1) := by decide +kernel
theorem dX5_isSo_59 : decode cX5_isSo 59 = .ok (.ireturn, 1) := by decide +kernel
theorem dX5_isSo_60 : decode cX5_isSo 60 = .ok (.lload_n 1, 1) := by decide +kernel
theorem dX5_isSo_61 : decode cX5_isSo 61 = .ok (.lload_n 3, 1) := by decide +kernel
theorem dX5_isSo_62 : decode cX5_isSo 62 = .ok (.lcmp, 1) := by decide +kernel
theorem dX5_isSo_63 : decode cX5_isSo 63 = .ok (.ifCond .ge 7, 3) := by decide +kernel
theorem dX5_isSo_66 : decode cX5_isSo 66 = .ok (.iconst 1, 1) := by decide +kernel
theorem dX5_isSo_67 : decode cX5_isSo 67 = .ok (.goto 4, 3) := by decide +kernel
theorem dX5_isSo_70 : decode cX5_isSo 70 = .ok (.iconst 0, 1) := by decide +kernel
theorem dX5_isSo_71 : decode cX5_isSo 71 = .ok (.ireturn, 1) := by decide +kernel
theorem dX5_isSo_72 : decode cX5_isSo 72 = .ok (.lload_n 1, 1) := by decide +kernel
theorem dX5_isSo_73 : decode cX5_isSo 73 = .ok (.lload_n 3, 1) := by decide +kernel
theorem dX5_isSo_74 : decode cX5_isSo 74 = .ok (.lcmp, 1) := by decide +kernel
theorem dX5_isSo_75 : decode cX5_isSo 75 = .ok (.ifCond .lt 7, 3) := by decide +kernel
theorem dX5_isSo_78 : decode cX5_isSo 78 = .ok (.iconst 1, 1) := by decide +kernel
theorem dX5_isSo_79 : decode cX5_isSo 79 = .ok (.goto 4, 3) := by decide +kernel
theorem dX5_isSo_82 : decode cX5_isSo 82 = .ok (.iconst 0, 1) := by decide +kernel
theorem dX5_isSo_83 : decode cX5_isSo 83 = .ok (.ireturn, 1) := by decide +kernel
theorem dX5_isSo_84 : decode cX5_isSo 84 = .ok (.lload_n 1, 1) := by decide +kernel
theorem dX5_isSo_85 : decode cX5_isSo 85 = .ok (.lload_n 3, 1) := by decide +kernel
theorem dX5_isSo_86 : decode cX5_isSo 86 = .ok (.lcmp, 1) := by decide +kernel
theorem dX5_isSo_87 : decode cX5_isSo 87 = .ok (.ifCond .le 7, 3) := by decide +kernel
theorem dX5_isSo_90 : decode cX5_isSo 90 = .ok (.iconst 1, 1) := by decide +kernel
theorem dX5_isSo_91 : decode cX5_isSo 91 = .ok (.goto 4, 3) := by decide +kernel
theorem dX5_isSo_94 : decode cX5_isSo 94 = .ok (.iconst 0, 1) := by decide +kernel
theorem dX5_isSo_95 : decode cX5_isSo 95 = .ok (.ireturn, 1) := by decide +kernel
theorem dX5_isSo_96 : decode cX5_isSo 96 = .ok (.lload_n 1, 1) := by decide +kernel
theorem dX5_isSo_97 : decode cX5_isSo 97 = .ok (.lload_n 3, 1) := by decide +kernel
theorem dX5_isSo_98 : decode cX5_isSo 98 = .ok (.lcmp, 1) := by decide +kernel
theorem dX5_isSo_99 : decode cX5_isSo 99 = .ok (.ifCond .gt 7, 3) := by decide +kernel
theorem dX5_isSo_102 : decode cX5_isSo 102 = .ok (.iconst 1, 1) := by decide +kernel
theorem dX5_isSo_103 : decode cX5_isSo 103 = .ok (.goto 4, 3) := by decide +kernel
theorem dX5_isSo_106 : decode cX5_isSo 106 = .ok (.iconst 0, 1) := by decide +kernel
theorem dX5_isSo_107 : decode cX5_isSo 107 = .ok (.ireturn, 1) := by decide +kernel
theorem dX5_isInt_0 : decode cX5_isInt 0 = .ok (.iload_n 1, 1) := by decide +kernel
theorem dX5_isInt_1 : decode cX5_isInt 1 = .ok (.i2l, 1) := by decide +kernel
theorem dX5_isInt_2 : decode cX5_isInt 2 = .ok (.bipush 8, 2) := by decide +kernel
theorem dX5_isInt_4 : decode cX5_isInt 4 = .ok (.invokestatic 40, 3) := by decide +kernel
theorem dX5_isInt_7 : decode cX5_isInt 7 = .ok (.ifCond .eq 16, 3) := by decide +kernel
theorem dX5_isInt_10 : decode cX5_isInt 10 = .ok (.aload_n 0, 1) := by decide +kernel
theorem dX5_isInt_11 : decode cX5_isInt 11 = .ok (.getfield 9, 3) := by decide +kernel
theorem dX5_isInt_14 : decode cX5_isInt 14 = .ok (.iload_n 1, 1) := by decide +kernel
theorem dX5_isInt_15 : decode cX5_isInt 15 = .ok (.iaload, 1) := by decide +kernel
theorem dX5_isInt_16 : decode cX5_isInt 16 = .ok (.ifCond .ne 7, 3) := by decide +kernel
theorem dX5_isInt_19 : decode cX5_isInt 19 = .ok (.iconst 1, 1) := by decide +kernel
theorem dX5_isInt_20 : decode cX5_isInt 20 = .ok (.goto 4, 3) := by decide +kernel
theorem dX5_isInt_23 : decode cX5_isInt 23 = .ok (.iconst 0, 1) := by decide +kernel
theorem dX5_isInt_24 : decode cX5_isInt 24 = .ok (.ireturn, 1) := by decide +kernel
theorem dX5_put_0 : decode cX5_put 0 = .ok (.aload_n 0, 1) := by decide +kernel
theorem dX5_put_1 : decode cX5_put 1 = .ok (.getfield 9, 3) := by decide +kernel
theorem dX5_put_4 : decode cX5_put 4 = .ok (.iload_n 1, 1) := by decide +kernel
theorem dX5_put_5 : decode cX5_put 5 = .ok (.iload_n 2, 1) := by decide +kernel
theorem dX5_put_6 : decode cX5_put 6 = .ok (.iastore, 1) := by decide +kernel
theorem dX5_put_7 : decode cX5_put 7 = .ok (.aload_n 0, 1) := by decide +kernel
theorem dX5_put_8 : decode cX5_put 8 = .ok (.getfield 13, 3) := by decide +kernel
theorem dX5_put_11 : decode cX5_put 11 = .ok (.iload_n 1, 1) := by decide +kernel
theorem dX5_put_12 : decode cX5_put 12 = .ok (.lload_n 3, 1) := by decide +kernel
theorem dX5_put_13 : decode cX5_put 13 = .ok (.lastore, 1) := by decide +kernel
theorem dX5_put_14 : decode cX5_put 14 = .ok (.aload_n 0, 1) := by decide +kernel
theorem dX5_put_15 : decode cX5_put 15 = .ok (.getfield 17, 3) := by decide +kernel
theorem dX5_put_18 : decode cX5_put 18 = .ok (.iload_n 1, 1) := by decide +kernel
theorem dX5_put_19 : decode cX5_put 19 = .ok (.iload 5, 2) := by decide +kernel
theorem dX5_put_21 : decode cX5_put 21 = .ok (.iastore, 1) := by decide +kernel
theorem dX5_put_22 : decode cX5_put 22 = .ok (.return_, 1) := by decide +kernel
theorem dX5_failed_0 : decode cX5_failed 0 = .ok (.aload_n 0, 1) := by decide +kernel
theorem dX5_failed_1 : decode cX5_failed 1 = .ok (.dup, 1) := by decide +kernel
theorem dX5_failed_2 : decode cX5_failed 2 = .ok (.getfield 167, 3) := by decide +kernel
theorem dX5_failed_5 : decode cX5_failed 5 = .ok (.iconst 1, 1) := by decide +kernel
theorem dX5_failed_6 : decode cX5_failed 6 = .ok (.iadd, 1) := by decide +kernel
theorem dX5_failed_7 : decode cX5_failed 7 = .ok (.putfield 167, 3) := by decide +kernel
theorem dX5_failed_10 : decode cX5_failed 10 = .ok (.iload_n 1, 1) := by decide +kernel
theorem dX5_failed_11 : decode cX5_failed 11 = .ok (.ireturn, 1) := by decide +kernel
theorem dX5_giveUp_0 : decode cX5_giveUp 0 = .ok (.aload_n 0, 1) := by decide +kernel
theorem dX5_giveUp_1 : decode cX5_giveUp 1 = .ok (.getfield 17, 3) := by decide +kernel
theorem dX5_giveUp_4 : decode cX5_giveUp 4 = .ok (.iload_n 1, 1) := by decide +kernel
theorem dX5_giveUp_5 : decode cX5_giveUp 5 = .ok (.iaload, 1) := by decide +kernel
theorem dX5_giveUp_6 : decode cX5_giveUp 6 = .ok (.bipush 63, 2) := by decide +kernel
theorem dX5_giveUp_8 : decode cX5_giveUp 8 = .ok (.iand, 1) := by decide +kernel
theorem dX5_giveUp_9 : decode cX5_giveUp 9 = .ok (.istore_n 3, 1) := by decide +kernel
theorem dX5_giveUp_10 : decode cX5_giveUp 10 = .ok (.iload_n 3, 1) := by decide +kernel
theorem dX5_giveUp_11 : decode cX5_giveUp 11 = .ok (.ifCond .eq 21, 3) := by decide +kernel
theorem dX5_giveUp_14 : decode cX5_giveUp 14 = .ok (.aload_n 0, 1) := by decide +kernel
theorem dX5_giveUp_15 : decode cX5_giveUp 15 = .ok (.getfield 32, 3) := by decide +kernel
theorem dX5_giveUp_18 : decode cX5_giveUp 18 = .ok (.iload_n 2, 1) := by decide +kernel
theorem dX5_giveUp_19 : decode cX5_giveUp 19 = .ok (.iload_n 3, 1) := by decide +kernel
theorem dX5_giveUp_20 : decode cX5_giveUp 20 = .ok (.iconst 0, 1) := by decide +kernel
theorem dX5_giveUp_21 : decode cX5_giveUp 21 = .ok (.invokevirtual 154, 3) := by decide +kernel
theorem dX5_giveUp_24 : decode cX5_giveUp 24 = .ok (.aload_n 0, 1) := by decide +kernel
theorem dX5_giveUp_25 : decode cX5_giveUp 25 = .ok (.getfield 17, 3) := by decide +kernel
theorem dX5_giveUp_28 : decode cX5_giveUp 28 = .ok (.iload_n 1, 1) := by decide +kernel
theorem dX5_giveUp_29 : decode cX5_giveUp 29 = .ok (.bipush 64, 2) := by decide +kernel
theorem dX5_giveUp_31 : decode cX5_giveUp 31 = .ok (.iastore, 1) := by decide +kernel
theorem dX5_giveUp_32 : decode cX5_giveUp 32 = .ok (.return_, 1) := by decide +kernel
theorem dX5_shadowOfTwo_0 : decode cX5_shadowOfTwo 0 = .ok (.aload_n 0, 1) := by decide +kernel
theorem dX5_shadowOfTwo_1 : decode cX5_shadowOfTwo 1 = .ok (.getfield 9, 3) := by decide +kernel
theorem dX5_shadowOfTwo_4 : decode cX5_shadowOfTwo 4 = .ok (.iload_n 2, 1) := by decide +kernel
theorem dX5_shadowOfTwo_5 : decode cX5_shadowOfTwo 5 = .ok (.iaload, 1) := by decide +kernel
theorem dX5_shadowOfTwo_6 : decode cX5_shadowOfTwo 6 = .ok (.invokestatic 82, 3) := by decide +kernel
theorem dX5_shadowOfTwo_9 : decode cX5_shadowOfTwo 9 = .ok (.ifCond .eq 25, 3) := by decide +kernel
theorem dX5_shadowOfTwo_12 : decode cX5_shadowOfTwo 12 = .ok (.iload_n 1, 1) := by decide +kernel
theorem dX5_shadowOfTwo_13 : decode cX5_shadowOfTwo 13 = .ok (.invokestatic 186, 3) := by decide +kernel
theorem dX5_shadowOfTwo_16 : decode cX5_shadowOfTwo 16 = .ok (.ifCond .eq 18, 3) := by decide +kernel
theorem dX5_shadowOfTwo_19 : decode cX5_shadowOfTwo 19 = .ok (.aload_n 0, 1) := by decide +kernel
theorem dX5_shadowOfTwo_20 : decode cX5_shadowOfTwo 20 = .ok (.iload_n 2, 1) := by decide +kernel
theorem dX5_shadowOfTwo_21 : decode cX5_shadowOfTwo 21 = .ok (.iload_n 1, 1) := by decide +kernel
theorem dX5_shadowOfTwo_22 : decode cX5_shadowOfTwo 22 = .ok (.invokevirtual 110, 3) := by decide +kernel
theorem dX5_shadowOfTwo_25 : decode cX5_shadowOfTwo 25 = .ok (.aload_n 0, 1) := by decide +kernel
theorem dX5_shadowOfTwo_26 : decode cX5_shadowOfTwo 26 = .ok (.iload_n 3, 1) := by decide +kernel
theorem dX5_shadowOfTwo_27 : decode cX5_shadowOfTwo 27 = .ok (.iload_n 1, 1) := by decide +kernel
theorem dX5_shadowOfTwo_28 : decode cX5_shadowOfTwo 28 = .ok (.invokevirtual 110, 3) := by decide +kernel
theorem dX5_shadowOfTwo_31 : decode cX5_shadowOfTwo 31 = .ok (.bipush 64, 2) := by decide +kernel
theorem dX5_shadowOfTwo_33 : decode cX5_shadowOfTwo 33 = .ok (.ireturn, 1) := by decide +kernel
theorem dX5_shadowOfTwo_34 : decode cX5_shadowOfTwo 34 = .ok (.aload_n 0, 1) := by decide +kernel
theorem dX5_shadowOfTwo_35 : decode cX5_shadowOfTwo 35 = .ok (.getfield 17, 3) := by decide +kernel
theorem dX5_shadowOfTwo_38 : decode cX5_shadowOfTwo 38 = .ok (.iload_n 2, 1) := by decide +kernel
theorem dX5_shadowOfTwo_39 : decode cX5_shadowOfTwo 39 = .ok (.iaload, 1) := by decide +kernel
theorem dX5_shadowOfTwo_40 : decode cX5_shadowOfTwo 40 = .ok (.aload_n 0, 1) := by decide +kernel
theorem dX5_shadowOfTwo_41 : decode cX5_shadowOfTwo 41 = .ok (.getfield 17, 3) := by decide +kernel
theorem dX5_shadowOfTwo_44 : decode cX5_shadowOfTwo 44 = .ok (.iload_n 3, 1) := by decide +kernel
theorem dX5_shadowOfTwo_45 : decode cX5_shadowOfTwo 45 = .ok (.iaload, 1) := by decide +kernel
theorem dX5_shadowOfTwo_46 : decode cX5_shadowOfTwo 46 = .ok (.invokestatic 151, 3) := by decide +kernel
theorem dX5_shadowOfTwo_49 : decode cX5_shadowOfTwo 49 = .ok (.istore 4, 2) := by decide +kernel
theorem dX5_shadowOfTwo_51 : decode cX5_shadowOfTwo 51 = .ok (.aload_n 0, 1) := by decide +kernel
theorem dX5_shadowOfTwo_52 : decode cX5_shadowOfTwo 52 = .ok (.getfield 17, 3) := by decide +kernel
theorem dX5_shadowOfTwo_55 : decode cX5_shadowOfTwo 55 = .ok (.iload_n 2, 1) := by decide +kernel
theorem dX5_shadowOfTwo_56 : decode cX5_shadowOfTwo 56 = .ok (.iaload, 1) := by decide +kernel
theorem dX5_shadowOfTwo_57 : decode cX5_shadowOfTwo 57 = .ok (.bipush 63, 2) := by decide +kernel
theorem dX5_shadowOfTwo_59 : decode cX5_shadowOfTwo 59 = .ok (.iand, 1) := by decide +kernel
theorem dX5_shadowOfTwo_60 : decode cX5_shadowOfTwo 60 = .ok (.ifCond .eq 19, 3) := by decide +kernel
theorem dX5_shadowOfTwo_63 : decode cX5_shadowOfTwo 63 = .ok (.aload_n 0, 1) := by decide +kernel
theorem dX5_shadowOfTwo_64 : decode cX5_shadowOfTwo 64 = .ok (.getfield 17, 3) := by decide +kernel
theorem dX5_shadowOfTwo_67 : decode cX5_shadowOfTwo 67 = .ok (.iload_n 3, 1) := by decide +kernel
theorem dX5_shadowOfTwo_68 : decode cX5_shadowOfTwo 68 = .ok (.iaload, 1) := by decide +kernel
theorem dX5_shadowOfTwo_69 : decode cX5_shadowOfTwo 69 = .ok (.bipush 63, 2) := by decide +kernel
theorem dX5_shadowOfTwo_71 : decode cX5_shadowOfTwo 71 = .ok (.iand, 1) := by decide +kernel
theorem dX5_shadowOfTwo_72 : decode cX5_shadowOfTwo 72 = .ok (.ifCond .eq 7, 3) := by decide +kernel
theorem dX5_shadowOfTwo_75 : decode cX5_shadowOfTwo 75 = .ok (.iconst 1, 1) := by decide +kernel
theorem dX5_shadowOfTwo_76 : decode cX5_shadowOfTwo 76 = .ok (.goto 4, 3) := by decide +kernel
theorem dX5_shadowOfTwo_79 : decode cX5_shadowOfTwo 79 = .ok (.iconst 0, 1) := by decide +kernel
theorem dX5_shadowOfTwo_80 : decode cX5_shadowOfTwo 80 = .ok (.istore 5, 2) := by decide +kernel
theorem dX5_shadowOfTwo_82 : decode cX5_shadowOfTwo 82 = .ok (.iload 5, 2) := by decide +kernel
theorem dX5_shadowOfTwo_84 : decode cX5_shadowOfTwo 84 = .ok (.ifCond .eq 18, 3) := by decide +kernel
theorem dX5_shadowOfTwo_87 : decode cX5_shadowOfTwo 87 = .ok (.iload_n 1, 1) := by decide +kernel
theorem dX5_shadowOfTwo_88 : decode cX5_shadowOfTwo 88 = .ok (.invokestatic 189, 3) := by decide +kernel
theorem dX5_shadowOfTwo_91 : decode cX5_shadowOfTwo 91 = .ok (.ifCond .eq 11, 3) := by decide +kernel
theorem dX5_shadowOfTwo_94 : decode cX5_shadowOfTwo 94 = .ok (.iload 4, 2) := by decide +kernel
theorem dX5_shadowOfTwo_96 : decode cX5_shadowOfTwo 96 = .ok (.invokestatic 62, 3) := by decide +kernel
theorem dX5_shadowOfTwo_99 : decode cX5_shadowOfTwo 99 = .ok (.goto 5, 3) := by decide +kernel
theorem dX5_shadowOfTwo_102 : decode cX5_shadowOfTwo 102 = .ok (.iload 4, 2) := by decide +kernel
theorem dX5_shadowOfTwo_104 : decode cX5_shadowOfTwo 104 = .ok (.ireturn, 1) := by decide +kernel
theorem dX5_dependentRegisters_0 : decode cX5_dependentRegisters 0 = .ok (.iconst 0, 1) := by decide +kernel
theorem dX5_dependentRegisters_1 : decode cX5_dependentRegisters 1 = .ok (.istore_n 1, 1) := by decide +kernel
theorem dX5_dependentRegisters_2 : decode cX5_dependentRegisters 2 = .ok (.iconst 0, 1) := by decide +kernel
theorem dX5_dependentRegisters_3 : decode cX5_dependentRegisters 3 = .ok (.istore_n 2, 1) := by decide +kernel
theorem dX5_dependentRegisters_4 : decode cX5_dependentRegisters 4 = .ok (.iload_n 2, 1) := by decide +kernel
theorem dX5_dependentRegisters_5 : decode cX5_dependentRegisters 5 = .ok (.bipush 8, 2) := by decide +kernel
theorem dX5_dependentRegisters_7 : decode cX5_dependentRegisters 7 = .ok (.if_icmp .ge 24, 3) := by decide +kernel
theorem dX5_dependentRegisters_10 : decode cX5_dependentRegisters 10 = .ok (.aload_n 0, 1) := by decide +kernel
theorem dX5_dependentRegisters_11 : decode cX5_dependentRegisters 11 = .ok (.getfield 17, 3) := by decide +kernel
theorem dX5_dependentRegisters_14 : decode cX5_dependentRegisters 14 = .ok (.iload_n 2, 1) := by decide +kernel
theorem dX5_dependentRegisters_15 : decode cX5_dependentRegisters 15 = .ok (.iaload, 1) := by decide +kernel
theorem dX5_dependentRegisters_16 : decode cX5_dependentRegisters 16 = .ok (.bipush 63, 2) := by decide +kernel
theorem dX5_dependentRegisters_18 : decode cX5_dependentRegisters 18 = .ok (.iand, 1) := by decide +kernel
theorem dX5_dependentRegisters_19 : decode cX5_dependentRegisters 19 = .ok (.ifCond .eq 6, 3) := by decide +kernel
theorem dX5_dependentRegisters_22 : decode cX5_dependentRegisters 22 = .ok (.iinc 1 1, 3) := by decide +kernel
theorem dX5_dependentRegisters_25 : decode cX5_dependentRegisters 25 = .ok (.iinc 2 1, 3) := by decide +kernel
theorem dX5_dependentRegisters_28 : decode cX5_dependentRegisters 28 = .ok (.goto (-24), 3) := by decide +kernel
theorem dX5_dependentRegisters_31 : decode cX5_dependentRegisters 31 = .ok (.iload_n 1, 1) := by decide +kernel
theorem dX5_dependentRegisters_32 : decode cX5_dependentRegisters 32 = .ok (.ireturn, 1) := by decide +kernel
theorem dX5_unheld_0 : decode cX5_unheld 0 = .ok (.aload_n 0, 1) := by decide +kernel
theorem dX5_unheld_1 : decode cX5_unheld 1 = .ok (.getfield 26, 3) := by decide +kernel
theorem dX5_unheld_4 : decode cX5_unheld 4 = .ok (.iconst 0, 1) := by decide +kernel
theorem dX5_unheld_5 : decode cX5_unheld 5 = .ok (.aaload, 1) := by decide +kernel
theorem dX5_unheld_6 : decode cX5_unheld 6 = .ok (.astore_n 1, 1) := by decide +kernel
theorem dX5_unheld_7 : decode cX5_unheld 7 = .ok (.iconst 1, 1) := by decide +kernel
theorem dX5_unheld_8 : decode cX5_unheld 8 = .ok (.istore_n 2, 1) := by decide +kernel
theorem dX5_unheld_9 : decode cX5_unheld 9 = .ok (.iload_n 2, 1) := by decide +kernel
theorem dX5_unheld_10 : decode cX5_unheld 10 = .ok (.iconst 4, 1) := by decide +kernel
theorem dX5_unheld_11 : decode cX5_unheld 11 = .ok (.if_icmp .ge 29, 3) := by decide +kernel
theorem dX5_unheld_14 : decode cX5_unheld 14 = .ok (.aload_n 0, 1) := by decide +kernel
theorem dX5_unheld_15 : decode cX5_unheld 15 = .ok (.aload_n 0, 1) := by decide +kernel
theorem dX5_unheld_16 : decode cX5_unheld 16 = .ok (.getfield 26, 3) := by decide +kernel
theorem dX5_unheld_19 : decode cX5_unheld 19 = .ok (.iload_n 2, 1) := by decide +kernel
theorem dX5_unheld_20 : decode cX5_unheld 20 = .ok (.aaload, 1) := by decide +kernel
theorem dX5_unheld_21 : decode cX5_unheld 21 = .ok (.invokevirtual 192, 3) := by decide +kernel
theorem dX5_unheld_24 : decode cX5_unheld 24 = .ok (.ifCond .ne 10, 3) := by decide +kernel
theorem dX5_unheld_27 : decode cX5_unheld 27 = .ok (.aload_n 0, 1) := by decide +kernel
theorem dX5_unheld_28 : decode cX5_unheld 28 = .ok (.getfield 26, 3) := by decide +kernel
theorem dX5_unheld_31 : decode cX5_unheld 31 = .ok (.iload_n 2, 1) := by decide +kernel
theorem dX5_unheld_32 : decode cX5_unheld 32 = .ok (.aaload, 1) := by decide +kernel
theorem dX5_unheld_33 : decode cX5_unheld 33 = .ok (.astore_n 1, 1) := by decide +kernel
theorem dX5_unheld_34 : decode cX5_unheld 34 = .ok (.iinc 2 1, 3) := by decide +kernel
theorem dX5_unheld_37 : decode cX5_unheld 37 = .ok (.goto (-28), 3) := by decide +kernel
theorem dX5_unheld_40 : decode cX5_unheld 40 = .ok (.aload_n 1, 1) := by decide +kernel
theorem dX5_unheld_41 : decode cX5_unheld 41 = .ok (.areturn, 1) := by decide +kernel
theorem dX5_isHeld_0 : decode cX5_isHeld 0 = .ok (.iconst 0, 1) := by decide +kernel
theorem dX5_isHeld_1 : decode cX5_isHeld 1 = .ok (.istore_n 2, 1) := by decide +kernel
theorem dX5_isHeld_2 : decode cX5_isHeld 2 = .ok (.iload_n 2, 1) := by decide +kernel
theorem dX5_isHeld_3 : decode cX5_isHeld 3 = .ok (.iconst 4, 1) := by decide +kernel
theorem dX5_isHeld_4 : decode cX5_isHeld 4 = .ok (.if_icmp .ge 21, 3) := by decide +kernel
theorem dX5_isHeld_7 : decode cX5_isHeld 7 = .ok (.aload_n 0, 1) := by decide +kernel
theorem dX5_isHeld_8 : decode cX5_isHeld 8 = .ok (.getfield 22, 3) := by decide +kernel
theorem dX5_isHeld_11 : decode cX5_isHeld 11 = .ok (.iload_n 2, 1) := by decide +kernel
theorem dX5_isHeld_12 : decode cX5_isHeld 12 = .ok (.aaload, 1) := by decide +kernel
theorem dX5_isHeld_13 : decode cX5_isHeld 13 = .ok (.aload_n 1, 1) := by decide +kernel
theorem dX5_isHeld_14 : decode cX5_isHeld 14 = .ok (.if_acmp .ne 5, 3) := by decide +kernel
theorem dX5_isHeld_17 : decode cX5_isHeld 17 = .ok (.iconst 1, 1) := by decide +kernel
theorem dX5_isHeld_18 : decode cX5_isHeld 18 = .ok (.ireturn, 1) := by decide +kernel
theorem dX5_isHeld_19 : decode cX5_isHeld 19 = .ok (.iinc 2 1, 3) := by decide +kernel
theorem dX5_isHeld_22 : decode cX5_isHeld 22 = .ok (.goto (-20), 3) := by decide +kernel
theorem dX5_isHeld_25 : decode cX5_isHeld 25 = .ok (.iconst 0, 1) := by decide +kernel
theorem dX5_isHeld_26 : decode cX5_isHeld 26 = .ok (.ireturn, 1) := by decide +kernel
theorem dX6_init_0 : decode cX6_init 0 = .ok (.aload_n 0, 1) := by decide +kernel
theorem dX6_init_1 : decode cX6_init 1 = .ok (.invokespecial 1, 3) := by decide +kernel
theorem dX6_init_4 : decode cX6_init 4 = .ok (.aload_n 0, 1) := by decide +kernel
theorem dX6_init_5 : decode cX6_init 5 = .ok (.bipush 8, 2) := by decide +kernel
theorem dX6_init_7 : decode cX6_init 7 = .ok (.newarray .int, 2) := by decide +kernel
theorem dX6_init_9 : decode cX6_init 9 = .ok (.putfield 7, 3) := by decide +kernel
theorem dX6_init_12 : decode cX6_init 12 = .ok (.aload_n 0, 1) := by decide +kernel
theorem dX6_init_13 : decode cX6_init 13 = .ok (.bipush 56, 2) := by decide +kernel
theorem dX6_init_15 : decode cX6_init 15 = .ok (.newarray .int, 2) := by decide +kernel
theorem dX6_init_17 : decode cX6_init 17 = .ok (.putfield 13, 3) := by decide +kernel
theorem dX6_init_20 : decode cX6_init 20 = .ok (.aload_n 0, 1) := by decide +kernel
theorem dX6_init_21 : decode cX6_init 21 = .ok (.bipush 56, 2) := by decide +kernel
theorem dX6_init_23 : decode cX6_init 23 = .ok (.newarray .long, 2) := by decide +kernel
theorem dX6_init_25 : decode cX6_init 25 = .ok (.putfield 16, 3) := by decide +kernel
theorem dX6_init_28 : decode cX6_init 28 = .ok (.aload_n 0, 1) := by decide +kernel
theorem dX6_init_29 : decode cX6_init 29 = .ok (.bipush 56, 2) := by decide +kernel
theorem dX6_init_31 : decode cX6_init 31 = .ok (.newarray .boolean, 2) := by decide +kernel
theorem dX6_init_33 : decode cX6_init 33 = .ok (.putfield 20, 3) := by decide +kernel
theorem dX6_init_36 : decode cX6_init 36 = .ok (.aload_n 0, 1) := by decide +kernel
theorem dX6_init_37 : decode cX6_init 37 = .ok (.iconst 4, 1) := by decide +kernel
theorem dX6_init_38 : decode cX6_init 38 = .ok (.newarray .int, 2) := by decide +kernel
theorem dX6_init_40 : decode cX6_init 40 = .ok (.putfield 24, 3) := by decide +kernel
theorem dX6_init_43 : decode cX6_init 43 = .ok (.aload_n 0, 1) := by decide +kernel
theorem dX6_init_44 : decode cX6_init 44 = .ok (.iconst 4, 1) := by decide +kernel
theorem dX6_init_45 : decode cX6_init 45 = .ok (.newarray .int, 2) := by decide +kernel
theorem dX6_init_47 : decode cX6_init 47 = .ok (.putfield 27, 3) := by decide +kernel
theorem dX6_init_50 : decode cX6_init 50 = .ok (.aload_n 0, 1) := by decide +kernel
theorem dX6_init_51 : decode cX6_init 51 = .ok (.iconst 4, 1) := by decide +kernel
theorem dX6_init_52 : decode cX6_init 52 = .ok (.newarray .int, 2) := by decide +kernel
theorem dX6_init_54 : decode cX6_init 54 = .ok (.putfield 30, 3) := by decide +kernel
theorem dX6_init_57 : decode cX6_init 57 = .ok (.aload_n 0, 1) := by decide +kernel
theorem dX6_init_58 : decode cX6_init 58 = .ok (.bipush 16, 2) := by decide +kernel
theorem dX6_init_60 : decode cX6_init 60 = .ok (.newarray .int, 2) := by decide +kernel
theorem dX6_init_62 : decode cX6_init 62 = .ok (.putfield 33, 3) := by decide +kernel
theorem dX6_init_65 : decode cX6_init 65 = .ok (.aload_n 0, 1) := by decide +kernel
theorem dX6_init_66 : decode cX6_init 66 = .ok (.bipush 16, 2) := by decide +kernel
theorem dX6_init_68 : decode cX6_init 68 = .ok (.newarray .int, 2) := by decide +kernel
theorem dX6_init_70 : decode cX6_init 70 = .ok (.putfield 36, 3) := by decide +kernel
theorem dX6_init_73 : decode cX6_init 73 = .ok (.aload_n 0, 1) := by decide +kernel
theorem dX6_init_74 : decode cX6_init 74 = .ok (.bipush 16, 2) := by decide +kernel
theorem dX6_init_76 : decode cX6_init 76 = .ok (.newarray .int, 2) := by decide +kernel
theorem dX6_init_78 : decode cX6_init 78 = .ok (.putfield 39, 3) := by decide +kernel
theorem dX6_init_81 : decode cX6_init 81 = .ok (.aload_n 0, 1) := by decide +kernel
theorem dX6_init_82 : decode cX6_init 82 = .ok (.bipush 16, 2) := by decide +kernel
theorem dX6_init_84 : decode cX6_init 84 = .ok (.newarray .int, 2) := by decide +kernel
theorem dX6_init_86 : decode cX6_init 86 = .ok (.putfield 42, 3) := by decide +kernel
theorem dX6_init_89 : decode cX6_init 89 = .ok (.aload_n 0, 1) := by decide +kernel
theorem dX6_init_90 : decode cX6_init 90 = .ok (.bipush 16, 2) := by decide +kernel
theorem dX6_init_92 : decode cX6_init 92 = .ok (.newarray .int, 2) := by decide +kernel
theorem dX6_init_94 : decode cX6_init 94 = .ok (.putfield 45, 3) := by decide +kernel
theorem dX6_init_97 : decode cX6_init 97 = .ok (.aload_n 0, 1) := by decide +kernel
theorem dX6_init_98 : decode cX6_init 98 = .ok (.iconst 0, 1) := by decide +kernel
theorem dX6_init_99 : decode cX6_init 99 = .ok (.putfield 48, 3) := by decide +kernel
theorem dX6_init_102 : decode cX6_init 102 = .ok (.aload_n 0, 1) := by decide +kernel
theorem dX6_init_103 : decode cX6_init 103 = .ok (.iconst 0, 1) := by decide +kernel
theorem dX6_init_104 : decode cX6_init 104 = .ok (.putfield 52, 3) := by decide +kernel
theorem dX6_init_107 : decode cX6_init 107 = .ok (.aload_n 0, 1) := by decide +kernel
theorem dX6_init_108 : decode cX6_init 108 = .ok (.iconst 0, 1) := by decide +kernel
theorem dX6_init_109 : decode cX6_init 109 = .ok (.putfield 55, 3) := by decide +kernel
theorem dX6_init_112 : decode cX6_init 112 = .ok (.aload_n 0, 1) := by decide +kernel
theorem dX6_init_113 : decode cX6_init 113 = .ok (.bipush 24, 2) := by decide +kernel
theorem dX6_init_115 : decode cX6_init 115 = .ok (.newarray .int, 2) := by decide +kernel
theorem dX6_init_117 : decode cX6_init 117 = .ok (.putfield 58, 3) := by decide +kernel
theorem dX6_init_120 : decode cX6_init 120 = .ok (.aload_n 0, 1) := by decide +kernel
theorem dX6_init_121 : decode cX6_init 121 = .ok (.bipush 12, 2) := by decide +kernel
theorem dX6_init_123 : decode cX6_init 123 = .ok (.newarray .long, 2) := by decide +kernel
theorem dX6_init_125 : decode cX6_init 125 = .ok (.putfield 61, 3) := by decide +kernel
theorem dX6_init_128 : decode cX6_init 128 = .ok (.aload_n 0, 1) := by decide +kernel
theorem dX6_init_129 : decode cX6_init 129 = .ok (.iconst 2, 1) := by decide +kernel
theorem dX6_init_130 : decode cX6_init 130 = .ok (.newarray .int, 2) := by decide +kernel
theorem dX6_init_132 : decode cX6_init 132 = .ok (.putfield 64, 3) := by decide +kernel
theorem dX6_init_135 : decode cX6_init 135 = .ok (.aload_n 0, 1) := by decide +kernel
theorem dX6_init_136 : decode cX6_init 136 = .ok (.iconst 2, 1) := by decide +kernel
theorem dX6_init_137 : decode cX6_init 137 = .ok (.newarray .int, 2) := by decide +kernel
theorem dX6_init_139 : decode cX6_init 139 = .ok (.putfield 67, 3) := by decide +kernel
theorem dX6_init_142 : decode cX6_init 142 = .ok (.aload_n 0, 1) := by decide +kernel
theorem dX6_init_143 : decode cX6_init 143 = .ok (.iconst 2, 1) := by decide +kernel
theorem dX6_init_144 : decode cX6_init 144 = .ok (.newarray .boolean, 2) := by decide +kernel
theorem dX6_init_146 : decode cX6_init 146 = .ok (.putfield 70, 3) := by decide +kernel
theorem dX6_init_149 : decode cX6_init 149 = .ok (.aload_n 0, 1) := by decide +kernel
theorem dX6_init_150 : decode cX6_init 150 = .ok (.iconst 2, 1) := by decide +kernel
theorem dX6_init_151 : decode cX6_init 151 = .ok (.newarray .long, 2) := by decide +kernel
theorem dX6_init_153 : decode cX6_init 153 = .ok (.putfield 73, 3) := by decide +kernel
theorem dX6_init_156 : decode cX6_init 156 = .ok (.iconst 0, 1) := by decide +kernel
theorem dX6_init_157 : decode cX6_init 157 = .ok (.istore_n 1, 1) := by decide +kernel
theorem dX6_init_158 : decode cX6_init 158 = .ok (.iload_n 1, 1) := by decide +kernel
theorem dX6_init_159 : decode cX6_init 159 = .ok (.iconst 4, 1) := by decide +kernel
theorem dX6_init_160 : decode cX6_init 160 = .ok (.if_icmp .ge 16, 3) := by decide +kernel
theorem dX6_init_163 : decode cX6_init 163 = .ok (.aload_n 0, 1) := by decide +kernel
theorem dX6_init_164 : decode cX6_init 164 = .ok (.getfield 24, 3) := by decide +kernel
theorem dX6_init_167 : decode cX6_init 167 = .ok (.iload_n 1, 1) := by decide +kernel
theorem dX6_init_168 : decode cX6_init 168 = .ok (.iconst (-1), 1) := by decide +kernel
theorem dX6_init_169 : decode cX6_init 169 = .ok (.iastore, 1) := by decide +kernel
theorem dX6_init_170 : decode cX6_init 170 = .ok (.iinc 1 1, 3) := by decide +kernel
theorem dX6_init_173 : decode cX6_init 173 = .ok (.goto (-15), 3) := by decide +kernel
theorem dX6_init_176 : decode cX6_init 176 = .ok (.iconst 0, 1) := by decide +kernel
theorem dX6_init_177 : decode cX6_init 177 = .ok (.istore_n 1, 1) := by decide +kernel
theorem dX6_init_178 : decode cX6_init 178 = .ok (.iload_n 1, 1) := by decide +kernel
theorem dX6_init_179 : decode cX6_init 179 = .ok (.bipush 56, 2) := by decide +kernel
theorem dX6_init_181 : decode cX6_init 181 = .ok (.if_icmp .ge 16, 3) := by decide +kernel
theorem dX6_init_184 : decode cX6_init 184 = .ok (.aload_n 0, 1) := by decide +kernel
theorem dX6_init_185 : decode cX6_init 185 = .ok (.getfield 20, 3) := by decide +kernel
theorem dX6_init_188 : decode cX6_init 188 = .ok (.iload_n 1, 1) := by decide +kernel
theorem dX6_init_189 : decode cX6_init 189 = .ok (.iconst 1, 1) := by decide +kernel
theorem dX6_init_190 : decode cX6_init 190 = .ok (.bastore, 1) := by decide +kernel
theorem dX6_init_191 : decode cX6_init 191 = .ok (.iinc 1 1, 3) := by decide +kernel
theorem dX6_init_194 : decode cX6_init 194 = .ok (.goto (-16), 3) := by decide +kernel
theorem dX6_init_197 : decode cX6_init 197 = .ok (.return_, 1) := by decide +kernel
theorem dX6_out_0 : decode cX6_out 0 = .ok (.iload_n 1, 1) := by decide +kernel
theorem dX6_out_1 : decode cX6_out 1 = .ok (.ifCond .lt 8, 3) := by decide +kernel
theorem dX6_out_4 : decode cX6_out 4 = .ok (.iload_n 1, 1) := by decide +kernel
theorem dX6_out_5 : decode cX6_out 5 = .ok (.iload_n 2, 1) := by decide +kernel
theorem dX6_out_6 : decode cX6_out 6 = .ok (.if_icmp .lt 7, 3) := by decide +kernel
theorem dX6_out_9 : decode cX6_out 9 = .ok (.iconst 1, 1) := by decide +kernel
theorem dX6_out_10 : decode cX6_out 10 = .ok (.goto 4, 3) := by decide +kernel
theorem dX6_out_13 : decode cX6_out 13 = .ok (.iconst 0, 1) := by decide +kernel
theorem dX6_out_14 : decode cX6_out 14 = .ok (.ireturn, 1) := by decide +kernel
theorem dX6_places_0 : decode cX6_places 0 = .ok (.iload_n 1, 1) := by decide +kernel
theorem dX6_places_1 : decode cX6_places 1 = .ok (.ifCond .eq 8, 3) := by decide +kernel
theorem dX6_places_4 : decode cX6_places 4 = .ok (.bipush 53, 2) := by decide +kernel
theorem dX6_places_6 : decode cX6_places 6 = .ok (.goto 5, 3) := by decide +kernel
theorem dX6_places_9 : decode cX6_places 9 = .ok (.bipush 24, 2) := by decide +kernel
theorem dX6_places_11 : decode cX6_places 11 = .ok (.ireturn, 1) := by decide +kernel
theorem dX6_least_0 : decode cX6_least 0 = .ok (.iload_n 1, 1) := by decide +kernel
theorem dX6_least_1 : decode cX6_least 1 = .ok (.ifCond .eq 9, 3) := by decide +kernel
theorem dX6_least_4 : decode cX6_least 4 = .ok (.sipush (-1074), 3) := by decide +kernel
theorem dX6_least_7 : decode cX6_least 7 = .ok (.goto 6, 3) := by decide +kernel
theorem dX6_least_10 : decode cX6_least 10 = .ok (.sipush (-149), 3) := by decide +kernel
theorem dX6_least_13 : decode cX6_least 13 = .ok (.ireturn, 1) := by decide +kernel
theorem dX6_none_0 : decode cX6_none 0 = .ok (.iload_n 1, 1) := by decide +kernel
theorem dX6_none_1 : decode cX6_none 1 = .ok (.ifCond .eq 9, 3) := by decide +kernel
theorem dX6_none_4 : decode cX6_none 4 = .ok (.ldc2_w 76, 3) := by decide +kernel
theorem dX6_none_7 : decode cX6_none 7 = .ok (.goto 6, 3) := by decide +kernel
theorem dX6_none_10 : decode cX6_none 10 = .ok (.ldc2_w 78, 3) := by decide +kernel
theorem dX6_none_13 : decode cX6_none 13 = .ok (.lreturn, 1) := by decide +kernel
theorem dX6_infinite_0 : decode cX6_infinite 0 = .ok (.iload_n 1, 1) := by decide +kernel
theorem dX6_infinite_1 : decode cX6_infinite 1 = .ok (.ifCond .eq 9, 3) := by decide +kernel
theorem dX6_infinite_4 : decode cX6_infinite 4 = .ok (.ldc2_w 80, 3) := by decide +kernel
theorem dX6_infinite_7 : decode cX6_infinite 7 = .ok (.goto 6, 3) := by decide +kernel
theorem dX6_infinite_10 : decode cX6_infinite 10 = .ok (.ldc2_w 82, 3) := by decide +kernel
theorem dX6_infinite_13 : decode cX6_infinite 13 = .ok (.lreturn, 1) := by decide +kernel
theorem dX6_signed_0 : decode cX6_signed 0 = .ok (.iload_n 1, 1) := by decide +kernel
theorem dX6_signed_1 : decode cX6_signed 1 = .ok (.ifCond .eq 17, 3) := by decide +kernel
theorem dX6_signed_4 : decode cX6_signed 4 = .ok (.iload_n 2, 1) := by decide +kernel
theorem dX6_signed_5 : decode cX6_signed 5 = .ok (.ifCond .eq 11, 3) := by decide +kernel
theorem dX6_signed_8 : decode cX6_signed 8 = .ok (.lload_n 3, 1) := by decide +kernel
theorem dX6_signed_9 : decode cX6_signed 9 = .ok (.ldc2_w 84, 3) := by decide +kernel
theorem dX6_signed_12 : decode cX6_signed 12 = .ok (.lor, 1) := by decide +kernel
theorem dX6_signed_13 : decode cX6_signed 13 = .ok (.goto 4, 3) := by decide +kernel
theorem dX6_signed_16 : decode cX6_signed 16 = .ok (.lload_n 3, 1) := by decide +kernel
theorem dX6_signed_17 : decode cX6_signed 17 = .ok (.lreturn, 1) := by decide +kernel
theorem dX6_signed_18 : decode cX6_signed 18 = .ok (.iload_n 2, 1) := by decide +kernel
theorem dX6_signed_19 : decode cX6_signed 19 = .ok (.ifCond .eq 13, 3) := by decide +kernel
theorem dX6_signed_22 : decode cX6_signed 22 = .ok (.lload_n 3, 1) := by decide +kernel
theorem dX6_signed_23 : decode cX6_signed 23 = .ok (.ldc2_w 86, 3) := by decide +kernel
theorem dX6_signed_26 : decode cX6_signed 26 = .ok (.lor, 1) := by decide +kernel
theorem dX6_signed_27 : decode cX6_signed 27 = .ok (.l2i, 1) := by decide +kernel
theorem dX6_signed_28 : decode cX6_signed 28 = .ok (.i2l, 1) := by decide +kernel
theorem dX6_signed_29 : decode cX6_signed 29 = .ok (.goto 4, 3) := by decide +kernel
theorem dX6_signed_32 : decode cX6_signed 32 = .ok (.lload_n 3, 1) := by decide +kernel
theorem dX6_signed_33 : decode cX6_signed 33 = .ok (.lreturn, 1) := by decide +kernel
theorem dX6_lengthOf_0 : decode cX6_lengthOf 0 = .ok (.iconst 0, 1) := by decide +kernel
theorem dX6_lengthOf_1 : decode cX6_lengthOf 1 = .ok (.istore_n 3, 1) := by decide +kernel
theorem dX6_lengthOf_2 : decode cX6_lengthOf 2 = .ok (.lload_n 1, 1) := by decide +kernel
theorem dX6_lengthOf_3 : decode cX6_lengthOf 3 = .ok (.lstore 4, 2) := by decide +kernel
theorem dX6_lengthOf_5 : decode cX6_lengthOf 5 = .ok (.lload 4, 2) := by decide +kernel
theorem dX6_lengthOf_7 : decode cX6_lengthOf 7 = .ok (.lconst 0, 1) := by decide +kernel
theorem dX6_lengthOf_8 : decode cX6_lengthOf 8 = .ok (.lcmp, 1) := by decide +kernel
theorem dX6_lengthOf_9 : decode cX6_lengthOf 9 = .ok (.ifCond .le 15, 3) := by decide +kernel
theorem dX6_lengthOf_12 : decode cX6_lengthOf 12 = .ok (.iinc 3 1, 3) := by decide +kernel
theorem dX6_lengthOf_15 : decode cX6_lengthOf 15 = .ok (.lload 4, 2) := by decide +kernel
theorem dX6_lengthOf_17 : decode cX6_lengthOf 17 = .ok (.iconst 1, 1) := by decide +kernel
theorem dX6_lengthOf_18 : decode cX6_lengthOf 18 = .ok (.lshr, 1) := by decide +kernel
theorem dX6_lengthOf_19 : decode cX6_lengthOf 19 = .ok (.lstore 4, 2) := by decide +kernel
theorem dX6_lengthOf_21 : decode cX6_lengthOf 21 = .ok (.goto (-16), 3) := by decide +kernel
theorem dX6_lengthOf_24 : decode cX6_lengthOf 24 = .ok (.iload_n 3, 1) := by decide +kernel
theorem dX6_lengthOf_25 : decode cX6_lengthOf 25 = .ok (.ireturn, 1) := by decide +kernel
theorem dX6_take_0 : decode cX6_take 0 = .ok (.aload_n 0, 1) := by decide +kernel
theorem dX6_take_1 : decode cX6_take 1 = .ok (.iload 4, 2) := by decide +kernel
theorem dX6_take_3 : decode cX6_take 3 = .ok (.invokevirtual 88, 3) := by decide +kernel
theorem dX6_take_6 : decode cX6_take 6 = .ok (.iconst 1, 1) := by decide +kernel
theorem dX6_take_7 : decode cX6_take 7 = .ok (.isub, 1) := by decide +kernel
theorem dX6_take_8 : decode cX6_take 8 = .ok (.istore 5, 2) := by decide +kernel
theorem dX6_take_10 : decode cX6_take 10 = .ok (.iload 4, 2) := by decide +kernel
theorem dX6_take_12 : decode cX6_take 12 = .ok (.ifCond .eq 11, 3) := by decide +kernel
theorem dX6_take_15 : decode cX6_take 15 = .ok (.lload_n 2, 1) := by decide +kernel
theorem dX6_take_16 : decode cX6_take 16 = .ok (.ldc2_w 92, 3) := by decide +kernel
theorem dX6_take_19 : decode cX6_take 19 = .ok (.land, 1) := by decide +kernel
theorem dX6_take_20 : decode cX6_take 20 = .ok (.goto 8, 3) := by decide +kernel
theorem dX6_take_23 : decode cX6_take 23 = .ok (.lload_n 2, 1) := by decide +kernel
theorem dX6_take_24 : decode cX6_take 24 = .ok (.ldc2_w 94, 3) := by decide +kernel
theorem dX6_take_27 : decode cX6_take 27 = .ok (.land, 1) := by decide +kernel
theorem dX6_take_28 : decode cX6_take 28 = .ok (.lstore 6, 2) := by decide +kernel
theorem dX6_take_30 : decode cX6_take 30 = .ok (.lload 6, 2) := by decide +kernel
theorem dX6_take_32 : decode cX6_take 32 = .ok (.lconst 1, 1) := by decide +kernel
theorem dX6_take_33 : decode cX6_take 33 = .ok (.iload 5, 2) := by decide +kernel
theorem dX6_take_35 : decode cX6_take 35 = .ok (.lshl, 1) := by decide +kernel
theorem dX6_take_36 : decode cX6_take 36 = .ok (.lconst 1, 1) := by decide +kernel
theorem dX6_take_37 : decode cX6_take 37 = .ok (.lsub, 1) := by decide +kernel
theorem dX6_take_38 : decode cX6_take 38 = .ok (.land, 1) := by decide +kernel
theorem dX6_take_39 : decode cX6_take 39 = .ok (.lstore 8, 2) := by decide +kernel
theorem dX6_take_41 : decode cX6_take 41 = .ok (.lload 6, 2) := by decide +kernel
theorem dX6_take_43 : decode cX6_take 43 = .ok (.iload 5, 2) := by decide +kernel
theorem dX6_take_45 : decode cX6_take 45 = .ok (.lshr, 1) := by decide +kernel
theorem dX6_take_46 : decode cX6_take 46 = .ok (.l2i, 1) := by decide +kernel
theorem dX6_take_47 : decode cX6_take 47 = .ok (.istore 10, 2) := by decide +kernel
theorem dX6_take_49 : decode cX6_take 49 = .ok (.aload_n 0, 1) := by decide +kernel
theorem dX6_take_50 : decode cX6_take 50 = .ok (.getfield 70, 3) := by decide +kernel
theorem dX6_take_53 : decode cX6_take 53 = .ok (.iload_n 1, 1) := by decide +kernel
theorem dX6_take_54 : decode cX6_take 54 = .ok (.lload_n 2, 1) := by decide +kernel
theorem dX6_take_55 : decode cX6_take 55 = .ok (.lconst 0, 1) := by decide +kernel
theorem dX6_take_56 : decode cX6_take 56 = .ok (.lcmp, 1) := by decide +kernel
theorem dX6_take_57 : decode cX6_take 57 = .ok (.ifCond .ge 7, 3) := by decide +kernel
theorem dX6_take_60 : decode cX6_take 60 = .ok (.iconst 1, 1) := by decide +kernel
theorem dX6_take_61 : decode cX6_take 61 = .ok (.goto 4, 3) := by decide +kernel
theorem dX6_take_64 : decode cX6_take 64 = .ok (.iconst 0, 1) := by decide +kernel
theorem dX6_take_65 : decode cX6_take 65 = .ok (.bastore, 1) := by decide +kernel
theorem dX6_take_66 : decode cX6_take 66 = .ok (.aload_n 0, 1) := by decide +kernel
theorem dX6_take_67 : decode cX6_take 67 = .ok (.getfield 64, 3) := by decide +kernel
theorem dX6_take_70 : decode cX6_take 70 = .ok (.iload_n 1, 1) := by decide +kernel
theorem dX6_take_71 : decode cX6_take 71 = .ok (.iload 10, 2) := by decide +kernel
theorem dX6_take_73 : decode cX6_take 73 = .ok (.iload 4, 2) := by decide +kernel
theorem dX6_take_75 : decode cX6_take 75 = .ok (.ifCond .eq 9, 3) := by decide +kernel
theorem dX6_take_78 : decode cX6_take 78 = .ok (.sipush 2047, 3) := by decide +kernel
theorem dX6_take_81 : decode cX6_take 81 = .ok (.goto 6, 3) := by decide +kernel
theorem dX6_take_84 : decode cX6_take 84 = .ok (.sipush 255, 3) := by decide +kernel
theorem dX6_take_87 : decode cX6_take 87 = .ok (.if_icmp .ne 18, 3) := by decide +kernel
theorem dX6_take_90 : decode cX6_take 90 = .ok (.lload 8, 2) := by decide +kernel
theorem dX6_take_92 : decode cX6_take 92 = .ok (.lconst 0, 1) := by decide +kernel
theorem dX6_take_93 : decode cX6_take 93 = .ok (.lcmp, 1) := by decide +kernel
theorem dX6_take_94 : decode cX6_take 94 = .ok (.ifCond .ne 7, 3) := by decide +kernel
theorem dX6_take_97 : decode cX6_take 97 = .ok (.iconst 2, 1) := by decide +kernel
theorem dX6_take_98 : decode cX6_take 98 = .ok (.goto 19, 3) := by decide +kernel
theorem dX6_take_101 : decode cX6_take 101 = .ok (.iconst 3, 1) := by decide +kernel
theorem dX6_take_102 : decode cX6_take 102 = .ok (.goto 15, 3) := by decide +kernel
theorem dX6_take_105 : decode cX6_take 105 = .ok (.lload 6, 2) := by decide +kernel
theorem dX6_take_107 : decode cX6_take 107 = .ok (.lconst 0, 1) := by decide +kernel
theorem dX6_take_108 : decode cX6_take 108 = .ok (.lcmp, 1) := by decide +kernel
theorem dX6_take_109 : decode cX6_take 109 = .ok (.ifCond .ne 7, 3) := by decide +kernel
theorem dX6_take_112 : decode cX6_take 112 = .ok (.iconst 0, 1) := by decide +kernel
theorem dX6_take_113 : decode cX6_take 113 = .ok (.goto 4, 3) := by decide +kernel
theorem dX6_take_116 : decode cX6_take 116 = .ok (.iconst 1, 1) := by decide +kernel
theorem dX6_take_117 : decode cX6_take 117 = .ok (.iastore, 1) := by decide +kernel
theorem dX6_take_118 : decode cX6_take 118 = .ok (.aload_n 0, 1) := by decide +kernel
theorem dX6_take_119 : decode cX6_take 119 = .ok (.getfield 73, 3) := by decide +kernel
theorem dX6_take_122 : decode cX6_take 122 = .ok (.iload_n 1, 1) := by decide +kernel
theorem dX6_take_123 : decode cX6_take 123 = .ok (.iload 10, 2) := by decide +kernel
theorem dX6_take_125 : decode cX6_take 125 = .ok (.ifCond .ne 8, 3) := by decide +kernel
theorem dX6_take_128 : decode cX6_take 128 = .ok (.lload 8, 2) := by decide +kernel
theorem dX6_take_130 : decode cX6_take 130 = .ok (.goto 10, 3) := by decide +kernel
theorem dX6_take_133 : decode cX6_take 133 = .ok (.lload 8, 2) := by decide +kernel
theorem dX6_take_135 : decode cX6_take 135 = .ok (.lconst 1, 1) := by decide +kernel
theorem dX6_take_136 : decode cX6_take 136 = .ok (.iload 5, 2) := by decide +kernel
theorem dX6_take_138 : decode cX6_take 138 = .ok (.lshl, 1) := by decide +kernel
theorem dX6_take_139 : decode cX6_take 139 = .ok (.lor, 1) := by decide +kernel
theorem dX6_take_140 : decode cX6_take 140 = .ok (.lastore, 1) := by decide +kernel
theorem dX6_take_141 : decode cX6_take 141 = .ok (.aload_n 0, 1) := by decide +kernel
theorem dX6_take_142 : decode cX6_take 142 = .ok (.getfield 67, 3) := by decide +kernel
theorem dX6_take_145 : decode cX6_take 145 = .ok (.iload_n 1, 1) := by decide +kernel
theorem dX6_take_146 : decode cX6_take 146 = .ok (.aload_n 0, 1) := by decide +kernel
theorem dX6_take_147 : decode cX6_take 147 = .ok (.iload 4, 2) := by decide +kernel
theorem dX6_take_149 : decode cX6_take 149 = .ok (.invokevirtual 96, 3) := by decide +kernel
theorem dX6_take_152 : decode cX6_take 152 = .ok (.iload 10, 2) := by decide +kernel
theorem dX6_take_154 : decode cX6_take 154 = .ok (.ifCond .ne 7, 3) := by decide +kernel
theorem dX6_take_157 : decode cX6_take 157 = .ok (.iconst 0, 1) := by decide +kernel
theorem dX6_take_158 : decode cX6_take 158 = .ok (.goto 7, 3) := by decide +kernel
theorem dX6_take_161 : decode cX6_take 161 = .ok (.iload 10, 2) := by decide +kernel
theorem dX6_take_163 : decode cX6_take 163 = .ok (.iconst 1, 1) := by decide +kernel
theorem dX6_take_164 : decode cX6_take 164 = .ok (.isub, 1) := by decide +kernel
theorem dX6_take_165 : decode cX6_take 165 = .ok (.iadd, 1) := by decide +kernel
theorem dX6_take_166 : decode cX6_take 166 = .ok (.iastore, 1) := by decide +kernel
theorem dX6_take_167 : decode cX6_take 167 = .ok (.return_, 1) := by decide +kernel
theorem dX6_spread_0 : decode cX6_spread 0 = .ok (.bipush 61, 2) := by decide +kernel
theorem dX6_spread_2 : decode cX6_spread 2 = .ok (.aload_n 0, 1) := by decide +kernel
theorem dX6_spread_3 : decode cX6_spread 3 = .ok (.aload_n 0, 1) := by decide +kernel
theorem dX6_spread_4 : decode cX6_spread 4 = .ok (.getfield 73, 3) := by decide +kernel
theorem dX6_spread_7 : decode cX6_spread 7 = .ok (.iload_n 1, 1) := by decide +kernel
theorem dX6_spread_8 : decode cX6_spread 8 = .ok (.laload, 1) := by decide +kernel
theorem dX6_spread_9 : decode cX6_spread 9 = .ok (.invokevirtual 99, 3) := by decide +kernel
theorem dX6_spread_12 : decode cX6_spread 12 = .ok (.isub, 1) := by decide +kernel
theorem dX6_spread_13 : decode cX6_spread 13 = .ok (.istore_n 2, 1) := by decide +kernel
theorem dX6_spread_14 : decode cX6_spread 14 = .ok (.aload_n 0, 1) := by decide +kernel
theorem dX6_spread_15 : decode cX6_spread 15 = .ok (.getfield 73, 3) := by decide +kernel
theorem dX6_spread_18 : decode cX6_spread 18 = .ok (.iload_n 1, 1) := by decide +kernel
theorem dX6_spread_19 : decode cX6_spread 19 = .ok (.dup2, 1) := by decide +kernel
theorem dX6_spread_20 : decode cX6_spread 20 = .ok (.laload, 1) := by decide +kernel
theorem dX6_spread_21 : decode cX6_spread 21 = .ok (.iload_n 2, 1) := by decide +kernel
theorem dX6_spread_22 : decode cX6_spread 22 = .ok (.lshl, 1) := by decide +kernel
theorem dX6_spread_23 : decode cX6_spread 23 = .ok (.lastore, 1) := by decide +kernel
theorem dX6_spread_24 : decode cX6_spread 24 = .ok (.aload_n 0, 1) := by decide +kernel
theorem dX6_spread_25 : decode cX6_spread 25 = .ok (.getfield 67, 3) := by decide +kernel
theorem dX6_spread_28 : decode cX6_spread 28 = .ok (.iload_n 1, 1) := by decide +kernel
theorem dX6_spread_29 : decode cX6_spread 29 = .ok (.dup2, 1) := by decide +kernel
theorem dX6_spread_30 : decode cX6_spread 30 = .ok (.iaload, 1) := by decide +kernel
theorem dX6_spread_31 : decode cX6_spread 31 = .ok (.iload_n 2, 1) := by decide +kernel
theorem dX6_spread_32 : decode cX6_spread 32 = .ok (.isub, 1) := by decide +kernel
theorem dX6_spread_33 : decode cX6_spread 33 = .ok (.iastore, 1) := by decide +kernel
theorem dX6_spread_34 : decode cX6_spread 34 = .ok (.return_, 1) := by decide +kernel
theorem dX6_round_0 : decode cX6_round 0 = .ok (.aload_n 0, 1) := by decide +kernel
theorem dX6_round_1 : decode cX6_round 1 = .ok (.iload_n 1, 1) := by decide +kernel
theorem dX6_round_2 : decode cX6_round 2 = .ok (.invokevirtual 88, 3) := by decide +kernel
theorem dX6_round_5 : decode cX6_round 5 = .ok (.istore 7, 2) := by decide +kernel
theorem dX6_round_7 : decode cX6_round 7 = .ok (.aload_n 0, 1) := by decide +kernel
theorem dX6_round_8 : decode cX6_round 8 = .ok (.lload_n 3, 1) := by decide +kernel
theorem dX6_round_9 : decode cX6_round 9 = .ok (.invokevirtual 99, 3) := by decide +kernel
theorem dX6_round_12 : decode cX6_round 12 = .ok (.iload 5, 2) := by decide +kernel
theorem dX6_round_14 : decode cX6_round 14 = .ok (.iadd, 1) := by decide +kernel
theorem dX6_round_15 : decode cX6_round 15 = .ok (.iload 7, 2) := by decide +kernel
theorem dX6_round_17 : decode cX6_round 17 = .ok (.isub, 1) := by decide +kernel
theorem dX6_round_18 : decode cX6_round 18 = .ok (.istore 8, 2) := by decide +kernel
theorem dX6_round_20 : decode cX6_round 20 = .ok (.iload 8, 2) := by decide +kernel
theorem dX6_round_22 : decode cX6_round 22 = .ok (.aload_n 0, 1) := by decide +kernel
theorem dX6_round_23 : decode cX6_round 23 = .ok (.iload_n 1, 1) := by decide +kernel
theorem dX6_round_24 : decode cX6_round 24 = .ok (.invokevirtual 96, 3) := by decide +kernel
theorem dX6_round_27 : decode cX6_round 27 = .ok (.if_icmp .ge 10, 3) := by decide +kernel
theorem dX6_round_30 : decode cX6_round 30 = .ok (.aload_n 0, 1) := by decide +kernel
theorem dX6_round_31 : decode cX6_round 31 = .ok (.iload_n 1, 1) := by decide +kernel
theorem dX6_round_32 : decode cX6_round 32 = .ok (.invokevirtual 96, 3) := by decide +kernel
theorem dX6_round_35 : decode cX6_round 35 = .ok (.istore 8, 2) := by decide +kernel
theorem dX6_round_37 : decode cX6_round 37 = .ok (.iload 8, 2) := by decide +kernel
theorem dX6_round_39 : decode cX6_round 39 = .ok (.iload 5, 2) := by decide +kernel
theorem dX6_round_41 : decode cX6_round 41 = .ok (.isub, 1) := by decide +kernel
theorem dX6_round_42 : decode cX6_round 42 = .ok (.istore 9, 2) := by decide +kernel
theorem dX6_round_44 : decode cX6_round 44 = .ok (.iload 9, 2) := by decide +kernel
theorem dX6_round_46 : decode cX6_round 46 = .ok (.ifCond .gt 11, 3) := by decide +kernel
theorem dX6_round_49 : decode cX6_round 49 = .ok (.lload_n 3, 1) := by decide +kernel
theorem dX6_round_50 : decode cX6_round 50 = .ok (.iload 9, 2) := by decide +kernel
theorem dX6_round_52 : decode cX6_round 52 = .ok (.ineg, 1) := by decide +kernel
theorem dX6_round_53 : decode cX6_round 53 = .ok (.lshl, 1) := by decide +kernel
theorem dX6_round_54 : decode cX6_round 54 = .ok (.goto 18, 3) := by decide +kernel
theorem dX6_round_57 : decode cX6_round 57 = .ok (.iload 9, 2) := by decide +kernel
theorem dX6_round_59 : decode cX6_round 59 = .ok (.bipush 62, 2) := by decide +kernel
theorem dX6_round_61 : decode cX6_round 61 = .ok (.if_icmp .le 7, 3) := by decide +kernel
theorem dX6_round_64 : decode cX6_round 64 = .ok (.lconst 0, 1) := by decide +kernel
theorem dX6_round_65 : decode cX6_round 65 = .ok (.goto 7, 3) := by decide +kernel
theorem dX6_round_68 : decode cX6_round 68 = .ok (.lload_n 3, 1) := by decide +kernel
theorem dX6_round_69 : decode cX6_round 69 = .ok (.iload 9, 2) := by decide +kernel
theorem dX6_round_71 : decode cX6_round 71 = .ok (.lshr, 1) := by decide +kernel
theorem dX6_round_72 : decode cX6_round 72 = .ok (.lstore 10, 2) := by decide +kernel
theorem dX6_round_74 : decode cX6_round 74 = .ok (.iload 9, 2) := by decide +kernel
theorem dX6_round_76 : decode cX6_round 76 = .ok (.ifCond .le 63, 3) := by decide +kernel
theorem dX6_round_79 : decode cX6_round 79 = .ok (.iload 9, 2) := by decide +kernel
theorem dX6_round_81 : decode cX6_round 81 = .ok (.bipush 63, 2) := by decide +kernel
theorem dX6_round_83 : decode cX6_round 83 = .ok (.if_icmp .ge 56, 3) := by decide +kernel
theorem dX6_round_86 : decode cX6_round 86 = .ok (.lload_n 3, 1) := by decide +kernel
theorem dX6_round_87 : decode cX6_round 87 = .ok (.lload 10, 2) := by decide +kernel
theorem dX6_round_89 : decode cX6_round 89 = .ok (.iload 9, 2) := by decide +kernel
theorem dX6_round_91 : decode cX6_round 91 = .ok (.lshl, 1) := by decide +kernel
theorem dX6_round_92 : decode cX6_round 92 = .ok (.lsub, 1) := by decide +kernel
theorem dX6_round_93 : decode cX6_round 93 = .ok (.lstore 12, 2) := by decide +kernel
theorem dX6_round_95 : decode cX6_round 95 = .ok (.lconst 1, 1) := by decide +kernel
theorem dX6_round_96 : decode cX6_round 96 = .ok (.iload 9, 2) := by decide +kernel
theorem dX6_round_98 : decode cX6_round 98 = .ok (.iconst 1, 1) := by decide +kernel
theorem dX6_round_99 : decode cX6_round 99 = .ok (.isub, 1) := by decide +kernel
theorem dX6_round_100 : decode cX6_round 100 = .ok (.lshl, 1) := by decide +kernel
theorem dX6_round_101 : decode cX6_round 101 = .ok (.lstore 14, 2) := by decide +kernel
theorem dX6_round_103 : decode cX6_round 103 = .ok (.lload 12, 2) := by decide +kernel
theorem dX6_round_105 : decode cX6_round 105 = .ok (.lload 14, 2) := by decide +kernel
theorem dX6_round_107 : decode cX6_round 107 = .ok (.lcmp, 1) := by decide +kernel
theorem dX6_round_108 : decode cX6_round 108 = .ok (.ifCond .gt 25, 3) := by decide +kernel
theorem dX6_round_111 : decode cX6_round 111 = .ok (.lload 12, 2) := by decide +kernel
theorem dX6_round_113 : decode cX6_round 113 = .ok (.lload 14, 2) := by decide +kernel
theorem dX6_round_115 : decode cX6_round 115 = .ok (.lcmp, 1) := by decide +kernel
theorem dX6_round_116 : decode cX6_round 116 = .ok (.ifCond .ne 23, 3) := by decide +kernel
theorem dX6_round_119 : decode cX6_round 119 = .ok (.iload 6, 2) := by decide +kernel
theorem dX6_round_121 : decode cX6_round 121 = .ok (.ifCond .ne 12, 3) := by decide +kernel
theorem dX6_round_124 : decode cX6_round 124 = .ok (.lload 10, 2) := by decide +kernel
theorem dX6_round_126 : decode cX6_round 126 = .ok (.lconst 1, 1) := by decide +kernel
theorem dX6_round_127 : decode cX6_round 127 = .ok (.land, 1) := by decide +kernel
theorem dX6_round_128 : decode cX6_round 128 = .ok (.lconst 1, 1) := by decide +kernel
theorem dX6_round_129 : decode cX6_round 129 = .ok (.lcmp, 1) := by decide +kernel
theorem dX6_round_130 : decode cX6_round 130 = .ok (.ifCond .ne 9, 3) := by decide +kernel
theorem dX6_round_133 : decode cX6_round 133 = .ok (.lload 10, 2) := by decide +kernel
theorem dX6_round_135 : decode cX6_round 135 = .ok (.lconst 1, 1) := by decide +kernel
theorem dX6_round_136 : decode cX6_round 136 = .ok (.ladd, 1) := by decide +kernel
theorem dX6_round_137 : decode cX6_round 137 = .ok (.lstore 10, 2) := by decide +kernel
theorem dX6_round_139 : decode cX6_round 139 = .ok (.lload 10, 2) := by decide +kernel
theorem dX6_round_141 : decode cX6_round 141 = .ok (.lconst 1, 1) := by decide +kernel
theorem dX6_round_142 : decode cX6_round 142 = .ok (.iload 7, 2) := by decide +kernel
theorem dX6_round_144 : decode cX6_round 144 = .ok (.lshl, 1) := by decide +kernel
theorem dX6_round_145 : decode cX6_round 145 = .ok (.lcmp, 1) := by decide +kernel
theorem dX6_round_146 : decode cX6_round 146 = .ok (.ifCond .ne 12, 3) := by decide +kernel
theorem dX6_round_149 : decode cX6_round 149 = .ok (.lload 10, 2) := by decide +kernel
theorem dX6_round_151 : decode cX6_round 151 = .ok (.iconst 1, 1) := by decide +kernel
theorem dX6_round_152 : decode cX6_round 152 = .ok (.lshr, 1) := by decide +kernel
theorem dX6_round_153 : decode cX6_round 153 = .ok (.lstore 10, 2) := by decide +kernel
theorem dX6_round_155 : decode cX6_round 155 = .ok (.iinc 8 1, 3) := by decide +kernel
theorem dX6_round_158 : decode cX6_round 158 = .ok (.iload 8, 2) := by decide +kernel
theorem dX6_round_160 : decode cX6_round 160 = .ok (.iload 7, 2) := by decide +kernel
theorem dX6_round_162 : decode cX6_round 162 = .ok (.iadd, 1) := by decide +kernel
theorem dX6_round_163 : decode cX6_round 163 = .ok (.iload_n 1, 1) := by decide +kernel
theorem dX6_round_164 : decode cX6_round 164 = .ok (.ifCond .eq 9, 3) := by decide +kernel
theorem dX6_round_167 : decode cX6_round 167 = .ok (.sipush 1024, 3) := by decide +kernel
theorem dX6_round_170 : decode cX6_round 170 = .ok (.goto 6, 3) := by decide +kernel
theorem dX6_round_173 : decode cX6_round 173 = .ok (.sipush 128, 3) := by decide +kernel
theorem dX6_round_176 : decode cX6_round 176 = .ok (.if_icmp .le 15, 3) := by decide +kernel
theorem dX6_round_179 : decode cX6_round 179 = .ok (.aload_n 0, 1) := by decide +kernel
theorem dX6_round_180 : decode cX6_round 180 = .ok (.iload_n 1, 1) := by decide +kernel
theorem dX6_round_181 : decode cX6_round 181 = .ok (.iload_n 2, 1) := by decide +kernel
theorem dX6_round_182 : decode cX6_round 182 = .ok (.aload_n 0, 1) := by decide +kernel
theorem dX6_round_183 : decode cX6_round 183 = .ok (.iload_n 1, 1) := by decide +kernel
theorem dX6_round_184 : decode cX6_round 184 = .ok (.invokevirtual 103, 3) := by decide +kernel
theorem dX6_round_187 : decode cX6_round 187 = .ok (.invokevirtual 107, 3) := by decide +kernel
theorem dX6_round_190 : decode cX6_round 190 = .ok (.lreturn, 1) := by decide +kernel
theorem dX6_round_191 : decode cX6_round 191 = .ok (.lload 10, 2) := by decide +kernel
theorem dX6_round_193 : decode cX6_round 193 = .ok (.lconst 1, 1) := by decide +kernel
theorem dX6_round_194 : decode cX6_round 194 = .ok (.iload 7, 2) := by decide +kernel
theorem dX6_round_196 : decode cX6_round 196 = .ok (.iconst 1, 1) := by decide +kernel
theorem dX6_round_197 : decode cX6_round 197 = .ok (.isub, 1) := by decide +kernel
theorem dX6_round_198 : decode cX6_round 198 = .ok (.lshl, 1) := by decide +kernel
theorem dX6_round_199 : decode cX6_round 199 = .ok (.lcmp, 1) := by decide +kernel
theorem dX6_round_200 : decode cX6_round 200 = .ok (.ifCond .ge 7, 3) := by decide +kernel
theorem dX6_round_203 : decode cX6_round 203 = .ok (.lconst 0, 1) := by decide +kernel
theorem dX6_round_204 : decode cX6_round 204 = .ok (.goto 14, 3) := by decide +kernel
theorem dX6_round_207 : decode cX6_round 207 = .ok (.iload 8, 2) := by decide +kernel
theorem dX6_round_209 : decode cX6_round 209 = .ok (.aload_n 0, 1) := by decide +kernel
theorem dX6_round_210 : decode cX6_round 210 = .ok (.iload_n 1, 1) := by decide +kernel
theorem dX6_round_211 : decode cX6_round 211 = .ok (.invokevirtual 96, 3) := by decide +kernel
theorem dX6_round_214 : decode cX6_round 214 = .ok (.isub, 1) := by decide +kernel
theorem dX6_round_215 : decode cX6_round 215 = .ok (.iconst 1, 1) := by decide +kernel
theorem dX6_round_216 : decode cX6_round 216 = .ok (.iadd, 1) := by decide +kernel
theorem dX6_round_217 : decode cX6_round 217 = .ok (.i2l, 1) := by decide +kernel
theorem dX6_round_218 : decode cX6_round 218 = .ok (.lstore 12, 2) := by decide +kernel
theorem dX6_round_220 : decode cX6_round 220 = .ok (.aload_n 0, 1) := by decide +kernel
theorem dX6_round_221 : decode cX6_round 221 = .ok (.iload_n 1, 1) := by decide +kernel
theorem dX6_round_222 : decode cX6_round 222 = .ok (.iload_n 2, 1) := by decide +kernel
theorem dX6_round_223 : decode cX6_round 223 = .ok (.lload 12, 2) := by decide +kernel
theorem dX6_round_225 : decode cX6_round 225 = .ok (.lconst 0, 1) := by decide +kernel
theorem dX6_round_226 : decode cX6_round 226 = .ok (.lcmp, 1) := by decide +kernel
theorem dX6_round_227 : decode cX6_round 227 = .ok (.ifCond .ne 8, 3) := by decide +kernel
theorem dX6_round_230 : decode cX6_round 230 = .ok (.lload 10, 2) := by decide +kernel
theorem dX6_round_232 : decode cX6_round 232 = .ok (.goto 20, 3) := by decide +kernel
theorem dX6_round_235 : decode cX6_round 235 = .ok (.lload 12, 2) := by decide +kernel
theorem dX6_round_237 : decode cX6_round 237 = .ok (.iload 7, 2) := by decide +kernel
theorem dX6_round_239 : decode cX6_round 239 = .ok (.iconst 1, 1) := by decide +kernel
theorem dX6_round_240 : decode cX6_round 240 = .ok (.isub, 1) := by decide +kernel
theorem dX6_round_241 : decode cX6_round 241 = .ok (.lshl, 1) := by decide +kernel
theorem dX6_round_242 : decode cX6_round 242 = .ok (.lload 10, 2) := by decide +kernel
theorem dX6_round_244 : decode cX6_round 244 = .ok (.lconst 1, 1) := by decide +kernel
theorem dX6_round_245 : decode cX6_round 245 = .ok (.iload 7, 2) := by decide +kernel
theorem dX6_round_247 : decode cX6_round 247 = .ok (.iconst 1, 1) := by decide +kernel
theorem dX6_round_248 : decode cX6_round 248 = .ok (.isub, 1) := by decide +kernel
theorem dX6_round_249 : decode cX6_round 249 = .ok (.lshl, 1) := by decide +kernel
theorem dX6_round_250 : decode cX6_round 250 = .ok (.lsub, 1) := by decide +kernel
theorem dX6_round_251 : decode cX6_round 251 = .ok (.ladd, 1) := by decide +kernel
theorem dX6_round_252 : decode cX6_round 252 = .ok (.invokevirtual 107, 3) := by decide +kernel
theorem dX6_round_255 : decode cX6_round 255 = .ok (.lreturn, 1) := by decide +kernel
theorem dX6_sum_0 : decode cX6_sum 0 = .ok (.aload_n 0, 1) := by decide +kernel
theorem dX6_sum_1 : decode cX6_sum 1 = .ok (.iconst 0, 1) := by decide +kernel
theorem dX6_sum_2 : decode cX6_sum 2 = .ok (.lload_n 2, 1) := by decide +kernel
theorem dX6_sum_3 : decode cX6_sum 3 = .ok (.iload_n 1, 1) := by decide +kernel
theorem dX6_sum_4 : decode cX6_sum 4 = .ok (.invokevirtual 111, 3) := by decide +kernel
theorem dX6_sum_7 : decode cX6_sum 7 = .ok (.aload_n 0, 1) := by decide +kernel
theorem dX6_sum_8 : decode cX6_sum 8 = .ok (.iconst 1, 1) := by decide +kernel
theorem dX6_sum_9 : decode cX6_sum 9 = .ok (.lload 4, 2) := by decide +kernel
theorem dX6_sum_11 : decode cX6_sum 11 = .ok (.iload_n 1, 1) := by decide +kernel
theorem dX6_sum_12 : decode cX6_sum 12 = .ok (.invokevirtual 111, 3) := by decide +kernel
theorem dX6_sum_15 : decode cX6_sum 15 = .ok (.aload_n 0, 1) := by decide +kernel
theorem dX6_sum_16 : decode cX6_sum 16 = .ok (.getfield 64, 3) := by decide +kernel
theorem dX6_sum_19 : decode cX6_sum 19 = .ok (.iconst 0, 1) := by decide +kernel
theorem dX6_sum_20 : decode cX6_sum 20 = .ok (.iaload, 1) := by decide +kernel
theorem dX6_sum_21 : decode cX6_sum 21 = .ok (.iconst 3, 1) := by decide +kernel
theorem dX6_sum_22 : decode cX6_sum 22 = .ok (.if_icmp .eq 13, 3) := by decide +kernel
theorem dX6_sum_25 : decode cX6_sum 25 = .ok (.aload_n 0, 1) := by decide +kernel
theorem dX6_sum_26 : decode cX6_sum 26 = .ok (.getfield 64, 3) := by decide +kernel
theorem dX6_sum_29 : decode cX6_sum 29 = .ok (.iconst 1, 1) := by decide +kernel
theorem dX6_sum_30 : decode cX6_sum 30 = .ok (.iaload, 1) := by decide +kernel
theorem dX6_sum_31 : decode cX6_sum 31 = .ok (.iconst 3, 1) := by decide +kernel
theorem dX6_sum_32 : decode cX6_sum 32 = .ok (.if_icmp .ne 9, 3) := by decide +kernel
theorem dX6_sum_35 : decode cX6_sum 35 = .ok (.aload_n 0, 1) := by decide +kernel
theorem dX6_sum_36 : decode cX6_sum 36 = .ok (.iload_n 1, 1) := by decide +kernel
theorem dX6_sum_37 : decode cX6_sum 37 = .ok (.invokevirtual 115, 3) := by decide +kernel
theorem dX6_sum_40 : decode cX6_sum 40 = .ok (.lreturn, 1) := by decide +kernel
theorem dX6_sum_41 : decode cX6_sum 41 = .ok (.aload_n 0, 1) := by decide +kernel
theorem dX6_sum_42 : decode cX6_sum 42 = .ok (.getfield 64, 3) := by decide +kernel
theorem dX6_sum_45 : decode cX6_sum 45 = .ok (.iconst 0, 1) := by decide +kernel
theorem dX6_sum_46 : decode cX6_sum 46 = .ok (.iaload, 1) := by decide +kernel
theorem dX6_sum_47 : decode cX6_sum 47 = .ok (.iconst 2, 1) := by decide +kernel
theorem dX6_sum_48 : decode cX6_sum 48 = .ok (.if_icmp .eq 13, 3) := by decide +kernel
theorem dX6_sum_51 : decode cX6_sum 51 = .ok (.aload_n 0, 1) := by decide +kernel
theorem dX6_sum_52 : decode cX6_sum 52 = .ok (.getfield 64, 3) := by decide +kernel
theorem dX6_sum_55 : decode cX6_sum 55 = .ok (.iconst 1, 1) := by decide +kernel
theorem dX6_sum_56 : decode cX6_sum 56 = .ok (.iaload, 1) := by decide +kernel
theorem dX6_sum_57 : decode cX6_sum 57 = .ok (.iconst 2, 1) := by decide +kernel
theorem dX6_sum_58 : decode cX6_sum 58 = .ok (.if_icmp .ne 63, 3) := by decide +kernel
theorem dX6_sum_61 : decode cX6_sum 61 = .ok (.aload_n 0, 1) := by decide +kernel
theorem dX6_sum_62 : decode cX6_sum 62 = .ok (.getfield 64, 3) := by decide +kernel
theorem dX6_sum_65 : decode cX6_sum 65 = .ok (.iconst 0, 1) := by decide +kernel
theorem dX6_sum_66 : decode cX6_sum 66 = .ok (.iaload, 1) := by decide +kernel
theorem dX6_sum_67 : decode cX6_sum 67 = .ok (.iconst 2, 1) := by decide +kernel
theorem dX6_sum_68 : decode cX6_sum 68 = .ok (.if_icmp .ne 36, 3) := by decide +kernel
theorem dX6_sum_71 : decode cX6_sum 71 = .ok (.aload_n 0, 1) := by decide +kernel
theorem dX6_sum_72 : decode cX6_sum 72 = .ok (.getfield 64, 3) := by decide +kernel
theorem dX6_sum_75 : decode cX6_sum 75 = .ok (.iconst 1, 1) := by decide +kernel
theorem dX6_sum_76 : decode cX6_sum 76 = .ok (.iaload, 1) := by decide +kernel
theorem dX6_sum_77 : decode cX6_sum 77 = .ok (.iconst 2, 1) := by decide +kernel
theorem dX6_sum_78 : decode cX6_sum 78 = .ok (.if_icmp .ne 26, 3) := by decide +kernel
theorem dX6_sum_81 : decode cX6_sum 81 = .ok (.aload_n 0, 1) := by decide +kernel
theorem dX6_sum_82 : decode cX6_sum 82 = .ok (.getfield 70, 3) := by decide +kernel
theorem dX6_sum_85 : decode cX6_sum 85 = .ok (.iconst 0, 1) := by decide +kernel
theorem dX6_sum_86 : decode cX6_sum 86 = .ok (.baload, 1) := by decide +kernel
theorem dX6_sum_87 : decode cX6_sum 87 = .ok (.aload_n 0, 1) := by decide +kernel
theorem dX6_sum_88 : decode cX6_sum 88 = .ok (.getfield 70, 3) := by decide +kernel
theorem dX6_sum_91 : decode cX6_sum 91 = .ok (.iconst 1, 1) := by decide +kernel
theorem dX6_sum_92 : decode cX6_sum 92 = .ok (.baload, 1) := by decide +kernel
theorem dX6_sum_93 : decode cX6_sum 93 = .ok (.if_icmp .eq 11, 3) := by decide +kernel
theorem dX6_sum_96 : decode cX6_sum 96 = .ok (.aload_n 0, 1) := by decide +kernel
theorem dX6_sum_97 : decode cX6_sum 97 = .ok (.iload_n 1, 1) := by decide +kernel
theorem dX6_sum_98 : decode cX6_sum 98 = .ok (.invokevirtual 115, 3) := by decide +kernel
theorem dX6_sum_101 : decode cX6_sum 101 = .ok (.goto 19, 3) := by decide +kernel
theorem dX6_sum_104 : decode cX6_sum 104 = .ok (.aload_n 0, 1) := by decide +kernel
theorem dX6_sum_105 : decode cX6_sum 105 = .ok (.getfield 64, 3) := by decide +kernel
theorem dX6_sum_108 : decode cX6_sum 108 = .ok (.iconst 0, 1) := by decide +kernel
theorem dX6_sum_109 : decode cX6_sum 109 = .ok (.iaload, 1) := by decide +kernel
theorem dX6_sum_110 : decode cX6_sum 110 = .ok (.iconst 2, 1) := by decide +kernel
theorem dX6_sum_111 : decode cX6_sum 111 = .ok (.if_icmp .ne 7, 3) := by decide +kernel
theorem dX6_sum_114 : decode cX6_sum 114 = .ok (.lload_n 2, 1) := by decide +kernel
theorem dX6_sum_115 : decode cX6_sum 115 = .ok (.goto 5, 3) := by decide +kernel
theorem dX6_sum_118 : decode cX6_sum 118 = .ok (.lload 4, 2) := by decide +kernel
theorem dX6_sum_120 : decode cX6_sum 120 = .ok (.lreturn, 1) := by decide +kernel
theorem dX6_sum_121 : decode cX6_sum 121 = .ok (.aload_n 0, 1) := by decide +kernel
theorem dX6_sum_122 : decode cX6_sum 122 = .ok (.getfield 64, 3) := by decide +kernel
theorem dX6_sum_125 : decode cX6_sum 125 = .ok (.iconst 0, 1) := by decide +kernel
theorem dX6_sum_126 : decode cX6_sum 126 = .ok (.iaload, 1) := by decide +kernel
theorem dX6_sum_127 : decode cX6_sum 127 = .ok (.ifCond .ne 41, 3) := by decide +kernel
theorem dX6_sum_130 : decode cX6_sum 130 = .ok (.aload_n 0, 1) := by decide +kernel
theorem dX6_sum_131 : decode cX6_sum 131 = .ok (.getfield 64, 3) := by decide +kernel
theorem dX6_sum_134 : decode cX6_sum 134 = .ok (.iconst 1, 1) := by decide +kernel
theorem dX6_sum_135 : decode cX6_sum 135 = .ok (.iaload, 1) := by decide +kernel
theorem dX6_sum_136 : decode cX6_sum 136 = .ok (.ifCond .ne 29, 3) := by decide +kernel
theorem dX6_sum_139 : decode cX6_sum 139 = .ok (.aload_n 0, 1) := by decide +kernel
theorem dX6_sum_140 : decode cX6_sum 140 = .ok (.getfield 70, 3) := by decide +kernel
theorem dX6_sum_143 : decode cX6_sum 143 = .ok (.iconst 0, 1) := by decide +kernel
theorem dX6_sum_144 : decode cX6_sum 144 = .ok (.baload, 1) := by decide +kernel
theorem dX6_sum_145 : decode cX6_sum 145 = .ok (.ifCond .eq 16, 3) := by decide +kernel
theorem dX6_sum_148 : decode cX6_sum 148 = .ok (.aload_n 0, 1) := by decide +kernel
theorem dX6_sum_149 : decode cX6_sum 149 = .ok (.getfield 70, 3) := by decide +kernel
theorem dX6_sum_152 : decode cX6_sum 152 = .ok (.iconst 1, 1) := by decide +kernel
theorem dX6_sum_153 : decode cX6_sum 153 = .ok (.baload, 1) := by decide +kernel
theorem dX6_sum_154 : decode cX6_sum 154 = .ok (.ifCond .eq 7, 3) := by decide +kernel
theorem dX6_sum_157 : decode cX6_sum 157 = .ok (.lload_n 2, 1) := by decide +kernel
theorem dX6_sum_158 : decode cX6_sum 158 = .ok (.goto 9, 3) := by decide +kernel
theorem dX6_sum_161 : decode cX6_sum 161 = .ok (.lconst 0, 1) := by decide +kernel
theorem dX6_sum_162 : decode cX6_sum 162 = .ok (.goto 5, 3) := by decide +kernel
theorem dX6_sum_165 : decode cX6_sum 165 = .ok (.lload 4, 2) := by decide +kernel
theorem dX6_sum_167 : decode cX6_sum 167 = .ok (.lreturn, 1) := by decide +kernel
theorem dX6_sum_168 : decode cX6_sum 168 = .ok (.aload_n 0, 1) := by decide +kernel
theorem dX6_sum_169 : decode cX6_sum 169 = .ok (.getfield 64, 3) := by decide +kernel
theorem dX6_sum_172 : decode cX6_sum 172 = .ok (.iconst 1, 1) := by decide +kernel
theorem dX6_sum_173 : decode cX6_sum 173 = .ok (.iaload, 1) := by decide +kernel
theorem dX6_sum_174 : decode cX6_sum 174 = .ok (.ifCond .ne 5, 3) := by decide +kernel
theorem dX6_sum_177 : decode cX6_sum 177 = .ok (.lload_n 2, 1) := by decide +kernel
theorem dX6_sum_178 : decode cX6_sum 178 = .ok (.lreturn, 1) := by decide +kernel
theorem dX6_sum_179 : decode cX6_sum 179 = .ok (.aload_n 0, 1) := by decide +kernel
theorem dX6_sum_180 : decode cX6_sum 180 = .ok (.iconst 0, 1) := by decide +kernel
theorem dX6_sum_181 : decode cX6_sum 181 = .ok (.invokevirtual 118, 3) := by decide +kernel
theorem dX6_sum_184 : decode cX6_sum 184 = .ok (.aload_n 0, 1) := by decide +kernel
theorem dX6_sum_185 : decode cX6_sum 185 = .ok (.iconst 1, 1) := by decide +kernel
theorem dX6_sum_186 : decode cX6_sum 186 = .ok (.invokevirtual 118, 3) := by decide +kernel
theorem dX6_sum_189 : decode cX6_sum 189 = .ok (.aload_n 0, 1) := by decide +kernel
theorem dX6_sum_190 : decode cX6_sum 190 = .ok (.getfield 67, 3) := by decide +kernel
theorem dX6_sum_193 : decode cX6_sum 193 = .ok (.iconst 0, 1) := by decide +kernel
theorem dX6_sum_194 : decode cX6_sum 194 = .ok (.iaload, 1) := by decide +kernel
theorem dX6_sum_195 : decode cX6_sum 195 = .ok (.aload_n 0, 1) := by decide +kernel
theorem dX6_sum_196 : decode cX6_sum 196 = .ok (.getfield 67, 3) := by decide +kernel
theorem dX6_sum_199 : decode cX6_sum 199 = .ok (.iconst 1, 1) := by decide +kernel
theorem dX6_sum_200 : decode cX6_sum 200 = .ok (.iaload, 1) := by decide +kernel
theorem dX6_sum_201 : decode cX6_sum 201 = .ok (.if_icmp .gt 34, 3) := by decide +kernel
theorem dX6_sum_204 : decode cX6_sum 204 = .ok (.aload_n 0, 1) := by decide +kernel
theorem dX6_sum_205 : decode cX6_sum 205 = .ok (.getfield 67, 3) := by decide +kernel
theorem dX6_sum_208 : decode cX6_sum 208 = .ok (.iconst 0, 1) := by decide +kernel
theorem dX6_sum_209 : decode cX6_sum 209 = .ok (.iaload, 1) := by decide +kernel
theorem dX6_sum_210 : decode cX6_sum 210 = .ok (.aload_n 0, 1) := by decide +kernel
theorem dX6_sum_211 : decode cX6_sum 211 = .ok (.getfield 67, 3) := by decide +kernel
theorem dX6_sum_214 : decode cX6_sum 214 = .ok (.iconst 1, 1) := by decide +kernel
theorem dX6_sum_215 : decode cX6_sum 215 = .ok (.iaload, 1) := by decide +kernel
theorem dX6_sum_216 : decode cX6_sum 216 = .ok (.if_icmp .ne 23, 3) := by decide +kernel
theorem dX6_sum_219 : decode cX6_sum 219 = .ok (.aload_n 0, 1) := by decide +kernel
theorem dX6_sum_220 : decode cX6_sum 220 = .ok (.getfield 73, 3) := by decide +kernel
theorem dX6_sum_223 : decode cX6_sum 223 = .ok (.iconst 0, 1) := by decide +kernel
theorem dX6_sum_224 : decode cX6_sum 224 = .ok (.laload, 1) := by decide +kernel
theorem dX6_sum_225 : decode cX6_sum 225 = .ok (.aload_n 0, 1) := by decide +kernel
theorem dX6_sum_226 : decode cX6_sum 226 = .ok (.getfield 73, 3) := by decide +kernel
theorem dX6_sum_229 : decode cX6_sum 229 = .ok (.iconst 1, 1) := by decide +kernel
theorem dX6_sum_230 : decode cX6_sum 230 = .ok (.laload, 1) := by decide +kernel
theorem dX6_sum_231 : decode cX6_sum 231 = .ok (.lcmp, 1) := by decide +kernel
theorem dX6_sum_232 : decode cX6_sum 232 = .ok (.ifCond .lt 7, 3) := by decide +kernel
theorem dX6_sum_235 : decode cX6_sum 235 = .ok (.iconst 0, 1) := by decide +kernel
theorem dX6_sum_236 : decode cX6_sum 236 = .ok (.goto 4, 3) := by decide +kernel
theorem dX6_sum_239 : decode cX6_sum 239 = .ok (.iconst 1, 1) := by decide +kernel
theorem dX6_sum_240 : decode cX6_sum 240 = .ok (.istore 6, 2) := by decide +kernel
theorem dX6_sum_242 : decode cX6_sum 242 = .ok (.iconst 1, 1) := by decide +kernel
theorem dX6_sum_243 : decode cX6_sum 243 = .ok (.iload 6, 2) := by decide +kernel
theorem dX6_sum_245 : decode cX6_sum 245 = .ok (.isub, 1) := by decide +kernel
theorem dX6_sum_246 : decode cX6_sum 246 = .ok (.istore 7, 2) := by decide +kernel
theorem dX6_sum_248 : decode cX6_sum 248 = .ok (.aload_n 0, 1) := by decide +kernel
theorem dX6_sum_249 : decode cX6_sum 249 = .ok (.getfield 67, 3) := by decide +kernel
theorem dX6_sum_252 : decode cX6_sum 252 = .ok (.iload 6, 2) := by decide +kernel
theorem dX6_sum_254 : decode cX6_sum 254 = .ok (.iaload, 1) := by decide +kernel
theorem dX6_sum_255 : decode cX6_sum 255 = .ok (.aload_n 0, 1) := by decide +kernel
theorem dX6_sum_256 : decode cX6_sum 256 = .ok (.getfield 67, 3) := by decide +kernel
theorem dX6_sum_259 : decode cX6_sum 259 = .ok (.iload 7, 2) := by decide +kernel
theorem dX6_sum_261 : decode cX6_sum 261 = .ok (.iaload, 1) := by decide +kernel
theorem dX6_sum_262 : decode cX6_sum 262 = .ok (.isub, 1) := by decide +kernel
theorem dX6_sum_263 : decode cX6_sum 263 = .ok (.istore 8, 2) := by decide +kernel
theorem dX6_sum_265 : decode cX6_sum 265 = .ok (.iload 8, 2) := by decide +kernel
theorem dX6_sum_267 : decode cX6_sum 267 = .ok (.bipush 62, 2) := by decide +kernel
theorem dX6_sum_269 : decode cX6_sum 269 = .ok (.if_icmp .le 7, 3) := by decide +kernel
theorem dX6_sum_272 : decode cX6_sum 272 = .ok (.lconst 0, 1) := by decide +kernel
theorem dX6_sum_273 : decode cX6_sum 273 = .ok (.goto 13, 3) := by decide +kernel
theorem dX6_sum_276 : decode cX6_sum 276 = .ok (.aload_n 0, 1) := by decide +kernel
theorem dX6_sum_277 : decode cX6_sum 277 = .ok (.getfield 73, 3) := by decide +kernel
theorem dX6_sum_280 : decode cX6_sum 280 = .ok (.iload 7, 2) := by decide +kernel
theorem dX6_sum_282 : decode cX6_sum 282 = .ok (.laload, 1) := by decide +kernel
theorem dX6_sum_283 : decode cX6_sum 283 = .ok (.iload 8, 2) := by decide +kernel
theorem dX6_sum_285 : decode cX6_sum 285 = .ok (.lshr, 1) := by decide +kernel
theorem dX6_sum_286 : decode cX6_sum 286 = .ok (.lstore 9, 2) := by decide +kernel
theorem dX6_sum_288 : decode cX6_sum 288 = .ok (.iload 8, 2) := by decide +kernel
theorem dX6_sum_290 : decode cX6_sum 290 = .ok (.bipush 62, 2) := by decide +kernel
theorem dX6_sum_292 : decode cX6_sum 292 = .ok (.if_icmp .gt 19, 3) := by decide +kernel
theorem dX6_sum_295 : decode cX6_sum 295 = .ok (.lload 9, 2) := by decide +kernel
theorem dX6_sum_297 : decode cX6_sum 297 = .ok (.iload 8, 2) := by decide +kernel
theorem dX6_sum_299 : decode cX6_sum 299 = .ok (.lshl, 1) := by decide +kernel
theorem dX6_sum_300 : decode cX6_sum 300 = .ok (.aload_n 0, 1) := by decide +kernel
theorem dX6_sum_301 : decode cX6_sum 301 = .ok (.getfield 73, 3) := by decide +kernel
theorem dX6_sum_304 : decode cX6_sum 304 = .ok (.iload 7, 2) := by decide +kernel
theorem dX6_sum_306 : decode cX6_sum 306 = .ok (.laload, 1) := by decide +kernel
theorem dX6_sum_307 : decode cX6_sum 307 = .ok (.lcmp, 1) := by decide +kernel
theorem dX6_sum_308 : decode cX6_sum 308 = .ok (.ifCond .eq 7, 3) := by decide +kernel
theorem dX6_sum_311 : decode cX6_sum 311 = .ok (.iconst 1, 1) := by decide +kernel
theorem dX6_sum_312 : decode cX6_sum 312 = .ok (.goto 4, 3) := by decide +kernel
theorem dX6_sum_315 : decode cX6_sum 315 = .ok (.iconst 0, 1) := by decide +kernel
theorem dX6_sum_316 : decode cX6_sum 316 = .ok (.istore 11, 2) := by decide +kernel
theorem dX6_sum_318 : decode cX6_sum 318 = .ok (.aload_n 0, 1) := by decide +kernel
theorem dX6_sum_319 : decode cX6_sum 319 = .ok (.getfield 70, 3) := by decide +kernel
theorem dX6_sum_322 : decode cX6_sum 322 = .ok (.iconst 0, 1) := by decide +kernel
theorem dX6_sum_323 : decode cX6_sum 323 = .ok (.baload, 1) := by decide +kernel
theorem dX6_sum_324 : decode cX6_sum 324 = .ok (.aload_n 0, 1) := by decide +kernel
theorem dX6_sum_325 : decode cX6_sum 325 = .ok (.getfield 70, 3) := by decide +kernel
theorem dX6_sum_328 : decode cX6_sum 328 = .ok (.iconst 1, 1) := by decide +kernel
theorem dX6_sum_329 : decode cX6_sum 329 = .ok (.baload, 1) := by decide +kernel
theorem dX6_sum_330 : decode cX6_sum 330 = .ok (.if_icmp .ne 34, 3) := by decide +kernel
theorem dX6_sum_333 : decode cX6_sum 333 = .ok (.aload_n 0, 1) := by decide +kernel
theorem dX6_sum_334 : decode cX6_sum 334 = .ok (.iload_n 1, 1) := by decide +kernel
theorem dX6_sum_335 : decode cX6_sum 335 = .ok (.aload_n 0, 1) := by decide +kernel
theorem dX6_sum_336 : decode cX6_sum 336 = .ok (.getfield 70, 3) := by decide +kernel
theorem dX6_sum_339 : decode cX6_sum 339 = .ok (.iconst 0, 1) := by decide +kernel
theorem dX6_sum_340 : decode cX6_sum 340 = .ok (.baload, 1) := by decide +kernel
theorem dX6_sum_341 : decode cX6_sum 341 = .ok (.aload_n 0, 1) := by decide +kernel
theorem dX6_sum_342 : decode cX6_sum 342 = .ok (.getfield 73, 3) := by decide +kernel
theorem dX6_sum_345 : decode cX6_sum 345 = .ok (.iload 6, 2) := by decide +kernel
theorem dX6_sum_347 : decode cX6_sum 347 = .ok (.laload, 1) := by decide +kernel
theorem dX6_sum_348 : decode cX6_sum 348 = .ok (.lload 9, 2) := by decide +kernel
theorem dX6_sum_350 : decode cX6_sum 350 = .ok (.ladd, 1) := by decide +kernel
theorem dX6_sum_351 : decode cX6_sum 351 = .ok (.aload_n 0, 1) := by decide +kernel
theorem dX6_sum_352 : decode cX6_sum 352 = .ok (.getfield 67, 3) := by decide +kernel
theorem dX6_sum_355 : decode cX6_sum 355 = .ok (.iload 6, 2) := by decide +kernel
theorem dX6_sum_357 : decode cX6_sum 357 = .ok (.iaload, 1) := by decide +kernel
theorem dX6_sum_358 : decode cX6_sum 358 = .ok (.iload 11, 2) := by decide +kernel
theorem dX6_sum_360 : decode cX6_sum 360 = .ok (.invokevirtual 122, 3) := by decide +kernel
theorem dX6_sum_363 : decode cX6_sum 363 = .ok (.lreturn, 1) := by decide +kernel
theorem dX6_sum_364 : decode cX6_sum 364 = .ok (.aload_n 0, 1) := by decide +kernel
theorem dX6_sum_365 : decode cX6_sum 365 = .ok (.getfield 73, 3) := by decide +kernel
theorem dX6_sum_368 : decode cX6_sum 368 = .ok (.iload 6, 2) := by decide +kernel
theorem dX6_sum_370 : decode cX6_sum 370 = .ok (.laload, 1) := by decide +kernel
theorem dX6_sum_371 : decode cX6_sum 371 = .ok (.lload 9, 2) := by decide +kernel
theorem dX6_sum_373 : decode cX6_sum 373 = .ok (.lsub, 1) := by decide +kernel
theorem dX6_sum_374 : decode cX6_sum 374 = .ok (.iload 11, 2) := by decide +kernel
theorem dX6_sum_376 : decode cX6_sum 376 = .ok (.ifCond .eq 7, 3) := by decide +kernel
theorem dX6_sum_379 : decode cX6_sum 379 = .ok (.iconst 1, 1) := by decide +kernel
theorem dX6_sum_380 : decode cX6_sum 380 = .ok (.goto 4, 3) := by decide +kernel
theorem dX6_sum_383 : decode cX6_sum 383 = .ok (.iconst 0, 1) := by decide +kernel
theorem dX6_sum_384 : decode cX6_sum 384 = .ok (.i2l, 1) := by decide +kernel
theorem dX6_sum_385 : decode cX6_sum 385 = .ok (.lsub, 1) := by decide +kernel
theorem dX6_sum_386 : decode cX6_sum 386 = .ok (.lstore 12, 2) := by decide +kernel
theorem dX6_sum_388 : decode cX6_sum 388 = .ok (.lload 12, 2) := by decide +kernel
theorem dX6_sum_390 : decode cX6_sum 390 = .ok (.lconst 0, 1) := by decide +kernel
theorem dX6_sum_391 : decode cX6_sum 391 = .ok (.lcmp, 1) := by decide +kernel
theorem dX6_sum_392 : decode cX6_sum 392 = .ok (.ifCond .ne 7, 3) := by decide +kernel
theorem dX6_sum_395 : decode cX6_sum 395 = .ok (.lconst 0, 1) := by decide +kernel
theorem dX6_sum_396 : decode cX6_sum 396 = .ok (.goto 26, 3) := by decide +kernel
theorem dX6_sum_399 : decode cX6_sum 399 = .ok (.aload_n 0, 1) := by decide +kernel
theorem dX6_sum_400 : decode cX6_sum 400 = .ok (.iload_n 1, 1) := by decide +kernel
theorem dX6_sum_401 : decode cX6_sum 401 = .ok (.aload_n 0, 1) := by decide +kernel
theorem dX6_sum_402 : decode cX6_sum 402 = .ok (.getfield 70, 3) := by decide +kernel
theorem dX6_sum_405 : decode cX6_sum 405 = .ok (.iload 6, 2) := by decide +kernel
theorem dX6_sum_407 : decode cX6_sum 407 = .ok (.baload, 1) := by decide +kernel
theorem dX6_sum_408 : decode cX6_sum 408 = .ok (.lload 12, 2) := by decide +kernel
theorem dX6_sum_410 : decode cX6_sum 410 = .ok (.aload_n 0, 1) := by decide +kernel
theorem dX6_sum_411 : decode cX6_sum 411 = .ok (.getfield 67, 3) := by decide +kernel
theorem dX6_sum_414 : decode cX6_sum 414 = .ok (.iload 6, 2) := by decide +kernel
theorem dX6_sum_416 : decode cX6_sum 416 = .ok (.iaload, 1) := by decide +kernel
theorem dX6_sum_417 : decode cX6_sum 417 = .ok (.iload 11, 2) := by decide +kernel
theorem dX6_sum_419 : decode cX6_sum 419 = .ok (.invokevirtual 122, 3) := by decide +kernel
theorem dX6_sum_422 : decode cX6_sum 422 = .ok (.lreturn, 1) := by decide +kernel
theorem dX6_product_0 : decode cX6_product 0 = .ok (.aload_n 0, 1) := by decide +kernel
theorem dX6_product_1 : decode cX6_product 1 = .ok (.iconst 0, 1) := by decide +kernel
theorem dX6_product_2 : decode cX6_product 2 = .ok (.lload_n 2, 1) := by decide +kernel
theorem dX6_product_3 : decode cX6_product 3 = .ok (.iload_n 1, 1) := by decide +kernel
theorem dX6_product_4 : decode cX6_product 4 = .ok (.invokevirtual 111, 3) := by decide +kernel
theorem dX6_product_7 : decode cX6_product 7 = .ok (.aload_n 0, 1) := by decide +kernel
theorem dX6_product_8 : decode cX6_product 8 = .ok (.iconst 1, 1) := by decide +kernel
theorem dX6_product_9 : decode cX6_product 9 = .ok (.lload 4, 2) := by decide +kernel
theorem dX6_product_11 : decode cX6_product 11 = .ok (.iload_n 1, 1) := by decide +kernel
theorem dX6_product_12 : decode cX6_product 12 = .ok (.invokevirtual 111, 3) := by decide +kernel
theorem dX6_product_15 : decode cX6_product 15 = .ok (.aload_n 0, 1) := by decide +kernel
theorem dX6_product_16 : decode cX6_product 16 = .ok (.getfield 70, 3) := by decide +kernel
theorem dX6_product_19 : decode cX6_product 19 = .ok (.iconst 0, 1) := by decide +kernel
theorem dX6_product_20 : decode cX6_product 20 = .ok (.baload, 1) := by decide +kernel
theorem dX6_product_21 : decode cX6_product 21 = .ok (.aload_n 0, 1) := by decide +kernel
theorem dX6_product_22 : decode cX6_product 22 = .ok (.getfield 70, 3) := by decide +kernel
theorem dX6_product_25 : decode cX6_product 25 = .ok (.iconst 1, 1) := by decide +kernel
theorem dX6_product_26 : decode cX6_product 26 = .ok (.baload, 1) := by decide +kernel
theorem dX6_product_27 : decode cX6_product 27 = .ok (.if_icmp .eq 7, 3) := by decide +kernel
theorem dX6_product_30 : decode cX6_product 30 = .ok (.iconst 1, 1) := by decide +kernel
theorem dX6_product_31 : decode cX6_product 31 = .ok (.goto 4, 3) := by decide +kernel
theorem dX6_product_34 : decode cX6_product 34 = .ok (.iconst 0, 1) := by decide +kernel
theorem dX6_product_35 : decode cX6_product 35 = .ok (.istore 6, 2) := by decide +kernel
theorem dX6_product_37 : decode cX6_product 37 = .ok (.aload_n 0, 1) := by decide +kernel
theorem dX6_product_38 : decode cX6_product 38 = .ok (.getfield 64, 3) := by decide +kernel
theorem dX6_product_41 : decode cX6_product 41 = .ok (.iconst 0, 1) := by decide +kernel
theorem dX6_product_42 : decode cX6_product 42 = .ok (.iaload, 1) := by decide +kernel
theorem dX6_product_43 : decode cX6_product 43 = .ok (.ifCond .eq 12, 3) := by decide +kernel
theorem dX6_product_46 : decode cX6_product 46 = .ok (.aload_n 0, 1) := by decide +kernel
theorem dX6_product_47 : decode cX6_product 47 = .ok (.getfield 64, 3) := by decide +kernel
theorem dX6_product_50 : decode cX6_product 50 = .ok (.iconst 1, 1) := by decide +kernel
theorem dX6_product_51 : decode cX6_product 51 = .ok (.iaload, 1) := by decide +kernel
theorem dX6_product_52 : decode cX6_product 52 = .ok (.ifCond .ne 7, 3) := by decide +kernel
theorem dX6_product_55 : decode cX6_product 55 = .ok (.iconst 1, 1) := by decide +kernel
theorem dX6_product_56 : decode cX6_product 56 = .ok (.goto 4, 3) := by decide +kernel
theorem dX6_product_59 : decode cX6_product 59 = .ok (.iconst 0, 1) := by decide +kernel
theorem dX6_product_60 : decode cX6_product 60 = .ok (.istore 7, 2) := by decide +kernel
theorem dX6_product_62 : decode cX6_product 62 = .ok (.aload_n 0, 1) := by decide +kernel
theorem dX6_product_63 : decode cX6_product 63 = .ok (.getfield 64, 3) := by decide +kernel
theorem dX6_product_66 : decode cX6_product 66 = .ok (.iconst 0, 1) := by decide +kernel
theorem dX6_product_67 : decode cX6_product 67 = .ok (.iaload, 1) := by decide +kernel
theorem dX6_product_68 : decode cX6_product 68 = .ok (.iconst 2, 1) := by decide +kernel
theorem dX6_product_69 : decode cX6_product 69 = .ok (.if_icmp .eq 13, 3) := by decide +kernel
theorem dX6_product_72 : decode cX6_product 72 = .ok (.aload_n 0, 1) := by decide +kernel
theorem dX6_product_73 : decode cX6_product 73 = .ok (.getfield 64, 3) := by decide +kernel
theorem dX6_product_76 : decode cX6_product 76 = .ok (.iconst 1, 1) := by decide +kernel
theorem dX6_product_77 : decode cX6_product 77 = .ok (.iaload, 1) := by decide +kernel
theorem dX6_product_78 : decode cX6_product 78 = .ok (.iconst 2, 1) := by decide +kernel
theorem dX6_product_79 : decode cX6_product 79 = .ok (.if_icmp .ne 7, 3) := by decide +kernel
theorem dX6_product_82 : decode cX6_product 82 = .ok (.iconst 1, 1) := by decide +kernel
theorem dX6_product_83 : decode cX6_product 83 = .ok (.goto 4, 3) := by decide +kernel
theorem dX6_product_86 : decode cX6_product 86 = .ok (.iconst 0, 1) := by decide +kernel
theorem dX6_product_87 : decode cX6_product 87 = .ok (.istore 8, 2) := by decide +kernel
theorem dX6_product_89 : decode cX6_product 89 = .ok (.aload_n 0, 1) := by decide +kernel
theorem dX6_product_90 : decode cX6_product 90 = .ok (.getfield 64, 3) := by decide +kernel
theorem dX6_product_93 : decode cX6_product 93 = .ok (.iconst 0, 1) := by decide +kernel
theorem dX6_product_94 : decode cX6_product 94 = .ok (.iaload, 1) := by decide +kernel
theorem dX6_product_95 : decode cX6_product 95 = .ok (.iconst 3, 1) := by decide +kernel
theorem dX6_product_96 : decode cX6_product 96 = .ok (.if_icmp .eq 23, 3) := by decide +kernel
theorem dX6_product_99 : decode cX6_product 99 = .ok (.aload_n 0, 1) := by decide +kernel
theorem dX6_product_100 : decode cX6_product 100 = .ok (.getfield 64, 3) := by decide +kernel
theorem dX6_product_103 : decode cX6_product 103 = .ok (.iconst 1, 1) := by decide +kernel
theorem dX6_product_104 : decode cX6_product 104 = .ok (.iaload, 1) := by decide +kernel
theorem dX6_product_105 : decode cX6_product 105 = .ok (.iconst 3, 1) := by decide +kernel
theorem dX6_product_106 : decode cX6_product 106 = .ok (.if_icmp .eq 13, 3) := by decide +kernel
theorem dX6_product_109 : decode cX6_product 109 = .ok (.iload 7, 2) := by decide +kernel
theorem dX6_product_111 : decode cX6_product 111 = .ok (.ifCond .eq 14, 3) := by decide +kernel
theorem dX6_product_114 : decode cX6_product 114 = .ok (.iload 8, 2) := by decide +kernel
theorem dX6_product_116 : decode cX6_product 116 = .ok (.ifCond .eq 9, 3) := by decide +kernel
theorem dX6_product_119 : decode cX6_product 119 = .ok (.aload_n 0, 1) := by decide +kernel
theorem dX6_product_120 : decode cX6_product 120 = .ok (.iload_n 1, 1) := by decide +kernel
theorem dX6_product_121 : decode cX6_product 121 = .ok (.invokevirtual 115, 3) := by decide +kernel
theorem dX6_product_124 : decode cX6_product 124 = .ok (.lreturn, 1) := by decide +kernel
theorem dX6_product_125 : decode cX6_product 125 = .ok (.iload 7, 2) := by decide +kernel
theorem dX6_product_127 : decode cX6_product 127 = .ok (.ifCond .ne 8, 3) := by decide +kernel
theorem dX6_product_130 : decode cX6_product 130 = .ok (.iload 8, 2) := by decide +kernel
theorem dX6_product_132 : decode cX6_product 132 = .ok (.ifCond .eq 25, 3) := by decide +kernel
theorem dX6_product_135 : decode cX6_product 135 = .ok (.aload_n 0, 1) := by decide +kernel
theorem dX6_product_136 : decode cX6_product 136 = .ok (.iload_n 1, 1) := by decide +kernel
theorem dX6_product_137 : decode cX6_product 137 = .ok (.iload 6, 2) := by decide +kernel
theorem dX6_product_139 : decode cX6_product 139 = .ok (.iload 7, 2) := by decide +kernel
theorem dX6_product_141 : decode cX6_product 141 = .ok (.ifCond .eq 7, 3) := by decide +kernel
theorem dX6_product_144 : decode cX6_product 144 = .ok (.lconst 0, 1) := by decide +kernel
theorem dX6_product_145 : decode cX6_product 145 = .ok (.goto 8, 3) := by decide +kernel
theorem dX6_product_148 : decode cX6_product 148 = .ok (.aload_n 0, 1) := by decide +kernel
theorem dX6_product_149 : decode cX6_product 149 = .ok (.iload_n 1, 1) := by decide +kernel
theorem dX6_product_150 : decode cX6_product 150 = .ok (.invokevirtual 103, 3) := by decide +kernel
theorem dX6_product_153 : decode cX6_product 153 = .ok (.invokevirtual 107, 3) := by decide +kernel
theorem dX6_product_156 : decode cX6_product 156 = .ok (.lreturn, 1) := by decide +kernel
theorem dX6_product_157 : decode cX6_product 157 = .ok (.aload_n 0, 1) := by decide +kernel
theorem dX6_product_158 : decode cX6_product 158 = .ok (.iconst 0, 1) := by decide +kernel
theorem dX6_product_159 : decode cX6_product 159 = .ok (.invokevirtual 118, 3) := by decide +kernel
theorem dX6_product_162 : decode cX6_product 162 = .ok (.aload_n 0, 1) := by decide +kernel
theorem dX6_product_163 : decode cX6_product 163 = .ok (.iconst 1, 1) := by decide +kernel
theorem dX6_product_164 : decode cX6_product 164 = .ok (.invokevirtual 118, 3) := by decide +kernel
theorem dX6_product_167 : decode cX6_product 167 = .ok (.aload_n 0, 1) := by decide +kernel
theorem dX6_product_168 : decode cX6_product 168 = .ok (.getfield 73, 3) := by decide +kernel
theorem dX6_product_171 : decode cX6_product 171 = .ok (.iconst 0, 1) := by decide +kernel
theorem dX6_product_172 : decode cX6_product 172 = .ok (.laload, 1) := by decide +kernel
theorem dX6_product_173 : decode cX6_product 173 = .ok (.bipush 31, 2) := by decide +kernel
theorem dX6_product_175 : decode cX6_product 175 = .ok (.lshr, 1) := by decide +kernel
theorem dX6_product_176 : decode cX6_product 176 = .ok (.lstore 9, 2) := by decide +kernel
theorem dX6_product_178 : decode cX6_product 178 = .ok (.aload_n 0, 1) := by decide +kernel
theorem dX6_product_179 : decode cX6_product 179 = .ok (.getfield 73, 3) := by decide +kernel
theorem dX6_product_182 : decode cX6_product 182 = .ok (.iconst 0, 1) := by decide +kernel
theorem dX6_product_183 : decode cX6_product 183 = .ok (.laload, 1) := by decide +kernel
theorem dX6_product_184 : decode cX6_product 184 = .ok (.ldc2_w 94, 3) := by decide +kernel
theorem dX6_product_187 : decode cX6_product 187 = .ok (.land, 1) := by decide +kernel
theorem dX6_product_188 : decode cX6_product 188 = .ok (.lstore 11, 2) := by decide +kernel
theorem dX6_product_190 : decode cX6_product 190 = .ok (.aload_n 0, 1) := by decide +kernel
theorem dX6_product_191 : decode cX6_product 191 = .ok (.getfield 73, 3) := by decide +kernel
theorem dX6_product_194 : decode cX6_product 194 = .ok (.iconst 1, 1) := by decide +kernel
theorem dX6_product_195 : decode cX6_product 195 = .ok (.laload, 1) := by decide +kernel
theorem dX6_product_196 : decode cX6_product 196 = .ok (.bipush 31, 2) := by decide +kernel
theorem dX6_product_198 : decode cX6_product 198 = .ok (.lshr, 1) := by decide +kernel
theorem dX6_product_199 : decode cX6_product 199 = .ok (.lstore 13, 2) := by decide +kernel
theorem dX6_product_201 : decode cX6_product 201 = .ok (.aload_n 0, 1) := by decide +kernel
theorem dX6_product_202 : decode cX6_product 202 = .ok (.getfield 73, 3) := by decide +kernel
theorem dX6_product_205 : decode cX6_product 205 = .ok (.iconst 1, 1) := by decide +kernel
theorem dX6_product_206 : decode cX6_product 206 = .ok (.laload, 1) := by decide +kernel
theorem dX6_product_207 : decode cX6_product 207 = .ok (.ldc2_w 94, 3) := by decide +kernel
theorem dX6_product_210 : decode cX6_product 210 = .ok (.land, 1) := by decide +kernel
theorem dX6_product_211 : decode cX6_product 211 = .ok (.lstore 15, 2) := by decide +kernel
theorem dX6_product_213 : decode cX6_product 213 = .ok (.lload 11, 2) := by decide +kernel
theorem dX6_product_215 : decode cX6_product 215 = .ok (.lload 15, 2) := by decide +kernel
theorem dX6_product_217 : decode cX6_product 217 = .ok (.lmul, 1) := by decide +kernel
theorem dX6_product_218 : decode cX6_product 218 = .ok (.lstore 17, 2) := by decide +kernel
theorem dX6_product_220 : decode cX6_product 220 = .ok (.lload 9, 2) := by decide +kernel
theorem dX6_product_222 : decode cX6_product 222 = .ok (.lload 15, 2) := by decide +kernel
theorem dX6_product_224 : decode cX6_product 224 = .ok (.lmul, 1) := by decide +kernel
theorem dX6_product_225 : decode cX6_product 225 = .ok (.lload 11, 2) := by decide +kernel
theorem dX6_product_227 : decode cX6_product 227 = .ok (.lload 13, 2) := by decide +kernel
theorem dX6_product_229 : decode cX6_product 229 = .ok (.lmul, 1) := by decide +kernel
theorem dX6_product_230 : decode cX6_product 230 = .ok (.ladd, 1) := by decide +kernel
theorem dX6_product_231 : decode cX6_product 231 = .ok (.lload 17, 2) := by decide +kernel
theorem dX6_product_233 : decode cX6_product 233 = .ok (.bipush 31, 2) := by decide +kernel
theorem dX6_product_235 : decode cX6_product 235 = .ok (.lshr, 1) := by decide +kernel
theorem dX6_product_236 : decode cX6_product 236 = .ok (.ladd, 1) := by decide +kernel
theorem dX6_product_237 : decode cX6_product 237 = .ok (.lstore 19, 2) := by decide +kernel
theorem dX6_product_239 : decode cX6_product 239 = .ok (.lload 17, 2) := by decide +kernel
theorem dX6_product_241 : decode cX6_product 241 = .ok (.ldc2_w 94, 3) := by decide +kernel
theorem dX6_product_244 : decode cX6_product 244 = .ok (.land, 1) := by decide +kernel
theorem dX6_product_245 : decode cX6_product 245 = .ok (.lconst 0, 1) := by decide +kernel
theorem dX6_product_246 : decode cX6_product 246 = .ok (.lcmp, 1) := by decide +kernel
theorem dX6_product_247 : decode cX6_product 247 = .ok (.ifCond .ne 14, 3) := by decide +kernel
theorem dX6_product_250 : decode cX6_product 250 = .ok (.lload 19, 2) := by decide +kernel
theorem dX6_product_252 : decode cX6_product 252 = .ok (.ldc2_w 94, 3) := by decide +kernel
theorem dX6_product_255 : decode cX6_product 255 = .ok (.land, 1) := by decide +kernel
theorem dX6_product_256 : decode cX6_product 256 = .ok (.lconst 0, 1) := by decide +kernel
theorem dX6_product_257 : decode cX6_product 257 = .ok (.lcmp, 1) := by decide +kernel
theorem dX6_product_258 : decode cX6_product 258 = .ok (.ifCond .eq 7, 3) := by decide +kernel
theorem dX6_product_261 : decode cX6_product 261 = .ok (.iconst 1, 1) := by decide +kernel
theorem dX6_product_262 : decode cX6_product 262 = .ok (.goto 4, 3) := by decide +kernel
theorem dX6_product_265 : decode cX6_product 265 = .ok (.iconst 0, 1) := by decide +kernel
theorem dX6_product_266 : decode cX6_product 266 = .ok (.istore 21, 2) := by decide +kernel
theorem dX6_product_268 : decode cX6_product 268 = .ok (.aload_n 0, 1) := by decide +kernel
theorem dX6_product_269 : decode cX6_product 269 = .ok (.iload_n 1, 1) := by decide +kernel
theorem dX6_product_270 : decode cX6_product 270 = .ok (.iload 6, 2) := by decide +kernel
theorem dX6_product_272 : decode cX6_product 272 = .ok (.lload 9, 2) := by decide +kernel
theorem dX6_product_274 : decode cX6_product 274 = .ok (.lload 13, 2) := by decide +kernel
theorem dX6_product_276 : decode cX6_product 276 = .ok (.lmul, 1) := by decide +kernel
theorem dX6_product_277 : decode cX6_product 277 = .ok (.lload 19, 2) := by decide +kernel
theorem dX6_product_279 : decode cX6_product 279 = .ok (.bipush 31, 2) := by decide +kernel
theorem dX6_product_281 : decode cX6_product 281 = .ok (.lshr, 1) := by decide +kernel
theorem dX6_product_282 : decode cX6_product 282 = .ok (.ladd, 1) := by decide +kernel
theorem dX6_product_283 : decode cX6_product 283 = .ok (.aload_n 0, 1) := by decide +kernel
theorem dX6_product_284 : decode cX6_product 284 = .ok (.getfield 67, 3) := by decide +kernel
theorem dX6_product_287 : decode cX6_product 287 = .ok (.iconst 0, 1) := by decide +kernel
theorem dX6_product_288 : decode cX6_product 288 = .ok (.iaload, 1) := by decide +kernel
theorem dX6_product_289 : decode cX6_product 289 = .ok (.aload_n 0, 1) := by decide +kernel
theorem dX6_product_290 : decode cX6_product 290 = .ok (.getfield 67, 3) := by decide +kernel
theorem dX6_product_293 : decode cX6_product 293 = .ok (.iconst 1, 1) := by decide +kernel
theorem dX6_product_294 : decode cX6_product 294 = .ok (.iaload, 1) := by decide +kernel
theorem dX6_product_295 : decode cX6_product 295 = .ok (.iadd, 1) := by decide +kernel
theorem dX6_product_296 : decode cX6_product 296 = .ok (.bipush 62, 2) := by decide +kernel
theorem dX6_product_298 : decode cX6_product 298 = .ok (.iadd, 1) := by decide +kernel
theorem dX6_product_299 : decode cX6_product 299 = .ok (.iload 21, 2) := by decide +kernel
theorem dX6_product_301 : decode cX6_product 301 = .ok (.invokevirtual 122, 3) := by decide +kernel
theorem dX6_product_304 : decode cX6_product 304 = .ok (.lreturn, 1) := by decide +kernel
theorem dX6_quotient_0 : decode cX6_quotient 0 = .ok (.aload_n 0, 1) := by decide +kernel
theorem dX6_quotient_1 : decode cX6_quotient 1 = .ok (.iconst 0, 1) := by decide +kernel
theorem dX6_quotient_2 : decode cX6_quotient 2 = .ok (.lload_n 2, 1) := by decide +kernel
theorem dX6_quotient_3 : decode cX6_quotient 3 = .ok (.iload_n 1, 1) := by decide +kernel
theorem dX6_quotient_4 : decode cX6_quotient 4 = .ok (.invokevirtual 111, 3) := by decide +kernel
end
section
theorem dX6_quotient_7 : decode cX6_quotient 7 = .ok (.aload_n 0, 1) := by decide +kernel
theorem dX6_quotient_8 : decode cX6_quotient 8 = .ok (.iconst 1, 1) := by decide +kernel
theorem dX6_quotient_9 : decode cX6_quotient 9 = .ok (.lload 4, 2) := by decide +kernel
theorem dX6_quotient_11 : decode cX6_quotient 11 = .ok (.iload_n 1, 1) := by decide +kernel
theorem dX6_quotient_12 : decode cX6_quotient 12 = .ok (.invokevirtual 111, 3) := by decide +kernel
theorem dX6_quotient_15 : decode cX6_quotient 15 = .ok (.aload_n 0, 1) := by decide +kernel
theorem dX6_quotient_16 : decode cX6_quotient 16 = .ok (.getfield 70, 3) := by decide +kernel
theorem dX6_quotient_19 : decode cX6_quotient 19 = .ok (.iconst 0, 1) := by decide +kernel
theorem dX6_quotient_20 : decode cX6_quotient 20 = .ok (.baload, 1) := by decide +kernel
theorem dX6_quotient_21 : decode cX6_quotient 21 = .ok (.aload_n 0, 1) := by decide +kernel
theorem dX6_quotient_22 : decode cX6_quotient 22 = .ok (.getfield 70, 3) := by decide +kernel
theorem dX6_quotient_25 : decode cX6_quotient 25 = .ok (.iconst 1, 1) := by decide +kernel
theorem dX6_quotient_26 : decode cX6_quotient 26 = .ok (.baload, 1) := by decide +kernel
theorem dX6_quotient_27 : decode cX6_quotient 27 = .ok (.if_icmp .eq 7, 3) := by decide +kernel
theorem dX6_quotient_30 : decode cX6_quotient 30 = .ok (.iconst 1, 1) := by decide +kernel
theorem dX6_quotient_31 : decode cX6_quotient 31 = .ok (.goto 4, 3) := by decide +kernel
theorem dX6_quotient_34 : decode cX6_quotient 34 = .ok (.iconst 0, 1) := by decide +kernel
theorem dX6_quotient_35 : decode cX6_quotient 35 = .ok (.istore 6, 2) := by decide +kernel
theorem dX6_quotient_37 : decode cX6_quotient 37 = .ok (.aload_n 0, 1) := by decide +kernel
theorem dX6_quotient_38 : decode cX6_quotient 38 = .ok (.getfield 64, 3) := by decide +kernel
theorem dX6_quotient_41 : decode cX6_quotient 41 = .ok (.iconst 0, 1) := by decide +kernel
theorem dX6_quotient_42 : decode cX6_quotient 42 = .ok (.iaload, 1) := by decide +kernel
theorem dX6_quotient_43 : decode cX6_quotient 43 = .ok (.iconst 3, 1) := by decide +kernel
theorem dX6_quotient_44 : decode cX6_quotient 44 = .ok (.if_icmp .eq 38, 3) := by decide +kernel
theorem dX6_quotient_47 : decode cX6_quotient 47 = .ok (.aload_n 0, 1) := by decide +kernel
theorem dX6_quotient_48 : decode cX6_quotient 48 = .ok (.getfield 64, 3) := by decide +kernel
theorem dX6_quotient_51 : decode cX6_quotient 51 = .ok (.iconst 1, 1) := by decide +kernel
theorem dX6_quotient_52 : decode cX6_quotient 52 = .ok (.iaload, 1) := by decide +kernel
theorem dX6_quotient_53 : decode cX6_quotient 53 = .ok (.iconst 3, 1) := by decide +kernel
theorem dX6_quotient_54 : decode cX6_quotient 54 = .ok (.if_icmp .eq 28, 3) := by decide +kernel
theorem dX6_quotient_57 : decode cX6_quotient 57 = .ok (.aload_n 0, 1) := by decide +kernel
theorem dX6_quotient_58 : decode cX6_quotient 58 = .ok (.getfield 64, 3) := by decide +kernel
theorem dX6_quotient_61 : decode cX6_quotient 61 = .ok (.iconst 0, 1) := by decide +kernel
theorem dX6_quotient_62 : decode cX6_quotient 62 = .ok (.iaload, 1) := by decide +kernel
theorem dX6_quotient_63 : decode cX6_quotient 63 = .ok (.aload_n 0, 1) := by decide +kernel
theorem dX6_quotient_64 : decode cX6_quotient 64 = .ok (.getfield 64, 3) := by decide +kernel
theorem dX6_quotient_67 : decode cX6_quotient 67 = .ok (.iconst 1, 1) := by decide +kernel
theorem dX6_quotient_68 : decode cX6_quotient 68 = .ok (.iaload, 1) := by decide +kernel
theorem dX6_quotient_69 : decode cX6_quotient 69 = .ok (.if_icmp .ne 19, 3) := by decide +kernel
theorem dX6_quotient_72 : decode cX6_quotient 72 = .ok (.aload_n 0, 1) := by decide +kernel
theorem dX6_quotient_73 : decode cX6_quotient 73 = .ok (.getfield 64, 3) := by decide +kernel
theorem dX6_quotient_76 : decode cX6_quotient 76 = .ok (.iconst 0, 1) := by decide +kernel
theorem dX6_quotient_77 : decode cX6_quotient 77 = .ok (.iaload, 1) := by decide +kernel
theorem dX6_quotient_78 : decode cX6_quotient 78 = .ok (.iconst 1, 1) := by decide +kernel
theorem dX6_quotient_79 : decode cX6_quotient 79 = .ok (.if_icmp .eq 9, 3) := by decide +kernel
theorem dX6_quotient_82 : decode cX6_quotient 82 = .ok (.aload_n 0, 1) := by decide +kernel
theorem dX6_quotient_83 : decode cX6_quotient 83 = .ok (.iload_n 1, 1) := by decide +kernel
theorem dX6_quotient_84 : decode cX6_quotient 84 = .ok (.invokevirtual 115, 3) := by decide +kernel
theorem dX6_quotient_87 : decode cX6_quotient 87 = .ok (.lreturn, 1) := by decide +kernel
theorem dX6_quotient_88 : decode cX6_quotient 88 = .ok (.aload_n 0, 1) := by decide +kernel
theorem dX6_quotient_89 : decode cX6_quotient 89 = .ok (.getfield 64, 3) := by decide +kernel
theorem dX6_quotient_92 : decode cX6_quotient 92 = .ok (.iconst 0, 1) := by decide +kernel
theorem dX6_quotient_93 : decode cX6_quotient 93 = .ok (.iaload, 1) := by decide +kernel
theorem dX6_quotient_94 : decode cX6_quotient 94 = .ok (.iconst 2, 1) := by decide +kernel
theorem dX6_quotient_95 : decode cX6_quotient 95 = .ok (.if_icmp .eq 12, 3) := by decide +kernel
theorem dX6_quotient_98 : decode cX6_quotient 98 = .ok (.aload_n 0, 1) := by decide +kernel
theorem dX6_quotient_99 : decode cX6_quotient 99 = .ok (.getfield 64, 3) := by decide +kernel
theorem dX6_quotient_102 : decode cX6_quotient 102 = .ok (.iconst 1, 1) := by decide +kernel
theorem dX6_quotient_103 : decode cX6_quotient 103 = .ok (.iaload, 1) := by decide +kernel
theorem dX6_quotient_104 : decode cX6_quotient 104 = .ok (.ifCond .ne 16, 3) := by decide +kernel
theorem dX6_quotient_107 : decode cX6_quotient 107 = .ok (.aload_n 0, 1) := by decide +kernel
theorem dX6_quotient_108 : decode cX6_quotient 108 = .ok (.iload_n 1, 1) := by decide +kernel
theorem dX6_quotient_109 : decode cX6_quotient 109 = .ok (.iload 6, 2) := by decide +kernel
theorem dX6_quotient_111 : decode cX6_quotient 111 = .ok (.aload_n 0, 1) := by decide +kernel
theorem dX6_quotient_112 : decode cX6_quotient 112 = .ok (.iload_n 1, 1) := by decide +kernel
theorem dX6_quotient_113 : decode cX6_quotient 113 = .ok (.invokevirtual 103, 3) := by decide +kernel
theorem dX6_quotient_116 : decode cX6_quotient 116 = .ok (.invokevirtual 107, 3) := by decide +kernel
theorem dX6_quotient_119 : decode cX6_quotient 119 = .ok (.lreturn, 1) := by decide +kernel
theorem dX6_quotient_120 : decode cX6_quotient 120 = .ok (.aload_n 0, 1) := by decide +kernel
theorem dX6_quotient_121 : decode cX6_quotient 121 = .ok (.getfield 64, 3) := by decide +kernel
theorem dX6_quotient_124 : decode cX6_quotient 124 = .ok (.iconst 0, 1) := by decide +kernel
theorem dX6_quotient_125 : decode cX6_quotient 125 = .ok (.iaload, 1) := by decide +kernel
theorem dX6_quotient_126 : decode cX6_quotient 126 = .ok (.ifCond .eq 13, 3) := by decide +kernel
theorem dX6_quotient_129 : decode cX6_quotient 129 = .ok (.aload_n 0, 1) := by decide +kernel
theorem dX6_quotient_130 : decode cX6_quotient 130 = .ok (.getfield 64, 3) := by decide +kernel
theorem dX6_quotient_133 : decode cX6_quotient 133 = .ok (.iconst 1, 1) := by decide +kernel
theorem dX6_quotient_134 : decode cX6_quotient 134 = .ok (.iaload, 1) := by decide +kernel
theorem dX6_quotient_135 : decode cX6_quotient 135 = .ok (.iconst 2, 1) := by decide +kernel
theorem dX6_quotient_136 : decode cX6_quotient 136 = .ok (.if_icmp .ne 12, 3) := by decide +kernel
theorem dX6_quotient_139 : decode cX6_quotient 139 = .ok (.aload_n 0, 1) := by decide +kernel
theorem dX6_quotient_140 : decode cX6_quotient 140 = .ok (.iload_n 1, 1) := by decide +kernel
theorem dX6_quotient_141 : decode cX6_quotient 141 = .ok (.iload 6, 2) := by decide +kernel
theorem dX6_quotient_143 : decode cX6_quotient 143 = .ok (.lconst 0, 1) := by decide +kernel
theorem dX6_quotient_144 : decode cX6_quotient 144 = .ok (.invokevirtual 107, 3) := by decide +kernel
theorem dX6_quotient_147 : decode cX6_quotient 147 = .ok (.lreturn, 1) := by decide +kernel
theorem dX6_quotient_148 : decode cX6_quotient 148 = .ok (.aload_n 0, 1) := by decide +kernel
theorem dX6_quotient_149 : decode cX6_quotient 149 = .ok (.iconst 0, 1) := by decide +kernel
theorem dX6_quotient_150 : decode cX6_quotient 150 = .ok (.invokevirtual 118, 3) := by decide +kernel
theorem dX6_quotient_153 : decode cX6_quotient 153 = .ok (.aload_n 0, 1) := by decide +kernel
theorem dX6_quotient_154 : decode cX6_quotient 154 = .ok (.iconst 1, 1) := by decide +kernel
theorem dX6_quotient_155 : decode cX6_quotient 155 = .ok (.invokevirtual 118, 3) := by decide +kernel
theorem dX6_quotient_158 : decode cX6_quotient 158 = .ok (.lconst 0, 1) := by decide +kernel
theorem dX6_quotient_159 : decode cX6_quotient 159 = .ok (.lstore 7, 2) := by decide +kernel
theorem dX6_quotient_161 : decode cX6_quotient 161 = .ok (.aload_n 0, 1) := by decide +kernel
theorem dX6_quotient_162 : decode cX6_quotient 162 = .ok (.getfield 73, 3) := by decide +kernel
theorem dX6_quotient_165 : decode cX6_quotient 165 = .ok (.iconst 0, 1) := by decide +kernel
theorem dX6_quotient_166 : decode cX6_quotient 166 = .ok (.laload, 1) := by decide +kernel
theorem dX6_quotient_167 : decode cX6_quotient 167 = .ok (.lstore 9, 2) := by decide +kernel
theorem dX6_quotient_169 : decode cX6_quotient 169 = .ok (.iconst 0, 1) := by decide +kernel
theorem dX6_quotient_170 : decode cX6_quotient 170 = .ok (.istore 11, 2) := by decide +kernel
theorem dX6_quotient_172 : decode cX6_quotient 172 = .ok (.iload 11, 2) := by decide +kernel
theorem dX6_quotient_174 : decode cX6_quotient 174 = .ok (.bipush 60, 2) := by decide +kernel
theorem dX6_quotient_176 : decode cX6_quotient 176 = .ok (.if_icmp .ge 50, 3) := by decide +kernel
theorem dX6_quotient_179 : decode cX6_quotient 179 = .ok (.lload 7, 2) := by decide +kernel
theorem dX6_quotient_181 : decode cX6_quotient 181 = .ok (.iconst 1, 1) := by decide +kernel
theorem dX6_quotient_182 : decode cX6_quotient 182 = .ok (.lshl, 1) := by decide +kernel
theorem dX6_quotient_183 : decode cX6_quotient 183 = .ok (.lstore 7, 2) := by decide +kernel
theorem dX6_quotient_185 : decode cX6_quotient 185 = .ok (.lload 9, 2) := by decide +kernel
theorem dX6_quotient_187 : decode cX6_quotient 187 = .ok (.aload_n 0, 1) := by decide +kernel
theorem dX6_quotient_188 : decode cX6_quotient 188 = .ok (.getfield 73, 3) := by decide +kernel
theorem dX6_quotient_191 : decode cX6_quotient 191 = .ok (.iconst 1, 1) := by decide +kernel
theorem dX6_quotient_192 : decode cX6_quotient 192 = .ok (.laload, 1) := by decide +kernel
theorem dX6_quotient_193 : decode cX6_quotient 193 = .ok (.lcmp, 1) := by decide +kernel
theorem dX6_quotient_194 : decode cX6_quotient 194 = .ok (.ifCond .lt 20, 3) := by decide +kernel
theorem dX6_quotient_197 : decode cX6_quotient 197 = .ok (.lload 9, 2) := by decide +kernel
theorem dX6_quotient_199 : decode cX6_quotient 199 = .ok (.aload_n 0, 1) := by decide +kernel
theorem dX6_quotient_200 : decode cX6_quotient 200 = .ok (.getfield 73, 3) := by decide +kernel
theorem dX6_quotient_203 : decode cX6_quotient 203 = .ok (.iconst 1, 1) := by decide +kernel
theorem dX6_quotient_204 : decode cX6_quotient 204 = .ok (.laload, 1) := by decide +kernel
theorem dX6_quotient_205 : decode cX6_quotient 205 = .ok (.lsub, 1) := by decide +kernel
theorem dX6_quotient_206 : decode cX6_quotient 206 = .ok (.lstore 9, 2) := by decide +kernel
theorem dX6_quotient_208 : decode cX6_quotient 208 = .ok (.lload 7, 2) := by decide +kernel
theorem dX6_quotient_210 : decode cX6_quotient 210 = .ok (.lconst 1, 1) := by decide +kernel
theorem dX6_quotient_211 : decode cX6_quotient 211 = .ok (.ladd, 1) := by decide +kernel
theorem dX6_quotient_212 : decode cX6_quotient 212 = .ok (.lstore 7, 2) := by decide +kernel
theorem dX6_quotient_214 : decode cX6_quotient 214 = .ok (.lload 9, 2) := by decide +kernel
theorem dX6_quotient_216 : decode cX6_quotient 216 = .ok (.iconst 1, 1) := by decide +kernel
theorem dX6_quotient_217 : decode cX6_quotient 217 = .ok (.lshl, 1) := by decide +kernel
theorem dX6_quotient_218 : decode cX6_quotient 218 = .ok (.lstore 9, 2) := by decide +kernel
theorem dX6_quotient_220 : decode cX6_quotient 220 = .ok (.iinc 11 1, 3) := by decide +kernel
theorem dX6_quotient_223 : decode cX6_quotient 223 = .ok (.goto (-51), 3) := by decide +kernel
theorem dX6_quotient_226 : decode cX6_quotient 226 = .ok (.aload_n 0, 1) := by decide +kernel
theorem dX6_quotient_227 : decode cX6_quotient 227 = .ok (.iload_n 1, 1) := by decide +kernel
theorem dX6_quotient_228 : decode cX6_quotient 228 = .ok (.iload 6, 2) := by decide +kernel
theorem dX6_quotient_230 : decode cX6_quotient 230 = .ok (.lload 7, 2) := by decide +kernel
theorem dX6_quotient_232 : decode cX6_quotient 232 = .ok (.aload_n 0, 1) := by decide +kernel
theorem dX6_quotient_233 : decode cX6_quotient 233 = .ok (.getfield 67, 3) := by decide +kernel
theorem dX6_quotient_236 : decode cX6_quotient 236 = .ok (.iconst 0, 1) := by decide +kernel
theorem dX6_quotient_237 : decode cX6_quotient 237 = .ok (.iaload, 1) := by decide +kernel
theorem dX6_quotient_238 : decode cX6_quotient 238 = .ok (.aload_n 0, 1) := by decide +kernel
theorem dX6_quotient_239 : decode cX6_quotient 239 = .ok (.getfield 67, 3) := by decide +kernel
theorem dX6_quotient_242 : decode cX6_quotient 242 = .ok (.iconst 1, 1) := by decide +kernel
theorem dX6_quotient_243 : decode cX6_quotient 243 = .ok (.iaload, 1) := by decide +kernel
theorem dX6_quotient_244 : decode cX6_quotient 244 = .ok (.isub, 1) := by decide +kernel
theorem dX6_quotient_245 : decode cX6_quotient 245 = .ok (.bipush 59, 2) := by decide +kernel
theorem dX6_quotient_247 : decode cX6_quotient 247 = .ok (.isub, 1) := by decide +kernel
theorem dX6_quotient_248 : decode cX6_quotient 248 = .ok (.lload 9, 2) := by decide +kernel
theorem dX6_quotient_250 : decode cX6_quotient 250 = .ok (.lconst 0, 1) := by decide +kernel
theorem dX6_quotient_251 : decode cX6_quotient 251 = .ok (.lcmp, 1) := by decide +kernel
theorem dX6_quotient_252 : decode cX6_quotient 252 = .ok (.ifCond .eq 7, 3) := by decide +kernel
theorem dX6_quotient_255 : decode cX6_quotient 255 = .ok (.iconst 1, 1) := by decide +kernel
theorem dX6_quotient_256 : decode cX6_quotient 256 = .ok (.goto 4, 3) := by decide +kernel
theorem dX6_quotient_259 : decode cX6_quotient 259 = .ok (.iconst 0, 1) := by decide +kernel
theorem dX6_quotient_260 : decode cX6_quotient 260 = .ok (.invokevirtual 122, 3) := by decide +kernel
theorem dX6_quotient_263 : decode cX6_quotient 263 = .ok (.lreturn, 1) := by decide +kernel
theorem dX6_remainder_0 : decode cX6_remainder 0 = .ok (.aload_n 0, 1) := by decide +kernel
theorem dX6_remainder_1 : decode cX6_remainder 1 = .ok (.iconst 0, 1) := by decide +kernel
theorem dX6_remainder_2 : decode cX6_remainder 2 = .ok (.lload_n 2, 1) := by decide +kernel
theorem dX6_remainder_3 : decode cX6_remainder 3 = .ok (.iload_n 1, 1) := by decide +kernel
theorem dX6_remainder_4 : decode cX6_remainder 4 = .ok (.invokevirtual 111, 3) := by decide +kernel
theorem dX6_remainder_7 : decode cX6_remainder 7 = .ok (.aload_n 0, 1) := by decide +kernel
theorem dX6_remainder_8 : decode cX6_remainder 8 = .ok (.iconst 1, 1) := by decide +kernel
theorem dX6_remainder_9 : decode cX6_remainder 9 = .ok (.lload 4, 2) := by decide +kernel
theorem dX6_remainder_11 : decode cX6_remainder 11 = .ok (.iload_n 1, 1) := by decide +kernel
theorem dX6_remainder_12 : decode cX6_remainder 12 = .ok (.invokevirtual 111, 3) := by decide +kernel
theorem dX6_remainder_15 : decode cX6_remainder 15 = .ok (.aload_n 0, 1) := by decide +kernel
theorem dX6_remainder_16 : decode cX6_remainder 16 = .ok (.getfield 64, 3) := by decide +kernel
theorem dX6_remainder_19 : decode cX6_remainder 19 = .ok (.iconst 0, 1) := by decide +kernel
theorem dX6_remainder_20 : decode cX6_remainder 20 = .ok (.iaload, 1) := by decide +kernel
theorem dX6_remainder_21 : decode cX6_remainder 21 = .ok (.iconst 3, 1) := by decide +kernel
theorem dX6_remainder_22 : decode cX6_remainder 22 = .ok (.if_icmp .eq 32, 3) := by decide +kernel
theorem dX6_remainder_25 : decode cX6_remainder 25 = .ok (.aload_n 0, 1) := by decide +kernel
theorem dX6_remainder_26 : decode cX6_remainder 26 = .ok (.getfield 64, 3) := by decide +kernel
theorem dX6_remainder_29 : decode cX6_remainder 29 = .ok (.iconst 1, 1) := by decide +kernel
theorem dX6_remainder_30 : decode cX6_remainder 30 = .ok (.iaload, 1) := by decide +kernel
theorem dX6_remainder_31 : decode cX6_remainder 31 = .ok (.iconst 3, 1) := by decide +kernel
theorem dX6_remainder_32 : decode cX6_remainder 32 = .ok (.if_icmp .eq 22, 3) := by decide +kernel
theorem dX6_remainder_35 : decode cX6_remainder 35 = .ok (.aload_n 0, 1) := by decide +kernel
theorem dX6_remainder_36 : decode cX6_remainder 36 = .ok (.getfield 64, 3) := by decide +kernel
theorem dX6_remainder_39 : decode cX6_remainder 39 = .ok (.iconst 0, 1) := by decide +kernel
theorem dX6_remainder_40 : decode cX6_remainder 40 = .ok (.iaload, 1) := by decide +kernel
theorem dX6_remainder_41 : decode cX6_remainder 41 = .ok (.iconst 2, 1) := by decide +kernel
theorem dX6_remainder_42 : decode cX6_remainder 42 = .ok (.if_icmp .eq 12, 3) := by decide +kernel
theorem dX6_remainder_45 : decode cX6_remainder 45 = .ok (.aload_n 0, 1) := by decide +kernel
theorem dX6_remainder_46 : decode cX6_remainder 46 = .ok (.getfield 64, 3) := by decide +kernel
theorem dX6_remainder_49 : decode cX6_remainder 49 = .ok (.iconst 1, 1) := by decide +kernel
theorem dX6_remainder_50 : decode cX6_remainder 50 = .ok (.iaload, 1) := by decide +kernel
theorem dX6_remainder_51 : decode cX6_remainder 51 = .ok (.ifCond .ne 9, 3) := by decide +kernel
theorem dX6_remainder_54 : decode cX6_remainder 54 = .ok (.aload_n 0, 1) := by decide +kernel
theorem dX6_remainder_55 : decode cX6_remainder 55 = .ok (.iload_n 1, 1) := by decide +kernel
theorem dX6_remainder_56 : decode cX6_remainder 56 = .ok (.invokevirtual 115, 3) := by decide +kernel
theorem dX6_remainder_59 : decode cX6_remainder 59 = .ok (.lreturn, 1) := by decide +kernel
theorem dX6_remainder_60 : decode cX6_remainder 60 = .ok (.aload_n 0, 1) := by decide +kernel
theorem dX6_remainder_61 : decode cX6_remainder 61 = .ok (.getfield 64, 3) := by decide +kernel
theorem dX6_remainder_64 : decode cX6_remainder 64 = .ok (.iconst 0, 1) := by decide +kernel
theorem dX6_remainder_65 : decode cX6_remainder 65 = .ok (.iaload, 1) := by decide +kernel
theorem dX6_remainder_66 : decode cX6_remainder 66 = .ok (.ifCond .eq 13, 3) := by decide +kernel
theorem dX6_remainder_69 : decode cX6_remainder 69 = .ok (.aload_n 0, 1) := by decide +kernel
theorem dX6_remainder_70 : decode cX6_remainder 70 = .ok (.getfield 64, 3) := by decide +kernel
theorem dX6_remainder_73 : decode cX6_remainder 73 = .ok (.iconst 1, 1) := by decide +kernel
theorem dX6_remainder_74 : decode cX6_remainder 74 = .ok (.iaload, 1) := by decide +kernel
theorem dX6_remainder_75 : decode cX6_remainder 75 = .ok (.iconst 2, 1) := by decide +kernel
theorem dX6_remainder_76 : decode cX6_remainder 76 = .ok (.if_icmp .ne 5, 3) := by decide +kernel
theorem dX6_remainder_79 : decode cX6_remainder 79 = .ok (.lload_n 2, 1) := by decide +kernel
theorem dX6_remainder_80 : decode cX6_remainder 80 = .ok (.lreturn, 1) := by decide +kernel
theorem dX6_remainder_81 : decode cX6_remainder 81 = .ok (.aload_n 0, 1) := by decide +kernel
theorem dX6_remainder_82 : decode cX6_remainder 82 = .ok (.iconst 0, 1) := by decide +kernel
theorem dX6_remainder_83 : decode cX6_remainder 83 = .ok (.invokevirtual 118, 3) := by decide +kernel
theorem dX6_remainder_86 : decode cX6_remainder 86 = .ok (.aload_n 0, 1) := by decide +kernel
theorem dX6_remainder_87 : decode cX6_remainder 87 = .ok (.iconst 1, 1) := by decide +kernel
theorem dX6_remainder_88 : decode cX6_remainder 88 = .ok (.invokevirtual 118, 3) := by decide +kernel
theorem dX6_remainder_91 : decode cX6_remainder 91 = .ok (.aload_n 0, 1) := by decide +kernel
theorem dX6_remainder_92 : decode cX6_remainder 92 = .ok (.getfield 67, 3) := by decide +kernel
theorem dX6_remainder_95 : decode cX6_remainder 95 = .ok (.iconst 0, 1) := by decide +kernel
theorem dX6_remainder_96 : decode cX6_remainder 96 = .ok (.iaload, 1) := by decide +kernel
theorem dX6_remainder_97 : decode cX6_remainder 97 = .ok (.aload_n 0, 1) := by decide +kernel
theorem dX6_remainder_98 : decode cX6_remainder 98 = .ok (.getfield 67, 3) := by decide +kernel
theorem dX6_remainder_101 : decode cX6_remainder 101 = .ok (.iconst 1, 1) := by decide +kernel
theorem dX6_remainder_102 : decode cX6_remainder 102 = .ok (.iaload, 1) := by decide +kernel
theorem dX6_remainder_103 : decode cX6_remainder 103 = .ok (.if_icmp .ge 5, 3) := by decide +kernel
theorem dX6_remainder_106 : decode cX6_remainder 106 = .ok (.lload_n 2, 1) := by decide +kernel
theorem dX6_remainder_107 : decode cX6_remainder 107 = .ok (.lreturn, 1) := by decide +kernel
theorem dX6_remainder_108 : decode cX6_remainder 108 = .ok (.aload_n 0, 1) := by decide +kernel
theorem dX6_remainder_109 : decode cX6_remainder 109 = .ok (.getfield 73, 3) := by decide +kernel
theorem dX6_remainder_112 : decode cX6_remainder 112 = .ok (.iconst 0, 1) := by decide +kernel
theorem dX6_remainder_113 : decode cX6_remainder 113 = .ok (.laload, 1) := by decide +kernel
theorem dX6_remainder_114 : decode cX6_remainder 114 = .ok (.aload_n 0, 1) := by decide +kernel
theorem dX6_remainder_115 : decode cX6_remainder 115 = .ok (.getfield 73, 3) := by decide +kernel
theorem dX6_remainder_118 : decode cX6_remainder 118 = .ok (.iconst 1, 1) := by decide +kernel
theorem dX6_remainder_119 : decode cX6_remainder 119 = .ok (.laload, 1) := by decide +kernel
theorem dX6_remainder_120 : decode cX6_remainder 120 = .ok (.lcmp, 1) := by decide +kernel
theorem dX6_remainder_121 : decode cX6_remainder 121 = .ok (.ifCond .lt 19, 3) := by decide +kernel
theorem dX6_remainder_124 : decode cX6_remainder 124 = .ok (.aload_n 0, 1) := by decide +kernel
theorem dX6_remainder_125 : decode cX6_remainder 125 = .ok (.getfield 73, 3) := by decide +kernel
theorem dX6_remainder_128 : decode cX6_remainder 128 = .ok (.iconst 0, 1) := by decide +kernel
theorem dX6_remainder_129 : decode cX6_remainder 129 = .ok (.laload, 1) := by decide +kernel
theorem dX6_remainder_130 : decode cX6_remainder 130 = .ok (.aload_n 0, 1) := by decide +kernel
theorem dX6_remainder_131 : decode cX6_remainder 131 = .ok (.getfield 73, 3) := by decide +kernel
theorem dX6_remainder_134 : decode cX6_remainder 134 = .ok (.iconst 1, 1) := by decide +kernel
theorem dX6_remainder_135 : decode cX6_remainder 135 = .ok (.laload, 1) := by decide +kernel
theorem dX6_remainder_136 : decode cX6_remainder 136 = .ok (.lsub, 1) := by decide +kernel
theorem dX6_remainder_137 : decode cX6_remainder 137 = .ok (.goto 9, 3) := by decide +kernel
theorem dX6_remainder_140 : decode cX6_remainder 140 = .ok (.aload_n 0, 1) := by decide +kernel
theorem dX6_remainder_141 : decode cX6_remainder 141 = .ok (.getfield 73, 3) := by decide +kernel
theorem dX6_remainder_144 : decode cX6_remainder 144 = .ok (.iconst 0, 1) := by decide +kernel
theorem dX6_remainder_145 : decode cX6_remainder 145 = .ok (.laload, 1) := by decide +kernel
theorem dX6_remainder_146 : decode cX6_remainder 146 = .ok (.lstore 6, 2) := by decide +kernel
theorem dX6_remainder_148 : decode cX6_remainder 148 = .ok (.aload_n 0, 1) := by decide +kernel
theorem dX6_remainder_149 : decode cX6_remainder 149 = .ok (.getfield 67, 3) := by decide +kernel
theorem dX6_remainder_152 : decode cX6_remainder 152 = .ok (.iconst 0, 1) := by decide +kernel
theorem dX6_remainder_153 : decode cX6_remainder 153 = .ok (.iaload, 1) := by decide +kernel
theorem dX6_remainder_154 : decode cX6_remainder 154 = .ok (.istore 8, 2) := by decide +kernel
theorem dX6_remainder_156 : decode cX6_remainder 156 = .ok (.iload 8, 2) := by decide +kernel
theorem dX6_remainder_158 : decode cX6_remainder 158 = .ok (.aload_n 0, 1) := by decide +kernel
theorem dX6_remainder_159 : decode cX6_remainder 159 = .ok (.getfield 67, 3) := by decide +kernel
theorem dX6_remainder_162 : decode cX6_remainder 162 = .ok (.iconst 1, 1) := by decide +kernel
theorem dX6_remainder_163 : decode cX6_remainder 163 = .ok (.iaload, 1) := by decide +kernel
theorem dX6_remainder_164 : decode cX6_remainder 164 = .ok (.if_icmp .le 38, 3) := by decide +kernel
theorem dX6_remainder_167 : decode cX6_remainder 167 = .ok (.lload 6, 2) := by decide +kernel
theorem dX6_remainder_169 : decode cX6_remainder 169 = .ok (.iconst 1, 1) := by decide +kernel
theorem dX6_remainder_170 : decode cX6_remainder 170 = .ok (.lshl, 1) := by decide +kernel
theorem dX6_remainder_171 : decode cX6_remainder 171 = .ok (.lstore 6, 2) := by decide +kernel
theorem dX6_remainder_173 : decode cX6_remainder 173 = .ok (.lload 6, 2) := by decide +kernel
theorem dX6_remainder_175 : decode cX6_remainder 175 = .ok (.aload_n 0, 1) := by decide +kernel
theorem dX6_remainder_176 : decode cX6_remainder 176 = .ok (.getfield 73, 3) := by decide +kernel
theorem dX6_remainder_179 : decode cX6_remainder 179 = .ok (.iconst 1, 1) := by decide +kernel
theorem dX6_remainder_180 : decode cX6_remainder 180 = .ok (.laload, 1) := by decide +kernel
theorem dX6_remainder_181 : decode cX6_remainder 181 = .ok (.lcmp, 1) := by decide +kernel
theorem dX6_remainder_182 : decode cX6_remainder 182 = .ok (.ifCond .lt 14, 3) := by decide +kernel
theorem dX6_remainder_185 : decode cX6_remainder 185 = .ok (.lload 6, 2) := by decide +kernel
theorem dX6_remainder_187 : decode cX6_remainder 187 = .ok (.aload_n 0, 1) := by decide +kernel
theorem dX6_remainder_188 : decode cX6_remainder 188 = .ok (.getfield 73, 3) := by decide +kernel
theorem dX6_remainder_191 : decode cX6_remainder 191 = .ok (.iconst 1, 1) := by decide +kernel
theorem dX6_remainder_192 : decode cX6_remainder 192 = .ok (.laload, 1) := by decide +kernel
theorem dX6_remainder_193 : decode cX6_remainder 193 = .ok (.lsub, 1) := by decide +kernel
theorem dX6_remainder_194 : decode cX6_remainder 194 = .ok (.lstore 6, 2) := by decide +kernel
theorem dX6_remainder_196 : decode cX6_remainder 196 = .ok (.iinc 8 (-1), 3) := by decide +kernel
theorem dX6_remainder_199 : decode cX6_remainder 199 = .ok (.goto (-43), 3) := by decide +kernel
theorem dX6_remainder_202 : decode cX6_remainder 202 = .ok (.lload 6, 2) := by decide +kernel
theorem dX6_remainder_204 : decode cX6_remainder 204 = .ok (.lconst 0, 1) := by decide +kernel
theorem dX6_remainder_205 : decode cX6_remainder 205 = .ok (.lcmp, 1) := by decide +kernel
theorem dX6_remainder_206 : decode cX6_remainder 206 = .ok (.ifCond .ne 18, 3) := by decide +kernel
theorem dX6_remainder_209 : decode cX6_remainder 209 = .ok (.aload_n 0, 1) := by decide +kernel
theorem dX6_remainder_210 : decode cX6_remainder 210 = .ok (.iload_n 1, 1) := by decide +kernel
theorem dX6_remainder_211 : decode cX6_remainder 211 = .ok (.aload_n 0, 1) := by decide +kernel
theorem dX6_remainder_212 : decode cX6_remainder 212 = .ok (.getfield 70, 3) := by decide +kernel
theorem dX6_remainder_215 : decode cX6_remainder 215 = .ok (.iconst 0, 1) := by decide +kernel
theorem dX6_remainder_216 : decode cX6_remainder 216 = .ok (.baload, 1) := by decide +kernel
theorem dX6_remainder_217 : decode cX6_remainder 217 = .ok (.lconst 0, 1) := by decide +kernel
theorem dX6_remainder_218 : decode cX6_remainder 218 = .ok (.invokevirtual 107, 3) := by decide +kernel
theorem dX6_remainder_221 : decode cX6_remainder 221 = .ok (.goto 23, 3) := by decide +kernel
theorem dX6_remainder_224 : decode cX6_remainder 224 = .ok (.aload_n 0, 1) := by decide +kernel
theorem dX6_remainder_225 : decode cX6_remainder 225 = .ok (.iload_n 1, 1) := by decide +kernel
theorem dX6_remainder_226 : decode cX6_remainder 226 = .ok (.aload_n 0, 1) := by decide +kernel
theorem dX6_remainder_227 : decode cX6_remainder 227 = .ok (.getfield 70, 3) := by decide +kernel
theorem dX6_remainder_230 : decode cX6_remainder 230 = .ok (.iconst 0, 1) := by decide +kernel
theorem dX6_remainder_231 : decode cX6_remainder 231 = .ok (.baload, 1) := by decide +kernel
theorem dX6_remainder_232 : decode cX6_remainder 232 = .ok (.lload 6, 2) := by decide +kernel
theorem dX6_remainder_234 : decode cX6_remainder 234 = .ok (.aload_n 0, 1) := by decide +kernel
theorem dX6_remainder_235 : decode cX6_remainder 235 = .ok (.getfield 67, 3) := by decide +kernel
theorem dX6_remainder_238 : decode cX6_remainder 238 = .ok (.iconst 1, 1) := by decide +kernel
theorem dX6_remainder_239 : decode cX6_remainder 239 = .ok (.iaload, 1) := by decide +kernel
theorem dX6_remainder_240 : decode cX6_remainder 240 = .ok (.iconst 0, 1) := by decide +kernel
theorem dX6_remainder_241 : decode cX6_remainder 241 = .ok (.invokevirtual 122, 3) := by decide +kernel
theorem dX6_remainder_244 : decode cX6_remainder 244 = .ok (.lreturn, 1) := by decide +kernel
theorem dX6_fromWhole_0 : decode cX6_fromWhole 0 = .ok (.lload_n 2, 1) := by decide +kernel
theorem dX6_fromWhole_1 : decode cX6_fromWhole 1 = .ok (.lconst 0, 1) := by decide +kernel
theorem dX6_fromWhole_2 : decode cX6_fromWhole 2 = .ok (.lcmp, 1) := by decide +kernel
theorem dX6_fromWhole_3 : decode cX6_fromWhole 3 = .ok (.ifCond .ne 5, 3) := by decide +kernel
theorem dX6_fromWhole_6 : decode cX6_fromWhole 6 = .ok (.lconst 0, 1) := by decide +kernel
theorem dX6_fromWhole_7 : decode cX6_fromWhole 7 = .ok (.lreturn, 1) := by decide +kernel
theorem dX6_fromWhole_8 : decode cX6_fromWhole 8 = .ok (.lload_n 2, 1) := by decide +kernel
theorem dX6_fromWhole_9 : decode cX6_fromWhole 9 = .ok (.ldc2_w 84, 3) := by decide +kernel
theorem dX6_fromWhole_12 : decode cX6_fromWhole 12 = .ok (.lcmp, 1) := by decide +kernel
theorem dX6_fromWhole_13 : decode cX6_fromWhole 13 = .ok (.ifCond .ne 15, 3) := by decide +kernel
theorem dX6_fromWhole_16 : decode cX6_fromWhole 16 = .ok (.aload_n 0, 1) := by decide +kernel
theorem dX6_fromWhole_17 : decode cX6_fromWhole 17 = .ok (.iload_n 1, 1) := by decide +kernel
theorem dX6_fromWhole_18 : decode cX6_fromWhole 18 = .ok (.iconst 1, 1) := by decide +kernel
theorem dX6_fromWhole_19 : decode cX6_fromWhole 19 = .ok (.ldc2_w 126, 3) := by decide +kernel
theorem dX6_fromWhole_22 : decode cX6_fromWhole 22 = .ok (.iconst 2, 1) := by decide +kernel
theorem dX6_fromWhole_23 : decode cX6_fromWhole 23 = .ok (.iconst 0, 1) := by decide +kernel
theorem dX6_fromWhole_24 : decode cX6_fromWhole 24 = .ok (.invokevirtual 122, 3) := by decide +kernel
theorem dX6_fromWhole_27 : decode cX6_fromWhole 27 = .ok (.lreturn, 1) := by decide +kernel
theorem dX6_fromWhole_28 : decode cX6_fromWhole 28 = .ok (.lload_n 2, 1) := by decide +kernel
theorem dX6_fromWhole_29 : decode cX6_fromWhole 29 = .ok (.lconst 0, 1) := by decide +kernel
theorem dX6_fromWhole_30 : decode cX6_fromWhole 30 = .ok (.lcmp, 1) := by decide +kernel
theorem dX6_fromWhole_31 : decode cX6_fromWhole 31 = .ok (.ifCond .ge 8, 3) := by decide +kernel
theorem dX6_fromWhole_34 : decode cX6_fromWhole 34 = .ok (.lload_n 2, 1) := by decide +kernel
theorem dX6_fromWhole_35 : decode cX6_fromWhole 35 = .ok (.lneg, 1) := by decide +kernel
theorem dX6_fromWhole_36 : decode cX6_fromWhole 36 = .ok (.goto 4, 3) := by decide +kernel
theorem dX6_fromWhole_39 : decode cX6_fromWhole 39 = .ok (.lload_n 2, 1) := by decide +kernel
theorem dX6_fromWhole_40 : decode cX6_fromWhole 40 = .ok (.lstore 4, 2) := by decide +kernel
theorem dX6_fromWhole_42 : decode cX6_fromWhole 42 = .ok (.lload 4, 2) := by decide +kernel
theorem dX6_fromWhole_44 : decode cX6_fromWhole 44 = .ok (.ldc2_w 128, 3) := by decide +kernel
theorem dX6_fromWhole_47 : decode cX6_fromWhole 47 = .ok (.lcmp, 1) := by decide +kernel
theorem dX6_fromWhole_48 : decode cX6_fromWhole 48 = .ok (.ifCond .ge 26, 3) := by decide +kernel
theorem dX6_fromWhole_51 : decode cX6_fromWhole 51 = .ok (.aload_n 0, 1) := by decide +kernel
theorem dX6_fromWhole_52 : decode cX6_fromWhole 52 = .ok (.iload_n 1, 1) := by decide +kernel
theorem dX6_fromWhole_53 : decode cX6_fromWhole 53 = .ok (.lload_n 2, 1) := by decide +kernel
theorem dX6_fromWhole_54 : decode cX6_fromWhole 54 = .ok (.lconst 0, 1) := by decide +kernel
theorem dX6_fromWhole_55 : decode cX6_fromWhole 55 = .ok (.lcmp, 1) := by decide +kernel
theorem dX6_fromWhole_56 : decode cX6_fromWhole 56 = .ok (.ifCond .ge 7, 3) := by decide +kernel
theorem dX6_fromWhole_59 : decode cX6_fromWhole 59 = .ok (.iconst 1, 1) := by decide +kernel
theorem dX6_fromWhole_60 : decode cX6_fromWhole 60 = .ok (.goto 4, 3) := by decide +kernel
theorem dX6_fromWhole_63 : decode cX6_fromWhole 63 = .ok (.iconst 0, 1) := by decide +kernel
theorem dX6_fromWhole_64 : decode cX6_fromWhole 64 = .ok (.lload 4, 2) := by decide +kernel
theorem dX6_fromWhole_66 : decode cX6_fromWhole 66 = .ok (.iconst 0, 1) := by decide +kernel
theorem dX6_fromWhole_67 : decode cX6_fromWhole 67 = .ok (.iconst 0, 1) := by decide +kernel
theorem dX6_fromWhole_68 : decode cX6_fromWhole 68 = .ok (.invokevirtual 122, 3) := by decide +kernel
theorem dX6_fromWhole_71 : decode cX6_fromWhole 71 = .ok (.goto 30, 3) := by decide +kernel
theorem dX6_fromWhole_74 : decode cX6_fromWhole 74 = .ok (.aload_n 0, 1) := by decide +kernel
theorem dX6_fromWhole_75 : decode cX6_fromWhole 75 = .ok (.iload_n 1, 1) := by decide +kernel
theorem dX6_fromWhole_76 : decode cX6_fromWhole 76 = .ok (.lload_n 2, 1) := by decide +kernel
theorem dX6_fromWhole_77 : decode cX6_fromWhole 77 = .ok (.lconst 0, 1) := by decide +kernel
theorem dX6_fromWhole_78 : decode cX6_fromWhole 78 = .ok (.lcmp, 1) := by decide +kernel
theorem dX6_fromWhole_79 : decode cX6_fromWhole 79 = .ok (.ifCond .ge 7, 3) := by decide +kernel
theorem dX6_fromWhole_82 : decode cX6_fromWhole 82 = .ok (.iconst 1, 1) := by decide +kernel
theorem dX6_fromWhole_83 : decode cX6_fromWhole 83 = .ok (.goto 4, 3) := by decide +kernel
theorem dX6_fromWhole_86 : decode cX6_fromWhole 86 = .ok (.iconst 0, 1) := by decide +kernel
theorem dX6_fromWhole_87 : decode cX6_fromWhole 87 = .ok (.lload 4, 2) := by decide +kernel
theorem dX6_fromWhole_89 : decode cX6_fromWhole 89 = .ok (.iconst 1, 1) := by decide +kernel
theorem dX6_fromWhole_90 : decode cX6_fromWhole 90 = .ok (.lshr, 1) := by decide +kernel
theorem dX6_fromWhole_91 : decode cX6_fromWhole 91 = .ok (.lload 4, 2) := by decide +kernel
theorem dX6_fromWhole_93 : decode cX6_fromWhole 93 = .ok (.lconst 1, 1) := by decide +kernel
theorem dX6_fromWhole_94 : decode cX6_fromWhole 94 = .ok (.land, 1) := by decide +kernel
theorem dX6_fromWhole_95 : decode cX6_fromWhole 95 = .ok (.lor, 1) := by decide +kernel
theorem dX6_fromWhole_96 : decode cX6_fromWhole 96 = .ok (.iconst 1, 1) := by decide +kernel
theorem dX6_fromWhole_97 : decode cX6_fromWhole 97 = .ok (.iconst 0, 1) := by decide +kernel
theorem dX6_fromWhole_98 : decode cX6_fromWhole 98 = .ok (.invokevirtual 122, 3) := by decide +kernel
theorem dX6_fromWhole_101 : decode cX6_fromWhole 101 = .ok (.lreturn, 1) := by decide +kernel
theorem dX6_toWhole_0 : decode cX6_toWhole 0 = .ok (.aload_n 0, 1) := by decide +kernel
theorem dX6_toWhole_1 : decode cX6_toWhole 1 = .ok (.iconst 0, 1) := by decide +kernel
theorem dX6_toWhole_2 : decode cX6_toWhole 2 = .ok (.lload_n 2, 1) := by decide +kernel
theorem dX6_toWhole_3 : decode cX6_toWhole 3 = .ok (.iload_n 1, 1) := by decide +kernel
theorem dX6_toWhole_4 : decode cX6_toWhole 4 = .ok (.invokevirtual 111, 3) := by decide +kernel
theorem dX6_toWhole_7 : decode cX6_toWhole 7 = .ok (.iload 4, 2) := by decide +kernel
theorem dX6_toWhole_9 : decode cX6_toWhole 9 = .ok (.ifCond .eq 9, 3) := by decide +kernel
theorem dX6_toWhole_12 : decode cX6_toWhole 12 = .ok (.ldc2_w 92, 3) := by decide +kernel
theorem dX6_toWhole_15 : decode cX6_toWhole 15 = .ok (.goto 6, 3) := by decide +kernel
theorem dX6_toWhole_18 : decode cX6_toWhole 18 = .ok (.ldc2_w 94, 3) := by decide +kernel
theorem dX6_toWhole_21 : decode cX6_toWhole 21 = .ok (.lstore 5, 2) := by decide +kernel
theorem dX6_toWhole_23 : decode cX6_toWhole 23 = .ok (.aload_n 0, 1) := by decide +kernel
theorem dX6_toWhole_24 : decode cX6_toWhole 24 = .ok (.getfield 64, 3) := by decide +kernel
theorem dX6_toWhole_27 : decode cX6_toWhole 27 = .ok (.iconst 0, 1) := by decide +kernel
theorem dX6_toWhole_28 : decode cX6_toWhole 28 = .ok (.iaload, 1) := by decide +kernel
theorem dX6_toWhole_29 : decode cX6_toWhole 29 = .ok (.ifCond .eq 13, 3) := by decide +kernel
theorem dX6_toWhole_32 : decode cX6_toWhole 32 = .ok (.aload_n 0, 1) := by decide +kernel
theorem dX6_toWhole_33 : decode cX6_toWhole 33 = .ok (.getfield 64, 3) := by decide +kernel
theorem dX6_toWhole_36 : decode cX6_toWhole 36 = .ok (.iconst 0, 1) := by decide +kernel
theorem dX6_toWhole_37 : decode cX6_toWhole 37 = .ok (.iaload, 1) := by decide +kernel
theorem dX6_toWhole_38 : decode cX6_toWhole 38 = .ok (.iconst 3, 1) := by decide +kernel
theorem dX6_toWhole_39 : decode cX6_toWhole 39 = .ok (.if_icmp .ne 5, 3) := by decide +kernel
theorem dX6_toWhole_42 : decode cX6_toWhole 42 = .ok (.lconst 0, 1) := by decide +kernel
theorem dX6_toWhole_43 : decode cX6_toWhole 43 = .ok (.lreturn, 1) := by decide +kernel
theorem dX6_toWhole_44 : decode cX6_toWhole 44 = .ok (.aload_n 0, 1) := by decide +kernel
theorem dX6_toWhole_45 : decode cX6_toWhole 45 = .ok (.getfield 64, 3) := by decide +kernel
theorem dX6_toWhole_48 : decode cX6_toWhole 48 = .ok (.iconst 0, 1) := by decide +kernel
theorem dX6_toWhole_49 : decode cX6_toWhole 49 = .ok (.iaload, 1) := by decide +kernel
theorem dX6_toWhole_50 : decode cX6_toWhole 50 = .ok (.iconst 2, 1) := by decide +kernel
theorem dX6_toWhole_51 : decode cX6_toWhole 51 = .ok (.if_icmp .eq 25, 3) := by decide +kernel
theorem dX6_toWhole_54 : decode cX6_toWhole 54 = .ok (.aload_n 0, 1) := by decide +kernel
theorem dX6_toWhole_55 : decode cX6_toWhole 55 = .ok (.aload_n 0, 1) := by decide +kernel
theorem dX6_toWhole_56 : decode cX6_toWhole 56 = .ok (.getfield 73, 3) := by decide +kernel
theorem dX6_toWhole_59 : decode cX6_toWhole 59 = .ok (.iconst 0, 1) := by decide +kernel
theorem dX6_toWhole_60 : decode cX6_toWhole 60 = .ok (.laload, 1) := by decide +kernel
theorem dX6_toWhole_61 : decode cX6_toWhole 61 = .ok (.invokevirtual 99, 3) := by decide +kernel
theorem dX6_toWhole_64 : decode cX6_toWhole 64 = .ok (.aload_n 0, 1) := by decide +kernel
theorem dX6_toWhole_65 : decode cX6_toWhole 65 = .ok (.getfield 67, 3) := by decide +kernel
theorem dX6_toWhole_68 : decode cX6_toWhole 68 = .ok (.iconst 0, 1) := by decide +kernel
theorem dX6_toWhole_69 : decode cX6_toWhole 69 = .ok (.iaload, 1) := by decide +kernel
theorem dX6_toWhole_70 : decode cX6_toWhole 70 = .ok (.iadd, 1) := by decide +kernel
theorem dX6_toWhole_71 : decode cX6_toWhole 71 = .ok (.bipush 63, 2) := by decide +kernel
theorem dX6_toWhole_73 : decode cX6_toWhole 73 = .ok (.if_icmp .le 7, 3) := by decide +kernel
theorem dX6_toWhole_76 : decode cX6_toWhole 76 = .ok (.iconst 1, 1) := by decide +kernel
theorem dX6_toWhole_77 : decode cX6_toWhole 77 = .ok (.goto 4, 3) := by decide +kernel
theorem dX6_toWhole_80 : decode cX6_toWhole 80 = .ok (.iconst 0, 1) := by decide +kernel
theorem dX6_toWhole_81 : decode cX6_toWhole 81 = .ok (.istore 7, 2) := by decide +kernel
theorem dX6_toWhole_83 : decode cX6_toWhole 83 = .ok (.iload 7, 2) := by decide +kernel
theorem dX6_toWhole_85 : decode cX6_toWhole 85 = .ok (.ifCond .eq 8, 3) := by decide +kernel
theorem dX6_toWhole_88 : decode cX6_toWhole 88 = .ok (.lload 5, 2) := by decide +kernel
theorem dX6_toWhole_90 : decode cX6_toWhole 90 = .ok (.goto 57, 3) := by decide +kernel
theorem dX6_toWhole_93 : decode cX6_toWhole 93 = .ok (.aload_n 0, 1) := by decide +kernel
theorem dX6_toWhole_94 : decode cX6_toWhole 94 = .ok (.getfield 67, 3) := by decide +kernel
theorem dX6_toWhole_97 : decode cX6_toWhole 97 = .ok (.iconst 0, 1) := by decide +kernel
theorem dX6_toWhole_98 : decode cX6_toWhole 98 = .ok (.iaload, 1) := by decide +kernel
theorem dX6_toWhole_99 : decode cX6_toWhole 99 = .ok (.ifCond .lt 19, 3) := by decide +kernel
theorem dX6_toWhole_102 : decode cX6_toWhole 102 = .ok (.aload_n 0, 1) := by decide +kernel
theorem dX6_toWhole_103 : decode cX6_toWhole 103 = .ok (.getfield 73, 3) := by decide +kernel
theorem dX6_toWhole_106 : decode cX6_toWhole 106 = .ok (.iconst 0, 1) := by decide +kernel
theorem dX6_toWhole_107 : decode cX6_toWhole 107 = .ok (.laload, 1) := by decide +kernel
theorem dX6_toWhole_108 : decode cX6_toWhole 108 = .ok (.aload_n 0, 1) := by decide +kernel
theorem dX6_toWhole_109 : decode cX6_toWhole 109 = .ok (.getfield 67, 3) := by decide +kernel
theorem dX6_toWhole_112 : decode cX6_toWhole 112 = .ok (.iconst 0, 1) := by decide +kernel
theorem dX6_toWhole_113 : decode cX6_toWhole 113 = .ok (.iaload, 1) := by decide +kernel
theorem dX6_toWhole_114 : decode cX6_toWhole 114 = .ok (.lshl, 1) := by decide +kernel
theorem dX6_toWhole_115 : decode cX6_toWhole 115 = .ok (.goto 32, 3) := by decide +kernel
theorem dX6_toWhole_118 : decode cX6_toWhole 118 = .ok (.aload_n 0, 1) := by decide +kernel
theorem dX6_toWhole_119 : decode cX6_toWhole 119 = .ok (.getfield 67, 3) := by decide +kernel
theorem dX6_toWhole_122 : decode cX6_toWhole 122 = .ok (.iconst 0, 1) := by decide +kernel
theorem dX6_toWhole_123 : decode cX6_toWhole 123 = .ok (.iaload, 1) := by decide +kernel
theorem dX6_toWhole_124 : decode cX6_toWhole 124 = .ok (.bipush (-63), 2) := by decide +kernel
theorem dX6_toWhole_126 : decode cX6_toWhole 126 = .ok (.if_icmp .ge 7, 3) := by decide +kernel
theorem dX6_toWhole_129 : decode cX6_toWhole 129 = .ok (.lconst 0, 1) := by decide +kernel
theorem dX6_toWhole_130 : decode cX6_toWhole 130 = .ok (.goto 17, 3) := by decide +kernel
theorem dX6_toWhole_133 : decode cX6_toWhole 133 = .ok (.aload_n 0, 1) := by decide +kernel
theorem dX6_toWhole_134 : decode cX6_toWhole 134 = .ok (.getfield 73, 3) := by decide +kernel
theorem dX6_toWhole_137 : decode cX6_toWhole 137 = .ok (.iconst 0, 1) := by decide +kernel
theorem dX6_toWhole_138 : decode cX6_toWhole 138 = .ok (.laload, 1) := by decide +kernel
theorem dX6_toWhole_139 : decode cX6_toWhole 139 = .ok (.aload_n 0, 1) := by decide +kernel
theorem dX6_toWhole_140 : decode cX6_toWhole 140 = .ok (.getfield 67, 3) := by decide +kernel
theorem dX6_toWhole_143 : decode cX6_toWhole 143 = .ok (.iconst 0, 1) := by decide +kernel
theorem dX6_toWhole_144 : decode cX6_toWhole 144 = .ok (.iaload, 1) := by decide +kernel
theorem dX6_toWhole_145 : decode cX6_toWhole 145 = .ok (.ineg, 1) := by decide +kernel
theorem dX6_toWhole_146 : decode cX6_toWhole 146 = .ok (.lshr, 1) := by decide +kernel
theorem dX6_toWhole_147 : decode cX6_toWhole 147 = .ok (.lstore 8, 2) := by decide +kernel
theorem dX6_toWhole_149 : decode cX6_toWhole 149 = .ok (.iload 7, 2) := by decide +kernel
theorem dX6_toWhole_151 : decode cX6_toWhole 151 = .ok (.ifCond .ne 11, 3) := by decide +kernel
theorem dX6_toWhole_154 : decode cX6_toWhole 154 = .ok (.lload 8, 2) := by decide +kernel
theorem dX6_toWhole_156 : decode cX6_toWhole 156 = .ok (.lload 5, 2) := by decide +kernel
theorem dX6_toWhole_158 : decode cX6_toWhole 158 = .ok (.lcmp, 1) := by decide +kernel
theorem dX6_toWhole_159 : decode cX6_toWhole 159 = .ok (.ifCond .le 23, 3) := by decide +kernel
theorem dX6_toWhole_162 : decode cX6_toWhole 162 = .ok (.aload_n 0, 1) := by decide +kernel
theorem dX6_toWhole_163 : decode cX6_toWhole 163 = .ok (.getfield 70, 3) := by decide +kernel
theorem dX6_toWhole_166 : decode cX6_toWhole 166 = .ok (.iconst 0, 1) := by decide +kernel
theorem dX6_toWhole_167 : decode cX6_toWhole 167 = .ok (.baload, 1) := by decide +kernel
theorem dX6_toWhole_168 : decode cX6_toWhole 168 = .ok (.ifCond .eq 11, 3) := by decide +kernel
theorem dX6_toWhole_171 : decode cX6_toWhole 171 = .ok (.lload 5, 2) := by decide +kernel
theorem dX6_toWhole_173 : decode cX6_toWhole 173 = .ok (.lneg, 1) := by decide +kernel
theorem dX6_toWhole_174 : decode cX6_toWhole 174 = .ok (.lconst 1, 1) := by decide +kernel
theorem dX6_toWhole_175 : decode cX6_toWhole 175 = .ok (.lsub, 1) := by decide +kernel
theorem dX6_toWhole_176 : decode cX6_toWhole 176 = .ok (.goto 5, 3) := by decide +kernel
theorem dX6_toWhole_179 : decode cX6_toWhole 179 = .ok (.lload 5, 2) := by decide +kernel
theorem dX6_toWhole_181 : decode cX6_toWhole 181 = .ok (.lreturn, 1) := by decide +kernel
theorem dX6_toWhole_182 : decode cX6_toWhole 182 = .ok (.aload_n 0, 1) := by decide +kernel
theorem dX6_toWhole_183 : decode cX6_toWhole 183 = .ok (.getfield 70, 3) := by decide +kernel
theorem dX6_toWhole_186 : decode cX6_toWhole 186 = .ok (.iconst 0, 1) := by decide +kernel
theorem dX6_toWhole_187 : decode cX6_toWhole 187 = .ok (.baload, 1) := by decide +kernel
theorem dX6_toWhole_188 : decode cX6_toWhole 188 = .ok (.ifCond .eq 9, 3) := by decide +kernel
theorem dX6_toWhole_191 : decode cX6_toWhole 191 = .ok (.lload 8, 2) := by decide +kernel
theorem dX6_toWhole_193 : decode cX6_toWhole 193 = .ok (.lneg, 1) := by decide +kernel
theorem dX6_toWhole_194 : decode cX6_toWhole 194 = .ok (.goto 5, 3) := by decide +kernel
theorem dX6_toWhole_197 : decode cX6_toWhole 197 = .ok (.lload 8, 2) := by decide +kernel
theorem dX6_toWhole_199 : decode cX6_toWhole 199 = .ok (.lreturn, 1) := by decide +kernel
theorem dX6_otherFormat_0 : decode cX6_otherFormat 0 = .ok (.aload_n 0, 1) := by decide +kernel
theorem dX6_otherFormat_1 : decode cX6_otherFormat 1 = .ok (.iconst 0, 1) := by decide +kernel
theorem dX6_otherFormat_2 : decode cX6_otherFormat 2 = .ok (.lload_n 2, 1) := by decide +kernel
theorem dX6_otherFormat_3 : decode cX6_otherFormat 3 = .ok (.iload_n 1, 1) := by decide +kernel
theorem dX6_otherFormat_4 : decode cX6_otherFormat 4 = .ok (.invokevirtual 111, 3) := by decide +kernel
theorem dX6_otherFormat_7 : decode cX6_otherFormat 7 = .ok (.aload_n 0, 1) := by decide +kernel
theorem dX6_otherFormat_8 : decode cX6_otherFormat 8 = .ok (.getfield 64, 3) := by decide +kernel
theorem dX6_otherFormat_11 : decode cX6_otherFormat 11 = .ok (.iconst 0, 1) := by decide +kernel
theorem dX6_otherFormat_12 : decode cX6_otherFormat 12 = .ok (.iaload, 1) := by decide +kernel
theorem dX6_otherFormat_13 : decode cX6_otherFormat 13 = .ok (.iconst 3, 1) := by decide +kernel
theorem dX6_otherFormat_14 : decode cX6_otherFormat 14 = .ok (.if_icmp .ne 17, 3) := by decide +kernel
theorem dX6_otherFormat_17 : decode cX6_otherFormat 17 = .ok (.aload_n 0, 1) := by decide +kernel
theorem dX6_otherFormat_18 : decode cX6_otherFormat 18 = .ok (.iload_n 1, 1) := by decide +kernel
theorem dX6_otherFormat_19 : decode cX6_otherFormat 19 = .ok (.ifCond .ne 7, 3) := by decide +kernel
theorem dX6_otherFormat_22 : decode cX6_otherFormat 22 = .ok (.iconst 1, 1) := by decide +kernel
theorem dX6_otherFormat_23 : decode cX6_otherFormat 23 = .ok (.goto 4, 3) := by decide +kernel
theorem dX6_otherFormat_26 : decode cX6_otherFormat 26 = .ok (.iconst 0, 1) := by decide +kernel
theorem dX6_otherFormat_27 : decode cX6_otherFormat 27 = .ok (.invokevirtual 115, 3) := by decide +kernel
theorem dX6_otherFormat_30 : decode cX6_otherFormat 30 = .ok (.lreturn, 1) := by decide +kernel
theorem dX6_otherFormat_31 : decode cX6_otherFormat 31 = .ok (.aload_n 0, 1) := by decide +kernel
theorem dX6_otherFormat_32 : decode cX6_otherFormat 32 = .ok (.getfield 64, 3) := by decide +kernel
theorem dX6_otherFormat_35 : decode cX6_otherFormat 35 = .ok (.iconst 0, 1) := by decide +kernel
theorem dX6_otherFormat_36 : decode cX6_otherFormat 36 = .ok (.iaload, 1) := by decide +kernel
theorem dX6_otherFormat_37 : decode cX6_otherFormat 37 = .ok (.iconst 1, 1) := by decide +kernel
theorem dX6_otherFormat_38 : decode cX6_otherFormat 38 = .ok (.if_icmp .eq 49, 3) := by decide +kernel
theorem dX6_otherFormat_41 : decode cX6_otherFormat 41 = .ok (.aload_n 0, 1) := by decide +kernel
theorem dX6_otherFormat_42 : decode cX6_otherFormat 42 = .ok (.iload_n 1, 1) := by decide +kernel
theorem dX6_otherFormat_43 : decode cX6_otherFormat 43 = .ok (.ifCond .ne 7, 3) := by decide +kernel
theorem dX6_otherFormat_46 : decode cX6_otherFormat 46 = .ok (.iconst 1, 1) := by decide +kernel
theorem dX6_otherFormat_47 : decode cX6_otherFormat 47 = .ok (.goto 4, 3) := by decide +kernel
theorem dX6_otherFormat_50 : decode cX6_otherFormat 50 = .ok (.iconst 0, 1) := by decide +kernel
theorem dX6_otherFormat_51 : decode cX6_otherFormat 51 = .ok (.aload_n 0, 1) := by decide +kernel
theorem dX6_otherFormat_52 : decode cX6_otherFormat 52 = .ok (.getfield 70, 3) := by decide +kernel
theorem dX6_otherFormat_55 : decode cX6_otherFormat 55 = .ok (.iconst 0, 1) := by decide +kernel
theorem dX6_otherFormat_56 : decode cX6_otherFormat 56 = .ok (.baload, 1) := by decide +kernel
theorem dX6_otherFormat_57 : decode cX6_otherFormat 57 = .ok (.aload_n 0, 1) := by decide +kernel
theorem dX6_otherFormat_58 : decode cX6_otherFormat 58 = .ok (.getfield 64, 3) := by decide +kernel
theorem dX6_otherFormat_61 : decode cX6_otherFormat 61 = .ok (.iconst 0, 1) := by decide +kernel
theorem dX6_otherFormat_62 : decode cX6_otherFormat 62 = .ok (.iaload, 1) := by decide +kernel
theorem dX6_otherFormat_63 : decode cX6_otherFormat 63 = .ok (.ifCond .ne 7, 3) := by decide +kernel
theorem dX6_otherFormat_66 : decode cX6_otherFormat 66 = .ok (.lconst 0, 1) := by decide +kernel
theorem dX6_otherFormat_67 : decode cX6_otherFormat 67 = .ok (.goto 16, 3) := by decide +kernel
theorem dX6_otherFormat_70 : decode cX6_otherFormat 70 = .ok (.aload_n 0, 1) := by decide +kernel
theorem dX6_otherFormat_71 : decode cX6_otherFormat 71 = .ok (.iload_n 1, 1) := by decide +kernel
theorem dX6_otherFormat_72 : decode cX6_otherFormat 72 = .ok (.ifCond .ne 7, 3) := by decide +kernel
theorem dX6_otherFormat_75 : decode cX6_otherFormat 75 = .ok (.iconst 1, 1) := by decide +kernel
theorem dX6_otherFormat_76 : decode cX6_otherFormat 76 = .ok (.goto 4, 3) := by decide +kernel
theorem dX6_otherFormat_79 : decode cX6_otherFormat 79 = .ok (.iconst 0, 1) := by decide +kernel
theorem dX6_otherFormat_80 : decode cX6_otherFormat 80 = .ok (.invokevirtual 103, 3) := by decide +kernel
theorem dX6_otherFormat_83 : decode cX6_otherFormat 83 = .ok (.invokevirtual 107, 3) := by decide +kernel
theorem dX6_otherFormat_86 : decode cX6_otherFormat 86 = .ok (.lreturn, 1) := by decide +kernel
theorem dX6_otherFormat_87 : decode cX6_otherFormat 87 = .ok (.aload_n 0, 1) := by decide +kernel
theorem dX6_otherFormat_88 : decode cX6_otherFormat 88 = .ok (.iload_n 1, 1) := by decide +kernel
theorem dX6_otherFormat_89 : decode cX6_otherFormat 89 = .ok (.ifCond .ne 7, 3) := by decide +kernel
theorem dX6_otherFormat_92 : decode cX6_otherFormat 92 = .ok (.iconst 1, 1) := by decide +kernel
theorem dX6_otherFormat_93 : decode cX6_otherFormat 93 = .ok (.goto 4, 3) := by decide +kernel
theorem dX6_otherFormat_96 : decode cX6_otherFormat 96 = .ok (.iconst 0, 1) := by decide +kernel
theorem dX6_otherFormat_97 : decode cX6_otherFormat 97 = .ok (.aload_n 0, 1) := by decide +kernel
theorem dX6_otherFormat_98 : decode cX6_otherFormat 98 = .ok (.getfield 70, 3) := by decide +kernel
theorem dX6_otherFormat_101 : decode cX6_otherFormat 101 = .ok (.iconst 0, 1) := by decide +kernel
theorem dX6_otherFormat_102 : decode cX6_otherFormat 102 = .ok (.baload, 1) := by decide +kernel
theorem dX6_otherFormat_103 : decode cX6_otherFormat 103 = .ok (.aload_n 0, 1) := by decide +kernel
theorem dX6_otherFormat_104 : decode cX6_otherFormat 104 = .ok (.getfield 73, 3) := by decide +kernel
theorem dX6_otherFormat_107 : decode cX6_otherFormat 107 = .ok (.iconst 0, 1) := by decide +kernel
theorem dX6_otherFormat_108 : decode cX6_otherFormat 108 = .ok (.laload, 1) := by decide +kernel
theorem dX6_otherFormat_109 : decode cX6_otherFormat 109 = .ok (.aload_n 0, 1) := by decide +kernel
theorem dX6_otherFormat_110 : decode cX6_otherFormat 110 = .ok (.getfield 67, 3) := by decide +kernel
theorem dX6_otherFormat_113 : decode cX6_otherFormat 113 = .ok (.iconst 0, 1) := by decide +kernel
theorem dX6_otherFormat_114 : decode cX6_otherFormat 114 = .ok (.iaload, 1) := by decide +kernel
theorem dX6_otherFormat_115 : decode cX6_otherFormat 115 = .ok (.iconst 0, 1) := by decide +kernel
theorem dX6_otherFormat_116 : decode cX6_otherFormat 116 = .ok (.invokevirtual 122, 3) := by decide +kernel
theorem dX6_otherFormat_119 : decode cX6_otherFormat 119 = .ok (.lreturn, 1) := by decide +kernel
theorem dX6_isNone_0 : decode cX6_isNone 0 = .ok (.aload_n 0, 1) := by decide +kernel
theorem dX6_isNone_1 : decode cX6_isNone 1 = .ok (.iconst 0, 1) := by decide +kernel
theorem dX6_isNone_2 : decode cX6_isNone 2 = .ok (.lload_n 2, 1) := by decide +kernel
theorem dX6_isNone_3 : decode cX6_isNone 3 = .ok (.iload_n 1, 1) := by decide +kernel
theorem dX6_isNone_4 : decode cX6_isNone 4 = .ok (.invokevirtual 111, 3) := by decide +kernel
theorem dX6_isNone_7 : decode cX6_isNone 7 = .ok (.aload_n 0, 1) := by decide +kernel
theorem dX6_isNone_8 : decode cX6_isNone 8 = .ok (.getfield 64, 3) := by decide +kernel
theorem dX6_isNone_11 : decode cX6_isNone 11 = .ok (.iconst 0, 1) := by decide +kernel
theorem dX6_isNone_12 : decode cX6_isNone 12 = .ok (.iaload, 1) := by decide +kernel
theorem dX6_isNone_13 : decode cX6_isNone 13 = .ok (.iconst 3, 1) := by decide +kernel
theorem dX6_isNone_14 : decode cX6_isNone 14 = .ok (.if_icmp .ne 7, 3) := by decide +kernel
theorem dX6_isNone_17 : decode cX6_isNone 17 = .ok (.iconst 1, 1) := by decide +kernel
theorem dX6_isNone_18 : decode cX6_isNone 18 = .ok (.goto 4, 3) := by decide +kernel
theorem dX6_isNone_21 : decode cX6_isNone 21 = .ok (.iconst 0, 1) := by decide +kernel
theorem dX6_isNone_22 : decode cX6_isNone 22 = .ok (.ireturn, 1) := by decide +kernel
theorem dX6_rank_0 : decode cX6_rank 0 = .ok (.iload_n 1, 1) := by decide +kernel
theorem dX6_rank_1 : decode cX6_rank 1 = .ok (.ifCond .eq 11, 3) := by decide +kernel
theorem dX6_rank_4 : decode cX6_rank 4 = .ok (.lload_n 2, 1) := by decide +kernel
theorem dX6_rank_5 : decode cX6_rank 5 = .ok (.ldc2_w 92, 3) := by decide +kernel
theorem dX6_rank_8 : decode cX6_rank 8 = .ok (.land, 1) := by decide +kernel
theorem dX6_rank_9 : decode cX6_rank 9 = .ok (.goto 8, 3) := by decide +kernel
theorem dX6_rank_12 : decode cX6_rank 12 = .ok (.lload_n 2, 1) := by decide +kernel
theorem dX6_rank_13 : decode cX6_rank 13 = .ok (.ldc2_w 94, 3) := by decide +kernel
theorem dX6_rank_16 : decode cX6_rank 16 = .ok (.land, 1) := by decide +kernel
theorem dX6_rank_17 : decode cX6_rank 17 = .ok (.lstore 4, 2) := by decide +kernel
theorem dX6_rank_19 : decode cX6_rank 19 = .ok (.lload_n 2, 1) := by decide +kernel
theorem dX6_rank_20 : decode cX6_rank 20 = .ok (.lconst 0, 1) := by decide +kernel
theorem dX6_rank_21 : decode cX6_rank 21 = .ok (.lcmp, 1) := by decide +kernel
theorem dX6_rank_22 : decode cX6_rank 22 = .ok (.ifCond .ge 12, 3) := by decide +kernel
theorem dX6_rank_25 : decode cX6_rank 25 = .ok (.ldc2_w 130, 3) := by decide +kernel
theorem dX6_rank_28 : decode cX6_rank 28 = .ok (.lload 4, 2) := by decide +kernel
theorem dX6_rank_30 : decode cX6_rank 30 = .ok (.lsub, 1) := by decide +kernel
theorem dX6_rank_31 : decode cX6_rank 31 = .ok (.goto 5, 3) := by decide +kernel
theorem dX6_rank_34 : decode cX6_rank 34 = .ok (.lload 4, 2) := by decide +kernel
theorem dX6_rank_36 : decode cX6_rank 36 = .ok (.lreturn, 1) := by decide +kernel
theorem dX6_compared_0 : decode cX6_compared 0 = .ok (.iload_n 1, 1) := by decide +kernel
theorem dX6_compared_1 : decode cX6_compared 1 = .ok (.iconst 1, 1) := by decide +kernel
theorem dX6_compared_2 : decode cX6_compared 2 = .ok (.if_icmp .ne 27, 3) := by decide +kernel
theorem dX6_compared_5 : decode cX6_compared 5 = .ok (.lload_n 2, 1) := by decide +kernel
theorem dX6_compared_6 : decode cX6_compared 6 = .ok (.lload 4, 2) := by decide +kernel
theorem dX6_compared_8 : decode cX6_compared 8 = .ok (.lcmp, 1) := by decide +kernel
theorem dX6_compared_9 : decode cX6_compared 9 = .ok (.ifCond .ge 7, 3) := by decide +kernel
theorem dX6_compared_12 : decode cX6_compared 12 = .ok (.iconst (-1), 1) := by decide +kernel
theorem dX6_compared_13 : decode cX6_compared 13 = .ok (.goto 15, 3) := by decide +kernel
theorem dX6_compared_16 : decode cX6_compared 16 = .ok (.lload_n 2, 1) := by decide +kernel
theorem dX6_compared_17 : decode cX6_compared 17 = .ok (.lload 4, 2) := by decide +kernel
theorem dX6_compared_19 : decode cX6_compared 19 = .ok (.lcmp, 1) := by decide +kernel
theorem dX6_compared_20 : decode cX6_compared 20 = .ok (.ifCond .le 7, 3) := by decide +kernel
theorem dX6_compared_23 : decode cX6_compared 23 = .ok (.iconst 1, 1) := by decide +kernel
theorem dX6_compared_24 : decode cX6_compared 24 = .ok (.goto 4, 3) := by decide +kernel
theorem dX6_compared_27 : decode cX6_compared 27 = .ok (.iconst 0, 1) := by decide +kernel
theorem dX6_compared_28 : decode cX6_compared 28 = .ok (.ireturn, 1) := by decide +kernel
theorem dX6_compared_29 : decode cX6_compared 29 = .ok (.iload_n 1, 1) := by decide +kernel
theorem dX6_compared_30 : decode cX6_compared 30 = .ok (.iconst 3, 1) := by decide +kernel
theorem dX6_compared_31 : decode cX6_compared 31 = .ok (.if_icmp .ne 7, 3) := by decide +kernel
theorem dX6_compared_34 : decode cX6_compared 34 = .ok (.iconst 1, 1) := by decide +kernel
theorem dX6_compared_35 : decode cX6_compared 35 = .ok (.goto 4, 3) := by decide +kernel
theorem dX6_compared_38 : decode cX6_compared 38 = .ok (.iconst 0, 1) := by decide +kernel
theorem dX6_compared_39 : decode cX6_compared 39 = .ok (.istore 7, 2) := by decide +kernel
theorem dX6_compared_41 : decode cX6_compared 41 = .ok (.aload_n 0, 1) := by decide +kernel
theorem dX6_compared_42 : decode cX6_compared 42 = .ok (.iload 7, 2) := by decide +kernel
theorem dX6_compared_44 : decode cX6_compared 44 = .ok (.lload_n 2, 1) := by decide +kernel
theorem dX6_compared_45 : decode cX6_compared 45 = .ok (.invokevirtual 132, 3) := by decide +kernel
theorem dX6_compared_48 : decode cX6_compared 48 = .ok (.ifCond .ne 14, 3) := by decide +kernel
theorem dX6_compared_51 : decode cX6_compared 51 = .ok (.aload_n 0, 1) := by decide +kernel
theorem dX6_compared_52 : decode cX6_compared 52 = .ok (.iload 7, 2) := by decide +kernel
theorem dX6_compared_54 : decode cX6_compared 54 = .ok (.lload 4, 2) := by decide +kernel
theorem dX6_compared_56 : decode cX6_compared 56 = .ok (.invokevirtual 132, 3) := by decide +kernel
theorem dX6_compared_59 : decode cX6_compared 59 = .ok (.ifCond .eq 6, 3) := by decide +kernel
theorem dX6_compared_62 : decode cX6_compared 62 = .ok (.iload 6, 2) := by decide +kernel
theorem dX6_compared_64 : decode cX6_compared 64 = .ok (.ireturn, 1) := by decide +kernel
theorem dX6_compared_65 : decode cX6_compared 65 = .ok (.aload_n 0, 1) := by decide +kernel
theorem dX6_compared_66 : decode cX6_compared 66 = .ok (.iload 7, 2) := by decide +kernel
theorem dX6_compared_68 : decode cX6_compared 68 = .ok (.lload_n 2, 1) := by decide +kernel
theorem dX6_compared_69 : decode cX6_compared 69 = .ok (.invokevirtual 136, 3) := by decide +kernel
theorem dX6_compared_72 : decode cX6_compared 72 = .ok (.lstore 8, 2) := by decide +kernel
theorem dX6_compared_74 : decode cX6_compared 74 = .ok (.aload_n 0, 1) := by decide +kernel
theorem dX6_compared_75 : decode cX6_compared 75 = .ok (.iload 7, 2) := by decide +kernel
theorem dX6_compared_77 : decode cX6_compared 77 = .ok (.lload 4, 2) := by decide +kernel
theorem dX6_compared_79 : decode cX6_compared 79 = .ok (.invokevirtual 136, 3) := by decide +kernel
theorem dX6_compared_82 : decode cX6_compared 82 = .ok (.lstore 10, 2) := by decide +kernel
theorem dX6_compared_84 : decode cX6_compared 84 = .ok (.lload 8, 2) := by decide +kernel
theorem dX6_compared_86 : decode cX6_compared 86 = .ok (.ldc2_w 130, 3) := by decide +kernel
theorem dX6_compared_89 : decode cX6_compared 89 = .ok (.lcmp, 1) := by decide +kernel
theorem dX6_compared_90 : decode cX6_compared 90 = .ok (.ifCond .ne 6, 3) := by decide +kernel
theorem dX6_compared_93 : decode cX6_compared 93 = .ok (.lconst 0, 1) := by decide +kernel
theorem dX6_compared_94 : decode cX6_compared 94 = .ok (.lstore 8, 2) := by decide +kernel
theorem dX6_compared_96 : decode cX6_compared 96 = .ok (.lload 10, 2) := by decide +kernel
theorem dX6_compared_98 : decode cX6_compared 98 = .ok (.ldc2_w 130, 3) := by decide +kernel
theorem dX6_compared_101 : decode cX6_compared 101 = .ok (.lcmp, 1) := by decide +kernel
theorem dX6_compared_102 : decode cX6_compared 102 = .ok (.ifCond .ne 6, 3) := by decide +kernel
theorem dX6_compared_105 : decode cX6_compared 105 = .ok (.lconst 0, 1) := by decide +kernel
theorem dX6_compared_106 : decode cX6_compared 106 = .ok (.lstore 10, 2) := by decide +kernel
theorem dX6_compared_108 : decode cX6_compared 108 = .ok (.lload 8, 2) := by decide +kernel
theorem dX6_compared_110 : decode cX6_compared 110 = .ok (.lload 10, 2) := by decide +kernel
theorem dX6_compared_112 : decode cX6_compared 112 = .ok (.lcmp, 1) := by decide +kernel
theorem dX6_compared_113 : decode cX6_compared 113 = .ok (.ifCond .ge 7, 3) := by decide +kernel
theorem dX6_compared_116 : decode cX6_compared 116 = .ok (.iconst (-1), 1) := by decide +kernel
theorem dX6_compared_117 : decode cX6_compared 117 = .ok (.goto 16, 3) := by decide +kernel
theorem dX6_compared_120 : decode cX6_compared 120 = .ok (.lload 8, 2) := by decide +kernel
theorem dX6_compared_122 : decode cX6_compared 122 = .ok (.lload 10, 2) := by decide +kernel
theorem dX6_compared_124 : decode cX6_compared 124 = .ok (.lcmp, 1) := by decide +kernel
theorem dX6_compared_125 : decode cX6_compared 125 = .ok (.ifCond .le 7, 3) := by decide +kernel
theorem dX6_compared_128 : decode cX6_compared 128 = .ok (.iconst 1, 1) := by decide +kernel
theorem dX6_compared_129 : decode cX6_compared 129 = .ok (.goto 4, 3) := by decide +kernel
theorem dX6_compared_132 : decode cX6_compared 132 = .ok (.iconst 0, 1) := by decide +kernel
theorem dX6_compared_133 : decode cX6_compared 133 = .ok (.ireturn, 1) := by decide +kernel
theorem dX6_clean_0 : decode cX6_clean 0 = .ok (.iload_n 1, 1) := by decide +kernel
theorem dX6_clean_1 : decode cX6_clean 1 = .ok (.ifCond .eq 8, 3) := by decide +kernel
theorem dX6_clean_4 : decode cX6_clean 4 = .ok (.iload_n 1, 1) := by decide +kernel
theorem dX6_clean_5 : decode cX6_clean 5 = .ok (.iconst 2, 1) := by decide +kernel
theorem dX6_clean_6 : decode cX6_clean 6 = .ok (.if_icmp .ne 9, 3) := by decide +kernel
theorem dX6_clean_9 : decode cX6_clean 9 = .ok (.lload_n 2, 1) := by decide +kernel
theorem dX6_clean_10 : decode cX6_clean 10 = .ok (.l2i, 1) := by decide +kernel
theorem dX6_clean_11 : decode cX6_clean 11 = .ok (.i2l, 1) := by decide +kernel
theorem dX6_clean_12 : decode cX6_clean 12 = .ok (.goto 4, 3) := by decide +kernel
theorem dX6_clean_15 : decode cX6_clean 15 = .ok (.lload_n 2, 1) := by decide +kernel
theorem dX6_clean_16 : decode cX6_clean 16 = .ok (.lstore 4, 2) := by decide +kernel
theorem dX6_clean_18 : decode cX6_clean 18 = .ok (.iload_n 1, 1) := by decide +kernel
theorem dX6_clean_19 : decode cX6_clean 19 = .ok (.iconst 1, 1) := by decide +kernel
theorem dX6_clean_20 : decode cX6_clean 20 = .ok (.if_icmp .le 39, 3) := by decide +kernel
theorem dX6_clean_23 : decode cX6_clean 23 = .ok (.aload_n 0, 1) := by decide +kernel
theorem dX6_clean_24 : decode cX6_clean 24 = .ok (.iload_n 1, 1) := by decide +kernel
theorem dX6_clean_25 : decode cX6_clean 25 = .ok (.iconst 3, 1) := by decide +kernel
theorem dX6_clean_26 : decode cX6_clean 26 = .ok (.if_icmp .ne 7, 3) := by decide +kernel
theorem dX6_clean_29 : decode cX6_clean 29 = .ok (.iconst 1, 1) := by decide +kernel
theorem dX6_clean_30 : decode cX6_clean 30 = .ok (.goto 4, 3) := by decide +kernel
theorem dX6_clean_33 : decode cX6_clean 33 = .ok (.iconst 0, 1) := by decide +kernel
theorem dX6_clean_34 : decode cX6_clean 34 = .ok (.lload 4, 2) := by decide +kernel
theorem dX6_clean_36 : decode cX6_clean 36 = .ok (.invokevirtual 132, 3) := by decide +kernel
theorem dX6_clean_39 : decode cX6_clean 39 = .ok (.ifCond .eq 20, 3) := by decide +kernel
theorem dX6_clean_42 : decode cX6_clean 42 = .ok (.aload_n 0, 1) := by decide +kernel
theorem dX6_clean_43 : decode cX6_clean 43 = .ok (.iload_n 1, 1) := by decide +kernel
theorem dX6_clean_44 : decode cX6_clean 44 = .ok (.iconst 3, 1) := by decide +kernel
theorem dX6_clean_45 : decode cX6_clean 45 = .ok (.if_icmp .ne 7, 3) := by decide +kernel
theorem dX6_clean_48 : decode cX6_clean 48 = .ok (.iconst 1, 1) := by decide +kernel
theorem dX6_clean_49 : decode cX6_clean 49 = .ok (.goto 4, 3) := by decide +kernel
theorem dX6_clean_52 : decode cX6_clean 52 = .ok (.iconst 0, 1) := by decide +kernel
theorem dX6_clean_53 : decode cX6_clean 53 = .ok (.invokevirtual 115, 3) := by decide +kernel
theorem dX6_clean_56 : decode cX6_clean 56 = .ok (.goto 5, 3) := by decide +kernel
theorem dX6_clean_59 : decode cX6_clean 59 = .ok (.lload 4, 2) := by decide +kernel
theorem dX6_clean_61 : decode cX6_clean 61 = .ok (.lreturn, 1) := by decide +kernel
theorem dX6_put_0 : decode cX6_put 0 = .ok (.aload_n 0, 1) := by decide +kernel
theorem dX6_put_1 : decode cX6_put 1 = .ok (.getfield 16, 3) := by decide +kernel
theorem dX6_put_4 : decode cX6_put 4 = .ok (.iload_n 1, 1) := by decide +kernel
theorem dX6_put_5 : decode cX6_put 5 = .ok (.lload_n 2, 1) := by decide +kernel
theorem dX6_put_6 : decode cX6_put 6 = .ok (.lastore, 1) := by decide +kernel
theorem dX6_put_7 : decode cX6_put 7 = .ok (.aload_n 0, 1) := by decide +kernel
theorem dX6_put_8 : decode cX6_put 8 = .ok (.getfield 13, 3) := by decide +kernel
theorem dX6_put_11 : decode cX6_put 11 = .ok (.iload_n 1, 1) := by decide +kernel
theorem dX6_put_12 : decode cX6_put 12 = .ok (.iload 4, 2) := by decide +kernel
theorem dX6_put_14 : decode cX6_put 14 = .ok (.iastore, 1) := by decide +kernel
theorem dX6_put_15 : decode cX6_put 15 = .ok (.aload_n 0, 1) := by decide +kernel
theorem dX6_put_16 : decode cX6_put 16 = .ok (.getfield 20, 3) := by decide +kernel
theorem dX6_put_19 : decode cX6_put 19 = .ok (.iload_n 1, 1) := by decide +kernel
theorem dX6_put_20 : decode cX6_put 20 = .ok (.iload 4, 2) := by decide +kernel
theorem dX6_put_22 : decode cX6_put 22 = .ok (.ifCond .eq 8, 3) := by decide +kernel
theorem dX6_put_25 : decode cX6_put 25 = .ok (.iload 5, 2) := by decide +kernel
theorem dX6_put_27 : decode cX6_put 27 = .ok (.ifCond .eq 7, 3) := by decide +kernel
theorem dX6_put_30 : decode cX6_put 30 = .ok (.iconst 1, 1) := by decide +kernel
theorem dX6_put_31 : decode cX6_put 31 = .ok (.goto 4, 3) := by decide +kernel
theorem dX6_put_34 : decode cX6_put 34 = .ok (.iconst 0, 1) := by decide +kernel
theorem dX6_put_35 : decode cX6_put 35 = .ok (.bastore, 1) := by decide +kernel
theorem dX6_put_36 : decode cX6_put 36 = .ok (.return_, 1) := by decide +kernel
theorem dX6_fix_0 : decode cX6_fix 0 = .ok (.aload_n 0, 1) := by decide +kernel
theorem dX6_fix_1 : decode cX6_fix 1 = .ok (.getfield 13, 3) := by decide +kernel
theorem dX6_fix_4 : decode cX6_fix 4 = .ok (.iload_n 1, 1) := by decide +kernel
theorem dX6_fix_5 : decode cX6_fix 5 = .ok (.iaload, 1) := by decide +kernel
theorem dX6_fix_6 : decode cX6_fix 6 = .ok (.ifCond .ne 4, 3) := by decide +kernel
theorem dX6_fix_9 : decode cX6_fix 9 = .ok (.return_, 1) := by decide +kernel
theorem dX6_fix_10 : decode cX6_fix 10 = .ok (.bipush 15, 2) := by decide +kernel
theorem dX6_fix_12 : decode cX6_fix 12 = .ok (.istore_n 3, 1) := by decide +kernel
theorem dX6_fix_13 : decode cX6_fix 13 = .ok (.iload_n 3, 1) := by decide +kernel
theorem dX6_fix_14 : decode cX6_fix 14 = .ok (.ifCond .le 37, 3) := by decide +kernel
theorem dX6_fix_17 : decode cX6_fix 17 = .ok (.aload_n 0, 1) := by decide +kernel
theorem dX6_fix_18 : decode cX6_fix 18 = .ok (.getfield 33, 3) := by decide +kernel
theorem dX6_fix_21 : decode cX6_fix 21 = .ok (.iload_n 3, 1) := by decide +kernel
theorem dX6_fix_22 : decode cX6_fix 22 = .ok (.aload_n 0, 1) := by decide +kernel
theorem dX6_fix_23 : decode cX6_fix 23 = .ok (.getfield 33, 3) := by decide +kernel
theorem dX6_fix_26 : decode cX6_fix 26 = .ok (.iload_n 3, 1) := by decide +kernel
theorem dX6_fix_27 : decode cX6_fix 27 = .ok (.iconst 1, 1) := by decide +kernel
theorem dX6_fix_28 : decode cX6_fix 28 = .ok (.isub, 1) := by decide +kernel
theorem dX6_fix_29 : decode cX6_fix 29 = .ok (.iaload, 1) := by decide +kernel
theorem dX6_fix_30 : decode cX6_fix 30 = .ok (.iastore, 1) := by decide +kernel
theorem dX6_fix_31 : decode cX6_fix 31 = .ok (.aload_n 0, 1) := by decide +kernel
theorem dX6_fix_32 : decode cX6_fix 32 = .ok (.getfield 36, 3) := by decide +kernel
theorem dX6_fix_35 : decode cX6_fix 35 = .ok (.iload_n 3, 1) := by decide +kernel
theorem dX6_fix_36 : decode cX6_fix 36 = .ok (.aload_n 0, 1) := by decide +kernel
theorem dX6_fix_37 : decode cX6_fix 37 = .ok (.getfield 36, 3) := by decide +kernel
theorem dX6_fix_40 : decode cX6_fix 40 = .ok (.iload_n 3, 1) := by decide +kernel
theorem dX6_fix_41 : decode cX6_fix 41 = .ok (.iconst 1, 1) := by decide +kernel
theorem dX6_fix_42 : decode cX6_fix 42 = .ok (.isub, 1) := by decide +kernel
theorem dX6_fix_43 : decode cX6_fix 43 = .ok (.iaload, 1) := by decide +kernel
theorem dX6_fix_44 : decode cX6_fix 44 = .ok (.iastore, 1) := by decide +kernel
theorem dX6_fix_45 : decode cX6_fix 45 = .ok (.iinc 3 (-1), 3) := by decide +kernel
theorem dX6_fix_48 : decode cX6_fix 48 = .ok (.goto (-35), 3) := by decide +kernel
theorem dX6_fix_51 : decode cX6_fix 51 = .ok (.aload_n 0, 1) := by decide +kernel
theorem dX6_fix_52 : decode cX6_fix 52 = .ok (.getfield 33, 3) := by decide +kernel
theorem dX6_fix_55 : decode cX6_fix 55 = .ok (.iconst 0, 1) := by decide +kernel
theorem dX6_fix_56 : decode cX6_fix 56 = .ok (.iload_n 2, 1) := by decide +kernel
theorem dX6_fix_57 : decode cX6_fix 57 = .ok (.iastore, 1) := by decide +kernel
theorem dX6_fix_58 : decode cX6_fix 58 = .ok (.aload_n 0, 1) := by decide +kernel
theorem dX6_fix_59 : decode cX6_fix 59 = .ok (.getfield 36, 3) := by decide +kernel
theorem dX6_fix_62 : decode cX6_fix 62 = .ok (.iconst 0, 1) := by decide +kernel
theorem dX6_fix_63 : decode cX6_fix 63 = .ok (.aload_n 0, 1) := by decide +kernel
theorem dX6_fix_64 : decode cX6_fix 64 = .ok (.getfield 13, 3) := by decide +kernel
theorem dX6_fix_67 : decode cX6_fix 67 = .ok (.iload_n 1, 1) := by decide +kernel
theorem dX6_fix_68 : decode cX6_fix 68 = .ok (.iaload, 1) := by decide +kernel
theorem dX6_fix_69 : decode cX6_fix 69 = .ok (.iastore, 1) := by decide +kernel
theorem dX6_fix_70 : decode cX6_fix 70 = .ok (.aload_n 0, 1) := by decide +kernel
theorem dX6_fix_71 : decode cX6_fix 71 = .ok (.dup, 1) := by decide +kernel
theorem dX6_fix_72 : decode cX6_fix 72 = .ok (.getfield 48, 3) := by decide +kernel
theorem dX6_fix_75 : decode cX6_fix 75 = .ok (.iconst 1, 1) := by decide +kernel
theorem dX6_fix_76 : decode cX6_fix 76 = .ok (.iadd, 1) := by decide +kernel
theorem dX6_fix_77 : decode cX6_fix 77 = .ok (.putfield 48, 3) := by decide +kernel
theorem dX6_fix_80 : decode cX6_fix 80 = .ok (.aload_n 0, 1) := by decide +kernel
theorem dX6_fix_81 : decode cX6_fix 81 = .ok (.getfield 13, 3) := by decide +kernel
theorem dX6_fix_84 : decode cX6_fix 84 = .ok (.iload_n 1, 1) := by decide +kernel
theorem dX6_fix_85 : decode cX6_fix 85 = .ok (.iconst 0, 1) := by decide +kernel
theorem dX6_fix_86 : decode cX6_fix 86 = .ok (.iastore, 1) := by decide +kernel
theorem dX6_fix_87 : decode cX6_fix 87 = .ok (.aload_n 0, 1) := by decide +kernel
theorem dX6_fix_88 : decode cX6_fix 88 = .ok (.getfield 20, 3) := by decide +kernel
theorem dX6_fix_91 : decode cX6_fix 91 = .ok (.iload_n 1, 1) := by decide +kernel
theorem dX6_fix_92 : decode cX6_fix 92 = .ok (.iconst 1, 1) := by decide +kernel
theorem dX6_fix_93 : decode cX6_fix 93 = .ok (.bastore, 1) := by decide +kernel
theorem dX6_fix_94 : decode cX6_fix 94 = .ok (.return_, 1) := by decide +kernel
theorem dX6_constant_0 : decode cX6_constant 0 = .ok (.aload_n 0, 1) := by decide +kernel
theorem dX6_constant_1 : decode cX6_constant 1 = .ok (.iload_n 1, 1) := by decide +kernel
theorem dX6_constant_2 : decode cX6_constant 2 = .ok (.bipush 8, 2) := by decide +kernel
theorem dX6_constant_4 : decode cX6_constant 4 = .ok (.invokevirtual 140, 3) := by decide +kernel
theorem dX6_constant_7 : decode cX6_constant 7 = .ok (.ifCond .ne 12, 3) := by decide +kernel
theorem dX6_constant_10 : decode cX6_constant 10 = .ok (.aload_n 0, 1) := by decide +kernel
theorem dX6_constant_11 : decode cX6_constant 11 = .ok (.iload_n 2, 1) := by decide +kernel
theorem dX6_constant_12 : decode cX6_constant 12 = .ok (.iconst 4, 1) := by decide +kernel
theorem dX6_constant_13 : decode cX6_constant 13 = .ok (.invokevirtual 140, 3) := by decide +kernel
theorem dX6_constant_16 : decode cX6_constant 16 = .ok (.ifCond .eq 5, 3) := by decide +kernel
theorem dX6_constant_19 : decode cX6_constant 19 = .ok (.iconst (-1), 1) := by decide +kernel
theorem dX6_constant_20 : decode cX6_constant 20 = .ok (.ireturn, 1) := by decide +kernel
theorem dX6_constant_21 : decode cX6_constant 21 = .ok (.aload_n 0, 1) := by decide +kernel
theorem dX6_constant_22 : decode cX6_constant 22 = .ok (.getfield 7, 3) := by decide +kernel
theorem dX6_constant_25 : decode cX6_constant 25 = .ok (.iload_n 1, 1) := by decide +kernel
theorem dX6_constant_26 : decode cX6_constant 26 = .ok (.iload_n 2, 1) := by decide +kernel
theorem dX6_constant_27 : decode cX6_constant 27 = .ok (.iastore, 1) := by decide +kernel
theorem dX6_constant_28 : decode cX6_constant 28 = .ok (.aload_n 0, 1) := by decide +kernel
theorem dX6_constant_29 : decode cX6_constant 29 = .ok (.iload_n 1, 1) := by decide +kernel
theorem dX6_constant_30 : decode cX6_constant 30 = .ok (.aload_n 0, 1) := by decide +kernel
theorem dX6_constant_31 : decode cX6_constant 31 = .ok (.iload_n 2, 1) := by decide +kernel
theorem dX6_constant_32 : decode cX6_constant 32 = .ok (.lload_n 3, 1) := by decide +kernel
theorem dX6_constant_33 : decode cX6_constant 33 = .ok (.invokevirtual 144, 3) := by decide +kernel
theorem dX6_constant_36 : decode cX6_constant 36 = .ok (.iconst 0, 1) := by decide +kernel
theorem dX6_constant_37 : decode cX6_constant 37 = .ok (.iconst 1, 1) := by decide +kernel
theorem dX6_constant_38 : decode cX6_constant 38 = .ok (.invokevirtual 148, 3) := by decide +kernel
theorem dX6_constant_41 : decode cX6_constant 41 = .ok (.iconst 0, 1) := by decide +kernel
theorem dX6_constant_42 : decode cX6_constant 42 = .ok (.ireturn, 1) := by decide +kernel
theorem dX6_input_0 : decode cX6_input 0 = .ok (.aload_n 0, 1) := by decide +kernel
theorem dX6_input_1 : decode cX6_input 1 = .ok (.iload_n 1, 1) := by decide +kernel
theorem dX6_input_2 : decode cX6_input 2 = .ok (.bipush 8, 2) := by decide +kernel
theorem dX6_input_4 : decode cX6_input 4 = .ok (.invokevirtual 140, 3) := by decide +kernel
theorem dX6_input_7 : decode cX6_input 7 = .ok (.ifCond .ne 23, 3) := by decide +kernel
theorem dX6_input_10 : decode cX6_input 10 = .ok (.aload_n 0, 1) := by decide +kernel
theorem dX6_input_11 : decode cX6_input 11 = .ok (.iload_n 2, 1) := by decide +kernel
theorem dX6_input_12 : decode cX6_input 12 = .ok (.iconst 4, 1) := by decide +kernel
theorem dX6_input_13 : decode cX6_input 13 = .ok (.invokevirtual 140, 3) := by decide +kernel
theorem dX6_input_16 : decode cX6_input 16 = .ok (.ifCond .ne 14, 3) := by decide +kernel
theorem dX6_input_19 : decode cX6_input 19 = .ok (.aload_n 0, 1) := by decide +kernel
theorem dX6_input_20 : decode cX6_input 20 = .ok (.iload 5, 2) := by decide +kernel
theorem dX6_input_22 : decode cX6_input 22 = .ok (.bipush 6, 2) := by decide +kernel
theorem dX6_input_24 : decode cX6_input 24 = .ok (.invokevirtual 140, 3) := by decide +kernel
theorem dX6_input_27 : decode cX6_input 27 = .ok (.ifCond .eq 5, 3) := by decide +kernel
theorem dX6_input_30 : decode cX6_input 30 = .ok (.iconst (-1), 1) := by decide +kernel
theorem dX6_input_31 : decode cX6_input 31 = .ok (.ireturn, 1) := by decide +kernel
theorem dX6_input_32 : decode cX6_input 32 = .ok (.aload_n 0, 1) := by decide +kernel
theorem dX6_input_33 : decode cX6_input 33 = .ok (.getfield 7, 3) := by decide +kernel
theorem dX6_input_36 : decode cX6_input 36 = .ok (.iload_n 1, 1) := by decide +kernel
theorem dX6_input_37 : decode cX6_input 37 = .ok (.iload_n 2, 1) := by decide +kernel
theorem dX6_input_38 : decode cX6_input 38 = .ok (.iastore, 1) := by decide +kernel
theorem dX6_input_39 : decode cX6_input 39 = .ok (.aload_n 0, 1) := by decide +kernel
theorem dX6_input_40 : decode cX6_input 40 = .ok (.iload_n 1, 1) := by decide +kernel
theorem dX6_input_41 : decode cX6_input 41 = .ok (.aload_n 0, 1) := by decide +kernel
theorem dX6_input_42 : decode cX6_input 42 = .ok (.iload_n 2, 1) := by decide +kernel
theorem dX6_input_43 : decode cX6_input 43 = .ok (.lload_n 3, 1) := by decide +kernel
theorem dX6_input_44 : decode cX6_input 44 = .ok (.invokevirtual 144, 3) := by decide +kernel
theorem dX6_input_47 : decode cX6_input 47 = .ok (.iconst 1, 1) := by decide +kernel
theorem dX6_input_48 : decode cX6_input 48 = .ok (.iload 5, 2) := by decide +kernel
theorem dX6_input_50 : decode cX6_input 50 = .ok (.ishl, 1) := by decide +kernel
theorem dX6_input_51 : decode cX6_input 51 = .ok (.iconst 1, 1) := by decide +kernel
theorem dX6_input_52 : decode cX6_input 52 = .ok (.invokevirtual 148, 3) := by decide +kernel
theorem dX6_input_55 : decode cX6_input 55 = .ok (.iconst 0, 1) := by decide +kernel
theorem dX6_input_56 : decode cX6_input 56 = .ok (.ireturn, 1) := by decide +kernel
theorem dX6_wanted_0 : decode cX6_wanted 0 = .ok (.iload_n 1, 1) := by decide +kernel
theorem dX6_wanted_1 : decode cX6_wanted 1 = .ok (.iconst 3, 1) := by decide +kernel
theorem dX6_wanted_2 : decode cX6_wanted 2 = .ok (.if_icmp .lt 9, 3) := by decide +kernel
theorem dX6_wanted_5 : decode cX6_wanted 5 = .ok (.iload_n 1, 1) := by decide +kernel
theorem dX6_wanted_6 : decode cX6_wanted 6 = .ok (.bipush 11, 2) := by decide +kernel
theorem dX6_wanted_8 : decode cX6_wanted 8 = .ok (.if_icmp .le 7, 3) := by decide +kernel
theorem dX6_wanted_11 : decode cX6_wanted 11 = .ok (.iconst 0, 1) := by decide +kernel
theorem dX6_wanted_12 : decode cX6_wanted 12 = .ok (.goto 24, 3) := by decide +kernel
theorem dX6_wanted_15 : decode cX6_wanted 15 = .ok (.iload_n 1, 1) := by decide +kernel
theorem dX6_wanted_16 : decode cX6_wanted 16 = .ok (.bipush 6, 2) := by decide +kernel
theorem dX6_wanted_18 : decode cX6_wanted 18 = .ok (.if_icmp .ge 7, 3) := by decide +kernel
theorem dX6_wanted_21 : decode cX6_wanted 21 = .ok (.iconst 1, 1) := by decide +kernel
theorem dX6_wanted_22 : decode cX6_wanted 22 = .ok (.goto 14, 3) := by decide +kernel
theorem dX6_wanted_25 : decode cX6_wanted 25 = .ok (.iload_n 1, 1) := by decide +kernel
theorem dX6_wanted_26 : decode cX6_wanted 26 = .ok (.bipush 9, 2) := by decide +kernel
theorem dX6_wanted_28 : decode cX6_wanted 28 = .ok (.if_icmp .ge 7, 3) := by decide +kernel
theorem dX6_wanted_31 : decode cX6_wanted 31 = .ok (.iconst 2, 1) := by decide +kernel
theorem dX6_wanted_32 : decode cX6_wanted 32 = .ok (.goto 4, 3) := by decide +kernel
theorem dX6_wanted_35 : decode cX6_wanted 35 = .ok (.iconst 3, 1) := by decide +kernel
theorem dX6_wanted_36 : decode cX6_wanted 36 = .ok (.ireturn, 1) := by decide +kernel
theorem dX6_converted_0 : decode cX6_converted 0 = .ok (.iload_n 1, 1) := by decide +kernel
theorem dX6_converted_1 : decode cX6_converted 1 = .ok (.tableswitch 150 1 14 #[71, 78, 85, 71, 78, 89, 97, 105, 112, 120, 128, 135, 140, 145], 71) := by decide +kernel
theorem dX6_converted_72 : decode cX6_converted 72 = .ok (.aload_n 0, 1) := by decide +kernel
theorem dX6_converted_73 : decode cX6_converted 73 = .ok (.iconst 0, 1) := by decide +kernel
theorem dX6_converted_74 : decode cX6_converted 74 = .ok (.lload_n 2, 1) := by decide +kernel
theorem dX6_converted_75 : decode cX6_converted 75 = .ok (.invokevirtual 152, 3) := by decide +kernel
theorem dX6_converted_78 : decode cX6_converted 78 = .ok (.lreturn, 1) := by decide +kernel
theorem dX6_converted_79 : decode cX6_converted 79 = .ok (.aload_n 0, 1) := by decide +kernel
theorem dX6_converted_80 : decode cX6_converted 80 = .ok (.iconst 1, 1) := by decide +kernel
theorem dX6_converted_81 : decode cX6_converted 81 = .ok (.lload_n 2, 1) := by decide +kernel
theorem dX6_converted_82 : decode cX6_converted 82 = .ok (.invokevirtual 152, 3) := by decide +kernel
theorem dX6_converted_85 : decode cX6_converted 85 = .ok (.lreturn, 1) := by decide +kernel
theorem dX6_converted_86 : decode cX6_converted 86 = .ok (.lload_n 2, 1) := by decide +kernel
theorem dX6_converted_87 : decode cX6_converted 87 = .ok (.l2i, 1) := by decide +kernel
theorem dX6_converted_88 : decode cX6_converted 88 = .ok (.i2l, 1) := by decide +kernel
theorem dX6_converted_89 : decode cX6_converted 89 = .ok (.lreturn, 1) := by decide +kernel
theorem dX6_converted_90 : decode cX6_converted 90 = .ok (.aload_n 0, 1) := by decide +kernel
theorem dX6_converted_91 : decode cX6_converted 91 = .ok (.iconst 0, 1) := by decide +kernel
theorem dX6_converted_92 : decode cX6_converted 92 = .ok (.lload_n 2, 1) := by decide +kernel
theorem dX6_converted_93 : decode cX6_converted 93 = .ok (.iconst 0, 1) := by decide +kernel
theorem dX6_converted_94 : decode cX6_converted 94 = .ok (.invokevirtual 155, 3) := by decide +kernel
theorem dX6_converted_97 : decode cX6_converted 97 = .ok (.lreturn, 1) := by decide +kernel
theorem dX6_converted_98 : decode cX6_converted 98 = .ok (.aload_n 0, 1) := by decide +kernel
theorem dX6_converted_99 : decode cX6_converted 99 = .ok (.iconst 0, 1) := by decide +kernel
theorem dX6_converted_100 : decode cX6_converted 100 = .ok (.lload_n 2, 1) := by decide +kernel
theorem dX6_converted_101 : decode cX6_converted 101 = .ok (.iconst 1, 1) := by decide +kernel
theorem dX6_converted_102 : decode cX6_converted 102 = .ok (.invokevirtual 155, 3) := by decide +kernel
theorem dX6_converted_105 : decode cX6_converted 105 = .ok (.lreturn, 1) := by decide +kernel
theorem dX6_converted_106 : decode cX6_converted 106 = .ok (.aload_n 0, 1) := by decide +kernel
theorem dX6_converted_107 : decode cX6_converted 107 = .ok (.iconst 0, 1) := by decide +kernel
theorem dX6_converted_108 : decode cX6_converted 108 = .ok (.lload_n 2, 1) := by decide +kernel
theorem dX6_converted_109 : decode cX6_converted 109 = .ok (.invokevirtual 159, 3) := by decide +kernel
theorem dX6_converted_112 : decode cX6_converted 112 = .ok (.lreturn, 1) := by decide +kernel
theorem dX6_converted_113 : decode cX6_converted 113 = .ok (.aload_n 0, 1) := by decide +kernel
theorem dX6_converted_114 : decode cX6_converted 114 = .ok (.iconst 1, 1) := by decide +kernel
theorem dX6_converted_115 : decode cX6_converted 115 = .ok (.lload_n 2, 1) := by decide +kernel
theorem dX6_converted_116 : decode cX6_converted 116 = .ok (.iconst 0, 1) := by decide +kernel
theorem dX6_converted_117 : decode cX6_converted 117 = .ok (.invokevirtual 155, 3) := by decide +kernel
theorem dX6_converted_120 : decode cX6_converted 120 = .ok (.lreturn, 1) := by decide +kernel
theorem dX6_converted_121 : decode cX6_converted 121 = .ok (.aload_n 0, 1) := by decide +kernel
theorem dX6_converted_122 : decode cX6_converted 122 = .ok (.iconst 1, 1) := by decide +kernel
theorem dX6_converted_123 : decode cX6_converted 123 = .ok (.lload_n 2, 1) := by decide +kernel
theorem dX6_converted_124 : decode cX6_converted 124 = .ok (.iconst 1, 1) := by decide +kernel
theorem dX6_converted_125 : decode cX6_converted 125 = .ok (.invokevirtual 155, 3) := by decide +kernel
theorem dX6_converted_128 : decode cX6_converted 128 = .ok (.lreturn, 1) := by decide +kernel
theorem dX6_converted_129 : decode cX6_converted 129 = .ok (.aload_n 0, 1) := by decide +kernel
theorem dX6_converted_130 : decode cX6_converted 130 = .ok (.iconst 1, 1) := by decide +kernel
theorem dX6_converted_131 : decode cX6_converted 131 = .ok (.lload_n 2, 1) := by decide +kernel
theorem dX6_converted_132 : decode cX6_converted 132 = .ok (.invokevirtual 159, 3) := by decide +kernel
theorem dX6_converted_135 : decode cX6_converted 135 = .ok (.lreturn, 1) := by decide +kernel
theorem dX6_converted_136 : decode cX6_converted 136 = .ok (.lload_n 2, 1) := by decide +kernel
theorem dX6_converted_137 : decode cX6_converted 137 = .ok (.l2i, 1) := by decide +kernel
theorem dX6_converted_138 : decode cX6_converted 138 = .ok (.i2b, 1) := by decide +kernel
theorem dX6_converted_139 : decode cX6_converted 139 = .ok (.i2l, 1) := by decide +kernel
theorem dX6_converted_140 : decode cX6_converted 140 = .ok (.lreturn, 1) := by decide +kernel
theorem dX6_converted_141 : decode cX6_converted 141 = .ok (.lload_n 2, 1) := by decide +kernel
theorem dX6_converted_142 : decode cX6_converted 142 = .ok (.l2i, 1) := by decide +kernel
theorem dX6_converted_143 : decode cX6_converted 143 = .ok (.i2c, 1) := by decide +kernel
theorem dX6_converted_144 : decode cX6_converted 144 = .ok (.i2l, 1) := by decide +kernel
theorem dX6_converted_145 : decode cX6_converted 145 = .ok (.lreturn, 1) := by decide +kernel
theorem dX6_converted_146 : decode cX6_converted 146 = .ok (.lload_n 2, 1) := by decide +kernel
theorem dX6_converted_147 : decode cX6_converted 147 = .ok (.l2i, 1) := by decide +kernel
theorem dX6_converted_148 : decode cX6_converted 148 = .ok (.i2s, 1) := by decide +kernel
theorem dX6_converted_149 : decode cX6_converted 149 = .ok (.i2l, 1) := by decide +kernel
theorem dX6_converted_150 : decode cX6_converted 150 = .ok (.lreturn, 1) := by decide +kernel
theorem dX6_converted_151 : decode cX6_converted 151 = .ok (.lload_n 2, 1) := by decide +kernel
theorem dX6_converted_152 : decode cX6_converted 152 = .ok (.lreturn, 1) := by decide +kernel
theorem dX6_kindAfter_0 : decode cX6_kindAfter 0 = .ok (.iload_n 1, 1) := by decide +kernel
theorem dX6_kindAfter_1 : decode cX6_kindAfter 1 = .ok (.ifCond .eq 15, 3) := by decide +kernel
theorem dX6_kindAfter_4 : decode cX6_kindAfter 4 = .ok (.iload_n 1, 1) := by decide +kernel
theorem dX6_kindAfter_5 : decode cX6_kindAfter 5 = .ok (.bipush 7, 2) := by decide +kernel
theorem dX6_kindAfter_7 : decode cX6_kindAfter 7 = .ok (.if_icmp .eq 9, 3) := by decide +kernel
theorem dX6_kindAfter_10 : decode cX6_kindAfter 10 = .ok (.iload_n 1, 1) := by decide +kernel
theorem dX6_kindAfter_11 : decode cX6_kindAfter 11 = .ok (.bipush 10, 2) := by decide +kernel
theorem dX6_kindAfter_13 : decode cX6_kindAfter 13 = .ok (.if_icmp .ne 5, 3) := by decide +kernel
theorem dX6_kindAfter_16 : decode cX6_kindAfter 16 = .ok (.iconst 1, 1) := by decide +kernel
theorem dX6_kindAfter_17 : decode cX6_kindAfter 17 = .ok (.ireturn, 1) := by decide +kernel
theorem dX6_kindAfter_18 : decode cX6_kindAfter 18 = .ok (.iload_n 1, 1) := by decide +kernel
theorem dX6_kindAfter_19 : decode cX6_kindAfter 19 = .ok (.iconst 1, 1) := by decide +kernel
theorem dX6_kindAfter_20 : decode cX6_kindAfter 20 = .ok (.if_icmp .eq 14, 3) := by decide +kernel
theorem dX6_kindAfter_23 : decode cX6_kindAfter 23 = .ok (.iload_n 1, 1) := by decide +kernel
theorem dX6_kindAfter_24 : decode cX6_kindAfter 24 = .ok (.iconst 4, 1) := by decide +kernel
theorem dX6_kindAfter_25 : decode cX6_kindAfter 25 = .ok (.if_icmp .eq 9, 3) := by decide +kernel
theorem dX6_kindAfter_28 : decode cX6_kindAfter 28 = .ok (.iload_n 1, 1) := by decide +kernel
theorem dX6_kindAfter_29 : decode cX6_kindAfter 29 = .ok (.bipush 11, 2) := by decide +kernel
theorem dX6_kindAfter_31 : decode cX6_kindAfter 31 = .ok (.if_icmp .ne 5, 3) := by decide +kernel
theorem dX6_kindAfter_34 : decode cX6_kindAfter 34 = .ok (.iconst 2, 1) := by decide +kernel
theorem dX6_kindAfter_35 : decode cX6_kindAfter 35 = .ok (.ireturn, 1) := by decide +kernel
theorem dX6_kindAfter_36 : decode cX6_kindAfter 36 = .ok (.iload_n 1, 1) := by decide +kernel
theorem dX6_kindAfter_37 : decode cX6_kindAfter 37 = .ok (.iconst 2, 1) := by decide +kernel
theorem dX6_kindAfter_38 : decode cX6_kindAfter 38 = .ok (.if_icmp .eq 14, 3) := by decide +kernel
theorem dX6_kindAfter_41 : decode cX6_kindAfter 41 = .ok (.iload_n 1, 1) := by decide +kernel
theorem dX6_kindAfter_42 : decode cX6_kindAfter 42 = .ok (.iconst 5, 1) := by decide +kernel
theorem dX6_kindAfter_43 : decode cX6_kindAfter 43 = .ok (.if_icmp .eq 9, 3) := by decide +kernel
theorem dX6_kindAfter_46 : decode cX6_kindAfter 46 = .ok (.iload_n 1, 1) := by decide +kernel
theorem dX6_kindAfter_47 : decode cX6_kindAfter 47 = .ok (.bipush 8, 2) := by decide +kernel
theorem dX6_kindAfter_49 : decode cX6_kindAfter 49 = .ok (.if_icmp .ne 7, 3) := by decide +kernel
theorem dX6_kindAfter_52 : decode cX6_kindAfter 52 = .ok (.iconst 3, 1) := by decide +kernel
theorem dX6_kindAfter_53 : decode cX6_kindAfter 53 = .ok (.goto 4, 3) := by decide +kernel
theorem dX6_kindAfter_56 : decode cX6_kindAfter 56 = .ok (.iconst 0, 1) := by decide +kernel
theorem dX6_kindAfter_57 : decode cX6_kindAfter 57 = .ok (.ireturn, 1) := by decide +kernel
theorem dX6_turned_0 : decode cX6_turned 0 = .ok (.iload_n 2, 1) := by decide +kernel
theorem dX6_turned_1 : decode cX6_turned 1 = .ok (.iconst 2, 1) := by decide +kernel
theorem dX6_turned_2 : decode cX6_turned 2 = .ok (.if_icmp .ge 37, 3) := by decide +kernel
theorem dX6_turned_5 : decode cX6_turned 5 = .ok (.iload_n 1, 1) := by decide +kernel
theorem dX6_turned_6 : decode cX6_turned 6 = .ok (.bipush 15, 2) := by decide +kernel
theorem dX6_turned_8 : decode cX6_turned 8 = .ok (.if_icmp .eq 9, 3) := by decide +kernel
theorem dX6_turned_11 : decode cX6_turned 11 = .ok (.lload_n 3, 1) := by decide +kernel
theorem dX6_turned_12 : decode cX6_turned 12 = .ok (.lconst 0, 1) := by decide +kernel
theorem dX6_turned_13 : decode cX6_turned 13 = .ok (.lcmp, 1) := by decide +kernel
theorem dX6_turned_14 : decode cX6_turned 14 = .ok (.ifCond .ge 8, 3) := by decide +kernel
theorem dX6_turned_17 : decode cX6_turned 17 = .ok (.lload_n 3, 1) := by decide +kernel
theorem dX6_turned_18 : decode cX6_turned 18 = .ok (.lneg, 1) := by decide +kernel
theorem dX6_turned_19 : decode cX6_turned 19 = .ok (.goto 4, 3) := by decide +kernel
theorem dX6_turned_22 : decode cX6_turned 22 = .ok (.lload_n 3, 1) := by decide +kernel
theorem dX6_turned_23 : decode cX6_turned 23 = .ok (.lstore 5, 2) := by decide +kernel
theorem dX6_turned_25 : decode cX6_turned 25 = .ok (.iload_n 2, 1) := by decide +kernel
theorem dX6_turned_26 : decode cX6_turned 26 = .ok (.ifCond .ne 10, 3) := by decide +kernel
theorem dX6_turned_29 : decode cX6_turned 29 = .ok (.lload 5, 2) := by decide +kernel
theorem dX6_turned_31 : decode cX6_turned 31 = .ok (.l2i, 1) := by decide +kernel
theorem dX6_turned_32 : decode cX6_turned 32 = .ok (.i2l, 1) := by decide +kernel
theorem dX6_turned_33 : decode cX6_turned 33 = .ok (.goto 5, 3) := by decide +kernel
theorem dX6_turned_36 : decode cX6_turned 36 = .ok (.lload 5, 2) := by decide +kernel
theorem dX6_turned_38 : decode cX6_turned 38 = .ok (.lreturn, 1) := by decide +kernel
theorem dX6_turned_39 : decode cX6_turned 39 = .ok (.aload_n 0, 1) := by decide +kernel
theorem dX6_turned_40 : decode cX6_turned 40 = .ok (.iload_n 2, 1) := by decide +kernel
theorem dX6_turned_41 : decode cX6_turned 41 = .ok (.iconst 3, 1) := by decide +kernel
theorem dX6_turned_42 : decode cX6_turned 42 = .ok (.if_icmp .ne 7, 3) := by decide +kernel
theorem dX6_turned_45 : decode cX6_turned 45 = .ok (.iconst 1, 1) := by decide +kernel
theorem dX6_turned_46 : decode cX6_turned 46 = .ok (.goto 4, 3) := by decide +kernel
theorem dX6_turned_49 : decode cX6_turned 49 = .ok (.iconst 0, 1) := by decide +kernel
theorem dX6_turned_50 : decode cX6_turned 50 = .ok (.lload_n 3, 1) := by decide +kernel
theorem dX6_turned_51 : decode cX6_turned 51 = .ok (.invokevirtual 132, 3) := by decide +kernel
theorem dX6_turned_54 : decode cX6_turned 54 = .ok (.ifCond .eq 5, 3) := by decide +kernel
theorem dX6_turned_57 : decode cX6_turned 57 = .ok (.lload_n 3, 1) := by decide +kernel
theorem dX6_turned_58 : decode cX6_turned 58 = .ok (.lreturn, 1) := by decide +kernel
theorem dX6_turned_59 : decode cX6_turned 59 = .ok (.iload_n 1, 1) := by decide +kernel
theorem dX6_turned_60 : decode cX6_turned 60 = .ok (.bipush 15, 2) := by decide +kernel
theorem dX6_turned_62 : decode cX6_turned 62 = .ok (.if_icmp .ne 13, 3) := by decide +kernel
theorem dX6_turned_65 : decode cX6_turned 65 = .ok (.lload_n 3, 1) := by decide +kernel
theorem dX6_turned_66 : decode cX6_turned 66 = .ok (.lconst 0, 1) := by decide +kernel
theorem dX6_turned_67 : decode cX6_turned 67 = .ok (.lcmp, 1) := by decide +kernel
theorem dX6_turned_68 : decode cX6_turned 68 = .ok (.ifCond .lt 7, 3) := by decide +kernel
theorem dX6_turned_71 : decode cX6_turned 71 = .ok (.iconst 1, 1) := by decide +kernel
theorem dX6_turned_72 : decode cX6_turned 72 = .ok (.goto 4, 3) := by decide +kernel
theorem dX6_turned_75 : decode cX6_turned 75 = .ok (.iconst 0, 1) := by decide +kernel
theorem dX6_turned_76 : decode cX6_turned 76 = .ok (.istore 5, 2) := by decide +kernel
theorem dX6_turned_78 : decode cX6_turned 78 = .ok (.aload_n 0, 1) := by decide +kernel
theorem dX6_turned_79 : decode cX6_turned 79 = .ok (.iload_n 2, 1) := by decide +kernel
theorem dX6_turned_80 : decode cX6_turned 80 = .ok (.iconst 3, 1) := by decide +kernel
theorem dX6_turned_81 : decode cX6_turned 81 = .ok (.if_icmp .ne 7, 3) := by decide +kernel
theorem dX6_turned_84 : decode cX6_turned 84 = .ok (.iconst 1, 1) := by decide +kernel
theorem dX6_turned_85 : decode cX6_turned 85 = .ok (.goto 4, 3) := by decide +kernel
theorem dX6_turned_88 : decode cX6_turned 88 = .ok (.iconst 0, 1) := by decide +kernel
theorem dX6_turned_89 : decode cX6_turned 89 = .ok (.iload 5, 2) := by decide +kernel
theorem dX6_turned_91 : decode cX6_turned 91 = .ok (.iload_n 2, 1) := by decide +kernel
theorem dX6_turned_92 : decode cX6_turned 92 = .ok (.iconst 3, 1) := by decide +kernel
theorem dX6_turned_93 : decode cX6_turned 93 = .ok (.if_icmp .ne 11, 3) := by decide +kernel
theorem dX6_turned_96 : decode cX6_turned 96 = .ok (.lload_n 3, 1) := by decide +kernel
theorem dX6_turned_97 : decode cX6_turned 97 = .ok (.ldc2_w 92, 3) := by decide +kernel
theorem dX6_turned_100 : decode cX6_turned 100 = .ok (.land, 1) := by decide +kernel
theorem dX6_turned_101 : decode cX6_turned 101 = .ok (.goto 8, 3) := by decide +kernel
theorem dX6_turned_104 : decode cX6_turned 104 = .ok (.lload_n 3, 1) := by decide +kernel
theorem dX6_turned_105 : decode cX6_turned 105 = .ok (.ldc2_w 94, 3) := by decide +kernel
theorem dX6_turned_108 : decode cX6_turned 108 = .ok (.land, 1) := by decide +kernel
theorem dX6_turned_109 : decode cX6_turned 109 = .ok (.invokevirtual 107, 3) := by decide +kernel
theorem dX6_turned_112 : decode cX6_turned 112 = .ok (.lreturn, 1) := by decide +kernel
theorem dX6_one_0 : decode cX6_one 0 = .ok (.aload_n 0, 1) := by decide +kernel
theorem dX6_one_1 : decode cX6_one 1 = .ok (.iload_n 1, 1) := by decide +kernel
theorem dX6_one_2 : decode cX6_one 2 = .ok (.bipush 19, 2) := by decide +kernel
theorem dX6_one_4 : decode cX6_one 4 = .ok (.invokevirtual 140, 3) := by decide +kernel
theorem dX6_one_7 : decode cX6_one 7 = .ok (.ifCond .ne 23, 3) := by decide +kernel
theorem dX6_one_10 : decode cX6_one 10 = .ok (.aload_n 0, 1) := by decide +kernel
theorem dX6_one_11 : decode cX6_one 11 = .ok (.iload_n 2, 1) := by decide +kernel
theorem dX6_one_12 : decode cX6_one 12 = .ok (.bipush 8, 2) := by decide +kernel
theorem dX6_one_14 : decode cX6_one 14 = .ok (.invokevirtual 140, 3) := by decide +kernel
theorem dX6_one_17 : decode cX6_one 17 = .ok (.ifCond .ne 13, 3) := by decide +kernel
theorem dX6_one_20 : decode cX6_one 20 = .ok (.aload_n 0, 1) := by decide +kernel
theorem dX6_one_21 : decode cX6_one 21 = .ok (.iload_n 3, 1) := by decide +kernel
theorem dX6_one_22 : decode cX6_one 22 = .ok (.bipush 8, 2) := by decide +kernel
theorem dX6_one_24 : decode cX6_one 24 = .ok (.invokevirtual 140, 3) := by decide +kernel
theorem dX6_one_27 : decode cX6_one 27 = .ok (.ifCond .eq 5, 3) := by decide +kernel
theorem dX6_one_30 : decode cX6_one 30 = .ok (.iconst (-1), 1) := by decide +kernel
theorem dX6_one_31 : decode cX6_one 31 = .ok (.ireturn, 1) := by decide +kernel
theorem dX6_one_32 : decode cX6_one 32 = .ok (.aload_n 0, 1) := by decide +kernel
theorem dX6_one_33 : decode cX6_one 33 = .ok (.getfield 7, 3) := by decide +kernel
theorem dX6_one_36 : decode cX6_one 36 = .ok (.iload_n 3, 1) := by decide +kernel
theorem dX6_one_37 : decode cX6_one 37 = .ok (.iaload, 1) := by decide +kernel
theorem dX6_one_38 : decode cX6_one 38 = .ok (.istore 4, 2) := by decide +kernel
theorem dX6_one_40 : decode cX6_one 40 = .ok (.iload_n 1, 1) := by decide +kernel
theorem dX6_one_41 : decode cX6_one 41 = .ok (.bipush 15, 2) := by decide +kernel
theorem dX6_one_43 : decode cX6_one 43 = .ok (.if_icmp .ge 11, 3) := by decide +kernel
theorem dX6_one_46 : decode cX6_one 46 = .ok (.aload_n 0, 1) := by decide +kernel
theorem dX6_one_47 : decode cX6_one 47 = .ok (.iload_n 1, 1) := by decide +kernel
theorem dX6_one_48 : decode cX6_one 48 = .ok (.invokevirtual 162, 3) := by decide +kernel
theorem dX6_one_51 : decode cX6_one 51 = .ok (.goto 31, 3) := by decide +kernel
theorem dX6_one_54 : decode cX6_one 54 = .ok (.iload_n 1, 1) := by decide +kernel
theorem dX6_one_55 : decode cX6_one 55 = .ok (.bipush 17, 2) := by decide +kernel
theorem dX6_one_57 : decode cX6_one 57 = .ok (.if_icmp .ge 8, 3) := by decide +kernel
theorem dX6_one_60 : decode cX6_one 60 = .ok (.iload 4, 2) := by decide +kernel
theorem dX6_one_62 : decode cX6_one 62 = .ok (.goto 20, 3) := by decide +kernel
theorem dX6_one_65 : decode cX6_one 65 = .ok (.iload_n 1, 1) := by decide +kernel
theorem dX6_one_66 : decode cX6_one 66 = .ok (.bipush 17, 2) := by decide +kernel
theorem dX6_one_68 : decode cX6_one 68 = .ok (.if_icmp .ne 10, 3) := by decide +kernel
theorem dX6_one_71 : decode cX6_one 71 = .ok (.iload 4, 2) := by decide +kernel
theorem dX6_one_73 : decode cX6_one 73 = .ok (.iconst 2, 1) := by decide +kernel
theorem dX6_one_74 : decode cX6_one 74 = .ok (.isub, 1) := by decide +kernel
theorem dX6_one_75 : decode cX6_one 75 = .ok (.goto 7, 3) := by decide +kernel
theorem dX6_one_78 : decode cX6_one 78 = .ok (.iload 4, 2) := by decide +kernel
theorem dX6_one_80 : decode cX6_one 80 = .ok (.iconst 2, 1) := by decide +kernel
theorem dX6_one_81 : decode cX6_one 81 = .ok (.iadd, 1) := by decide +kernel
theorem dX6_one_82 : decode cX6_one 82 = .ok (.istore 5, 2) := by decide +kernel
theorem dX6_one_84 : decode cX6_one 84 = .ok (.iload_n 1, 1) := by decide +kernel
theorem dX6_one_85 : decode cX6_one 85 = .ok (.bipush 15, 2) := by decide +kernel
theorem dX6_one_87 : decode cX6_one 87 = .ok (.if_icmp .ge 13, 3) := by decide +kernel
theorem dX6_one_90 : decode cX6_one 90 = .ok (.iload 4, 2) := by decide +kernel
theorem dX6_one_92 : decode cX6_one 92 = .ok (.aload_n 0, 1) := by decide +kernel
theorem dX6_one_93 : decode cX6_one 93 = .ok (.iload_n 1, 1) := by decide +kernel
theorem dX6_one_94 : decode cX6_one 94 = .ok (.invokevirtual 166, 3) := by decide +kernel
theorem dX6_one_97 : decode cX6_one 97 = .ok (.if_icmp .ne 27, 3) := by decide +kernel
theorem dX6_one_100 : decode cX6_one 100 = .ok (.iload_n 1, 1) := by decide +kernel
theorem dX6_one_101 : decode cX6_one 101 = .ok (.bipush 17, 2) := by decide +kernel
theorem dX6_one_103 : decode cX6_one 103 = .ok (.if_icmp .ne 9, 3) := by decide +kernel
theorem dX6_one_106 : decode cX6_one 106 = .ok (.iload 4, 2) := by decide +kernel
theorem dX6_one_108 : decode cX6_one 108 = .ok (.iconst 2, 1) := by decide +kernel
theorem dX6_one_109 : decode cX6_one 109 = .ok (.if_icmp .lt 15, 3) := by decide +kernel
theorem dX6_one_112 : decode cX6_one 112 = .ok (.iload_n 1, 1) := by decide +kernel
theorem dX6_one_113 : decode cX6_one 113 = .ok (.bipush 18, 2) := by decide +kernel
theorem dX6_one_115 : decode cX6_one 115 = .ok (.if_icmp .ne 11, 3) := by decide +kernel
theorem dX6_one_118 : decode cX6_one 118 = .ok (.iload 4, 2) := by decide +kernel
theorem dX6_one_120 : decode cX6_one 120 = .ok (.iconst 1, 1) := by decide +kernel
theorem dX6_one_121 : decode cX6_one 121 = .ok (.if_icmp .le 5, 3) := by decide +kernel
theorem dX6_one_124 : decode cX6_one 124 = .ok (.iconst (-1), 1) := by decide +kernel
theorem dX6_one_125 : decode cX6_one 125 = .ok (.ireturn, 1) := by decide +kernel
theorem dX6_one_126 : decode cX6_one 126 = .ok (.iload_n 1, 1) := by decide +kernel
theorem dX6_one_127 : decode cX6_one 127 = .ok (.bipush 15, 2) := by decide +kernel
theorem dX6_one_129 : decode cX6_one 129 = .ok (.if_icmp .ge 17, 3) := by decide +kernel
theorem dX6_one_132 : decode cX6_one 132 = .ok (.aload_n 0, 1) := by decide +kernel
theorem dX6_one_133 : decode cX6_one 133 = .ok (.iload_n 1, 1) := by decide +kernel
theorem dX6_one_134 : decode cX6_one 134 = .ok (.aload_n 0, 1) := by decide +kernel
theorem dX6_one_135 : decode cX6_one 135 = .ok (.getfield 16, 3) := by decide +kernel
theorem dX6_one_138 : decode cX6_one 138 = .ok (.iload_n 3, 1) := by decide +kernel
theorem dX6_one_139 : decode cX6_one 139 = .ok (.laload, 1) := by decide +kernel
theorem dX6_one_140 : decode cX6_one 140 = .ok (.invokevirtual 169, 3) := by decide +kernel
theorem dX6_one_143 : decode cX6_one 143 = .ok (.goto 37, 3) := by decide +kernel
theorem dX6_one_146 : decode cX6_one 146 = .ok (.iload_n 1, 1) := by decide +kernel
theorem dX6_one_147 : decode cX6_one 147 = .ok (.bipush 17, 2) := by decide +kernel
theorem dX6_one_149 : decode cX6_one 149 = .ok (.if_icmp .ge 19, 3) := by decide +kernel
theorem dX6_one_152 : decode cX6_one 152 = .ok (.aload_n 0, 1) := by decide +kernel
theorem dX6_one_153 : decode cX6_one 153 = .ok (.iload_n 1, 1) := by decide +kernel
theorem dX6_one_154 : decode cX6_one 154 = .ok (.iload 4, 2) := by decide +kernel
theorem dX6_one_156 : decode cX6_one 156 = .ok (.aload_n 0, 1) := by decide +kernel
theorem dX6_one_157 : decode cX6_one 157 = .ok (.getfield 16, 3) := by decide +kernel
theorem dX6_one_160 : decode cX6_one 160 = .ok (.iload_n 3, 1) := by decide +kernel
theorem dX6_one_161 : decode cX6_one 161 = .ok (.laload, 1) := by decide +kernel
theorem dX6_one_162 : decode cX6_one 162 = .ok (.invokevirtual 172, 3) := by decide +kernel
theorem dX6_one_165 : decode cX6_one 165 = .ok (.goto 15, 3) := by decide +kernel
theorem dX6_one_168 : decode cX6_one 168 = .ok (.aload_n 0, 1) := by decide +kernel
theorem dX6_one_169 : decode cX6_one 169 = .ok (.iload 5, 2) := by decide +kernel
theorem dX6_one_171 : decode cX6_one 171 = .ok (.aload_n 0, 1) := by decide +kernel
theorem dX6_one_172 : decode cX6_one 172 = .ok (.getfield 16, 3) := by decide +kernel
theorem dX6_one_175 : decode cX6_one 175 = .ok (.iload_n 3, 1) := by decide +kernel
theorem dX6_one_176 : decode cX6_one 176 = .ok (.laload, 1) := by decide +kernel
theorem dX6_one_177 : decode cX6_one 177 = .ok (.invokevirtual 144, 3) := by decide +kernel
theorem dX6_one_180 : decode cX6_one 180 = .ok (.lstore 6, 2) := by decide +kernel
theorem dX6_one_182 : decode cX6_one 182 = .ok (.iload_n 1, 1) := by decide +kernel
theorem dX6_one_183 : decode cX6_one 183 = .ok (.iconst 1, 1) := by decide +kernel
theorem dX6_one_184 : decode cX6_one 184 = .ok (.if_icmp .eq 19, 3) := by decide +kernel
theorem dX6_one_187 : decode cX6_one 187 = .ok (.iload_n 1, 1) := by decide +kernel
theorem dX6_one_188 : decode cX6_one 188 = .ok (.iconst 4, 1) := by decide +kernel
theorem dX6_one_189 : decode cX6_one 189 = .ok (.if_icmp .eq 14, 3) := by decide +kernel
theorem dX6_one_192 : decode cX6_one 192 = .ok (.iload_n 1, 1) := by decide +kernel
theorem dX6_one_193 : decode cX6_one 193 = .ok (.iconst 5, 1) := by decide +kernel
theorem dX6_one_194 : decode cX6_one 194 = .ok (.if_icmp .eq 9, 3) := by decide +kernel
theorem dX6_one_197 : decode cX6_one 197 = .ok (.iload_n 1, 1) := by decide +kernel
theorem dX6_one_198 : decode cX6_one 198 = .ok (.bipush 11, 2) := by decide +kernel
theorem dX6_one_200 : decode cX6_one 200 = .ok (.if_icmp .ne 7, 3) := by decide +kernel
theorem dX6_one_203 : decode cX6_one 203 = .ok (.iconst 1, 1) := by decide +kernel
theorem dX6_one_204 : decode cX6_one 204 = .ok (.goto 4, 3) := by decide +kernel
theorem dX6_one_207 : decode cX6_one 207 = .ok (.iconst 0, 1) := by decide +kernel
theorem dX6_one_208 : decode cX6_one 208 = .ok (.istore 8, 2) := by decide +kernel
theorem dX6_one_210 : decode cX6_one 210 = .ok (.aload_n 0, 1) := by decide +kernel
theorem dX6_one_211 : decode cX6_one 211 = .ok (.getfield 7, 3) := by decide +kernel
theorem dX6_one_214 : decode cX6_one 214 = .ok (.iload_n 2, 1) := by decide +kernel
theorem dX6_one_215 : decode cX6_one 215 = .ok (.iload 5, 2) := by decide +kernel
theorem dX6_one_217 : decode cX6_one 217 = .ok (.iastore, 1) := by decide +kernel
theorem dX6_one_218 : decode cX6_one 218 = .ok (.aload_n 0, 1) := by decide +kernel
theorem dX6_one_219 : decode cX6_one 219 = .ok (.iload_n 2, 1) := by decide +kernel
theorem dX6_one_220 : decode cX6_one 220 = .ok (.lload 6, 2) := by decide +kernel
theorem dX6_one_222 : decode cX6_one 222 = .ok (.aload_n 0, 1) := by decide +kernel
theorem dX6_one_223 : decode cX6_one 223 = .ok (.getfield 13, 3) := by decide +kernel
theorem dX6_one_226 : decode cX6_one 226 = .ok (.iload_n 3, 1) := by decide +kernel
theorem dX6_one_227 : decode cX6_one 227 = .ok (.iaload, 1) := by decide +kernel
theorem dX6_one_228 : decode cX6_one 228 = .ok (.aload_n 0, 1) := by decide +kernel
theorem dX6_one_229 : decode cX6_one 229 = .ok (.getfield 20, 3) := by decide +kernel
theorem dX6_one_232 : decode cX6_one 232 = .ok (.iload_n 3, 1) := by decide +kernel
theorem dX6_one_233 : decode cX6_one 233 = .ok (.baload, 1) := by decide +kernel
theorem dX6_one_234 : decode cX6_one 234 = .ok (.ifCond .eq 12, 3) := by decide +kernel
theorem dX6_one_237 : decode cX6_one 237 = .ok (.iload 8, 2) := by decide +kernel
theorem dX6_one_239 : decode cX6_one 239 = .ok (.ifCond .ne 7, 3) := by decide +kernel
theorem dX6_one_242 : decode cX6_one 242 = .ok (.iconst 1, 1) := by decide +kernel
theorem dX6_one_243 : decode cX6_one 243 = .ok (.goto 4, 3) := by decide +kernel
theorem dX6_one_246 : decode cX6_one 246 = .ok (.iconst 0, 1) := by decide +kernel
theorem dX6_one_247 : decode cX6_one 247 = .ok (.invokevirtual 148, 3) := by decide +kernel
theorem dX6_one_250 : decode cX6_one 250 = .ok (.iconst 0, 1) := by decide +kernel
theorem dX6_one_251 : decode cX6_one 251 = .ok (.ireturn, 1) := by decide +kernel
theorem dX6_whole_0 : decode cX6_whole 0 = .ok (.lload 5, 2) := by decide +kernel
theorem dX6_whole_2 : decode cX6_whole 2 = .ok (.l2i, 1) := by decide +kernel
theorem dX6_whole_3 : decode cX6_whole 3 = .ok (.iload_n 2, 1) := by decide +kernel
theorem dX6_whole_4 : decode cX6_whole 4 = .ok (.ifCond .eq 8, 3) := by decide +kernel
theorem dX6_whole_7 : decode cX6_whole 7 = .ok (.bipush 63, 2) := by decide +kernel
theorem dX6_whole_9 : decode cX6_whole 9 = .ok (.goto 5, 3) := by decide +kernel
theorem dX6_whole_12 : decode cX6_whole 12 = .ok (.bipush 31, 2) := by decide +kernel
theorem dX6_whole_14 : decode cX6_whole 14 = .ok (.iand, 1) := by decide +kernel
theorem dX6_whole_15 : decode cX6_whole 15 = .ok (.istore 7, 2) := by decide +kernel
theorem dX6_whole_17 : decode cX6_whole 17 = .ok (.iload_n 1, 1) := by decide +kernel
theorem dX6_whole_18 : decode cX6_whole 18 = .ok (.bipush 20, 2) := by decide +kernel
theorem dX6_whole_20 : decode cX6_whole 20 = .ok (.if_icmp .ne 10, 3) := by decide +kernel
theorem dX6_whole_23 : decode cX6_whole 23 = .ok (.lload_n 3, 1) := by decide +kernel
theorem dX6_whole_24 : decode cX6_whole 24 = .ok (.lload 5, 2) := by decide +kernel
theorem dX6_whole_26 : decode cX6_whole 26 = .ok (.ladd, 1) := by decide +kernel
theorem dX6_whole_27 : decode cX6_whole 27 = .ok (.goto 100, 3) := by decide +kernel
theorem dX6_whole_30 : decode cX6_whole 30 = .ok (.iload_n 1, 1) := by decide +kernel
theorem dX6_whole_31 : decode cX6_whole 31 = .ok (.bipush 21, 2) := by decide +kernel
theorem dX6_whole_33 : decode cX6_whole 33 = .ok (.if_icmp .ne 10, 3) := by decide +kernel
theorem dX6_whole_36 : decode cX6_whole 36 = .ok (.lload_n 3, 1) := by decide +kernel
theorem dX6_whole_37 : decode cX6_whole 37 = .ok (.lload 5, 2) := by decide +kernel
theorem dX6_whole_39 : decode cX6_whole 39 = .ok (.lsub, 1) := by decide +kernel
theorem dX6_whole_40 : decode cX6_whole 40 = .ok (.goto 87, 3) := by decide +kernel
theorem dX6_whole_43 : decode cX6_whole 43 = .ok (.iload_n 1, 1) := by decide +kernel
theorem dX6_whole_44 : decode cX6_whole 44 = .ok (.bipush 22, 2) := by decide +kernel
theorem dX6_whole_46 : decode cX6_whole 46 = .ok (.if_icmp .ne 10, 3) := by decide +kernel
theorem dX6_whole_49 : decode cX6_whole 49 = .ok (.lload_n 3, 1) := by decide +kernel
theorem dX6_whole_50 : decode cX6_whole 50 = .ok (.lload 5, 2) := by decide +kernel
theorem dX6_whole_52 : decode cX6_whole 52 = .ok (.lmul, 1) := by decide +kernel
theorem dX6_whole_53 : decode cX6_whole 53 = .ok (.goto 74, 3) := by decide +kernel
theorem dX6_whole_56 : decode cX6_whole 56 = .ok (.lload 5, 2) := by decide +kernel
theorem dX6_whole_58 : decode cX6_whole 58 = .ok (.lconst 0, 1) := by decide +kernel
theorem dX6_whole_59 : decode cX6_whole 59 = .ok (.lcmp, 1) := by decide +kernel
theorem dX6_whole_60 : decode cX6_whole 60 = .ok (.ifCond .ne 13, 3) := by decide +kernel
theorem dX6_whole_63 : decode cX6_whole 63 = .ok (.iload_n 1, 1) := by decide +kernel
theorem dX6_whole_64 : decode cX6_whole 64 = .ok (.bipush 25, 2) := by decide +kernel
theorem dX6_whole_66 : decode cX6_whole 66 = .ok (.if_icmp .ge 7, 3) := by decide +kernel
theorem dX6_whole_69 : decode cX6_whole 69 = .ok (.lconst 0, 1) := by decide +kernel
theorem dX6_whole_70 : decode cX6_whole 70 = .ok (.goto 57, 3) := by decide +kernel
theorem dX6_whole_73 : decode cX6_whole 73 = .ok (.iload_n 1, 1) := by decide +kernel
theorem dX6_whole_74 : decode cX6_whole 74 = .ok (.bipush 23, 2) := by decide +kernel
theorem dX6_whole_76 : decode cX6_whole 76 = .ok (.if_icmp .ne 24, 3) := by decide +kernel
theorem dX6_whole_79 : decode cX6_whole 79 = .ok (.lload 5, 2) := by decide +kernel
theorem dX6_whole_81 : decode cX6_whole 81 = .ok (.ldc2_w 130, 3) := by decide +kernel
theorem dX6_whole_84 : decode cX6_whole 84 = .ok (.lcmp, 1) := by decide +kernel
theorem dX6_whole_85 : decode cX6_whole 85 = .ok (.ifCond .ne 8, 3) := by decide +kernel
theorem dX6_whole_88 : decode cX6_whole 88 = .ok (.lload_n 3, 1) := by decide +kernel
theorem dX6_whole_89 : decode cX6_whole 89 = .ok (.lneg, 1) := by decide +kernel
theorem dX6_whole_90 : decode cX6_whole 90 = .ok (.goto 37, 3) := by decide +kernel
theorem dX6_whole_93 : decode cX6_whole 93 = .ok (.lload_n 3, 1) := by decide +kernel
theorem dX6_whole_94 : decode cX6_whole 94 = .ok (.lload 5, 2) := by decide +kernel
theorem dX6_whole_96 : decode cX6_whole 96 = .ok (.ldiv, 1) := by decide +kernel
theorem dX6_whole_97 : decode cX6_whole 97 = .ok (.goto 30, 3) := by decide +kernel
theorem dX6_whole_100 : decode cX6_whole 100 = .ok (.iload_n 1, 1) := by decide +kernel
theorem dX6_whole_101 : decode cX6_whole 101 = .ok (.bipush 24, 2) := by decide +kernel
theorem dX6_whole_103 : decode cX6_whole 103 = .ok (.if_icmp .ne 23, 3) := by decide +kernel
theorem dX6_whole_106 : decode cX6_whole 106 = .ok (.lload 5, 2) := by decide +kernel
theorem dX6_whole_108 : decode cX6_whole 108 = .ok (.ldc2_w 130, 3) := by decide +kernel
theorem dX6_whole_111 : decode cX6_whole 111 = .ok (.lcmp, 1) := by decide +kernel
theorem dX6_whole_112 : decode cX6_whole 112 = .ok (.ifCond .ne 7, 3) := by decide +kernel
theorem dX6_whole_115 : decode cX6_whole 115 = .ok (.lconst 0, 1) := by decide +kernel
theorem dX6_whole_116 : decode cX6_whole 116 = .ok (.goto 11, 3) := by decide +kernel
theorem dX6_whole_119 : decode cX6_whole 119 = .ok (.lload_n 3, 1) := by decide +kernel
theorem dX6_whole_120 : decode cX6_whole 120 = .ok (.lload 5, 2) := by decide +kernel
theorem dX6_whole_122 : decode cX6_whole 122 = .ok (.lrem, 1) := by decide +kernel
theorem dX6_whole_123 : decode cX6_whole 123 = .ok (.goto 4, 3) := by decide +kernel
theorem dX6_whole_126 : decode cX6_whole 126 = .ok (.lload_n 3, 1) := by decide +kernel
theorem dX6_whole_127 : decode cX6_whole 127 = .ok (.lstore 8, 2) := by decide +kernel
theorem dX6_whole_129 : decode cX6_whole 129 = .ok (.iload_n 1, 1) := by decide +kernel
theorem dX6_whole_130 : decode cX6_whole 130 = .ok (.bipush 25, 2) := by decide +kernel
theorem dX6_whole_132 : decode cX6_whole 132 = .ok (.if_icmp .ne 18, 3) := by decide +kernel
theorem dX6_whole_135 : decode cX6_whole 135 = .ok (.lload_n 3, 1) := by decide +kernel
theorem dX6_whole_136 : decode cX6_whole 136 = .ok (.lload 5, 2) := by decide +kernel
theorem dX6_whole_138 : decode cX6_whole 138 = .ok (.lcmp, 1) := by decide +kernel
theorem dX6_whole_139 : decode cX6_whole 139 = .ok (.ifCond .ge 7, 3) := by decide +kernel
theorem dX6_whole_142 : decode cX6_whole 142 = .ok (.lload_n 3, 1) := by decide +kernel
theorem dX6_whole_143 : decode cX6_whole 143 = .ok (.goto 5, 3) := by decide +kernel
theorem dX6_whole_146 : decode cX6_whole 146 = .ok (.lload 5, 2) := by decide +kernel
theorem dX6_whole_148 : decode cX6_whole 148 = .ok (.lstore 8, 2) := by decide +kernel
theorem dX6_whole_150 : decode cX6_whole 150 = .ok (.iload_n 1, 1) := by decide +kernel
theorem dX6_whole_151 : decode cX6_whole 151 = .ok (.bipush 26, 2) := by decide +kernel
theorem dX6_whole_153 : decode cX6_whole 153 = .ok (.if_icmp .ne 18, 3) := by decide +kernel
theorem dX6_whole_156 : decode cX6_whole 156 = .ok (.lload_n 3, 1) := by decide +kernel
theorem dX6_whole_157 : decode cX6_whole 157 = .ok (.lload 5, 2) := by decide +kernel
theorem dX6_whole_159 : decode cX6_whole 159 = .ok (.lcmp, 1) := by decide +kernel
theorem dX6_whole_160 : decode cX6_whole 160 = .ok (.ifCond .le 7, 3) := by decide +kernel
theorem dX6_whole_163 : decode cX6_whole 163 = .ok (.lload_n 3, 1) := by decide +kernel
theorem dX6_whole_164 : decode cX6_whole 164 = .ok (.goto 5, 3) := by decide +kernel
theorem dX6_whole_167 : decode cX6_whole 167 = .ok (.lload 5, 2) := by decide +kernel
theorem dX6_whole_169 : decode cX6_whole 169 = .ok (.lstore 8, 2) := by decide +kernel
theorem dX6_whole_171 : decode cX6_whole 171 = .ok (.iload_n 1, 1) := by decide +kernel
theorem dX6_whole_172 : decode cX6_whole 172 = .ok (.bipush 27, 2) := by decide +kernel
theorem dX6_whole_174 : decode cX6_whole 174 = .ok (.if_icmp .ne 9, 3) := by decide +kernel
theorem dX6_whole_177 : decode cX6_whole 177 = .ok (.lload_n 3, 1) := by decide +kernel
theorem dX6_whole_178 : decode cX6_whole 178 = .ok (.iload 7, 2) := by decide +kernel
theorem dX6_whole_180 : decode cX6_whole 180 = .ok (.lshl, 1) := by decide +kernel
theorem dX6_whole_181 : decode cX6_whole 181 = .ok (.lstore 8, 2) := by decide +kernel
theorem dX6_whole_183 : decode cX6_whole 183 = .ok (.iload_n 1, 1) := by decide +kernel
theorem dX6_whole_184 : decode cX6_whole 184 = .ok (.bipush 28, 2) := by decide +kernel
theorem dX6_whole_186 : decode cX6_whole 186 = .ok (.if_icmp .ne 9, 3) := by decide +kernel
theorem dX6_whole_189 : decode cX6_whole 189 = .ok (.lload_n 3, 1) := by decide +kernel
theorem dX6_whole_190 : decode cX6_whole 190 = .ok (.iload 7, 2) := by decide +kernel
theorem dX6_whole_192 : decode cX6_whole 192 = .ok (.lshr, 1) := by decide +kernel
theorem dX6_whole_193 : decode cX6_whole 193 = .ok (.lstore 8, 2) := by decide +kernel
theorem dX6_whole_195 : decode cX6_whole 195 = .ok (.iload_n 1, 1) := by decide +kernel
theorem dX6_whole_196 : decode cX6_whole 196 = .ok (.bipush 29, 2) := by decide +kernel
theorem dX6_whole_198 : decode cX6_whole 198 = .ok (.if_icmp .ne 21, 3) := by decide +kernel
theorem dX6_whole_201 : decode cX6_whole 201 = .ok (.iload_n 2, 1) := by decide +kernel
theorem dX6_whole_202 : decode cX6_whole 202 = .ok (.ifCond .eq 7, 3) := by decide +kernel
theorem dX6_whole_205 : decode cX6_whole 205 = .ok (.lload_n 3, 1) := by decide +kernel
theorem dX6_whole_206 : decode cX6_whole 206 = .ok (.goto 8, 3) := by decide +kernel
theorem dX6_whole_209 : decode cX6_whole 209 = .ok (.lload_n 3, 1) := by decide +kernel
theorem dX6_whole_210 : decode cX6_whole 210 = .ok (.ldc2_w 176, 3) := by decide +kernel
theorem dX6_whole_213 : decode cX6_whole 213 = .ok (.land, 1) := by decide +kernel
theorem dX6_whole_214 : decode cX6_whole 214 = .ok (.iload 7, 2) := by decide +kernel
theorem dX6_whole_216 : decode cX6_whole 216 = .ok (.lushr, 1) := by decide +kernel
theorem dX6_whole_217 : decode cX6_whole 217 = .ok (.lstore 8, 2) := by decide +kernel
theorem dX6_whole_219 : decode cX6_whole 219 = .ok (.iload_n 1, 1) := by decide +kernel
theorem dX6_whole_220 : decode cX6_whole 220 = .ok (.bipush 30, 2) := by decide +kernel
theorem dX6_whole_222 : decode cX6_whole 222 = .ok (.if_icmp .ne 9, 3) := by decide +kernel
theorem dX6_whole_225 : decode cX6_whole 225 = .ok (.lload_n 3, 1) := by decide +kernel
theorem dX6_whole_226 : decode cX6_whole 226 = .ok (.lload 5, 2) := by decide +kernel
theorem dX6_whole_228 : decode cX6_whole 228 = .ok (.land, 1) := by decide +kernel
theorem dX6_whole_229 : decode cX6_whole 229 = .ok (.lstore 8, 2) := by decide +kernel
theorem dX6_whole_231 : decode cX6_whole 231 = .ok (.iload_n 1, 1) := by decide +kernel
theorem dX6_whole_232 : decode cX6_whole 232 = .ok (.bipush 31, 2) := by decide +kernel
theorem dX6_whole_234 : decode cX6_whole 234 = .ok (.if_icmp .ne 9, 3) := by decide +kernel
theorem dX6_whole_237 : decode cX6_whole 237 = .ok (.lload_n 3, 1) := by decide +kernel
theorem dX6_whole_238 : decode cX6_whole 238 = .ok (.lload 5, 2) := by decide +kernel
theorem dX6_whole_240 : decode cX6_whole 240 = .ok (.lor, 1) := by decide +kernel
theorem dX6_whole_241 : decode cX6_whole 241 = .ok (.lstore 8, 2) := by decide +kernel
theorem dX6_whole_243 : decode cX6_whole 243 = .ok (.iload_n 1, 1) := by decide +kernel
theorem dX6_whole_244 : decode cX6_whole 244 = .ok (.bipush 32, 2) := by decide +kernel
theorem dX6_whole_246 : decode cX6_whole 246 = .ok (.if_icmp .ne 9, 3) := by decide +kernel
theorem dX6_whole_249 : decode cX6_whole 249 = .ok (.lload_n 3, 1) := by decide +kernel
theorem dX6_whole_250 : decode cX6_whole 250 = .ok (.lload 5, 2) := by decide +kernel
theorem dX6_whole_252 : decode cX6_whole 252 = .ok (.lxor, 1) := by decide +kernel
theorem dX6_whole_253 : decode cX6_whole 253 = .ok (.lstore 8, 2) := by decide +kernel
theorem dX6_whole_255 : decode cX6_whole 255 = .ok (.iload_n 2, 1) := by decide +kernel
theorem dX6_whole_256 : decode cX6_whole 256 = .ok (.ifCond .eq 8, 3) := by decide +kernel
theorem dX6_whole_259 : decode cX6_whole 259 = .ok (.lload 8, 2) := by decide +kernel
theorem dX6_whole_261 : decode cX6_whole 261 = .ok (.goto 7, 3) := by decide +kernel
theorem dX6_whole_264 : decode cX6_whole 264 = .ok (.lload 8, 2) := by decide +kernel
theorem dX6_whole_266 : decode cX6_whole 266 = .ok (.l2i, 1) := by decide +kernel
theorem dX6_whole_267 : decode cX6_whole 267 = .ok (.i2l, 1) := by decide +kernel
theorem dX6_whole_268 : decode cX6_whole 268 = .ok (.lreturn, 1) := by decide +kernel
theorem dX6_pointed_0 : decode cX6_pointed 0 = .ok (.iload_n 1, 1) := by decide +kernel
theorem dX6_pointed_1 : decode cX6_pointed 1 = .ok (.bipush 20, 2) := by decide +kernel
theorem dX6_pointed_3 : decode cX6_pointed 3 = .ok (.if_icmp .ne 12, 3) := by decide +kernel
theorem dX6_pointed_6 : decode cX6_pointed 6 = .ok (.aload_n 0, 1) := by decide +kernel
theorem dX6_pointed_7 : decode cX6_pointed 7 = .ok (.iload_n 2, 1) := by decide +kernel
theorem dX6_pointed_8 : decode cX6_pointed 8 = .ok (.lload_n 3, 1) := by decide +kernel
theorem dX6_pointed_9 : decode cX6_pointed 9 = .ok (.lload 5, 2) := by decide +kernel
theorem dX6_pointed_11 : decode cX6_pointed 11 = .ok (.invokevirtual 178, 3) := by decide +kernel
theorem dX6_pointed_14 : decode cX6_pointed 14 = .ok (.lreturn, 1) := by decide +kernel
theorem dX6_pointed_15 : decode cX6_pointed 15 = .ok (.iload_n 1, 1) := by decide +kernel
theorem dX6_pointed_16 : decode cX6_pointed 16 = .ok (.bipush 21, 2) := by decide +kernel
theorem dX6_pointed_18 : decode cX6_pointed 18 = .ok (.if_icmp .ne 61, 3) := by decide +kernel
theorem dX6_pointed_21 : decode cX6_pointed 21 = .ok (.aload_n 0, 1) := by decide +kernel
theorem dX6_pointed_22 : decode cX6_pointed 22 = .ok (.iload_n 2, 1) := by decide +kernel
theorem dX6_pointed_23 : decode cX6_pointed 23 = .ok (.lload_n 3, 1) := by decide +kernel
theorem dX6_pointed_24 : decode cX6_pointed 24 = .ok (.aload_n 0, 1) := by decide +kernel
theorem dX6_pointed_25 : decode cX6_pointed 25 = .ok (.iload_n 2, 1) := by decide +kernel
theorem dX6_pointed_26 : decode cX6_pointed 26 = .ok (.lload 5, 2) := by decide +kernel
theorem dX6_pointed_28 : decode cX6_pointed 28 = .ok (.invokevirtual 132, 3) := by decide +kernel
theorem dX6_pointed_31 : decode cX6_pointed 31 = .ok (.ifCond .eq 8, 3) := by decide +kernel
theorem dX6_pointed_34 : decode cX6_pointed 34 = .ok (.lload 5, 2) := by decide +kernel
theorem dX6_pointed_36 : decode cX6_pointed 36 = .ok (.goto 39, 3) := by decide +kernel
theorem dX6_pointed_39 : decode cX6_pointed 39 = .ok (.aload_n 0, 1) := by decide +kernel
theorem dX6_pointed_40 : decode cX6_pointed 40 = .ok (.iload_n 2, 1) := by decide +kernel
theorem dX6_pointed_41 : decode cX6_pointed 41 = .ok (.lload 5, 2) := by decide +kernel
theorem dX6_pointed_43 : decode cX6_pointed 43 = .ok (.lconst 0, 1) := by decide +kernel
theorem dX6_pointed_44 : decode cX6_pointed 44 = .ok (.lcmp, 1) := by decide +kernel
theorem dX6_pointed_45 : decode cX6_pointed 45 = .ok (.ifCond .lt 7, 3) := by decide +kernel
theorem dX6_pointed_48 : decode cX6_pointed 48 = .ok (.iconst 1, 1) := by decide +kernel
theorem dX6_pointed_49 : decode cX6_pointed 49 = .ok (.goto 4, 3) := by decide +kernel
theorem dX6_pointed_52 : decode cX6_pointed 52 = .ok (.iconst 0, 1) := by decide +kernel
theorem dX6_pointed_53 : decode cX6_pointed 53 = .ok (.iload_n 2, 1) := by decide +kernel
theorem dX6_pointed_54 : decode cX6_pointed 54 = .ok (.ifCond .eq 12, 3) := by decide +kernel
theorem dX6_pointed_57 : decode cX6_pointed 57 = .ok (.lload 5, 2) := by decide +kernel
theorem dX6_pointed_59 : decode cX6_pointed 59 = .ok (.ldc2_w 92, 3) := by decide +kernel
theorem dX6_pointed_62 : decode cX6_pointed 62 = .ok (.land, 1) := by decide +kernel
theorem dX6_pointed_63 : decode cX6_pointed 63 = .ok (.goto 9, 3) := by decide +kernel
theorem dX6_pointed_66 : decode cX6_pointed 66 = .ok (.lload 5, 2) := by decide +kernel
theorem dX6_pointed_68 : decode cX6_pointed 68 = .ok (.ldc2_w 94, 3) := by decide +kernel
theorem dX6_pointed_71 : decode cX6_pointed 71 = .ok (.land, 1) := by decide +kernel
theorem dX6_pointed_72 : decode cX6_pointed 72 = .ok (.invokevirtual 107, 3) := by decide +kernel
theorem dX6_pointed_75 : decode cX6_pointed 75 = .ok (.invokevirtual 178, 3) := by decide +kernel
theorem dX6_pointed_78 : decode cX6_pointed 78 = .ok (.lreturn, 1) := by decide +kernel
theorem dX6_pointed_79 : decode cX6_pointed 79 = .ok (.iload_n 1, 1) := by decide +kernel
theorem dX6_pointed_80 : decode cX6_pointed 80 = .ok (.bipush 22, 2) := by decide +kernel
theorem dX6_pointed_82 : decode cX6_pointed 82 = .ok (.if_icmp .ne 12, 3) := by decide +kernel
theorem dX6_pointed_85 : decode cX6_pointed 85 = .ok (.aload_n 0, 1) := by decide +kernel
theorem dX6_pointed_86 : decode cX6_pointed 86 = .ok (.iload_n 2, 1) := by decide +kernel
theorem dX6_pointed_87 : decode cX6_pointed 87 = .ok (.lload_n 3, 1) := by decide +kernel
theorem dX6_pointed_88 : decode cX6_pointed 88 = .ok (.lload 5, 2) := by decide +kernel
theorem dX6_pointed_90 : decode cX6_pointed 90 = .ok (.invokevirtual 182, 3) := by decide +kernel
theorem dX6_pointed_93 : decode cX6_pointed 93 = .ok (.lreturn, 1) := by decide +kernel
theorem dX6_pointed_94 : decode cX6_pointed 94 = .ok (.iload_n 1, 1) := by decide +kernel
theorem dX6_pointed_95 : decode cX6_pointed 95 = .ok (.bipush 23, 2) := by decide +kernel
theorem dX6_pointed_97 : decode cX6_pointed 97 = .ok (.if_icmp .ne 12, 3) := by decide +kernel
theorem dX6_pointed_100 : decode cX6_pointed 100 = .ok (.aload_n 0, 1) := by decide +kernel
theorem dX6_pointed_101 : decode cX6_pointed 101 = .ok (.iload_n 2, 1) := by decide +kernel
theorem dX6_pointed_102 : decode cX6_pointed 102 = .ok (.lload_n 3, 1) := by decide +kernel
theorem dX6_pointed_103 : decode cX6_pointed 103 = .ok (.lload 5, 2) := by decide +kernel
theorem dX6_pointed_105 : decode cX6_pointed 105 = .ok (.invokevirtual 185, 3) := by decide +kernel
theorem dX6_pointed_108 : decode cX6_pointed 108 = .ok (.lreturn, 1) := by decide +kernel
theorem dX6_pointed_109 : decode cX6_pointed 109 = .ok (.iload_n 1, 1) := by decide +kernel
theorem dX6_pointed_110 : decode cX6_pointed 110 = .ok (.bipush 24, 2) := by decide +kernel
theorem dX6_pointed_112 : decode cX6_pointed 112 = .ok (.if_icmp .ne 12, 3) := by decide +kernel
theorem dX6_pointed_115 : decode cX6_pointed 115 = .ok (.aload_n 0, 1) := by decide +kernel
theorem dX6_pointed_116 : decode cX6_pointed 116 = .ok (.iload_n 2, 1) := by decide +kernel
theorem dX6_pointed_117 : decode cX6_pointed 117 = .ok (.lload_n 3, 1) := by decide +kernel
theorem dX6_pointed_118 : decode cX6_pointed 118 = .ok (.lload 5, 2) := by decide +kernel
theorem dX6_pointed_120 : decode cX6_pointed 120 = .ok (.invokevirtual 188, 3) := by decide +kernel
theorem dX6_pointed_123 : decode cX6_pointed 123 = .ok (.lreturn, 1) := by decide +kernel
theorem dX6_pointed_124 : decode cX6_pointed 124 = .ok (.aload_n 0, 1) := by decide +kernel
theorem dX6_pointed_125 : decode cX6_pointed 125 = .ok (.iload_n 2, 1) := by decide +kernel
theorem dX6_pointed_126 : decode cX6_pointed 126 = .ok (.lload_n 3, 1) := by decide +kernel
theorem dX6_pointed_127 : decode cX6_pointed 127 = .ok (.invokevirtual 132, 3) := by decide +kernel
theorem dX6_pointed_130 : decode cX6_pointed 130 = .ok (.ifCond .ne 13, 3) := by decide +kernel
theorem dX6_pointed_133 : decode cX6_pointed 133 = .ok (.aload_n 0, 1) := by decide +kernel
theorem dX6_pointed_134 : decode cX6_pointed 134 = .ok (.iload_n 2, 1) := by decide +kernel
theorem dX6_pointed_135 : decode cX6_pointed 135 = .ok (.lload 5, 2) := by decide +kernel
theorem dX6_pointed_137 : decode cX6_pointed 137 = .ok (.invokevirtual 132, 3) := by decide +kernel
theorem dX6_pointed_140 : decode cX6_pointed 140 = .ok (.ifCond .eq 9, 3) := by decide +kernel
theorem dX6_pointed_143 : decode cX6_pointed 143 = .ok (.aload_n 0, 1) := by decide +kernel
theorem dX6_pointed_144 : decode cX6_pointed 144 = .ok (.iload_n 2, 1) := by decide +kernel
theorem dX6_pointed_145 : decode cX6_pointed 145 = .ok (.invokevirtual 115, 3) := by decide +kernel
theorem dX6_pointed_148 : decode cX6_pointed 148 = .ok (.lreturn, 1) := by decide +kernel
theorem dX6_pointed_149 : decode cX6_pointed 149 = .ok (.aload_n 0, 1) := by decide +kernel
theorem dX6_pointed_150 : decode cX6_pointed 150 = .ok (.iload_n 2, 1) := by decide +kernel
theorem dX6_pointed_151 : decode cX6_pointed 151 = .ok (.lload_n 3, 1) := by decide +kernel
theorem dX6_pointed_152 : decode cX6_pointed 152 = .ok (.invokevirtual 136, 3) := by decide +kernel
theorem dX6_pointed_155 : decode cX6_pointed 155 = .ok (.aload_n 0, 1) := by decide +kernel
theorem dX6_pointed_156 : decode cX6_pointed 156 = .ok (.iload_n 2, 1) := by decide +kernel
theorem dX6_pointed_157 : decode cX6_pointed 157 = .ok (.lload 5, 2) := by decide +kernel
theorem dX6_pointed_159 : decode cX6_pointed 159 = .ok (.invokevirtual 136, 3) := by decide +kernel
theorem dX6_pointed_162 : decode cX6_pointed 162 = .ok (.lcmp, 1) := by decide +kernel
theorem dX6_pointed_163 : decode cX6_pointed 163 = .ok (.ifCond .ge 7, 3) := by decide +kernel
theorem dX6_pointed_166 : decode cX6_pointed 166 = .ok (.iconst 1, 1) := by decide +kernel
theorem dX6_pointed_167 : decode cX6_pointed 167 = .ok (.goto 4, 3) := by decide +kernel
theorem dX6_pointed_170 : decode cX6_pointed 170 = .ok (.iconst 0, 1) := by decide +kernel
theorem dX6_pointed_171 : decode cX6_pointed 171 = .ok (.iload_n 1, 1) := by decide +kernel
theorem dX6_pointed_172 : decode cX6_pointed 172 = .ok (.bipush 25, 2) := by decide +kernel
theorem dX6_pointed_174 : decode cX6_pointed 174 = .ok (.if_icmp .ne 7, 3) := by decide +kernel
theorem dX6_pointed_177 : decode cX6_pointed 177 = .ok (.iconst 1, 1) := by decide +kernel
theorem dX6_pointed_178 : decode cX6_pointed 178 = .ok (.goto 4, 3) := by decide +kernel
theorem dX6_pointed_181 : decode cX6_pointed 181 = .ok (.iconst 0, 1) := by decide +kernel
theorem dX6_pointed_182 : decode cX6_pointed 182 = .ok (.if_icmp .ne 7, 3) := by decide +kernel
theorem dX6_pointed_185 : decode cX6_pointed 185 = .ok (.lload_n 3, 1) := by decide +kernel
theorem dX6_pointed_186 : decode cX6_pointed 186 = .ok (.goto 5, 3) := by decide +kernel
theorem dX6_pointed_189 : decode cX6_pointed 189 = .ok (.lload 5, 2) := by decide +kernel
theorem dX6_pointed_191 : decode cX6_pointed 191 = .ok (.lreturn, 1) := by decide +kernel
theorem dX6_two_0 : decode cX6_two 0 = .ok (.iload_n 1, 1) := by decide +kernel
theorem dX6_two_1 : decode cX6_two 1 = .ok (.bipush 20, 2) := by decide +kernel
theorem dX6_two_3 : decode cX6_two 3 = .ok (.if_icmp .lt 40, 3) := by decide +kernel
theorem dX6_two_6 : decode cX6_two 6 = .ok (.iload_n 1, 1) := by decide +kernel
theorem dX6_two_7 : decode cX6_two 7 = .ok (.bipush 34, 2) := by decide +kernel
theorem dX6_two_9 : decode cX6_two 9 = .ok (.if_icmp .gt 34, 3) := by decide +kernel
theorem dX6_two_12 : decode cX6_two 12 = .ok (.aload_n 0, 1) := by decide +kernel
theorem dX6_two_13 : decode cX6_two 13 = .ok (.iload_n 2, 1) := by decide +kernel
theorem dX6_two_14 : decode cX6_two 14 = .ok (.bipush 8, 2) := by decide +kernel
theorem dX6_two_16 : decode cX6_two 16 = .ok (.invokevirtual 140, 3) := by decide +kernel
theorem dX6_two_19 : decode cX6_two 19 = .ok (.ifCond .ne 24, 3) := by decide +kernel
theorem dX6_two_22 : decode cX6_two 22 = .ok (.aload_n 0, 1) := by decide +kernel
theorem dX6_two_23 : decode cX6_two 23 = .ok (.iload_n 3, 1) := by decide +kernel
theorem dX6_two_24 : decode cX6_two 24 = .ok (.bipush 8, 2) := by decide +kernel
theorem dX6_two_26 : decode cX6_two 26 = .ok (.invokevirtual 140, 3) := by decide +kernel
theorem dX6_two_29 : decode cX6_two 29 = .ok (.ifCond .ne 14, 3) := by decide +kernel
theorem dX6_two_32 : decode cX6_two 32 = .ok (.aload_n 0, 1) := by decide +kernel
theorem dX6_two_33 : decode cX6_two 33 = .ok (.iload 4, 2) := by decide +kernel
theorem dX6_two_35 : decode cX6_two 35 = .ok (.bipush 8, 2) := by decide +kernel
theorem dX6_two_37 : decode cX6_two 37 = .ok (.invokevirtual 140, 3) := by decide +kernel
theorem dX6_two_40 : decode cX6_two 40 = .ok (.ifCond .eq 5, 3) := by decide +kernel
theorem dX6_two_43 : decode cX6_two 43 = .ok (.iconst (-1), 1) := by decide +kernel
theorem dX6_two_44 : decode cX6_two 44 = .ok (.ireturn, 1) := by decide +kernel
theorem dX6_two_45 : decode cX6_two 45 = .ok (.aload_n 0, 1) := by decide +kernel
theorem dX6_two_46 : decode cX6_two 46 = .ok (.getfield 7, 3) := by decide +kernel
theorem dX6_two_49 : decode cX6_two 49 = .ok (.iload_n 3, 1) := by decide +kernel
theorem dX6_two_50 : decode cX6_two 50 = .ok (.iaload, 1) := by decide +kernel
theorem dX6_two_51 : decode cX6_two 51 = .ok (.istore 5, 2) := by decide +kernel
theorem dX6_two_53 : decode cX6_two 53 = .ok (.iload_n 1, 1) := by decide +kernel
theorem dX6_two_54 : decode cX6_two 54 = .ok (.bipush 26, 2) := by decide +kernel
theorem dX6_two_56 : decode cX6_two 56 = .ok (.if_icmp .le 13, 3) := by decide +kernel
theorem dX6_two_59 : decode cX6_two 59 = .ok (.iload_n 1, 1) := by decide +kernel
theorem dX6_two_60 : decode cX6_two 60 = .ok (.bipush 30, 2) := by decide +kernel
theorem dX6_two_62 : decode cX6_two 62 = .ok (.if_icmp .ge 7, 3) := by decide +kernel
theorem dX6_two_65 : decode cX6_two 65 = .ok (.iconst 1, 1) := by decide +kernel
theorem dX6_two_66 : decode cX6_two 66 = .ok (.goto 4, 3) := by decide +kernel
theorem dX6_two_69 : decode cX6_two 69 = .ok (.iconst 0, 1) := by decide +kernel
theorem dX6_two_70 : decode cX6_two 70 = .ok (.istore 6, 2) := by decide +kernel
theorem dX6_two_72 : decode cX6_two 72 = .ok (.iload_n 1, 1) := by decide +kernel
theorem dX6_two_73 : decode cX6_two 73 = .ok (.bipush 26, 2) := by decide +kernel
theorem dX6_two_75 : decode cX6_two 75 = .ok (.if_icmp .le 13, 3) := by decide +kernel
theorem dX6_two_78 : decode cX6_two 78 = .ok (.iload_n 1, 1) := by decide +kernel
theorem dX6_two_79 : decode cX6_two 79 = .ok (.bipush 33, 2) := by decide +kernel
theorem dX6_two_81 : decode cX6_two 81 = .ok (.if_icmp .ge 7, 3) := by decide +kernel
theorem dX6_two_84 : decode cX6_two 84 = .ok (.iconst 1, 1) := by decide +kernel
theorem dX6_two_85 : decode cX6_two 85 = .ok (.goto 4, 3) := by decide +kernel
theorem dX6_two_88 : decode cX6_two 88 = .ok (.iconst 0, 1) := by decide +kernel
theorem dX6_two_89 : decode cX6_two 89 = .ok (.istore 7, 2) := by decide +kernel
theorem dX6_two_91 : decode cX6_two 91 = .ok (.iload_n 1, 1) := by decide +kernel
theorem dX6_two_92 : decode cX6_two 92 = .ok (.bipush 32, 2) := by decide +kernel
theorem dX6_two_94 : decode cX6_two 94 = .ok (.if_icmp .le 7, 3) := by decide +kernel
theorem dX6_two_97 : decode cX6_two 97 = .ok (.iconst 1, 1) := by decide +kernel
theorem dX6_two_98 : decode cX6_two 98 = .ok (.goto 4, 3) := by decide +kernel
theorem dX6_two_101 : decode cX6_two 101 = .ok (.iconst 0, 1) := by decide +kernel
theorem dX6_two_102 : decode cX6_two 102 = .ok (.istore 8, 2) := by decide +kernel
theorem dX6_two_104 : decode cX6_two 104 = .ok (.iload 6, 2) := by decide +kernel
theorem dX6_two_106 : decode cX6_two 106 = .ok (.ifCond .eq 16, 3) := by decide +kernel
theorem dX6_two_109 : decode cX6_two 109 = .ok (.aload_n 0, 1) := by decide +kernel
theorem dX6_two_110 : decode cX6_two 110 = .ok (.getfield 7, 3) := by decide +kernel
theorem dX6_two_113 : decode cX6_two 113 = .ok (.iload 4, 2) := by decide +kernel
theorem dX6_two_115 : decode cX6_two 115 = .ok (.iaload, 1) := by decide +kernel
theorem dX6_two_116 : decode cX6_two 116 = .ok (.ifCond .eq 20, 3) := by decide +kernel
theorem dX6_two_119 : decode cX6_two 119 = .ok (.goto 15, 3) := by decide +kernel
theorem dX6_two_122 : decode cX6_two 122 = .ok (.aload_n 0, 1) := by decide +kernel
theorem dX6_two_123 : decode cX6_two 123 = .ok (.getfield 7, 3) := by decide +kernel
theorem dX6_two_126 : decode cX6_two 126 = .ok (.iload 4, 2) := by decide +kernel
theorem dX6_two_128 : decode cX6_two 128 = .ok (.iaload, 1) := by decide +kernel
theorem dX6_two_129 : decode cX6_two 129 = .ok (.iload 5, 2) := by decide +kernel
theorem dX6_two_131 : decode cX6_two 131 = .ok (.if_icmp .eq 5, 3) := by decide +kernel
theorem dX6_two_134 : decode cX6_two 134 = .ok (.iconst (-1), 1) := by decide +kernel
theorem dX6_two_135 : decode cX6_two 135 = .ok (.ireturn, 1) := by decide +kernel
theorem dX6_two_136 : decode cX6_two 136 = .ok (.iload 7, 2) := by decide +kernel
theorem dX6_two_138 : decode cX6_two 138 = .ok (.ifCond .eq 9, 3) := by decide +kernel
theorem dX6_two_141 : decode cX6_two 141 = .ok (.iload 5, 2) := by decide +kernel
theorem dX6_two_143 : decode cX6_two 143 = .ok (.iconst 1, 1) := by decide +kernel
theorem dX6_two_144 : decode cX6_two 144 = .ok (.if_icmp .gt 13, 3) := by decide +kernel
theorem dX6_two_147 : decode cX6_two 147 = .ok (.iload 8, 2) := by decide +kernel
theorem dX6_two_149 : decode cX6_two 149 = .ok (.ifCond .eq 10, 3) := by decide +kernel
theorem dX6_two_152 : decode cX6_two 152 = .ok (.iload 5, 2) := by decide +kernel
theorem dX6_two_154 : decode cX6_two 154 = .ok (.ifCond .ne 5, 3) := by decide +kernel
theorem dX6_two_157 : decode cX6_two 157 = .ok (.iconst (-1), 1) := by decide +kernel
theorem dX6_two_158 : decode cX6_two 158 = .ok (.ireturn, 1) := by decide +kernel
theorem dX6_two_159 : decode cX6_two 159 = .ok (.iload_n 1, 1) := by decide +kernel
theorem dX6_two_160 : decode cX6_two 160 = .ok (.bipush 21, 2) := by decide +kernel
theorem dX6_two_162 : decode cX6_two 162 = .ok (.if_icmp .le 13, 3) := by decide +kernel
theorem dX6_two_165 : decode cX6_two 165 = .ok (.iload_n 1, 1) := by decide +kernel
theorem dX6_two_166 : decode cX6_two 166 = .ok (.bipush 25, 2) := by decide +kernel
theorem dX6_two_168 : decode cX6_two 168 = .ok (.if_icmp .ge 7, 3) := by decide +kernel
theorem dX6_two_171 : decode cX6_two 171 = .ok (.iconst 1, 1) := by decide +kernel
theorem dX6_two_172 : decode cX6_two 172 = .ok (.goto 4, 3) := by decide +kernel
theorem dX6_two_175 : decode cX6_two 175 = .ok (.iconst 0, 1) := by decide +kernel
theorem dX6_two_176 : decode cX6_two 176 = .ok (.istore 9, 2) := by decide +kernel
theorem dX6_two_178 : decode cX6_two 178 = .ok (.iload 5, 2) := by decide +kernel
theorem dX6_two_180 : decode cX6_two 180 = .ok (.iconst 2, 1) := by decide +kernel
theorem dX6_two_181 : decode cX6_two 181 = .ok (.if_icmp .ge 40, 3) := by decide +kernel
theorem dX6_two_184 : decode cX6_two 184 = .ok (.iload_n 1, 1) := by decide +kernel
theorem dX6_two_185 : decode cX6_two 185 = .ok (.bipush 23, 2) := by decide +kernel
theorem dX6_two_187 : decode cX6_two 187 = .ok (.if_icmp .eq 9, 3) := by decide +kernel
theorem dX6_two_190 : decode cX6_two 190 = .ok (.iload_n 1, 1) := by decide +kernel
theorem dX6_two_191 : decode cX6_two 191 = .ok (.bipush 24, 2) := by decide +kernel
theorem dX6_two_193 : decode cX6_two 193 = .ok (.if_icmp .ne 28, 3) := by decide +kernel
theorem dX6_two_196 : decode cX6_two 196 = .ok (.aload_n 0, 1) := by decide +kernel
theorem dX6_two_197 : decode cX6_two 197 = .ok (.getfield 16, 3) := by decide +kernel
theorem dX6_two_200 : decode cX6_two 200 = .ok (.iload 4, 2) := by decide +kernel
theorem dX6_two_202 : decode cX6_two 202 = .ok (.laload, 1) := by decide +kernel
theorem dX6_two_203 : decode cX6_two 203 = .ok (.lconst 0, 1) := by decide +kernel
theorem dX6_two_204 : decode cX6_two 204 = .ok (.lcmp, 1) := by decide +kernel
theorem dX6_two_205 : decode cX6_two 205 = .ok (.ifCond .ne 16, 3) := by decide +kernel
theorem dX6_two_208 : decode cX6_two 208 = .ok (.aload_n 0, 1) := by decide +kernel
theorem dX6_two_209 : decode cX6_two 209 = .ok (.dup, 1) := by decide +kernel
theorem dX6_two_210 : decode cX6_two 210 = .ok (.getfield 55, 3) := by decide +kernel
theorem dX6_two_213 : decode cX6_two 213 = .ok (.iconst 1, 1) := by decide +kernel
theorem dX6_two_214 : decode cX6_two 214 = .ok (.iadd, 1) := by decide +kernel
theorem dX6_two_215 : decode cX6_two 215 = .ok (.putfield 55, 3) := by decide +kernel
theorem dX6_two_218 : decode cX6_two 218 = .ok (.bipush (-2), 2) := by decide +kernel
theorem dX6_two_220 : decode cX6_two 220 = .ok (.ireturn, 1) := by decide +kernel
theorem dX6_two_221 : decode cX6_two 221 = .ok (.iload 5, 2) := by decide +kernel
theorem dX6_two_223 : decode cX6_two 223 = .ok (.iconst 1, 1) := by decide +kernel
theorem dX6_two_224 : decode cX6_two 224 = .ok (.if_icmp .le 22, 3) := by decide +kernel
theorem dX6_two_227 : decode cX6_two 227 = .ok (.iload_n 1, 1) := by decide +kernel
theorem dX6_two_228 : decode cX6_two 228 = .ok (.bipush 25, 2) := by decide +kernel
theorem dX6_two_230 : decode cX6_two 230 = .ok (.if_icmp .ge 16, 3) := by decide +kernel
theorem dX6_two_233 : decode cX6_two 233 = .ok (.aload_n 0, 1) := by decide +kernel
theorem dX6_two_234 : decode cX6_two 234 = .ok (.iload_n 3, 1) := by decide +kernel
theorem dX6_two_235 : decode cX6_two 235 = .ok (.iload_n 1, 1) := by decide +kernel
theorem dX6_two_236 : decode cX6_two 236 = .ok (.invokevirtual 191, 3) := by decide +kernel
theorem dX6_two_239 : decode cX6_two 239 = .ok (.aload_n 0, 1) := by decide +kernel
theorem dX6_two_240 : decode cX6_two 240 = .ok (.iload 4, 2) := by decide +kernel
theorem dX6_two_242 : decode cX6_two 242 = .ok (.iload_n 1, 1) := by decide +kernel
theorem dX6_two_243 : decode cX6_two 243 = .ok (.invokevirtual 191, 3) := by decide +kernel
theorem dX6_two_246 : decode cX6_two 246 = .ok (.iload 8, 2) := by decide +kernel
theorem dX6_two_248 : decode cX6_two 248 = .ok (.ifCond .eq 37, 3) := by decide +kernel
theorem dX6_two_251 : decode cX6_two 251 = .ok (.aload_n 0, 1) := by decide +kernel
theorem dX6_two_252 : decode cX6_two 252 = .ok (.iload 5, 2) := by decide +kernel
theorem dX6_two_254 : decode cX6_two 254 = .ok (.aload_n 0, 1) := by decide +kernel
theorem dX6_two_255 : decode cX6_two 255 = .ok (.getfield 16, 3) := by decide +kernel
theorem dX6_two_258 : decode cX6_two 258 = .ok (.iload_n 3, 1) := by decide +kernel
theorem dX6_two_259 : decode cX6_two 259 = .ok (.laload, 1) := by decide +kernel
theorem dX6_two_260 : decode cX6_two 260 = .ok (.aload_n 0, 1) := by decide +kernel
theorem dX6_two_261 : decode cX6_two 261 = .ok (.getfield 16, 3) := by decide +kernel
theorem dX6_two_264 : decode cX6_two 264 = .ok (.iload 4, 2) := by decide +kernel
theorem dX6_two_266 : decode cX6_two 266 = .ok (.laload, 1) := by decide +kernel
theorem dX6_two_267 : decode cX6_two 267 = .ok (.iload_n 1, 1) := by decide +kernel
theorem dX6_two_268 : decode cX6_two 268 = .ok (.bipush 33, 2) := by decide +kernel
theorem dX6_two_270 : decode cX6_two 270 = .ok (.if_icmp .ne 7, 3) := by decide +kernel
theorem dX6_two_273 : decode cX6_two 273 = .ok (.iconst (-1), 1) := by decide +kernel
theorem dX6_two_274 : decode cX6_two 274 = .ok (.goto 4, 3) := by decide +kernel
theorem dX6_two_277 : decode cX6_two 277 = .ok (.iconst 1, 1) := by decide +kernel
theorem dX6_two_278 : decode cX6_two 278 = .ok (.invokevirtual 195, 3) := by decide +kernel
theorem dX6_two_281 : decode cX6_two 281 = .ok (.i2l, 1) := by decide +kernel
theorem dX6_two_282 : decode cX6_two 282 = .ok (.goto 70, 3) := by decide +kernel
theorem dX6_two_285 : decode cX6_two 285 = .ok (.iload 5, 2) := by decide +kernel
theorem dX6_two_287 : decode cX6_two 287 = .ok (.iconst 2, 1) := by decide +kernel
theorem dX6_two_288 : decode cX6_two 288 = .ok (.if_icmp .ge 35, 3) := by decide +kernel
theorem dX6_two_291 : decode cX6_two 291 = .ok (.aload_n 0, 1) := by decide +kernel
theorem dX6_two_292 : decode cX6_two 292 = .ok (.iload_n 1, 1) := by decide +kernel
theorem dX6_two_293 : decode cX6_two 293 = .ok (.iload 5, 2) := by decide +kernel
theorem dX6_two_295 : decode cX6_two 295 = .ok (.iconst 1, 1) := by decide +kernel
theorem dX6_two_296 : decode cX6_two 296 = .ok (.if_icmp .ne 7, 3) := by decide +kernel
theorem dX6_two_299 : decode cX6_two 299 = .ok (.iconst 1, 1) := by decide +kernel
theorem dX6_two_300 : decode cX6_two 300 = .ok (.goto 4, 3) := by decide +kernel
theorem dX6_two_303 : decode cX6_two 303 = .ok (.iconst 0, 1) := by decide +kernel
theorem dX6_two_304 : decode cX6_two 304 = .ok (.aload_n 0, 1) := by decide +kernel
theorem dX6_two_305 : decode cX6_two 305 = .ok (.getfield 16, 3) := by decide +kernel
theorem dX6_two_308 : decode cX6_two 308 = .ok (.iload_n 3, 1) := by decide +kernel
theorem dX6_two_309 : decode cX6_two 309 = .ok (.laload, 1) := by decide +kernel
theorem dX6_two_310 : decode cX6_two 310 = .ok (.aload_n 0, 1) := by decide +kernel
theorem dX6_two_311 : decode cX6_two 311 = .ok (.getfield 16, 3) := by decide +kernel
theorem dX6_two_314 : decode cX6_two 314 = .ok (.iload 4, 2) := by decide +kernel
theorem dX6_two_316 : decode cX6_two 316 = .ok (.laload, 1) := by decide +kernel
theorem dX6_two_317 : decode cX6_two 317 = .ok (.invokevirtual 199, 3) := by decide +kernel
theorem dX6_two_320 : decode cX6_two 320 = .ok (.goto 32, 3) := by decide +kernel
theorem dX6_two_323 : decode cX6_two 323 = .ok (.aload_n 0, 1) := by decide +kernel
theorem dX6_two_324 : decode cX6_two 324 = .ok (.iload_n 1, 1) := by decide +kernel
theorem dX6_two_325 : decode cX6_two 325 = .ok (.iload 5, 2) := by decide +kernel
theorem dX6_two_327 : decode cX6_two 327 = .ok (.iconst 3, 1) := by decide +kernel
theorem dX6_two_328 : decode cX6_two 328 = .ok (.if_icmp .ne 7, 3) := by decide +kernel
theorem dX6_two_331 : decode cX6_two 331 = .ok (.iconst 1, 1) := by decide +kernel
theorem dX6_two_332 : decode cX6_two 332 = .ok (.goto 4, 3) := by decide +kernel
theorem dX6_two_335 : decode cX6_two 335 = .ok (.iconst 0, 1) := by decide +kernel
theorem dX6_two_336 : decode cX6_two 336 = .ok (.aload_n 0, 1) := by decide +kernel
theorem dX6_two_337 : decode cX6_two 337 = .ok (.getfield 16, 3) := by decide +kernel
theorem dX6_two_340 : decode cX6_two 340 = .ok (.iload_n 3, 1) := by decide +kernel
theorem dX6_two_341 : decode cX6_two 341 = .ok (.laload, 1) := by decide +kernel
theorem dX6_two_342 : decode cX6_two 342 = .ok (.aload_n 0, 1) := by decide +kernel
theorem dX6_two_343 : decode cX6_two 343 = .ok (.getfield 16, 3) := by decide +kernel
theorem dX6_two_346 : decode cX6_two 346 = .ok (.iload 4, 2) := by decide +kernel
theorem dX6_two_348 : decode cX6_two 348 = .ok (.laload, 1) := by decide +kernel
theorem dX6_two_349 : decode cX6_two 349 = .ok (.invokevirtual 203, 3) := by decide +kernel
theorem dX6_two_352 : decode cX6_two 352 = .ok (.lstore 10, 2) := by decide +kernel
theorem dX6_two_354 : decode cX6_two 354 = .ok (.aload_n 0, 1) := by decide +kernel
theorem dX6_two_355 : decode cX6_two 355 = .ok (.getfield 20, 3) := by decide +kernel
theorem dX6_two_358 : decode cX6_two 358 = .ok (.iload_n 3, 1) := by decide +kernel
theorem dX6_two_359 : decode cX6_two 359 = .ok (.baload, 1) := by decide +kernel
theorem dX6_two_360 : decode cX6_two 360 = .ok (.ifCond .eq 47, 3) := by decide +kernel
theorem dX6_two_363 : decode cX6_two 363 = .ok (.aload_n 0, 1) := by decide +kernel
theorem dX6_two_364 : decode cX6_two 364 = .ok (.getfield 20, 3) := by decide +kernel
theorem dX6_two_367 : decode cX6_two 367 = .ok (.iload 4, 2) := by decide +kernel
theorem dX6_two_369 : decode cX6_two 369 = .ok (.baload, 1) := by decide +kernel
theorem dX6_two_370 : decode cX6_two 370 = .ok (.ifCond .eq 37, 3) := by decide +kernel
theorem dX6_two_373 : decode cX6_two 373 = .ok (.iload 5, 2) := by decide +kernel
theorem dX6_two_375 : decode cX6_two 375 = .ok (.iconst 2, 1) := by decide +kernel
theorem dX6_two_376 : decode cX6_two 376 = .ok (.if_icmp .ge 27, 3) := by decide +kernel
theorem dX6_two_379 : decode cX6_two 379 = .ok (.iload 9, 2) := by decide +kernel
theorem dX6_two_381 : decode cX6_two 381 = .ok (.ifCond .eq 22, 3) := by decide +kernel
theorem dX6_two_384 : decode cX6_two 384 = .ok (.aload_n 0, 1) := by decide +kernel
theorem dX6_two_385 : decode cX6_two 385 = .ok (.getfield 13, 3) := by decide +kernel
theorem dX6_two_388 : decode cX6_two 388 = .ok (.iload_n 3, 1) := by decide +kernel
theorem dX6_two_389 : decode cX6_two 389 = .ok (.iaload, 1) := by decide +kernel
theorem dX6_two_390 : decode cX6_two 390 = .ok (.ifCond .eq 13, 3) := by decide +kernel
theorem dX6_two_393 : decode cX6_two 393 = .ok (.aload_n 0, 1) := by decide +kernel
theorem dX6_two_394 : decode cX6_two 394 = .ok (.getfield 13, 3) := by decide +kernel
theorem dX6_two_397 : decode cX6_two 397 = .ok (.iload 4, 2) := by decide +kernel
theorem dX6_two_399 : decode cX6_two 399 = .ok (.iaload, 1) := by decide +kernel
theorem dX6_two_400 : decode cX6_two 400 = .ok (.ifCond .ne 7, 3) := by decide +kernel
theorem dX6_two_403 : decode cX6_two 403 = .ok (.iconst 1, 1) := by decide +kernel
theorem dX6_two_404 : decode cX6_two 404 = .ok (.goto 4, 3) := by decide +kernel
theorem dX6_two_407 : decode cX6_two 407 = .ok (.iconst 0, 1) := by decide +kernel
theorem dX6_two_408 : decode cX6_two 408 = .ok (.istore 12, 2) := by decide +kernel
theorem dX6_two_410 : decode cX6_two 410 = .ok (.aload_n 0, 1) := by decide +kernel
theorem dX6_two_411 : decode cX6_two 411 = .ok (.getfield 13, 3) := by decide +kernel
theorem dX6_two_414 : decode cX6_two 414 = .ok (.iload_n 3, 1) := by decide +kernel
theorem dX6_two_415 : decode cX6_two 415 = .ok (.iaload, 1) := by decide +kernel
theorem dX6_two_416 : decode cX6_two 416 = .ok (.aload_n 0, 1) := by decide +kernel
theorem dX6_two_417 : decode cX6_two 417 = .ok (.getfield 13, 3) := by decide +kernel
theorem dX6_two_420 : decode cX6_two 420 = .ok (.iload 4, 2) := by decide +kernel
theorem dX6_two_422 : decode cX6_two 422 = .ok (.iaload, 1) := by decide +kernel
theorem dX6_two_423 : decode cX6_two 423 = .ok (.ior, 1) := by decide +kernel
theorem dX6_two_424 : decode cX6_two 424 = .ok (.istore 13, 2) := by decide +kernel
theorem dX6_two_426 : decode cX6_two 426 = .ok (.aload_n 0, 1) := by decide +kernel
theorem dX6_two_427 : decode cX6_two 427 = .ok (.getfield 7, 3) := by decide +kernel
theorem dX6_two_430 : decode cX6_two 430 = .ok (.iload_n 2, 1) := by decide +kernel
theorem dX6_two_431 : decode cX6_two 431 = .ok (.iload 8, 2) := by decide +kernel
theorem dX6_two_433 : decode cX6_two 433 = .ok (.ifCond .eq 7, 3) := by decide +kernel
theorem dX6_two_436 : decode cX6_two 436 = .ok (.iconst 0, 1) := by decide +kernel
theorem dX6_two_437 : decode cX6_two 437 = .ok (.goto 5, 3) := by decide +kernel
theorem dX6_two_440 : decode cX6_two 440 = .ok (.iload 5, 2) := by decide +kernel
theorem dX6_two_442 : decode cX6_two 442 = .ok (.iastore, 1) := by decide +kernel
theorem dX6_two_443 : decode cX6_two 443 = .ok (.aload_n 0, 1) := by decide +kernel
theorem dX6_two_444 : decode cX6_two 444 = .ok (.iload_n 2, 1) := by decide +kernel
theorem dX6_two_445 : decode cX6_two 445 = .ok (.lload 10, 2) := by decide +kernel
theorem dX6_two_447 : decode cX6_two 447 = .ok (.iload 13, 2) := by decide +kernel
theorem dX6_two_449 : decode cX6_two 449 = .ok (.iload 12, 2) := by decide +kernel
theorem dX6_two_451 : decode cX6_two 451 = .ok (.invokevirtual 148, 3) := by decide +kernel
theorem dX6_two_454 : decode cX6_two 454 = .ok (.iconst 0, 1) := by decide +kernel
theorem dX6_two_455 : decode cX6_two 455 = .ok (.ireturn, 1) := by decide +kernel
theorem dX6_move_0 : decode cX6_move 0 = .ok (.aload_n 0, 1) := by decide +kernel
theorem dX6_move_1 : decode cX6_move 1 = .ok (.iload_n 1, 1) := by decide +kernel
theorem dX6_move_2 : decode cX6_move 2 = .ok (.bipush 8, 2) := by decide +kernel
theorem dX6_move_4 : decode cX6_move 4 = .ok (.invokevirtual 140, 3) := by decide +kernel
theorem dX6_move_7 : decode cX6_move 7 = .ok (.ifCond .ne 13, 3) := by decide +kernel
theorem dX6_move_10 : decode cX6_move 10 = .ok (.aload_n 0, 1) := by decide +kernel
theorem dX6_move_11 : decode cX6_move 11 = .ok (.iload_n 2, 1) := by decide +kernel
theorem dX6_move_12 : decode cX6_move 12 = .ok (.bipush 8, 2) := by decide +kernel
theorem dX6_move_14 : decode cX6_move 14 = .ok (.invokevirtual 140, 3) := by decide +kernel
theorem dX6_move_17 : decode cX6_move 17 = .ok (.ifCond .eq 5, 3) := by decide +kernel
theorem dX6_move_20 : decode cX6_move 20 = .ok (.iconst (-1), 1) := by decide +kernel
theorem dX6_move_21 : decode cX6_move 21 = .ok (.ireturn, 1) := by decide +kernel
theorem dX6_move_22 : decode cX6_move 22 = .ok (.aload_n 0, 1) := by decide +kernel
theorem dX6_move_23 : decode cX6_move 23 = .ok (.getfield 7, 3) := by decide +kernel
theorem dX6_move_26 : decode cX6_move 26 = .ok (.iload_n 1, 1) := by decide +kernel
theorem dX6_move_27 : decode cX6_move 27 = .ok (.aload_n 0, 1) := by decide +kernel
theorem dX6_move_28 : decode cX6_move 28 = .ok (.getfield 7, 3) := by decide +kernel
theorem dX6_move_31 : decode cX6_move 31 = .ok (.iload_n 2, 1) := by decide +kernel
theorem dX6_move_32 : decode cX6_move 32 = .ok (.iaload, 1) := by decide +kernel
theorem dX6_move_33 : decode cX6_move 33 = .ok (.iastore, 1) := by decide +kernel
theorem dX6_move_34 : decode cX6_move 34 = .ok (.aload_n 0, 1) := by decide +kernel
theorem dX6_move_35 : decode cX6_move 35 = .ok (.iload_n 1, 1) := by decide +kernel
theorem dX6_move_36 : decode cX6_move 36 = .ok (.aload_n 0, 1) := by decide +kernel
theorem dX6_move_37 : decode cX6_move 37 = .ok (.getfield 16, 3) := by decide +kernel
theorem dX6_move_40 : decode cX6_move 40 = .ok (.iload_n 2, 1) := by decide +kernel
theorem dX6_move_41 : decode cX6_move 41 = .ok (.laload, 1) := by decide +kernel
theorem dX6_move_42 : decode cX6_move 42 = .ok (.aload_n 0, 1) := by decide +kernel
theorem dX6_move_43 : decode cX6_move 43 = .ok (.getfield 13, 3) := by decide +kernel
theorem dX6_move_46 : decode cX6_move 46 = .ok (.iload_n 2, 1) := by decide +kernel
theorem dX6_move_47 : decode cX6_move 47 = .ok (.iaload, 1) := by decide +kernel
theorem dX6_move_48 : decode cX6_move 48 = .ok (.aload_n 0, 1) := by decide +kernel
theorem dX6_move_49 : decode cX6_move 49 = .ok (.getfield 20, 3) := by decide +kernel
theorem dX6_move_52 : decode cX6_move 52 = .ok (.iload_n 2, 1) := by decide +kernel
theorem dX6_move_53 : decode cX6_move 53 = .ok (.baload, 1) := by decide +kernel
theorem dX6_move_54 : decode cX6_move 54 = .ok (.invokevirtual 148, 3) := by decide +kernel
theorem dX6_move_57 : decode cX6_move 57 = .ok (.iconst 0, 1) := by decide +kernel
theorem dX6_move_58 : decode cX6_move 58 = .ok (.ireturn, 1) := by decide +kernel
theorem dX6_exception_0 : decode cX6_exception 0 = .ok (.aload_n 0, 1) := by decide +kernel
theorem dX6_exception_1 : decode cX6_exception 1 = .ok (.dup, 1) := by decide +kernel
theorem dX6_exception_2 : decode cX6_exception 2 = .ok (.getfield 55, 3) := by decide +kernel
theorem dX6_exception_5 : decode cX6_exception 5 = .ok (.iconst 1, 1) := by decide +kernel
theorem dX6_exception_6 : decode cX6_exception 6 = .ok (.iadd, 1) := by decide +kernel
theorem dX6_exception_7 : decode cX6_exception 7 = .ok (.putfield 55, 3) := by decide +kernel
theorem dX6_exception_10 : decode cX6_exception 10 = .ok (.iload_n 1, 1) := by decide +kernel
theorem dX6_exception_11 : decode cX6_exception 11 = .ok (.ireturn, 1) := by decide +kernel
theorem dX6_array_0 : decode cX6_array 0 = .ok (.aload_n 0, 1) := by decide +kernel
theorem dX6_array_1 : decode cX6_array 1 = .ok (.iload_n 1, 1) := by decide +kernel
theorem dX6_array_2 : decode cX6_array 2 = .ok (.iconst 4, 1) := by decide +kernel
theorem dX6_array_3 : decode cX6_array 3 = .ok (.invokevirtual 140, 3) := by decide +kernel
theorem dX6_array_6 : decode cX6_array 6 = .ok (.ifCond .ne 45, 3) := by decide +kernel
theorem dX6_array_9 : decode cX6_array 9 = .ok (.aload_n 0, 1) := by decide +kernel
theorem dX6_array_10 : decode cX6_array 10 = .ok (.iload_n 2, 1) := by decide +kernel
theorem dX6_array_11 : decode cX6_array 11 = .ok (.bipush 8, 2) := by decide +kernel
theorem dX6_array_13 : decode cX6_array 13 = .ok (.invokevirtual 140, 3) := by decide +kernel
theorem dX6_array_16 : decode cX6_array 16 = .ok (.ifCond .ne 35, 3) := by decide +kernel
theorem dX6_array_19 : decode cX6_array 19 = .ok (.aload_n 0, 1) := by decide +kernel
theorem dX6_array_20 : decode cX6_array 20 = .ok (.iload_n 3, 1) := by decide +kernel
theorem dX6_array_21 : decode cX6_array 21 = .ok (.bipush 8, 2) := by decide +kernel
theorem dX6_array_23 : decode cX6_array 23 = .ok (.invokevirtual 140, 3) := by decide +kernel
theorem dX6_array_26 : decode cX6_array 26 = .ok (.ifCond .ne 25, 3) := by decide +kernel
theorem dX6_array_29 : decode cX6_array 29 = .ok (.aload_n 0, 1) := by decide +kernel
theorem dX6_array_30 : decode cX6_array 30 = .ok (.getfield 7, 3) := by decide +kernel
theorem dX6_array_33 : decode cX6_array 33 = .ok (.iload_n 3, 1) := by decide +kernel
theorem dX6_array_34 : decode cX6_array 34 = .ok (.iaload, 1) := by decide +kernel
theorem dX6_array_35 : decode cX6_array 35 = .ok (.ifCond .ne 16, 3) := by decide +kernel
theorem dX6_array_38 : decode cX6_array 38 = .ok (.aload_n 0, 1) := by decide +kernel
theorem dX6_array_39 : decode cX6_array 39 = .ok (.getfield 16, 3) := by decide +kernel
theorem dX6_array_42 : decode cX6_array 42 = .ok (.iload_n 3, 1) := by decide +kernel
theorem dX6_array_43 : decode cX6_array 43 = .ok (.laload, 1) := by decide +kernel
theorem dX6_array_44 : decode cX6_array 44 = .ok (.ldc2_w 206, 3) := by decide +kernel
theorem dX6_array_47 : decode cX6_array 47 = .ok (.lcmp, 1) := by decide +kernel
theorem dX6_array_48 : decode cX6_array 48 = .ok (.ifCond .le 5, 3) := by decide +kernel
theorem dX6_array_51 : decode cX6_array 51 = .ok (.iconst (-1), 1) := by decide +kernel
theorem dX6_array_52 : decode cX6_array 52 = .ok (.ireturn, 1) := by decide +kernel
theorem dX6_array_53 : decode cX6_array 53 = .ok (.aload_n 0, 1) := by decide +kernel
theorem dX6_array_54 : decode cX6_array 54 = .ok (.getfield 16, 3) := by decide +kernel
theorem dX6_array_57 : decode cX6_array 57 = .ok (.iload_n 3, 1) := by decide +kernel
theorem dX6_array_58 : decode cX6_array 58 = .ok (.laload, 1) := by decide +kernel
theorem dX6_array_59 : decode cX6_array 59 = .ok (.lconst 0, 1) := by decide +kernel
theorem dX6_array_60 : decode cX6_array 60 = .ok (.lcmp, 1) := by decide +kernel
theorem dX6_array_61 : decode cX6_array 61 = .ok (.ifCond .ge 10, 3) := by decide +kernel
theorem dX6_array_64 : decode cX6_array 64 = .ok (.aload_n 0, 1) := by decide +kernel
theorem dX6_array_65 : decode cX6_array 65 = .ok (.bipush (-5), 2) := by decide +kernel
theorem dX6_array_67 : decode cX6_array 67 = .ok (.invokevirtual 208, 3) := by decide +kernel
theorem dX6_array_70 : decode cX6_array 70 = .ok (.ireturn, 1) := by decide +kernel
theorem dX6_array_71 : decode cX6_array 71 = .ok (.aload_n 0, 1) := by decide +kernel
theorem dX6_array_72 : decode cX6_array 72 = .ok (.iload_n 3, 1) := by decide +kernel
theorem dX6_array_73 : decode cX6_array 73 = .ok (.bipush 40, 2) := by decide +kernel
theorem dX6_array_75 : decode cX6_array 75 = .ok (.invokevirtual 191, 3) := by decide +kernel
theorem dX6_array_78 : decode cX6_array 78 = .ok (.aload_n 0, 1) := by decide +kernel
theorem dX6_array_79 : decode cX6_array 79 = .ok (.getfield 24, 3) := by decide +kernel
theorem dX6_array_82 : decode cX6_array 82 = .ok (.iload_n 1, 1) := by decide +kernel
theorem dX6_array_83 : decode cX6_array 83 = .ok (.iconst (-1), 1) := by decide +kernel
theorem dX6_array_84 : decode cX6_array 84 = .ok (.iastore, 1) := by decide +kernel
theorem dX6_array_85 : decode cX6_array 85 = .ok (.iconst 0, 1) := by decide +kernel
theorem dX6_array_86 : decode cX6_array 86 = .ok (.istore 4, 2) := by decide +kernel
theorem dX6_array_88 : decode cX6_array 88 = .ok (.aload_n 0, 1) := by decide +kernel
theorem dX6_array_89 : decode cX6_array 89 = .ok (.getfield 24, 3) := by decide +kernel
theorem dX6_array_92 : decode cX6_array 92 = .ok (.iconst 0, 1) := by decide +kernel
theorem dX6_array_93 : decode cX6_array 93 = .ok (.iaload, 1) := by decide +kernel
theorem dX6_array_94 : decode cX6_array 94 = .ok (.iload 4, 2) := by decide +kernel
theorem dX6_array_96 : decode cX6_array 96 = .ok (.if_icmp .eq 36, 3) := by decide +kernel
theorem dX6_array_99 : decode cX6_array 99 = .ok (.aload_n 0, 1) := by decide +kernel
theorem dX6_array_100 : decode cX6_array 100 = .ok (.getfield 24, 3) := by decide +kernel
theorem dX6_array_103 : decode cX6_array 103 = .ok (.iconst 1, 1) := by decide +kernel
theorem dX6_array_104 : decode cX6_array 104 = .ok (.iaload, 1) := by decide +kernel
theorem dX6_array_105 : decode cX6_array 105 = .ok (.iload 4, 2) := by decide +kernel
theorem dX6_array_107 : decode cX6_array 107 = .ok (.if_icmp .eq 25, 3) := by decide +kernel
theorem dX6_array_110 : decode cX6_array 110 = .ok (.aload_n 0, 1) := by decide +kernel
theorem dX6_array_111 : decode cX6_array 111 = .ok (.getfield 24, 3) := by decide +kernel
theorem dX6_array_114 : decode cX6_array 114 = .ok (.iconst 2, 1) := by decide +kernel
theorem dX6_array_115 : decode cX6_array 115 = .ok (.iaload, 1) := by decide +kernel
theorem dX6_array_116 : decode cX6_array 116 = .ok (.iload 4, 2) := by decide +kernel
theorem dX6_array_118 : decode cX6_array 118 = .ok (.if_icmp .eq 14, 3) := by decide +kernel
theorem dX6_array_121 : decode cX6_array 121 = .ok (.aload_n 0, 1) := by decide +kernel
theorem dX6_array_122 : decode cX6_array 122 = .ok (.getfield 24, 3) := by decide +kernel
theorem dX6_array_125 : decode cX6_array 125 = .ok (.iconst 3, 1) := by decide +kernel
theorem dX6_array_126 : decode cX6_array 126 = .ok (.iaload, 1) := by decide +kernel
theorem dX6_array_127 : decode cX6_array 127 = .ok (.iload 4, 2) := by decide +kernel
theorem dX6_array_129 : decode cX6_array 129 = .ok (.if_icmp .ne 9, 3) := by decide +kernel
theorem dX6_array_132 : decode cX6_array 132 = .ok (.iinc 4 1, 3) := by decide +kernel
theorem dX6_array_135 : decode cX6_array 135 = .ok (.goto (-47), 3) := by decide +kernel
theorem dX6_array_138 : decode cX6_array 138 = .ok (.aload_n 0, 1) := by decide +kernel
theorem dX6_array_139 : decode cX6_array 139 = .ok (.getfield 24, 3) := by decide +kernel
theorem dX6_array_142 : decode cX6_array 142 = .ok (.iload_n 1, 1) := by decide +kernel
theorem dX6_array_143 : decode cX6_array 143 = .ok (.iload 4, 2) := by decide +kernel
theorem dX6_array_145 : decode cX6_array 145 = .ok (.iastore, 1) := by decide +kernel
theorem dX6_array_146 : decode cX6_array 146 = .ok (.aload_n 0, 1) := by decide +kernel
theorem dX6_array_147 : decode cX6_array 147 = .ok (.getfield 27, 3) := by decide +kernel
theorem dX6_array_150 : decode cX6_array 150 = .ok (.iload 4, 2) := by decide +kernel
end
section
theorem dX6_array_152 : decode cX6_array 152 = .ok (.iload_n 2, 1) := by decide +kernel
theorem dX6_array_153 : decode cX6_array 153 = .ok (.iastore, 1) := by decide +kernel
theorem dX6_array_154 : decode cX6_array 154 = .ok (.aload_n 0, 1) := by decide +kernel
theorem dX6_array_155 : decode cX6_array 155 = .ok (.getfield 30, 3) := by decide +kernel
theorem dX6_array_158 : decode cX6_array 158 = .ok (.iload 4, 2) := by decide +kernel
theorem dX6_array_160 : decode cX6_array 160 = .ok (.aload_n 0, 1) := by decide +kernel
theorem dX6_array_161 : decode cX6_array 161 = .ok (.getfield 16, 3) := by decide +kernel
theorem dX6_array_164 : decode cX6_array 164 = .ok (.iload_n 3, 1) := by decide +kernel
theorem dX6_array_165 : decode cX6_array 165 = .ok (.laload, 1) := by decide +kernel
theorem dX6_array_166 : decode cX6_array 166 = .ok (.l2i, 1) := by decide +kernel
theorem dX6_array_167 : decode cX6_array 167 = .ok (.iastore, 1) := by decide +kernel
theorem dX6_array_168 : decode cX6_array 168 = .ok (.iconst 0, 1) := by decide +kernel
theorem dX6_array_169 : decode cX6_array 169 = .ok (.istore 5, 2) := by decide +kernel
theorem dX6_array_171 : decode cX6_array 171 = .ok (.iload 5, 2) := by decide +kernel
theorem dX6_array_173 : decode cX6_array 173 = .ok (.bipush 12, 2) := by decide +kernel
theorem dX6_array_175 : decode cX6_array 175 = .ok (.if_icmp .ge 27, 3) := by decide +kernel
theorem dX6_array_178 : decode cX6_array 178 = .ok (.aload_n 0, 1) := by decide +kernel
theorem dX6_array_179 : decode cX6_array 179 = .ok (.bipush 8, 2) := by decide +kernel
theorem dX6_array_181 : decode cX6_array 181 = .ok (.iload 4, 2) := by decide +kernel
theorem dX6_array_183 : decode cX6_array 183 = .ok (.bipush 12, 2) := by decide +kernel
theorem dX6_array_185 : decode cX6_array 185 = .ok (.imul, 1) := by decide +kernel
theorem dX6_array_186 : decode cX6_array 186 = .ok (.iadd, 1) := by decide +kernel
theorem dX6_array_187 : decode cX6_array 187 = .ok (.iload 5, 2) := by decide +kernel
theorem dX6_array_189 : decode cX6_array 189 = .ok (.iadd, 1) := by decide +kernel
theorem dX6_array_190 : decode cX6_array 190 = .ok (.lconst 0, 1) := by decide +kernel
theorem dX6_array_191 : decode cX6_array 191 = .ok (.iconst 0, 1) := by decide +kernel
theorem dX6_array_192 : decode cX6_array 192 = .ok (.iconst 1, 1) := by decide +kernel
theorem dX6_array_193 : decode cX6_array 193 = .ok (.invokevirtual 148, 3) := by decide +kernel
theorem dX6_array_196 : decode cX6_array 196 = .ok (.iinc 5 1, 3) := by decide +kernel
theorem dX6_array_199 : decode cX6_array 199 = .ok (.goto (-28), 3) := by decide +kernel
theorem dX6_array_202 : decode cX6_array 202 = .ok (.iconst 0, 1) := by decide +kernel
theorem dX6_array_203 : decode cX6_array 203 = .ok (.ireturn, 1) := by decide +kernel
theorem dX6_drop_0 : decode cX6_drop 0 = .ok (.aload_n 0, 1) := by decide +kernel
theorem dX6_drop_1 : decode cX6_drop 1 = .ok (.iload_n 1, 1) := by decide +kernel
theorem dX6_drop_2 : decode cX6_drop 2 = .ok (.iconst 4, 1) := by decide +kernel
theorem dX6_drop_3 : decode cX6_drop 3 = .ok (.invokevirtual 140, 3) := by decide +kernel
theorem dX6_drop_6 : decode cX6_drop 6 = .ok (.ifCond .eq 5, 3) := by decide +kernel
theorem dX6_drop_9 : decode cX6_drop 9 = .ok (.iconst (-1), 1) := by decide +kernel
theorem dX6_drop_10 : decode cX6_drop 10 = .ok (.ireturn, 1) := by decide +kernel
theorem dX6_drop_11 : decode cX6_drop 11 = .ok (.aload_n 0, 1) := by decide +kernel
theorem dX6_drop_12 : decode cX6_drop 12 = .ok (.getfield 24, 3) := by decide +kernel
theorem dX6_drop_15 : decode cX6_drop 15 = .ok (.iload_n 1, 1) := by decide +kernel
theorem dX6_drop_16 : decode cX6_drop 16 = .ok (.iconst (-1), 1) := by decide +kernel
theorem dX6_drop_17 : decode cX6_drop 17 = .ok (.iastore, 1) := by decide +kernel
theorem dX6_drop_18 : decode cX6_drop 18 = .ok (.iconst 0, 1) := by decide +kernel
theorem dX6_drop_19 : decode cX6_drop 19 = .ok (.ireturn, 1) := by decide +kernel
theorem dX6_share_0 : decode cX6_share 0 = .ok (.aload_n 0, 1) := by decide +kernel
theorem dX6_share_1 : decode cX6_share 1 = .ok (.iload_n 1, 1) := by decide +kernel
theorem dX6_share_2 : decode cX6_share 2 = .ok (.iconst 4, 1) := by decide +kernel
theorem dX6_share_3 : decode cX6_share 3 = .ok (.invokevirtual 140, 3) := by decide +kernel
theorem dX6_share_6 : decode cX6_share 6 = .ok (.ifCond .ne 12, 3) := by decide +kernel
theorem dX6_share_9 : decode cX6_share 9 = .ok (.aload_n 0, 1) := by decide +kernel
theorem dX6_share_10 : decode cX6_share 10 = .ok (.iload_n 2, 1) := by decide +kernel
theorem dX6_share_11 : decode cX6_share 11 = .ok (.iconst 4, 1) := by decide +kernel
theorem dX6_share_12 : decode cX6_share 12 = .ok (.invokevirtual 140, 3) := by decide +kernel
theorem dX6_share_15 : decode cX6_share 15 = .ok (.ifCond .eq 5, 3) := by decide +kernel
theorem dX6_share_18 : decode cX6_share 18 = .ok (.iconst (-1), 1) := by decide +kernel
theorem dX6_share_19 : decode cX6_share 19 = .ok (.ireturn, 1) := by decide +kernel
theorem dX6_share_20 : decode cX6_share 20 = .ok (.aload_n 0, 1) := by decide +kernel
theorem dX6_share_21 : decode cX6_share 21 = .ok (.getfield 24, 3) := by decide +kernel
theorem dX6_share_24 : decode cX6_share 24 = .ok (.iload_n 1, 1) := by decide +kernel
theorem dX6_share_25 : decode cX6_share 25 = .ok (.aload_n 0, 1) := by decide +kernel
theorem dX6_share_26 : decode cX6_share 26 = .ok (.getfield 24, 3) := by decide +kernel
theorem dX6_share_29 : decode cX6_share 29 = .ok (.iload_n 2, 1) := by decide +kernel
theorem dX6_share_30 : decode cX6_share 30 = .ok (.iaload, 1) := by decide +kernel
theorem dX6_share_31 : decode cX6_share 31 = .ok (.iastore, 1) := by decide +kernel
theorem dX6_share_32 : decode cX6_share 32 = .ok (.iconst 0, 1) := by decide +kernel
theorem dX6_share_33 : decode cX6_share 33 = .ok (.ireturn, 1) := by decide +kernel
theorem dX6_kindOf_0 : decode cX6_kindOf 0 = .ok (.iload_n 1, 1) := by decide +kernel
theorem dX6_kindOf_1 : decode cX6_kindOf 1 = .ok (.iconst 5, 1) := by decide +kernel
theorem dX6_kindOf_2 : decode cX6_kindOf 2 = .ok (.if_icmp .ge 7, 3) := by decide +kernel
theorem dX6_kindOf_5 : decode cX6_kindOf 5 = .ok (.iconst 0, 1) := by decide +kernel
theorem dX6_kindOf_6 : decode cX6_kindOf 6 = .ok (.goto 6, 3) := by decide +kernel
theorem dX6_kindOf_9 : decode cX6_kindOf 9 = .ok (.iload_n 1, 1) := by decide +kernel
theorem dX6_kindOf_10 : decode cX6_kindOf 10 = .ok (.iconst 4, 1) := by decide +kernel
theorem dX6_kindOf_11 : decode cX6_kindOf 11 = .ok (.isub, 1) := by decide +kernel
theorem dX6_kindOf_12 : decode cX6_kindOf 12 = .ok (.ireturn, 1) := by decide +kernel
theorem dX6_load_0 : decode cX6_load 0 = .ok (.aload_n 0, 1) := by decide +kernel
theorem dX6_load_1 : decode cX6_load 1 = .ok (.iload_n 1, 1) := by decide +kernel
theorem dX6_load_2 : decode cX6_load 2 = .ok (.bipush 8, 2) := by decide +kernel
theorem dX6_load_4 : decode cX6_load 4 = .ok (.invokevirtual 140, 3) := by decide +kernel
theorem dX6_load_7 : decode cX6_load 7 = .ok (.ifCond .ne 31, 3) := by decide +kernel
theorem dX6_load_10 : decode cX6_load 10 = .ok (.aload_n 0, 1) := by decide +kernel
theorem dX6_load_11 : decode cX6_load 11 = .ok (.iload_n 2, 1) := by decide +kernel
theorem dX6_load_12 : decode cX6_load 12 = .ok (.iconst 4, 1) := by decide +kernel
theorem dX6_load_13 : decode cX6_load 13 = .ok (.invokevirtual 140, 3) := by decide +kernel
theorem dX6_load_16 : decode cX6_load 16 = .ok (.ifCond .ne 22, 3) := by decide +kernel
theorem dX6_load_19 : decode cX6_load 19 = .ok (.aload_n 0, 1) := by decide +kernel
theorem dX6_load_20 : decode cX6_load 20 = .ok (.iload_n 3, 1) := by decide +kernel
theorem dX6_load_21 : decode cX6_load 21 = .ok (.bipush 8, 2) := by decide +kernel
theorem dX6_load_23 : decode cX6_load 23 = .ok (.invokevirtual 140, 3) := by decide +kernel
theorem dX6_load_26 : decode cX6_load 26 = .ok (.ifCond .ne 12, 3) := by decide +kernel
theorem dX6_load_29 : decode cX6_load 29 = .ok (.aload_n 0, 1) := by decide +kernel
theorem dX6_load_30 : decode cX6_load 30 = .ok (.getfield 7, 3) := by decide +kernel
theorem dX6_load_33 : decode cX6_load 33 = .ok (.iload_n 3, 1) := by decide +kernel
theorem dX6_load_34 : decode cX6_load 34 = .ok (.iaload, 1) := by decide +kernel
theorem dX6_load_35 : decode cX6_load 35 = .ok (.ifCond .eq 5, 3) := by decide +kernel
theorem dX6_load_38 : decode cX6_load 38 = .ok (.iconst (-1), 1) := by decide +kernel
theorem dX6_load_39 : decode cX6_load 39 = .ok (.ireturn, 1) := by decide +kernel
theorem dX6_load_40 : decode cX6_load 40 = .ok (.aload_n 0, 1) := by decide +kernel
theorem dX6_load_41 : decode cX6_load 41 = .ok (.getfield 24, 3) := by decide +kernel
theorem dX6_load_44 : decode cX6_load 44 = .ok (.iload_n 2, 1) := by decide +kernel
theorem dX6_load_45 : decode cX6_load 45 = .ok (.iaload, 1) := by decide +kernel
theorem dX6_load_46 : decode cX6_load 46 = .ok (.istore 4, 2) := by decide +kernel
theorem dX6_load_48 : decode cX6_load 48 = .ok (.iload 4, 2) := by decide +kernel
theorem dX6_load_50 : decode cX6_load 50 = .ok (.ifCond .ge 10, 3) := by decide +kernel
theorem dX6_load_53 : decode cX6_load 53 = .ok (.aload_n 0, 1) := by decide +kernel
theorem dX6_load_54 : decode cX6_load 54 = .ok (.bipush (-3), 2) := by decide +kernel
theorem dX6_load_56 : decode cX6_load 56 = .ok (.invokevirtual 208, 3) := by decide +kernel
theorem dX6_load_59 : decode cX6_load 59 = .ok (.ireturn, 1) := by decide +kernel
theorem dX6_load_60 : decode cX6_load 60 = .ok (.aload_n 0, 1) := by decide +kernel
theorem dX6_load_61 : decode cX6_load 61 = .ok (.getfield 16, 3) := by decide +kernel
theorem dX6_load_64 : decode cX6_load 64 = .ok (.iload_n 3, 1) := by decide +kernel
theorem dX6_load_65 : decode cX6_load 65 = .ok (.laload, 1) := by decide +kernel
theorem dX6_load_66 : decode cX6_load 66 = .ok (.lconst 0, 1) := by decide +kernel
theorem dX6_load_67 : decode cX6_load 67 = .ok (.lcmp, 1) := by decide +kernel
theorem dX6_load_68 : decode cX6_load 68 = .ok (.ifCond .lt 21, 3) := by decide +kernel
theorem dX6_load_71 : decode cX6_load 71 = .ok (.aload_n 0, 1) := by decide +kernel
theorem dX6_load_72 : decode cX6_load 72 = .ok (.getfield 16, 3) := by decide +kernel
theorem dX6_load_75 : decode cX6_load 75 = .ok (.iload_n 3, 1) := by decide +kernel
theorem dX6_load_76 : decode cX6_load 76 = .ok (.laload, 1) := by decide +kernel
theorem dX6_load_77 : decode cX6_load 77 = .ok (.aload_n 0, 1) := by decide +kernel
theorem dX6_load_78 : decode cX6_load 78 = .ok (.getfield 30, 3) := by decide +kernel
theorem dX6_load_81 : decode cX6_load 81 = .ok (.iload 4, 2) := by decide +kernel
theorem dX6_load_83 : decode cX6_load 83 = .ok (.iaload, 1) := by decide +kernel
theorem dX6_load_84 : decode cX6_load 84 = .ok (.i2l, 1) := by decide +kernel
theorem dX6_load_85 : decode cX6_load 85 = .ok (.lcmp, 1) := by decide +kernel
theorem dX6_load_86 : decode cX6_load 86 = .ok (.ifCond .lt 10, 3) := by decide +kernel
theorem dX6_load_89 : decode cX6_load 89 = .ok (.aload_n 0, 1) := by decide +kernel
theorem dX6_load_90 : decode cX6_load 90 = .ok (.bipush (-4), 2) := by decide +kernel
theorem dX6_load_92 : decode cX6_load 92 = .ok (.invokevirtual 208, 3) := by decide +kernel
theorem dX6_load_95 : decode cX6_load 95 = .ok (.ireturn, 1) := by decide +kernel
theorem dX6_load_96 : decode cX6_load 96 = .ok (.bipush 8, 2) := by decide +kernel
theorem dX6_load_98 : decode cX6_load 98 = .ok (.iload 4, 2) := by decide +kernel
theorem dX6_load_100 : decode cX6_load 100 = .ok (.bipush 12, 2) := by decide +kernel
theorem dX6_load_102 : decode cX6_load 102 = .ok (.imul, 1) := by decide +kernel
theorem dX6_load_103 : decode cX6_load 103 = .ok (.iadd, 1) := by decide +kernel
theorem dX6_load_104 : decode cX6_load 104 = .ok (.aload_n 0, 1) := by decide +kernel
theorem dX6_load_105 : decode cX6_load 105 = .ok (.getfield 16, 3) := by decide +kernel
theorem dX6_load_108 : decode cX6_load 108 = .ok (.iload_n 3, 1) := by decide +kernel
theorem dX6_load_109 : decode cX6_load 109 = .ok (.laload, 1) := by decide +kernel
theorem dX6_load_110 : decode cX6_load 110 = .ok (.l2i, 1) := by decide +kernel
theorem dX6_load_111 : decode cX6_load 111 = .ok (.iadd, 1) := by decide +kernel
theorem dX6_load_112 : decode cX6_load 112 = .ok (.istore 5, 2) := by decide +kernel
theorem dX6_load_114 : decode cX6_load 114 = .ok (.aload_n 0, 1) := by decide +kernel
theorem dX6_load_115 : decode cX6_load 115 = .ok (.iload_n 3, 1) := by decide +kernel
theorem dX6_load_116 : decode cX6_load 116 = .ok (.bipush 41, 2) := by decide +kernel
theorem dX6_load_118 : decode cX6_load 118 = .ok (.invokevirtual 191, 3) := by decide +kernel
theorem dX6_load_121 : decode cX6_load 121 = .ok (.aload_n 0, 1) := by decide +kernel
theorem dX6_load_122 : decode cX6_load 122 = .ok (.getfield 7, 3) := by decide +kernel
theorem dX6_load_125 : decode cX6_load 125 = .ok (.iload_n 1, 1) := by decide +kernel
theorem dX6_load_126 : decode cX6_load 126 = .ok (.aload_n 0, 1) := by decide +kernel
theorem dX6_load_127 : decode cX6_load 127 = .ok (.aload_n 0, 1) := by decide +kernel
theorem dX6_load_128 : decode cX6_load 128 = .ok (.getfield 27, 3) := by decide +kernel
theorem dX6_load_131 : decode cX6_load 131 = .ok (.iload 4, 2) := by decide +kernel
theorem dX6_load_133 : decode cX6_load 133 = .ok (.iaload, 1) := by decide +kernel
theorem dX6_load_134 : decode cX6_load 134 = .ok (.invokevirtual 211, 3) := by decide +kernel
theorem dX6_load_137 : decode cX6_load 137 = .ok (.iastore, 1) := by decide +kernel
theorem dX6_load_138 : decode cX6_load 138 = .ok (.aload_n 0, 1) := by decide +kernel
theorem dX6_load_139 : decode cX6_load 139 = .ok (.iload_n 1, 1) := by decide +kernel
theorem dX6_load_140 : decode cX6_load 140 = .ok (.aload_n 0, 1) := by decide +kernel
theorem dX6_load_141 : decode cX6_load 141 = .ok (.getfield 16, 3) := by decide +kernel
theorem dX6_load_144 : decode cX6_load 144 = .ok (.iload 5, 2) := by decide +kernel
theorem dX6_load_146 : decode cX6_load 146 = .ok (.laload, 1) := by decide +kernel
theorem dX6_load_147 : decode cX6_load 147 = .ok (.aload_n 0, 1) := by decide +kernel
theorem dX6_load_148 : decode cX6_load 148 = .ok (.getfield 13, 3) := by decide +kernel
theorem dX6_load_151 : decode cX6_load 151 = .ok (.iload 5, 2) := by decide +kernel
theorem dX6_load_153 : decode cX6_load 153 = .ok (.iaload, 1) := by decide +kernel
theorem dX6_load_154 : decode cX6_load 154 = .ok (.aload_n 0, 1) := by decide +kernel
theorem dX6_load_155 : decode cX6_load 155 = .ok (.getfield 20, 3) := by decide +kernel
theorem dX6_load_158 : decode cX6_load 158 = .ok (.iload 5, 2) := by decide +kernel
theorem dX6_load_160 : decode cX6_load 160 = .ok (.baload, 1) := by decide +kernel
theorem dX6_load_161 : decode cX6_load 161 = .ok (.invokevirtual 148, 3) := by decide +kernel
theorem dX6_load_164 : decode cX6_load 164 = .ok (.iconst 0, 1) := by decide +kernel
theorem dX6_load_165 : decode cX6_load 165 = .ok (.ireturn, 1) := by decide +kernel
theorem dX6_stored_0 : decode cX6_stored 0 = .ok (.iload_n 1, 1) := by decide +kernel
theorem dX6_stored_1 : decode cX6_stored 1 = .ok (.ifCond .ne 9, 3) := by decide +kernel
theorem dX6_stored_4 : decode cX6_stored 4 = .ok (.lload_n 2, 1) := by decide +kernel
theorem dX6_stored_5 : decode cX6_stored 5 = .ok (.lconst 1, 1) := by decide +kernel
theorem dX6_stored_6 : decode cX6_stored 6 = .ok (.land, 1) := by decide +kernel
theorem dX6_stored_7 : decode cX6_stored 7 = .ok (.goto 40, 3) := by decide +kernel
theorem dX6_stored_10 : decode cX6_stored 10 = .ok (.iload_n 1, 1) := by decide +kernel
theorem dX6_stored_11 : decode cX6_stored 11 = .ok (.iconst 1, 1) := by decide +kernel
theorem dX6_stored_12 : decode cX6_stored 12 = .ok (.if_icmp .ne 10, 3) := by decide +kernel
theorem dX6_stored_15 : decode cX6_stored 15 = .ok (.lload_n 2, 1) := by decide +kernel
theorem dX6_stored_16 : decode cX6_stored 16 = .ok (.l2i, 1) := by decide +kernel
theorem dX6_stored_17 : decode cX6_stored 17 = .ok (.i2b, 1) := by decide +kernel
theorem dX6_stored_18 : decode cX6_stored 18 = .ok (.i2l, 1) := by decide +kernel
theorem dX6_stored_19 : decode cX6_stored 19 = .ok (.goto 28, 3) := by decide +kernel
theorem dX6_stored_22 : decode cX6_stored 22 = .ok (.iload_n 1, 1) := by decide +kernel
theorem dX6_stored_23 : decode cX6_stored 23 = .ok (.iconst 2, 1) := by decide +kernel
theorem dX6_stored_24 : decode cX6_stored 24 = .ok (.if_icmp .ne 10, 3) := by decide +kernel
theorem dX6_stored_27 : decode cX6_stored 27 = .ok (.lload_n 2, 1) := by decide +kernel
theorem dX6_stored_28 : decode cX6_stored 28 = .ok (.l2i, 1) := by decide +kernel
theorem dX6_stored_29 : decode cX6_stored 29 = .ok (.i2c, 1) := by decide +kernel
theorem dX6_stored_30 : decode cX6_stored 30 = .ok (.i2l, 1) := by decide +kernel
theorem dX6_stored_31 : decode cX6_stored 31 = .ok (.goto 16, 3) := by decide +kernel
theorem dX6_stored_34 : decode cX6_stored 34 = .ok (.iload_n 1, 1) := by decide +kernel
theorem dX6_stored_35 : decode cX6_stored 35 = .ok (.iconst 3, 1) := by decide +kernel
theorem dX6_stored_36 : decode cX6_stored 36 = .ok (.if_icmp .ne 10, 3) := by decide +kernel
theorem dX6_stored_39 : decode cX6_stored 39 = .ok (.lload_n 2, 1) := by decide +kernel
theorem dX6_stored_40 : decode cX6_stored 40 = .ok (.l2i, 1) := by decide +kernel
theorem dX6_stored_41 : decode cX6_stored 41 = .ok (.i2s, 1) := by decide +kernel
theorem dX6_stored_42 : decode cX6_stored 42 = .ok (.i2l, 1) := by decide +kernel
theorem dX6_stored_43 : decode cX6_stored 43 = .ok (.goto 4, 3) := by decide +kernel
theorem dX6_stored_46 : decode cX6_stored 46 = .ok (.lload_n 2, 1) := by decide +kernel
theorem dX6_stored_47 : decode cX6_stored 47 = .ok (.lreturn, 1) := by decide +kernel
theorem dX6_store_0 : decode cX6_store 0 = .ok (.aload_n 0, 1) := by decide +kernel
theorem dX6_store_1 : decode cX6_store 1 = .ok (.iload_n 1, 1) := by decide +kernel
theorem dX6_store_2 : decode cX6_store 2 = .ok (.iconst 4, 1) := by decide +kernel
theorem dX6_store_3 : decode cX6_store 3 = .ok (.invokevirtual 140, 3) := by decide +kernel
theorem dX6_store_6 : decode cX6_store 6 = .ok (.ifCond .ne 32, 3) := by decide +kernel
theorem dX6_store_9 : decode cX6_store 9 = .ok (.aload_n 0, 1) := by decide +kernel
theorem dX6_store_10 : decode cX6_store 10 = .ok (.iload_n 2, 1) := by decide +kernel
theorem dX6_store_11 : decode cX6_store 11 = .ok (.bipush 8, 2) := by decide +kernel
theorem dX6_store_13 : decode cX6_store 13 = .ok (.invokevirtual 140, 3) := by decide +kernel
theorem dX6_store_16 : decode cX6_store 16 = .ok (.ifCond .ne 22, 3) := by decide +kernel
theorem dX6_store_19 : decode cX6_store 19 = .ok (.aload_n 0, 1) := by decide +kernel
theorem dX6_store_20 : decode cX6_store 20 = .ok (.iload_n 3, 1) := by decide +kernel
theorem dX6_store_21 : decode cX6_store 21 = .ok (.bipush 8, 2) := by decide +kernel
theorem dX6_store_23 : decode cX6_store 23 = .ok (.invokevirtual 140, 3) := by decide +kernel
theorem dX6_store_26 : decode cX6_store 26 = .ok (.ifCond .ne 12, 3) := by decide +kernel
theorem dX6_store_29 : decode cX6_store 29 = .ok (.aload_n 0, 1) := by decide +kernel
theorem dX6_store_30 : decode cX6_store 30 = .ok (.getfield 7, 3) := by decide +kernel
theorem dX6_store_33 : decode cX6_store 33 = .ok (.iload_n 2, 1) := by decide +kernel
theorem dX6_store_34 : decode cX6_store 34 = .ok (.iaload, 1) := by decide +kernel
theorem dX6_store_35 : decode cX6_store 35 = .ok (.ifCond .eq 5, 3) := by decide +kernel
theorem dX6_store_38 : decode cX6_store 38 = .ok (.iconst (-1), 1) := by decide +kernel
theorem dX6_store_39 : decode cX6_store 39 = .ok (.ireturn, 1) := by decide +kernel
theorem dX6_store_40 : decode cX6_store 40 = .ok (.aload_n 0, 1) := by decide +kernel
theorem dX6_store_41 : decode cX6_store 41 = .ok (.getfield 24, 3) := by decide +kernel
theorem dX6_store_44 : decode cX6_store 44 = .ok (.iload_n 1, 1) := by decide +kernel
theorem dX6_store_45 : decode cX6_store 45 = .ok (.iaload, 1) := by decide +kernel
theorem dX6_store_46 : decode cX6_store 46 = .ok (.istore 4, 2) := by decide +kernel
theorem dX6_store_48 : decode cX6_store 48 = .ok (.iload 4, 2) := by decide +kernel
theorem dX6_store_50 : decode cX6_store 50 = .ok (.ifCond .ge 10, 3) := by decide +kernel
theorem dX6_store_53 : decode cX6_store 53 = .ok (.aload_n 0, 1) := by decide +kernel
theorem dX6_store_54 : decode cX6_store 54 = .ok (.bipush (-3), 2) := by decide +kernel
theorem dX6_store_56 : decode cX6_store 56 = .ok (.invokevirtual 208, 3) := by decide +kernel
theorem dX6_store_59 : decode cX6_store 59 = .ok (.ireturn, 1) := by decide +kernel
theorem dX6_store_60 : decode cX6_store 60 = .ok (.aload_n 0, 1) := by decide +kernel
theorem dX6_store_61 : decode cX6_store 61 = .ok (.getfield 7, 3) := by decide +kernel
theorem dX6_store_64 : decode cX6_store 64 = .ok (.iload_n 3, 1) := by decide +kernel
theorem dX6_store_65 : decode cX6_store 65 = .ok (.iaload, 1) := by decide +kernel
theorem dX6_store_66 : decode cX6_store 66 = .ok (.aload_n 0, 1) := by decide +kernel
theorem dX6_store_67 : decode cX6_store 67 = .ok (.aload_n 0, 1) := by decide +kernel
theorem dX6_store_68 : decode cX6_store 68 = .ok (.getfield 27, 3) := by decide +kernel
theorem dX6_store_71 : decode cX6_store 71 = .ok (.iload 4, 2) := by decide +kernel
theorem dX6_store_73 : decode cX6_store 73 = .ok (.iaload, 1) := by decide +kernel
theorem dX6_store_74 : decode cX6_store 74 = .ok (.invokevirtual 211, 3) := by decide +kernel
theorem dX6_store_77 : decode cX6_store 77 = .ok (.if_icmp .eq 10, 3) := by decide +kernel
theorem dX6_store_80 : decode cX6_store 80 = .ok (.aload_n 0, 1) := by decide +kernel
theorem dX6_store_81 : decode cX6_store 81 = .ok (.bipush (-6), 2) := by decide +kernel
theorem dX6_store_83 : decode cX6_store 83 = .ok (.invokevirtual 208, 3) := by decide +kernel
theorem dX6_store_86 : decode cX6_store 86 = .ok (.ireturn, 1) := by decide +kernel
theorem dX6_store_87 : decode cX6_store 87 = .ok (.aload_n 0, 1) := by decide +kernel
theorem dX6_store_88 : decode cX6_store 88 = .ok (.getfield 16, 3) := by decide +kernel
theorem dX6_store_91 : decode cX6_store 91 = .ok (.iload_n 2, 1) := by decide +kernel
theorem dX6_store_92 : decode cX6_store 92 = .ok (.laload, 1) := by decide +kernel
theorem dX6_store_93 : decode cX6_store 93 = .ok (.lconst 0, 1) := by decide +kernel
theorem dX6_store_94 : decode cX6_store 94 = .ok (.lcmp, 1) := by decide +kernel
theorem dX6_store_95 : decode cX6_store 95 = .ok (.ifCond .lt 21, 3) := by decide +kernel
theorem dX6_store_98 : decode cX6_store 98 = .ok (.aload_n 0, 1) := by decide +kernel
theorem dX6_store_99 : decode cX6_store 99 = .ok (.getfield 16, 3) := by decide +kernel
theorem dX6_store_102 : decode cX6_store 102 = .ok (.iload_n 2, 1) := by decide +kernel
theorem dX6_store_103 : decode cX6_store 103 = .ok (.laload, 1) := by decide +kernel
theorem dX6_store_104 : decode cX6_store 104 = .ok (.aload_n 0, 1) := by decide +kernel
theorem dX6_store_105 : decode cX6_store 105 = .ok (.getfield 30, 3) := by decide +kernel
theorem dX6_store_108 : decode cX6_store 108 = .ok (.iload 4, 2) := by decide +kernel
theorem dX6_store_110 : decode cX6_store 110 = .ok (.iaload, 1) := by decide +kernel
theorem dX6_store_111 : decode cX6_store 111 = .ok (.i2l, 1) := by decide +kernel
theorem dX6_store_112 : decode cX6_store 112 = .ok (.lcmp, 1) := by decide +kernel
theorem dX6_store_113 : decode cX6_store 113 = .ok (.ifCond .lt 10, 3) := by decide +kernel
theorem dX6_store_116 : decode cX6_store 116 = .ok (.aload_n 0, 1) := by decide +kernel
theorem dX6_store_117 : decode cX6_store 117 = .ok (.bipush (-4), 2) := by decide +kernel
theorem dX6_store_119 : decode cX6_store 119 = .ok (.invokevirtual 208, 3) := by decide +kernel
theorem dX6_store_122 : decode cX6_store 122 = .ok (.ireturn, 1) := by decide +kernel
theorem dX6_store_123 : decode cX6_store 123 = .ok (.aload_n 0, 1) := by decide +kernel
theorem dX6_store_124 : decode cX6_store 124 = .ok (.bipush 8, 2) := by decide +kernel
theorem dX6_store_126 : decode cX6_store 126 = .ok (.iload 4, 2) := by decide +kernel
theorem dX6_store_128 : decode cX6_store 128 = .ok (.bipush 12, 2) := by decide +kernel
theorem dX6_store_130 : decode cX6_store 130 = .ok (.imul, 1) := by decide +kernel
theorem dX6_store_131 : decode cX6_store 131 = .ok (.iadd, 1) := by decide +kernel
theorem dX6_store_132 : decode cX6_store 132 = .ok (.aload_n 0, 1) := by decide +kernel
theorem dX6_store_133 : decode cX6_store 133 = .ok (.getfield 16, 3) := by decide +kernel
theorem dX6_store_136 : decode cX6_store 136 = .ok (.iload_n 2, 1) := by decide +kernel
theorem dX6_store_137 : decode cX6_store 137 = .ok (.laload, 1) := by decide +kernel
theorem dX6_store_138 : decode cX6_store 138 = .ok (.l2i, 1) := by decide +kernel
theorem dX6_store_139 : decode cX6_store 139 = .ok (.iadd, 1) := by decide +kernel
theorem dX6_store_140 : decode cX6_store 140 = .ok (.aload_n 0, 1) := by decide +kernel
theorem dX6_store_141 : decode cX6_store 141 = .ok (.aload_n 0, 1) := by decide +kernel
theorem dX6_store_142 : decode cX6_store 142 = .ok (.getfield 27, 3) := by decide +kernel
theorem dX6_store_145 : decode cX6_store 145 = .ok (.iload 4, 2) := by decide +kernel
theorem dX6_store_147 : decode cX6_store 147 = .ok (.iaload, 1) := by decide +kernel
theorem dX6_store_148 : decode cX6_store 148 = .ok (.aload_n 0, 1) := by decide +kernel
theorem dX6_store_149 : decode cX6_store 149 = .ok (.getfield 16, 3) := by decide +kernel
theorem dX6_store_152 : decode cX6_store 152 = .ok (.iload_n 3, 1) := by decide +kernel
theorem dX6_store_153 : decode cX6_store 153 = .ok (.laload, 1) := by decide +kernel
theorem dX6_store_154 : decode cX6_store 154 = .ok (.invokevirtual 214, 3) := by decide +kernel
theorem dX6_store_157 : decode cX6_store 157 = .ok (.aload_n 0, 1) := by decide +kernel
theorem dX6_store_158 : decode cX6_store 158 = .ok (.getfield 13, 3) := by decide +kernel
theorem dX6_store_161 : decode cX6_store 161 = .ok (.iload_n 3, 1) := by decide +kernel
theorem dX6_store_162 : decode cX6_store 162 = .ok (.iaload, 1) := by decide +kernel
theorem dX6_store_163 : decode cX6_store 163 = .ok (.aload_n 0, 1) := by decide +kernel
theorem dX6_store_164 : decode cX6_store 164 = .ok (.getfield 20, 3) := by decide +kernel
theorem dX6_store_167 : decode cX6_store 167 = .ok (.iload_n 3, 1) := by decide +kernel
theorem dX6_store_168 : decode cX6_store 168 = .ok (.baload, 1) := by decide +kernel
theorem dX6_store_169 : decode cX6_store 169 = .ok (.ifCond .eq 18, 3) := by decide +kernel
theorem dX6_store_172 : decode cX6_store 172 = .ok (.aload_n 0, 1) := by decide +kernel
theorem dX6_store_173 : decode cX6_store 173 = .ok (.getfield 27, 3) := by decide +kernel
theorem dX6_store_176 : decode cX6_store 176 = .ok (.iload 4, 2) := by decide +kernel
theorem dX6_store_178 : decode cX6_store 178 = .ok (.iaload, 1) := by decide +kernel
theorem dX6_store_179 : decode cX6_store 179 = .ok (.iconst 3, 1) := by decide +kernel
theorem dX6_store_180 : decode cX6_store 180 = .ok (.if_icmp .le 7, 3) := by decide +kernel
theorem dX6_store_183 : decode cX6_store 183 = .ok (.iconst 1, 1) := by decide +kernel
theorem dX6_store_184 : decode cX6_store 184 = .ok (.goto 4, 3) := by decide +kernel
theorem dX6_store_187 : decode cX6_store 187 = .ok (.iconst 0, 1) := by decide +kernel
theorem dX6_store_188 : decode cX6_store 188 = .ok (.invokevirtual 148, 3) := by decide +kernel
theorem dX6_store_191 : decode cX6_store 191 = .ok (.aload_n 0, 1) := by decide +kernel
theorem dX6_store_192 : decode cX6_store 192 = .ok (.iload_n 2, 1) := by decide +kernel
theorem dX6_store_193 : decode cX6_store 193 = .ok (.bipush 42, 2) := by decide +kernel
theorem dX6_store_195 : decode cX6_store 195 = .ok (.invokevirtual 191, 3) := by decide +kernel
theorem dX6_store_198 : decode cX6_store 198 = .ok (.iconst 0, 1) := by decide +kernel
theorem dX6_store_199 : decode cX6_store 199 = .ok (.ireturn, 1) := by decide +kernel
theorem dX6_length_0 : decode cX6_length 0 = .ok (.aload_n 0, 1) := by decide +kernel
theorem dX6_length_1 : decode cX6_length 1 = .ok (.iload_n 1, 1) := by decide +kernel
theorem dX6_length_2 : decode cX6_length 2 = .ok (.bipush 8, 2) := by decide +kernel
theorem dX6_length_4 : decode cX6_length 4 = .ok (.invokevirtual 140, 3) := by decide +kernel
theorem dX6_length_7 : decode cX6_length 7 = .ok (.ifCond .ne 12, 3) := by decide +kernel
theorem dX6_length_10 : decode cX6_length 10 = .ok (.aload_n 0, 1) := by decide +kernel
theorem dX6_length_11 : decode cX6_length 11 = .ok (.iload_n 2, 1) := by decide +kernel
theorem dX6_length_12 : decode cX6_length 12 = .ok (.iconst 4, 1) := by decide +kernel
theorem dX6_length_13 : decode cX6_length 13 = .ok (.invokevirtual 140, 3) := by decide +kernel
theorem dX6_length_16 : decode cX6_length 16 = .ok (.ifCond .eq 5, 3) := by decide +kernel
theorem dX6_length_19 : decode cX6_length 19 = .ok (.iconst (-1), 1) := by decide +kernel
theorem dX6_length_20 : decode cX6_length 20 = .ok (.ireturn, 1) := by decide +kernel
theorem dX6_length_21 : decode cX6_length 21 = .ok (.aload_n 0, 1) := by decide +kernel
theorem dX6_length_22 : decode cX6_length 22 = .ok (.getfield 24, 3) := by decide +kernel
theorem dX6_length_25 : decode cX6_length 25 = .ok (.iload_n 2, 1) := by decide +kernel
theorem dX6_length_26 : decode cX6_length 26 = .ok (.iaload, 1) := by decide +kernel
theorem dX6_length_27 : decode cX6_length 27 = .ok (.ifCond .ge 10, 3) := by decide +kernel
theorem dX6_length_30 : decode cX6_length 30 = .ok (.aload_n 0, 1) := by decide +kernel
theorem dX6_length_31 : decode cX6_length 31 = .ok (.bipush (-3), 2) := by decide +kernel
theorem dX6_length_33 : decode cX6_length 33 = .ok (.invokevirtual 208, 3) := by decide +kernel
theorem dX6_length_36 : decode cX6_length 36 = .ok (.ireturn, 1) := by decide +kernel
theorem dX6_length_37 : decode cX6_length 37 = .ok (.aload_n 0, 1) := by decide +kernel
theorem dX6_length_38 : decode cX6_length 38 = .ok (.getfield 7, 3) := by decide +kernel
theorem dX6_length_41 : decode cX6_length 41 = .ok (.iload_n 1, 1) := by decide +kernel
theorem dX6_length_42 : decode cX6_length 42 = .ok (.iconst 0, 1) := by decide +kernel
theorem dX6_length_43 : decode cX6_length 43 = .ok (.iastore, 1) := by decide +kernel
theorem dX6_length_44 : decode cX6_length 44 = .ok (.aload_n 0, 1) := by decide +kernel
theorem dX6_length_45 : decode cX6_length 45 = .ok (.iload_n 1, 1) := by decide +kernel
theorem dX6_length_46 : decode cX6_length 46 = .ok (.aload_n 0, 1) := by decide +kernel
theorem dX6_length_47 : decode cX6_length 47 = .ok (.getfield 30, 3) := by decide +kernel
theorem dX6_length_50 : decode cX6_length 50 = .ok (.aload_n 0, 1) := by decide +kernel
theorem dX6_length_51 : decode cX6_length 51 = .ok (.getfield 24, 3) := by decide +kernel
theorem dX6_length_54 : decode cX6_length 54 = .ok (.iload_n 2, 1) := by decide +kernel
theorem dX6_length_55 : decode cX6_length 55 = .ok (.iaload, 1) := by decide +kernel
theorem dX6_length_56 : decode cX6_length 56 = .ok (.iaload, 1) := by decide +kernel
theorem dX6_length_57 : decode cX6_length 57 = .ok (.i2l, 1) := by decide +kernel
theorem dX6_length_58 : decode cX6_length 58 = .ok (.iconst 0, 1) := by decide +kernel
theorem dX6_length_59 : decode cX6_length 59 = .ok (.iconst 1, 1) := by decide +kernel
theorem dX6_length_60 : decode cX6_length 60 = .ok (.invokevirtual 148, 3) := by decide +kernel
theorem dX6_length_63 : decode cX6_length 63 = .ok (.iconst 0, 1) := by decide +kernel
theorem dX6_length_64 : decode cX6_length 64 = .ok (.ireturn, 1) := by decide +kernel
theorem dX6_copy_0 : decode cX6_copy 0 = .ok (.aload_n 0, 1) := by decide +kernel
theorem dX6_copy_1 : decode cX6_copy 1 = .ok (.iload_n 1, 1) := by decide +kernel
theorem dX6_copy_2 : decode cX6_copy 2 = .ok (.iconst 4, 1) := by decide +kernel
theorem dX6_copy_3 : decode cX6_copy 3 = .ok (.invokevirtual 140, 3) := by decide +kernel
theorem dX6_copy_6 : decode cX6_copy 6 = .ok (.ifCond .ne 12, 3) := by decide +kernel
theorem dX6_copy_9 : decode cX6_copy 9 = .ok (.aload_n 0, 1) := by decide +kernel
theorem dX6_copy_10 : decode cX6_copy 10 = .ok (.iload_n 3, 1) := by decide +kernel
theorem dX6_copy_11 : decode cX6_copy 11 = .ok (.iconst 4, 1) := by decide +kernel
theorem dX6_copy_12 : decode cX6_copy 12 = .ok (.invokevirtual 140, 3) := by decide +kernel
theorem dX6_copy_15 : decode cX6_copy 15 = .ok (.ifCond .eq 5, 3) := by decide +kernel
theorem dX6_copy_18 : decode cX6_copy 18 = .ok (.iconst (-1), 1) := by decide +kernel
theorem dX6_copy_19 : decode cX6_copy 19 = .ok (.ireturn, 1) := by decide +kernel
theorem dX6_copy_20 : decode cX6_copy 20 = .ok (.aload_n 0, 1) := by decide +kernel
theorem dX6_copy_21 : decode cX6_copy 21 = .ok (.getfield 24, 3) := by decide +kernel
theorem dX6_copy_24 : decode cX6_copy 24 = .ok (.iload_n 1, 1) := by decide +kernel
theorem dX6_copy_25 : decode cX6_copy 25 = .ok (.iaload, 1) := by decide +kernel
theorem dX6_copy_26 : decode cX6_copy 26 = .ok (.istore 6, 2) := by decide +kernel
theorem dX6_copy_28 : decode cX6_copy 28 = .ok (.aload_n 0, 1) := by decide +kernel
theorem dX6_copy_29 : decode cX6_copy 29 = .ok (.getfield 24, 3) := by decide +kernel
theorem dX6_copy_32 : decode cX6_copy 32 = .ok (.iload_n 3, 1) := by decide +kernel
theorem dX6_copy_33 : decode cX6_copy 33 = .ok (.iaload, 1) := by decide +kernel
theorem dX6_copy_34 : decode cX6_copy 34 = .ok (.istore 7, 2) := by decide +kernel
theorem dX6_copy_36 : decode cX6_copy 36 = .ok (.iload 6, 2) := by decide +kernel
theorem dX6_copy_38 : decode cX6_copy 38 = .ok (.ifCond .lt 8, 3) := by decide +kernel
theorem dX6_copy_41 : decode cX6_copy 41 = .ok (.iload 7, 2) := by decide +kernel
theorem dX6_copy_43 : decode cX6_copy 43 = .ok (.ifCond .ge 10, 3) := by decide +kernel
theorem dX6_copy_46 : decode cX6_copy 46 = .ok (.aload_n 0, 1) := by decide +kernel
theorem dX6_copy_47 : decode cX6_copy 47 = .ok (.bipush (-3), 2) := by decide +kernel
theorem dX6_copy_49 : decode cX6_copy 49 = .ok (.invokevirtual 208, 3) := by decide +kernel
theorem dX6_copy_52 : decode cX6_copy 52 = .ok (.ireturn, 1) := by decide +kernel
theorem dX6_copy_53 : decode cX6_copy 53 = .ok (.aload_n 0, 1) := by decide +kernel
theorem dX6_copy_54 : decode cX6_copy 54 = .ok (.getfield 27, 3) := by decide +kernel
theorem dX6_copy_57 : decode cX6_copy 57 = .ok (.iload 6, 2) := by decide +kernel
theorem dX6_copy_59 : decode cX6_copy 59 = .ok (.iaload, 1) := by decide +kernel
theorem dX6_copy_60 : decode cX6_copy 60 = .ok (.aload_n 0, 1) := by decide +kernel
theorem dX6_copy_61 : decode cX6_copy 61 = .ok (.getfield 27, 3) := by decide +kernel
theorem dX6_copy_64 : decode cX6_copy 64 = .ok (.iload 7, 2) := by decide +kernel
theorem dX6_copy_66 : decode cX6_copy 66 = .ok (.iaload, 1) := by decide +kernel
theorem dX6_copy_67 : decode cX6_copy 67 = .ok (.if_icmp .eq 10, 3) := by decide +kernel
theorem dX6_copy_70 : decode cX6_copy 70 = .ok (.aload_n 0, 1) := by decide +kernel
theorem dX6_copy_71 : decode cX6_copy 71 = .ok (.bipush (-6), 2) := by decide +kernel
theorem dX6_copy_73 : decode cX6_copy 73 = .ok (.invokevirtual 208, 3) := by decide +kernel
theorem dX6_copy_76 : decode cX6_copy 76 = .ok (.ireturn, 1) := by decide +kernel
theorem dX6_copy_77 : decode cX6_copy 77 = .ok (.iload 5, 2) := by decide +kernel
theorem dX6_copy_79 : decode cX6_copy 79 = .ok (.ifCond .lt 49, 3) := by decide +kernel
theorem dX6_copy_82 : decode cX6_copy 82 = .ok (.iload_n 2, 1) := by decide +kernel
theorem dX6_copy_83 : decode cX6_copy 83 = .ok (.ifCond .lt 45, 3) := by decide +kernel
theorem dX6_copy_86 : decode cX6_copy 86 = .ok (.iload 4, 2) := by decide +kernel
theorem dX6_copy_88 : decode cX6_copy 88 = .ok (.ifCond .lt 40, 3) := by decide +kernel
theorem dX6_copy_91 : decode cX6_copy 91 = .ok (.iload_n 2, 1) := by decide +kernel
theorem dX6_copy_92 : decode cX6_copy 92 = .ok (.i2l, 1) := by decide +kernel
theorem dX6_copy_93 : decode cX6_copy 93 = .ok (.iload 5, 2) := by decide +kernel
theorem dX6_copy_95 : decode cX6_copy 95 = .ok (.i2l, 1) := by decide +kernel
theorem dX6_copy_96 : decode cX6_copy 96 = .ok (.ladd, 1) := by decide +kernel
theorem dX6_copy_97 : decode cX6_copy 97 = .ok (.aload_n 0, 1) := by decide +kernel
theorem dX6_copy_98 : decode cX6_copy 98 = .ok (.getfield 30, 3) := by decide +kernel
theorem dX6_copy_101 : decode cX6_copy 101 = .ok (.iload 6, 2) := by decide +kernel
theorem dX6_copy_103 : decode cX6_copy 103 = .ok (.iaload, 1) := by decide +kernel
theorem dX6_copy_104 : decode cX6_copy 104 = .ok (.i2l, 1) := by decide +kernel
theorem dX6_copy_105 : decode cX6_copy 105 = .ok (.lcmp, 1) := by decide +kernel
theorem dX6_copy_106 : decode cX6_copy 106 = .ok (.ifCond .gt 22, 3) := by decide +kernel
theorem dX6_copy_109 : decode cX6_copy 109 = .ok (.iload 4, 2) := by decide +kernel
theorem dX6_copy_111 : decode cX6_copy 111 = .ok (.i2l, 1) := by decide +kernel
theorem dX6_copy_112 : decode cX6_copy 112 = .ok (.iload 5, 2) := by decide +kernel
theorem dX6_copy_114 : decode cX6_copy 114 = .ok (.i2l, 1) := by decide +kernel
theorem dX6_copy_115 : decode cX6_copy 115 = .ok (.ladd, 1) := by decide +kernel
theorem dX6_copy_116 : decode cX6_copy 116 = .ok (.aload_n 0, 1) := by decide +kernel
theorem dX6_copy_117 : decode cX6_copy 117 = .ok (.getfield 30, 3) := by decide +kernel
theorem dX6_copy_120 : decode cX6_copy 120 = .ok (.iload 7, 2) := by decide +kernel
theorem dX6_copy_122 : decode cX6_copy 122 = .ok (.iaload, 1) := by decide +kernel
theorem dX6_copy_123 : decode cX6_copy 123 = .ok (.i2l, 1) := by decide +kernel
theorem dX6_copy_124 : decode cX6_copy 124 = .ok (.lcmp, 1) := by decide +kernel
theorem dX6_copy_125 : decode cX6_copy 125 = .ok (.ifCond .le 10, 3) := by decide +kernel
theorem dX6_copy_128 : decode cX6_copy 128 = .ok (.aload_n 0, 1) := by decide +kernel
theorem dX6_copy_129 : decode cX6_copy 129 = .ok (.bipush (-4), 2) := by decide +kernel
theorem dX6_copy_131 : decode cX6_copy 131 = .ok (.invokevirtual 208, 3) := by decide +kernel
theorem dX6_copy_134 : decode cX6_copy 134 = .ok (.ireturn, 1) := by decide +kernel
theorem dX6_copy_135 : decode cX6_copy 135 = .ok (.iconst 0, 1) := by decide +kernel
theorem dX6_copy_136 : decode cX6_copy 136 = .ok (.istore 8, 2) := by decide +kernel
theorem dX6_copy_138 : decode cX6_copy 138 = .ok (.iload 8, 2) := by decide +kernel
theorem dX6_copy_140 : decode cX6_copy 140 = .ok (.iload 5, 2) := by decide +kernel
theorem dX6_copy_142 : decode cX6_copy 142 = .ok (.if_icmp .ge 80, 3) := by decide +kernel
theorem dX6_copy_145 : decode cX6_copy 145 = .ok (.bipush 8, 2) := by decide +kernel
theorem dX6_copy_147 : decode cX6_copy 147 = .ok (.iload 6, 2) := by decide +kernel
theorem dX6_copy_149 : decode cX6_copy 149 = .ok (.bipush 12, 2) := by decide +kernel
theorem dX6_copy_151 : decode cX6_copy 151 = .ok (.imul, 1) := by decide +kernel
theorem dX6_copy_152 : decode cX6_copy 152 = .ok (.iadd, 1) := by decide +kernel
theorem dX6_copy_153 : decode cX6_copy 153 = .ok (.iload_n 2, 1) := by decide +kernel
theorem dX6_copy_154 : decode cX6_copy 154 = .ok (.iadd, 1) := by decide +kernel
theorem dX6_copy_155 : decode cX6_copy 155 = .ok (.iload 8, 2) := by decide +kernel
theorem dX6_copy_157 : decode cX6_copy 157 = .ok (.iadd, 1) := by decide +kernel
theorem dX6_copy_158 : decode cX6_copy 158 = .ok (.istore 9, 2) := by decide +kernel
theorem dX6_copy_160 : decode cX6_copy 160 = .ok (.aload_n 0, 1) := by decide +kernel
theorem dX6_copy_161 : decode cX6_copy 161 = .ok (.getfield 61, 3) := by decide +kernel
theorem dX6_copy_164 : decode cX6_copy 164 = .ok (.iload 8, 2) := by decide +kernel
theorem dX6_copy_166 : decode cX6_copy 166 = .ok (.aload_n 0, 1) := by decide +kernel
theorem dX6_copy_167 : decode cX6_copy 167 = .ok (.getfield 16, 3) := by decide +kernel
theorem dX6_copy_170 : decode cX6_copy 170 = .ok (.iload 9, 2) := by decide +kernel
theorem dX6_copy_172 : decode cX6_copy 172 = .ok (.laload, 1) := by decide +kernel
theorem dX6_copy_173 : decode cX6_copy 173 = .ok (.lastore, 1) := by decide +kernel
theorem dX6_copy_174 : decode cX6_copy 174 = .ok (.aload_n 0, 1) := by decide +kernel
theorem dX6_copy_175 : decode cX6_copy 175 = .ok (.getfield 58, 3) := by decide +kernel
theorem dX6_copy_178 : decode cX6_copy 178 = .ok (.iconst 2, 1) := by decide +kernel
theorem dX6_copy_179 : decode cX6_copy 179 = .ok (.iload 8, 2) := by decide +kernel
theorem dX6_copy_181 : decode cX6_copy 181 = .ok (.imul, 1) := by decide +kernel
theorem dX6_copy_182 : decode cX6_copy 182 = .ok (.aload_n 0, 1) := by decide +kernel
theorem dX6_copy_183 : decode cX6_copy 183 = .ok (.getfield 13, 3) := by decide +kernel
theorem dX6_copy_186 : decode cX6_copy 186 = .ok (.iload 9, 2) := by decide +kernel
theorem dX6_copy_188 : decode cX6_copy 188 = .ok (.iaload, 1) := by decide +kernel
theorem dX6_copy_189 : decode cX6_copy 189 = .ok (.iastore, 1) := by decide +kernel
theorem dX6_copy_190 : decode cX6_copy 190 = .ok (.aload_n 0, 1) := by decide +kernel
theorem dX6_copy_191 : decode cX6_copy 191 = .ok (.getfield 58, 3) := by decide +kernel
theorem dX6_copy_194 : decode cX6_copy 194 = .ok (.iconst 2, 1) := by decide +kernel
theorem dX6_copy_195 : decode cX6_copy 195 = .ok (.iload 8, 2) := by decide +kernel
theorem dX6_copy_197 : decode cX6_copy 197 = .ok (.imul, 1) := by decide +kernel
theorem dX6_copy_198 : decode cX6_copy 198 = .ok (.iconst 1, 1) := by decide +kernel
theorem dX6_copy_199 : decode cX6_copy 199 = .ok (.iadd, 1) := by decide +kernel
theorem dX6_copy_200 : decode cX6_copy 200 = .ok (.aload_n 0, 1) := by decide +kernel
theorem dX6_copy_201 : decode cX6_copy 201 = .ok (.getfield 20, 3) := by decide +kernel
theorem dX6_copy_204 : decode cX6_copy 204 = .ok (.iload 9, 2) := by decide +kernel
theorem dX6_copy_206 : decode cX6_copy 206 = .ok (.baload, 1) := by decide +kernel
theorem dX6_copy_207 : decode cX6_copy 207 = .ok (.ifCond .eq 7, 3) := by decide +kernel
theorem dX6_copy_210 : decode cX6_copy 210 = .ok (.iconst 1, 1) := by decide +kernel
theorem dX6_copy_211 : decode cX6_copy 211 = .ok (.goto 4, 3) := by decide +kernel
theorem dX6_copy_214 : decode cX6_copy 214 = .ok (.iconst 0, 1) := by decide +kernel
theorem dX6_copy_215 : decode cX6_copy 215 = .ok (.iastore, 1) := by decide +kernel
theorem dX6_copy_216 : decode cX6_copy 216 = .ok (.iinc 8 1, 3) := by decide +kernel
theorem dX6_copy_219 : decode cX6_copy 219 = .ok (.goto (-81), 3) := by decide +kernel
theorem dX6_copy_222 : decode cX6_copy 222 = .ok (.iconst 0, 1) := by decide +kernel
theorem dX6_copy_223 : decode cX6_copy 223 = .ok (.istore 8, 2) := by decide +kernel
theorem dX6_copy_225 : decode cX6_copy 225 = .ok (.iload 8, 2) := by decide +kernel
theorem dX6_copy_227 : decode cX6_copy 227 = .ok (.iload 5, 2) := by decide +kernel
theorem dX6_copy_229 : decode cX6_copy 229 = .ok (.if_icmp .ge 63, 3) := by decide +kernel
theorem dX6_copy_232 : decode cX6_copy 232 = .ok (.aload_n 0, 1) := by decide +kernel
theorem dX6_copy_233 : decode cX6_copy 233 = .ok (.bipush 8, 2) := by decide +kernel
theorem dX6_copy_235 : decode cX6_copy 235 = .ok (.iload 7, 2) := by decide +kernel
theorem dX6_copy_237 : decode cX6_copy 237 = .ok (.bipush 12, 2) := by decide +kernel
theorem dX6_copy_239 : decode cX6_copy 239 = .ok (.imul, 1) := by decide +kernel
theorem dX6_copy_240 : decode cX6_copy 240 = .ok (.iadd, 1) := by decide +kernel
theorem dX6_copy_241 : decode cX6_copy 241 = .ok (.iload 4, 2) := by decide +kernel
theorem dX6_copy_243 : decode cX6_copy 243 = .ok (.iadd, 1) := by decide +kernel
theorem dX6_copy_244 : decode cX6_copy 244 = .ok (.iload 8, 2) := by decide +kernel
theorem dX6_copy_246 : decode cX6_copy 246 = .ok (.iadd, 1) := by decide +kernel
theorem dX6_copy_247 : decode cX6_copy 247 = .ok (.aload_n 0, 1) := by decide +kernel
theorem dX6_copy_248 : decode cX6_copy 248 = .ok (.getfield 61, 3) := by decide +kernel
theorem dX6_copy_251 : decode cX6_copy 251 = .ok (.iload 8, 2) := by decide +kernel
theorem dX6_copy_253 : decode cX6_copy 253 = .ok (.laload, 1) := by decide +kernel
theorem dX6_copy_254 : decode cX6_copy 254 = .ok (.aload_n 0, 1) := by decide +kernel
theorem dX6_copy_255 : decode cX6_copy 255 = .ok (.getfield 58, 3) := by decide +kernel
theorem dX6_copy_258 : decode cX6_copy 258 = .ok (.iconst 2, 1) := by decide +kernel
theorem dX6_copy_259 : decode cX6_copy 259 = .ok (.iload 8, 2) := by decide +kernel
theorem dX6_copy_261 : decode cX6_copy 261 = .ok (.imul, 1) := by decide +kernel
theorem dX6_copy_262 : decode cX6_copy 262 = .ok (.iaload, 1) := by decide +kernel
theorem dX6_copy_263 : decode cX6_copy 263 = .ok (.aload_n 0, 1) := by decide +kernel
theorem dX6_copy_264 : decode cX6_copy 264 = .ok (.getfield 58, 3) := by decide +kernel
theorem dX6_copy_267 : decode cX6_copy 267 = .ok (.iconst 2, 1) := by decide +kernel
theorem dX6_copy_268 : decode cX6_copy 268 = .ok (.iload 8, 2) := by decide +kernel
theorem dX6_copy_270 : decode cX6_copy 270 = .ok (.imul, 1) := by decide +kernel
theorem dX6_copy_271 : decode cX6_copy 271 = .ok (.iconst 1, 1) := by decide +kernel
theorem dX6_copy_272 : decode cX6_copy 272 = .ok (.iadd, 1) := by decide +kernel
theorem dX6_copy_273 : decode cX6_copy 273 = .ok (.iaload, 1) := by decide +kernel
theorem dX6_copy_274 : decode cX6_copy 274 = .ok (.iconst 1, 1) := by decide +kernel
theorem dX6_copy_275 : decode cX6_copy 275 = .ok (.if_icmp .ne 7, 3) := by decide +kernel
theorem dX6_copy_278 : decode cX6_copy 278 = .ok (.iconst 1, 1) := by decide +kernel
theorem dX6_copy_279 : decode cX6_copy 279 = .ok (.goto 4, 3) := by decide +kernel
theorem dX6_copy_282 : decode cX6_copy 282 = .ok (.iconst 0, 1) := by decide +kernel
theorem dX6_copy_283 : decode cX6_copy 283 = .ok (.invokevirtual 148, 3) := by decide +kernel
theorem dX6_copy_286 : decode cX6_copy 286 = .ok (.iinc 8 1, 3) := by decide +kernel
theorem dX6_copy_289 : decode cX6_copy 289 = .ok (.goto (-64), 3) := by decide +kernel
theorem dX6_copy_292 : decode cX6_copy 292 = .ok (.iconst 0, 1) := by decide +kernel
theorem dX6_copy_293 : decode cX6_copy 293 = .ok (.ireturn, 1) := by decide +kernel
theorem dX6_branch_0 : decode cX6_branch 0 = .ok (.aload_n 0, 1) := by decide +kernel
theorem dX6_branch_1 : decode cX6_branch 1 = .ok (.iload_n 1, 1) := by decide +kernel
theorem dX6_branch_2 : decode cX6_branch 2 = .ok (.bipush 6, 2) := by decide +kernel
theorem dX6_branch_4 : decode cX6_branch 4 = .ok (.invokevirtual 140, 3) := by decide +kernel
theorem dX6_branch_7 : decode cX6_branch 7 = .ok (.ifCond .ne 41, 3) := by decide +kernel
theorem dX6_branch_10 : decode cX6_branch 10 = .ok (.aload_n 0, 1) := by decide +kernel
theorem dX6_branch_11 : decode cX6_branch 11 = .ok (.iload_n 2, 1) := by decide +kernel
theorem dX6_branch_12 : decode cX6_branch 12 = .ok (.bipush 8, 2) := by decide +kernel
theorem dX6_branch_14 : decode cX6_branch 14 = .ok (.invokevirtual 140, 3) := by decide +kernel
theorem dX6_branch_17 : decode cX6_branch 17 = .ok (.ifCond .ne 31, 3) := by decide +kernel
theorem dX6_branch_20 : decode cX6_branch 20 = .ok (.aload_n 0, 1) := by decide +kernel
theorem dX6_branch_21 : decode cX6_branch 21 = .ok (.iload_n 3, 1) := by decide +kernel
theorem dX6_branch_22 : decode cX6_branch 22 = .ok (.bipush 8, 2) := by decide +kernel
theorem dX6_branch_24 : decode cX6_branch 24 = .ok (.invokevirtual 140, 3) := by decide +kernel
theorem dX6_branch_27 : decode cX6_branch 27 = .ok (.ifCond .ne 21, 3) := by decide +kernel
theorem dX6_branch_30 : decode cX6_branch 30 = .ok (.aload_n 0, 1) := by decide +kernel
theorem dX6_branch_31 : decode cX6_branch 31 = .ok (.getfield 7, 3) := by decide +kernel
theorem dX6_branch_34 : decode cX6_branch 34 = .ok (.iload_n 2, 1) := by decide +kernel
theorem dX6_branch_35 : decode cX6_branch 35 = .ok (.iaload, 1) := by decide +kernel
theorem dX6_branch_36 : decode cX6_branch 36 = .ok (.ifCond .ne 12, 3) := by decide +kernel
theorem dX6_branch_39 : decode cX6_branch 39 = .ok (.aload_n 0, 1) := by decide +kernel
theorem dX6_branch_40 : decode cX6_branch 40 = .ok (.getfield 7, 3) := by decide +kernel
theorem dX6_branch_43 : decode cX6_branch 43 = .ok (.iload_n 3, 1) := by decide +kernel
theorem dX6_branch_44 : decode cX6_branch 44 = .ok (.iaload, 1) := by decide +kernel
theorem dX6_branch_45 : decode cX6_branch 45 = .ok (.ifCond .eq 5, 3) := by decide +kernel
theorem dX6_branch_48 : decode cX6_branch 48 = .ok (.iconst (-1), 1) := by decide +kernel
theorem dX6_branch_49 : decode cX6_branch 49 = .ok (.ireturn, 1) := by decide +kernel
theorem dX6_branch_50 : decode cX6_branch 50 = .ok (.aload_n 0, 1) := by decide +kernel
theorem dX6_branch_51 : decode cX6_branch 51 = .ok (.getfield 16, 3) := by decide +kernel
theorem dX6_branch_54 : decode cX6_branch 54 = .ok (.iload_n 2, 1) := by decide +kernel
theorem dX6_branch_55 : decode cX6_branch 55 = .ok (.laload, 1) := by decide +kernel
theorem dX6_branch_56 : decode cX6_branch 56 = .ok (.lstore 4, 2) := by decide +kernel
theorem dX6_branch_58 : decode cX6_branch 58 = .ok (.aload_n 0, 1) := by decide +kernel
theorem dX6_branch_59 : decode cX6_branch 59 = .ok (.getfield 16, 3) := by decide +kernel
theorem dX6_branch_62 : decode cX6_branch 62 = .ok (.iload_n 3, 1) := by decide +kernel
theorem dX6_branch_63 : decode cX6_branch 63 = .ok (.laload, 1) := by decide +kernel
theorem dX6_branch_64 : decode cX6_branch 64 = .ok (.lstore 6, 2) := by decide +kernel
theorem dX6_branch_66 : decode cX6_branch 66 = .ok (.iload_n 1, 1) := by decide +kernel
theorem dX6_branch_67 : decode cX6_branch 67 = .ok (.iconst 2, 1) := by decide +kernel
theorem dX6_branch_68 : decode cX6_branch 68 = .ok (.if_icmp .ge 19, 3) := by decide +kernel
theorem dX6_branch_71 : decode cX6_branch 71 = .ok (.lload 4, 2) := by decide +kernel
theorem dX6_branch_73 : decode cX6_branch 73 = .ok (.lload 6, 2) := by decide +kernel
theorem dX6_branch_75 : decode cX6_branch 75 = .ok (.lcmp, 1) := by decide +kernel
theorem dX6_branch_76 : decode cX6_branch 76 = .ok (.ifCond .ne 7, 3) := by decide +kernel
theorem dX6_branch_79 : decode cX6_branch 79 = .ok (.iconst 1, 1) := by decide +kernel
theorem dX6_branch_80 : decode cX6_branch 80 = .ok (.goto 41, 3) := by decide +kernel
theorem dX6_branch_83 : decode cX6_branch 83 = .ok (.iconst 0, 1) := by decide +kernel
theorem dX6_branch_84 : decode cX6_branch 84 = .ok (.goto 37, 3) := by decide +kernel
theorem dX6_branch_87 : decode cX6_branch 87 = .ok (.iload_n 1, 1) := by decide +kernel
theorem dX6_branch_88 : decode cX6_branch 88 = .ok (.iconst 4, 1) := by decide +kernel
theorem dX6_branch_89 : decode cX6_branch 89 = .ok (.if_icmp .ge 19, 3) := by decide +kernel
theorem dX6_branch_92 : decode cX6_branch 92 = .ok (.lload 4, 2) := by decide +kernel
theorem dX6_branch_94 : decode cX6_branch 94 = .ok (.lload 6, 2) := by decide +kernel
theorem dX6_branch_96 : decode cX6_branch 96 = .ok (.lcmp, 1) := by decide +kernel
theorem dX6_branch_97 : decode cX6_branch 97 = .ok (.ifCond .ge 7, 3) := by decide +kernel
theorem dX6_branch_100 : decode cX6_branch 100 = .ok (.iconst 1, 1) := by decide +kernel
theorem dX6_branch_101 : decode cX6_branch 101 = .ok (.goto 20, 3) := by decide +kernel
theorem dX6_branch_104 : decode cX6_branch 104 = .ok (.iconst 0, 1) := by decide +kernel
theorem dX6_branch_105 : decode cX6_branch 105 = .ok (.goto 16, 3) := by decide +kernel
theorem dX6_branch_108 : decode cX6_branch 108 = .ok (.lload 4, 2) := by decide +kernel
theorem dX6_branch_110 : decode cX6_branch 110 = .ok (.lload 6, 2) := by decide +kernel
theorem dX6_branch_112 : decode cX6_branch 112 = .ok (.lcmp, 1) := by decide +kernel
theorem dX6_branch_113 : decode cX6_branch 113 = .ok (.ifCond .le 7, 3) := by decide +kernel
theorem dX6_branch_116 : decode cX6_branch 116 = .ok (.iconst 1, 1) := by decide +kernel
theorem dX6_branch_117 : decode cX6_branch 117 = .ok (.goto 4, 3) := by decide +kernel
theorem dX6_branch_120 : decode cX6_branch 120 = .ok (.iconst 0, 1) := by decide +kernel
theorem dX6_branch_121 : decode cX6_branch 121 = .ok (.istore 8, 2) := by decide +kernel
theorem dX6_branch_123 : decode cX6_branch 123 = .ok (.iload 8, 2) := by decide +kernel
theorem dX6_branch_125 : decode cX6_branch 125 = .ok (.iload_n 1, 1) := by decide +kernel
theorem dX6_branch_126 : decode cX6_branch 126 = .ok (.iconst 2, 1) := by decide +kernel
theorem dX6_branch_127 : decode cX6_branch 127 = .ok (.irem, 1) := by decide +kernel
theorem dX6_branch_128 : decode cX6_branch 128 = .ok (.ifCond .ne 7, 3) := by decide +kernel
theorem dX6_branch_131 : decode cX6_branch 131 = .ok (.iconst 1, 1) := by decide +kernel
theorem dX6_branch_132 : decode cX6_branch 132 = .ok (.goto 4, 3) := by decide +kernel
theorem dX6_branch_135 : decode cX6_branch 135 = .ok (.iconst 0, 1) := by decide +kernel
theorem dX6_branch_136 : decode cX6_branch 136 = .ok (.if_icmp .ne 7, 3) := by decide +kernel
theorem dX6_branch_139 : decode cX6_branch 139 = .ok (.iconst 1, 1) := by decide +kernel
theorem dX6_branch_140 : decode cX6_branch 140 = .ok (.goto 4, 3) := by decide +kernel
theorem dX6_branch_143 : decode cX6_branch 143 = .ok (.iconst 0, 1) := by decide +kernel
theorem dX6_branch_144 : decode cX6_branch 144 = .ok (.istore 9, 2) := by decide +kernel
theorem dX6_branch_146 : decode cX6_branch 146 = .ok (.aload_n 0, 1) := by decide +kernel
theorem dX6_branch_147 : decode cX6_branch 147 = .ok (.getfield 13, 3) := by decide +kernel
theorem dX6_branch_150 : decode cX6_branch 150 = .ok (.iload_n 2, 1) := by decide +kernel
theorem dX6_branch_151 : decode cX6_branch 151 = .ok (.iaload, 1) := by decide +kernel
theorem dX6_branch_152 : decode cX6_branch 152 = .ok (.aload_n 0, 1) := by decide +kernel
theorem dX6_branch_153 : decode cX6_branch 153 = .ok (.getfield 13, 3) := by decide +kernel
theorem dX6_branch_156 : decode cX6_branch 156 = .ok (.iload_n 3, 1) := by decide +kernel
theorem dX6_branch_157 : decode cX6_branch 157 = .ok (.iaload, 1) := by decide +kernel
theorem dX6_branch_158 : decode cX6_branch 158 = .ok (.ior, 1) := by decide +kernel
theorem dX6_branch_159 : decode cX6_branch 159 = .ok (.ifCond .ne 6, 3) := by decide +kernel
theorem dX6_branch_162 : decode cX6_branch 162 = .ok (.iload 9, 2) := by decide +kernel
theorem dX6_branch_164 : decode cX6_branch 164 = .ok (.ireturn, 1) := by decide +kernel
theorem dX6_branch_165 : decode cX6_branch 165 = .ok (.bipush 15, 2) := by decide +kernel
theorem dX6_branch_167 : decode cX6_branch 167 = .ok (.istore 10, 2) := by decide +kernel
theorem dX6_branch_169 : decode cX6_branch 169 = .ok (.iload 10, 2) := by decide +kernel
theorem dX6_branch_171 : decode cX6_branch 171 = .ok (.ifCond .le 57, 3) := by decide +kernel
theorem dX6_branch_174 : decode cX6_branch 174 = .ok (.aload_n 0, 1) := by decide +kernel
theorem dX6_branch_175 : decode cX6_branch 175 = .ok (.getfield 39, 3) := by decide +kernel
theorem dX6_branch_178 : decode cX6_branch 178 = .ok (.iload 10, 2) := by decide +kernel
theorem dX6_branch_180 : decode cX6_branch 180 = .ok (.aload_n 0, 1) := by decide +kernel
theorem dX6_branch_181 : decode cX6_branch 181 = .ok (.getfield 39, 3) := by decide +kernel
theorem dX6_branch_184 : decode cX6_branch 184 = .ok (.iload 10, 2) := by decide +kernel
theorem dX6_branch_186 : decode cX6_branch 186 = .ok (.iconst 1, 1) := by decide +kernel
theorem dX6_branch_187 : decode cX6_branch 187 = .ok (.isub, 1) := by decide +kernel
theorem dX6_branch_188 : decode cX6_branch 188 = .ok (.iaload, 1) := by decide +kernel
theorem dX6_branch_189 : decode cX6_branch 189 = .ok (.iastore, 1) := by decide +kernel
theorem dX6_branch_190 : decode cX6_branch 190 = .ok (.aload_n 0, 1) := by decide +kernel
theorem dX6_branch_191 : decode cX6_branch 191 = .ok (.getfield 42, 3) := by decide +kernel
theorem dX6_branch_194 : decode cX6_branch 194 = .ok (.iload 10, 2) := by decide +kernel
theorem dX6_branch_196 : decode cX6_branch 196 = .ok (.aload_n 0, 1) := by decide +kernel
theorem dX6_branch_197 : decode cX6_branch 197 = .ok (.getfield 42, 3) := by decide +kernel
theorem dX6_branch_200 : decode cX6_branch 200 = .ok (.iload 10, 2) := by decide +kernel
theorem dX6_branch_202 : decode cX6_branch 202 = .ok (.iconst 1, 1) := by decide +kernel
theorem dX6_branch_203 : decode cX6_branch 203 = .ok (.isub, 1) := by decide +kernel
theorem dX6_branch_204 : decode cX6_branch 204 = .ok (.iaload, 1) := by decide +kernel
theorem dX6_branch_205 : decode cX6_branch 205 = .ok (.iastore, 1) := by decide +kernel
theorem dX6_branch_206 : decode cX6_branch 206 = .ok (.aload_n 0, 1) := by decide +kernel
theorem dX6_branch_207 : decode cX6_branch 207 = .ok (.getfield 45, 3) := by decide +kernel
theorem dX6_branch_210 : decode cX6_branch 210 = .ok (.iload 10, 2) := by decide +kernel
theorem dX6_branch_212 : decode cX6_branch 212 = .ok (.aload_n 0, 1) := by decide +kernel
theorem dX6_branch_213 : decode cX6_branch 213 = .ok (.getfield 45, 3) := by decide +kernel
theorem dX6_branch_216 : decode cX6_branch 216 = .ok (.iload 10, 2) := by decide +kernel
theorem dX6_branch_218 : decode cX6_branch 218 = .ok (.iconst 1, 1) := by decide +kernel
theorem dX6_branch_219 : decode cX6_branch 219 = .ok (.isub, 1) := by decide +kernel
theorem dX6_branch_220 : decode cX6_branch 220 = .ok (.iaload, 1) := by decide +kernel
theorem dX6_branch_221 : decode cX6_branch 221 = .ok (.iastore, 1) := by decide +kernel
theorem dX6_branch_222 : decode cX6_branch 222 = .ok (.iinc 10 (-1), 3) := by decide +kernel
theorem dX6_branch_225 : decode cX6_branch 225 = .ok (.goto (-56), 3) := by decide +kernel
theorem dX6_branch_228 : decode cX6_branch 228 = .ok (.aload_n 0, 1) := by decide +kernel
theorem dX6_branch_229 : decode cX6_branch 229 = .ok (.getfield 39, 3) := by decide +kernel
theorem dX6_branch_232 : decode cX6_branch 232 = .ok (.iconst 0, 1) := by decide +kernel
theorem dX6_branch_233 : decode cX6_branch 233 = .ok (.iload 9, 2) := by decide +kernel
theorem dX6_branch_235 : decode cX6_branch 235 = .ok (.iastore, 1) := by decide +kernel
theorem dX6_branch_236 : decode cX6_branch 236 = .ok (.aload_n 0, 1) := by decide +kernel
theorem dX6_branch_237 : decode cX6_branch 237 = .ok (.getfield 42, 3) := by decide +kernel
theorem dX6_branch_240 : decode cX6_branch 240 = .ok (.iconst 0, 1) := by decide +kernel
theorem dX6_branch_241 : decode cX6_branch 241 = .ok (.aload_n 0, 1) := by decide +kernel
theorem dX6_branch_242 : decode cX6_branch 242 = .ok (.getfield 13, 3) := by decide +kernel
theorem dX6_branch_245 : decode cX6_branch 245 = .ok (.iload_n 2, 1) := by decide +kernel
theorem dX6_branch_246 : decode cX6_branch 246 = .ok (.iaload, 1) := by decide +kernel
theorem dX6_branch_247 : decode cX6_branch 247 = .ok (.aload_n 0, 1) := by decide +kernel
theorem dX6_branch_248 : decode cX6_branch 248 = .ok (.getfield 13, 3) := by decide +kernel
theorem dX6_branch_251 : decode cX6_branch 251 = .ok (.iload_n 3, 1) := by decide +kernel
theorem dX6_branch_252 : decode cX6_branch 252 = .ok (.iaload, 1) := by decide +kernel
theorem dX6_branch_253 : decode cX6_branch 253 = .ok (.ior, 1) := by decide +kernel
theorem dX6_branch_254 : decode cX6_branch 254 = .ok (.iastore, 1) := by decide +kernel
theorem dX6_branch_255 : decode cX6_branch 255 = .ok (.aload_n 0, 1) := by decide +kernel
theorem dX6_branch_256 : decode cX6_branch 256 = .ok (.getfield 45, 3) := by decide +kernel
theorem dX6_branch_259 : decode cX6_branch 259 = .ok (.iconst 0, 1) := by decide +kernel
theorem dX6_branch_260 : decode cX6_branch 260 = .ok (.aload_n 0, 1) := by decide +kernel
theorem dX6_branch_261 : decode cX6_branch 261 = .ok (.getfield 20, 3) := by decide +kernel
theorem dX6_branch_264 : decode cX6_branch 264 = .ok (.iload_n 2, 1) := by decide +kernel
theorem dX6_branch_265 : decode cX6_branch 265 = .ok (.baload, 1) := by decide +kernel
theorem dX6_branch_266 : decode cX6_branch 266 = .ok (.ifCond .eq 16, 3) := by decide +kernel
theorem dX6_branch_269 : decode cX6_branch 269 = .ok (.aload_n 0, 1) := by decide +kernel
theorem dX6_branch_270 : decode cX6_branch 270 = .ok (.getfield 20, 3) := by decide +kernel
theorem dX6_branch_273 : decode cX6_branch 273 = .ok (.iload_n 3, 1) := by decide +kernel
theorem dX6_branch_274 : decode cX6_branch 274 = .ok (.baload, 1) := by decide +kernel
theorem dX6_branch_275 : decode cX6_branch 275 = .ok (.ifCond .eq 7, 3) := by decide +kernel
theorem dX6_branch_278 : decode cX6_branch 278 = .ok (.iconst 1, 1) := by decide +kernel
theorem dX6_branch_279 : decode cX6_branch 279 = .ok (.goto 4, 3) := by decide +kernel
theorem dX6_branch_282 : decode cX6_branch 282 = .ok (.iconst 0, 1) := by decide +kernel
theorem dX6_branch_283 : decode cX6_branch 283 = .ok (.iastore, 1) := by decide +kernel
theorem dX6_branch_284 : decode cX6_branch 284 = .ok (.aload_n 0, 1) := by decide +kernel
theorem dX6_branch_285 : decode cX6_branch 285 = .ok (.dup, 1) := by decide +kernel
theorem dX6_branch_286 : decode cX6_branch 286 = .ok (.getfield 52, 3) := by decide +kernel
theorem dX6_branch_289 : decode cX6_branch 289 = .ok (.iconst 1, 1) := by decide +kernel
theorem dX6_branch_290 : decode cX6_branch 290 = .ok (.iadd, 1) := by decide +kernel
theorem dX6_branch_291 : decode cX6_branch 291 = .ok (.putfield 52, 3) := by decide +kernel
theorem dX6_branch_294 : decode cX6_branch 294 = .ok (.iload 9, 2) := by decide +kernel
theorem dX6_branch_296 : decode cX6_branch 296 = .ok (.ireturn, 1) := by decide +kernel
theorem dX6_kind_0 : decode cX6_kind 0 = .ok (.aload_n 0, 1) := by decide +kernel
theorem dX6_kind_1 : decode cX6_kind 1 = .ok (.iload_n 1, 1) := by decide +kernel
theorem dX6_kind_2 : decode cX6_kind 2 = .ok (.bipush 8, 2) := by decide +kernel
theorem dX6_kind_4 : decode cX6_kind 4 = .ok (.invokevirtual 140, 3) := by decide +kernel
theorem dX6_kind_7 : decode cX6_kind 7 = .ok (.ifCond .eq 7, 3) := by decide +kernel
theorem dX6_kind_10 : decode cX6_kind 10 = .ok (.iconst (-1), 1) := by decide +kernel
theorem dX6_kind_11 : decode cX6_kind 11 = .ok (.goto 9, 3) := by decide +kernel
theorem dX6_kind_14 : decode cX6_kind 14 = .ok (.aload_n 0, 1) := by decide +kernel
theorem dX6_kind_15 : decode cX6_kind 15 = .ok (.getfield 7, 3) := by decide +kernel
theorem dX6_kind_18 : decode cX6_kind 18 = .ok (.iload_n 1, 1) := by decide +kernel
theorem dX6_kind_19 : decode cX6_kind 19 = .ok (.iaload, 1) := by decide +kernel
theorem dX6_kind_20 : decode cX6_kind 20 = .ok (.ireturn, 1) := by decide +kernel
theorem dX6_bits_0 : decode cX6_bits 0 = .ok (.aload_n 0, 1) := by decide +kernel
theorem dX6_bits_1 : decode cX6_bits 1 = .ok (.iload_n 1, 1) := by decide +kernel
theorem dX6_bits_2 : decode cX6_bits 2 = .ok (.bipush 8, 2) := by decide +kernel
theorem dX6_bits_4 : decode cX6_bits 4 = .ok (.invokevirtual 140, 3) := by decide +kernel
theorem dX6_bits_7 : decode cX6_bits 7 = .ok (.ifCond .eq 9, 3) := by decide +kernel
theorem dX6_bits_10 : decode cX6_bits 10 = .ok (.ldc2_w 217, 3) := by decide +kernel
theorem dX6_bits_13 : decode cX6_bits 13 = .ok (.goto 9, 3) := by decide +kernel
theorem dX6_bits_16 : decode cX6_bits 16 = .ok (.aload_n 0, 1) := by decide +kernel
theorem dX6_bits_17 : decode cX6_bits 17 = .ok (.getfield 16, 3) := by decide +kernel
theorem dX6_bits_20 : decode cX6_bits 20 = .ok (.iload_n 1, 1) := by decide +kernel
theorem dX6_bits_21 : decode cX6_bits 21 = .ok (.laload, 1) := by decide +kernel
theorem dX6_bits_22 : decode cX6_bits 22 = .ok (.lreturn, 1) := by decide +kernel
theorem dX6_shadow_0 : decode cX6_shadow 0 = .ok (.aload_n 0, 1) := by decide +kernel
theorem dX6_shadow_1 : decode cX6_shadow 1 = .ok (.iload_n 1, 1) := by decide +kernel
theorem dX6_shadow_2 : decode cX6_shadow 2 = .ok (.bipush 8, 2) := by decide +kernel
theorem dX6_shadow_4 : decode cX6_shadow 4 = .ok (.invokevirtual 140, 3) := by decide +kernel
theorem dX6_shadow_7 : decode cX6_shadow 7 = .ok (.ifCond .eq 7, 3) := by decide +kernel
theorem dX6_shadow_10 : decode cX6_shadow 10 = .ok (.iconst (-1), 1) := by decide +kernel
theorem dX6_shadow_11 : decode cX6_shadow 11 = .ok (.goto 25, 3) := by decide +kernel
theorem dX6_shadow_14 : decode cX6_shadow 14 = .ok (.aload_n 0, 1) := by decide +kernel
theorem dX6_shadow_15 : decode cX6_shadow 15 = .ok (.getfield 13, 3) := by decide +kernel
theorem dX6_shadow_18 : decode cX6_shadow 18 = .ok (.iload_n 1, 1) := by decide +kernel
theorem dX6_shadow_19 : decode cX6_shadow 19 = .ok (.iaload, 1) := by decide +kernel
theorem dX6_shadow_20 : decode cX6_shadow 20 = .ok (.aload_n 0, 1) := by decide +kernel
theorem dX6_shadow_21 : decode cX6_shadow 21 = .ok (.getfield 20, 3) := by decide +kernel
theorem dX6_shadow_24 : decode cX6_shadow 24 = .ok (.iload_n 1, 1) := by decide +kernel
theorem dX6_shadow_25 : decode cX6_shadow 25 = .ok (.baload, 1) := by decide +kernel
theorem dX6_shadow_26 : decode cX6_shadow 26 = .ok (.ifCond .eq 8, 3) := by decide +kernel
theorem dX6_shadow_29 : decode cX6_shadow 29 = .ok (.bipush 64, 2) := by decide +kernel
theorem dX6_shadow_31 : decode cX6_shadow 31 = .ok (.goto 4, 3) := by decide +kernel
theorem dX6_shadow_34 : decode cX6_shadow 34 = .ok (.iconst 0, 1) := by decide +kernel
theorem dX6_shadow_35 : decode cX6_shadow 35 = .ok (.iadd, 1) := by decide +kernel
theorem dX6_shadow_36 : decode cX6_shadow 36 = .ok (.ireturn, 1) := by decide +kernel
theorem dX6_cell_0 : decode cX6_cell 0 = .ok (.aload_n 0, 1) := by decide +kernel
theorem dX6_cell_1 : decode cX6_cell 1 = .ok (.iload_n 1, 1) := by decide +kernel
theorem dX6_cell_2 : decode cX6_cell 2 = .ok (.iconst 4, 1) := by decide +kernel
theorem dX6_cell_3 : decode cX6_cell 3 = .ok (.invokevirtual 140, 3) := by decide +kernel
theorem dX6_cell_6 : decode cX6_cell 6 = .ok (.ifCond .ne 21, 3) := by decide +kernel
theorem dX6_cell_9 : decode cX6_cell 9 = .ok (.aload_n 0, 1) := by decide +kernel
theorem dX6_cell_10 : decode cX6_cell 10 = .ok (.iload_n 3, 1) := by decide +kernel
theorem dX6_cell_11 : decode cX6_cell 11 = .ok (.iconst 3, 1) := by decide +kernel
theorem dX6_cell_12 : decode cX6_cell 12 = .ok (.invokevirtual 140, 3) := by decide +kernel
theorem dX6_cell_15 : decode cX6_cell 15 = .ok (.ifCond .ne 12, 3) := by decide +kernel
theorem dX6_cell_18 : decode cX6_cell 18 = .ok (.aload_n 0, 1) := by decide +kernel
theorem dX6_cell_19 : decode cX6_cell 19 = .ok (.getfield 24, 3) := by decide +kernel
theorem dX6_cell_22 : decode cX6_cell 22 = .ok (.iload_n 1, 1) := by decide +kernel
theorem dX6_cell_23 : decode cX6_cell 23 = .ok (.iaload, 1) := by decide +kernel
theorem dX6_cell_24 : decode cX6_cell 24 = .ok (.ifCond .ge 7, 3) := by decide +kernel
theorem dX6_cell_27 : decode cX6_cell 27 = .ok (.ldc2_w 217, 3) := by decide +kernel
theorem dX6_cell_30 : decode cX6_cell 30 = .ok (.lreturn, 1) := by decide +kernel
theorem dX6_cell_31 : decode cX6_cell 31 = .ok (.aload_n 0, 1) := by decide +kernel
theorem dX6_cell_32 : decode cX6_cell 32 = .ok (.getfield 24, 3) := by decide +kernel
theorem dX6_cell_35 : decode cX6_cell 35 = .ok (.iload_n 1, 1) := by decide +kernel
theorem dX6_cell_36 : decode cX6_cell 36 = .ok (.iaload, 1) := by decide +kernel
theorem dX6_cell_37 : decode cX6_cell 37 = .ok (.istore 4, 2) := by decide +kernel
theorem dX6_cell_39 : decode cX6_cell 39 = .ok (.bipush 8, 2) := by decide +kernel
theorem dX6_cell_41 : decode cX6_cell 41 = .ok (.iload 4, 2) := by decide +kernel
theorem dX6_cell_43 : decode cX6_cell 43 = .ok (.bipush 12, 2) := by decide +kernel
theorem dX6_cell_45 : decode cX6_cell 45 = .ok (.imul, 1) := by decide +kernel
theorem dX6_cell_46 : decode cX6_cell 46 = .ok (.iadd, 1) := by decide +kernel
theorem dX6_cell_47 : decode cX6_cell 47 = .ok (.iload_n 2, 1) := by decide +kernel
theorem dX6_cell_48 : decode cX6_cell 48 = .ok (.iadd, 1) := by decide +kernel
theorem dX6_cell_49 : decode cX6_cell 49 = .ok (.istore 5, 2) := by decide +kernel
theorem dX6_cell_51 : decode cX6_cell 51 = .ok (.iload_n 3, 1) := by decide +kernel
theorem dX6_cell_52 : decode cX6_cell 52 = .ok (.iconst 2, 1) := by decide +kernel
theorem dX6_cell_53 : decode cX6_cell 53 = .ok (.if_icmp .ne 12, 3) := by decide +kernel
theorem dX6_cell_56 : decode cX6_cell 56 = .ok (.aload_n 0, 1) := by decide +kernel
theorem dX6_cell_57 : decode cX6_cell 57 = .ok (.getfield 27, 3) := by decide +kernel
theorem dX6_cell_60 : decode cX6_cell 60 = .ok (.iload 4, 2) := by decide +kernel
theorem dX6_cell_62 : decode cX6_cell 62 = .ok (.iaload, 1) := by decide +kernel
theorem dX6_cell_63 : decode cX6_cell 63 = .ok (.i2l, 1) := by decide +kernel
theorem dX6_cell_64 : decode cX6_cell 64 = .ok (.lreturn, 1) := by decide +kernel
theorem dX6_cell_65 : decode cX6_cell 65 = .ok (.iload_n 2, 1) := by decide +kernel
theorem dX6_cell_66 : decode cX6_cell 66 = .ok (.ifCond .lt 14, 3) := by decide +kernel
theorem dX6_cell_69 : decode cX6_cell 69 = .ok (.iload_n 2, 1) := by decide +kernel
theorem dX6_cell_70 : decode cX6_cell 70 = .ok (.aload_n 0, 1) := by decide +kernel
theorem dX6_cell_71 : decode cX6_cell 71 = .ok (.getfield 30, 3) := by decide +kernel
theorem dX6_cell_74 : decode cX6_cell 74 = .ok (.iload 4, 2) := by decide +kernel
theorem dX6_cell_76 : decode cX6_cell 76 = .ok (.iaload, 1) := by decide +kernel
theorem dX6_cell_77 : decode cX6_cell 77 = .ok (.if_icmp .lt 7, 3) := by decide +kernel
theorem dX6_cell_80 : decode cX6_cell 80 = .ok (.ldc2_w 217, 3) := by decide +kernel
theorem dX6_cell_83 : decode cX6_cell 83 = .ok (.lreturn, 1) := by decide +kernel
theorem dX6_cell_84 : decode cX6_cell 84 = .ok (.iload_n 3, 1) := by decide +kernel
theorem dX6_cell_85 : decode cX6_cell 85 = .ok (.ifCond .ne 13, 3) := by decide +kernel
theorem dX6_cell_88 : decode cX6_cell 88 = .ok (.aload_n 0, 1) := by decide +kernel
theorem dX6_cell_89 : decode cX6_cell 89 = .ok (.getfield 16, 3) := by decide +kernel
theorem dX6_cell_92 : decode cX6_cell 92 = .ok (.iload 5, 2) := by decide +kernel
theorem dX6_cell_94 : decode cX6_cell 94 = .ok (.laload, 1) := by decide +kernel
theorem dX6_cell_95 : decode cX6_cell 95 = .ok (.goto 28, 3) := by decide +kernel
theorem dX6_cell_98 : decode cX6_cell 98 = .ok (.aload_n 0, 1) := by decide +kernel
theorem dX6_cell_99 : decode cX6_cell 99 = .ok (.getfield 13, 3) := by decide +kernel
theorem dX6_cell_102 : decode cX6_cell 102 = .ok (.iload 5, 2) := by decide +kernel
theorem dX6_cell_104 : decode cX6_cell 104 = .ok (.iaload, 1) := by decide +kernel
theorem dX6_cell_105 : decode cX6_cell 105 = .ok (.aload_n 0, 1) := by decide +kernel
theorem dX6_cell_106 : decode cX6_cell 106 = .ok (.getfield 20, 3) := by decide +kernel
theorem dX6_cell_109 : decode cX6_cell 109 = .ok (.iload 5, 2) := by decide +kernel
theorem dX6_cell_111 : decode cX6_cell 111 = .ok (.baload, 1) := by decide +kernel
theorem dX6_cell_112 : decode cX6_cell 112 = .ok (.ifCond .eq 8, 3) := by decide +kernel
theorem dX6_cell_115 : decode cX6_cell 115 = .ok (.bipush 64, 2) := by decide +kernel
theorem dX6_cell_117 : decode cX6_cell 117 = .ok (.goto 4, 3) := by decide +kernel
theorem dX6_cell_120 : decode cX6_cell 120 = .ok (.iconst 0, 1) := by decide +kernel
theorem dX6_cell_121 : decode cX6_cell 121 = .ok (.iadd, 1) := by decide +kernel
theorem dX6_cell_122 : decode cX6_cell 122 = .ok (.i2l, 1) := by decide +kernel
theorem dX6_cell_123 : decode cX6_cell 123 = .ok (.lreturn, 1) := by decide +kernel
theorem dX6_pin_0 : decode cX6_pin 0 = .ok (.iload_n 1, 1) := by decide +kernel
theorem dX6_pin_1 : decode cX6_pin 1 = .ok (.ifCond .lt 26, 3) := by decide +kernel
theorem dX6_pin_4 : decode cX6_pin 4 = .ok (.iload_n 1, 1) := by decide +kernel
theorem dX6_pin_5 : decode cX6_pin 5 = .ok (.bipush 15, 2) := by decide +kernel
theorem dX6_pin_7 : decode cX6_pin 7 = .ok (.if_icmp .gt 20, 3) := by decide +kernel
theorem dX6_pin_10 : decode cX6_pin 10 = .ok (.iload_n 1, 1) := by decide +kernel
theorem dX6_pin_11 : decode cX6_pin 11 = .ok (.aload_n 0, 1) := by decide +kernel
theorem dX6_pin_12 : decode cX6_pin 12 = .ok (.getfield 48, 3) := by decide +kernel
theorem dX6_pin_15 : decode cX6_pin 15 = .ok (.if_icmp .ge 12, 3) := by decide +kernel
theorem dX6_pin_18 : decode cX6_pin 18 = .ok (.aload_n 0, 1) := by decide +kernel
theorem dX6_pin_19 : decode cX6_pin 19 = .ok (.iload_n 2, 1) := by decide +kernel
theorem dX6_pin_20 : decode cX6_pin 20 = .ok (.iconst 2, 1) := by decide +kernel
theorem dX6_pin_21 : decode cX6_pin 21 = .ok (.invokevirtual 140, 3) := by decide +kernel
theorem dX6_pin_24 : decode cX6_pin 24 = .ok (.ifCond .eq 7, 3) := by decide +kernel
theorem dX6_pin_27 : decode cX6_pin 27 = .ok (.ldc2_w 217, 3) := by decide +kernel
theorem dX6_pin_30 : decode cX6_pin 30 = .ok (.lreturn, 1) := by decide +kernel
theorem dX6_pin_31 : decode cX6_pin 31 = .ok (.iload_n 2, 1) := by decide +kernel
theorem dX6_pin_32 : decode cX6_pin 32 = .ok (.ifCond .ne 13, 3) := by decide +kernel
theorem dX6_pin_35 : decode cX6_pin 35 = .ok (.aload_n 0, 1) := by decide +kernel
theorem dX6_pin_36 : decode cX6_pin 36 = .ok (.getfield 33, 3) := by decide +kernel
theorem dX6_pin_39 : decode cX6_pin 39 = .ok (.iload_n 1, 1) := by decide +kernel
theorem dX6_pin_40 : decode cX6_pin 40 = .ok (.iaload, 1) := by decide +kernel
theorem dX6_pin_41 : decode cX6_pin 41 = .ok (.i2l, 1) := by decide +kernel
theorem dX6_pin_42 : decode cX6_pin 42 = .ok (.goto 10, 3) := by decide +kernel
theorem dX6_pin_45 : decode cX6_pin 45 = .ok (.aload_n 0, 1) := by decide +kernel
theorem dX6_pin_46 : decode cX6_pin 46 = .ok (.getfield 36, 3) := by decide +kernel
theorem dX6_pin_49 : decode cX6_pin 49 = .ok (.iload_n 1, 1) := by decide +kernel
theorem dX6_pin_50 : decode cX6_pin 50 = .ok (.iaload, 1) := by decide +kernel
theorem dX6_pin_51 : decode cX6_pin 51 = .ok (.i2l, 1) := by decide +kernel
theorem dX6_pin_52 : decode cX6_pin 52 = .ok (.lreturn, 1) := by decide +kernel
theorem dX6_way_0 : decode cX6_way 0 = .ok (.iload_n 1, 1) := by decide +kernel
theorem dX6_way_1 : decode cX6_way 1 = .ok (.ifCond .lt 26, 3) := by decide +kernel
theorem dX6_way_4 : decode cX6_way 4 = .ok (.iload_n 1, 1) := by decide +kernel
theorem dX6_way_5 : decode cX6_way 5 = .ok (.bipush 15, 2) := by decide +kernel
theorem dX6_way_7 : decode cX6_way 7 = .ok (.if_icmp .gt 20, 3) := by decide +kernel
theorem dX6_way_10 : decode cX6_way 10 = .ok (.iload_n 1, 1) := by decide +kernel
theorem dX6_way_11 : decode cX6_way 11 = .ok (.aload_n 0, 1) := by decide +kernel
theorem dX6_way_12 : decode cX6_way 12 = .ok (.getfield 52, 3) := by decide +kernel
theorem dX6_way_15 : decode cX6_way 15 = .ok (.if_icmp .ge 12, 3) := by decide +kernel
theorem dX6_way_18 : decode cX6_way 18 = .ok (.aload_n 0, 1) := by decide +kernel
theorem dX6_way_19 : decode cX6_way 19 = .ok (.iload_n 2, 1) := by decide +kernel
theorem dX6_way_20 : decode cX6_way 20 = .ok (.iconst 3, 1) := by decide +kernel
theorem dX6_way_21 : decode cX6_way 21 = .ok (.invokevirtual 140, 3) := by decide +kernel
theorem dX6_way_24 : decode cX6_way 24 = .ok (.ifCond .eq 7, 3) := by decide +kernel
theorem dX6_way_27 : decode cX6_way 27 = .ok (.ldc2_w 217, 3) := by decide +kernel
theorem dX6_way_30 : decode cX6_way 30 = .ok (.lreturn, 1) := by decide +kernel
theorem dX6_way_31 : decode cX6_way 31 = .ok (.iload_n 2, 1) := by decide +kernel
theorem dX6_way_32 : decode cX6_way 32 = .ok (.ifCond .ne 13, 3) := by decide +kernel
theorem dX6_way_35 : decode cX6_way 35 = .ok (.aload_n 0, 1) := by decide +kernel
theorem dX6_way_36 : decode cX6_way 36 = .ok (.getfield 39, 3) := by decide +kernel
theorem dX6_way_39 : decode cX6_way 39 = .ok (.iload_n 1, 1) := by decide +kernel
theorem dX6_way_40 : decode cX6_way 40 = .ok (.iaload, 1) := by decide +kernel
theorem dX6_way_41 : decode cX6_way 41 = .ok (.i2l, 1) := by decide +kernel
theorem dX6_way_42 : decode cX6_way 42 = .ok (.goto 25, 3) := by decide +kernel
theorem dX6_way_45 : decode cX6_way 45 = .ok (.iload_n 2, 1) := by decide +kernel
theorem dX6_way_46 : decode cX6_way 46 = .ok (.iconst 1, 1) := by decide +kernel
theorem dX6_way_47 : decode cX6_way 47 = .ok (.if_icmp .ne 13, 3) := by decide +kernel
theorem dX6_way_50 : decode cX6_way 50 = .ok (.aload_n 0, 1) := by decide +kernel
theorem dX6_way_51 : decode cX6_way 51 = .ok (.getfield 42, 3) := by decide +kernel
theorem dX6_way_54 : decode cX6_way 54 = .ok (.iload_n 1, 1) := by decide +kernel
theorem dX6_way_55 : decode cX6_way 55 = .ok (.iaload, 1) := by decide +kernel
theorem dX6_way_56 : decode cX6_way 56 = .ok (.i2l, 1) := by decide +kernel
theorem dX6_way_57 : decode cX6_way 57 = .ok (.goto 10, 3) := by decide +kernel
theorem dX6_way_60 : decode cX6_way 60 = .ok (.aload_n 0, 1) := by decide +kernel
theorem dX6_way_61 : decode cX6_way 61 = .ok (.getfield 45, 3) := by decide +kernel
theorem dX6_way_64 : decode cX6_way 64 = .ok (.iload_n 1, 1) := by decide +kernel
theorem dX6_way_65 : decode cX6_way 65 = .ok (.iaload, 1) := by decide +kernel
theorem dX6_way_66 : decode cX6_way 66 = .ok (.i2l, 1) := by decide +kernel
theorem dX6_way_67 : decode cX6_way 67 = .ok (.lreturn, 1) := by decide +kernel
theorem dX6_count_0 : decode cX6_count 0 = .ok (.iconst 0, 1) := by decide +kernel
theorem dX6_count_1 : decode cX6_count 1 = .ok (.istore_n 2, 1) := by decide +kernel
theorem dX6_count_2 : decode cX6_count 2 = .ok (.iconst 0, 1) := by decide +kernel
theorem dX6_count_3 : decode cX6_count 3 = .ok (.istore_n 3, 1) := by decide +kernel
theorem dX6_count_4 : decode cX6_count 4 = .ok (.iload_n 3, 1) := by decide +kernel
theorem dX6_count_5 : decode cX6_count 5 = .ok (.bipush 8, 2) := by decide +kernel
theorem dX6_count_7 : decode cX6_count 7 = .ok (.if_icmp .ge 21, 3) := by decide +kernel
theorem dX6_count_10 : decode cX6_count 10 = .ok (.aload_n 0, 1) := by decide +kernel
theorem dX6_count_11 : decode cX6_count 11 = .ok (.getfield 13, 3) := by decide +kernel
theorem dX6_count_14 : decode cX6_count 14 = .ok (.iload_n 3, 1) := by decide +kernel
theorem dX6_count_15 : decode cX6_count 15 = .ok (.iaload, 1) := by decide +kernel
theorem dX6_count_16 : decode cX6_count 16 = .ok (.ifCond .eq 6, 3) := by decide +kernel
theorem dX6_count_19 : decode cX6_count 19 = .ok (.iinc 2 1, 3) := by decide +kernel
theorem dX6_count_22 : decode cX6_count 22 = .ok (.iinc 3 1, 3) := by decide +kernel
theorem dX6_count_25 : decode cX6_count 25 = .ok (.goto (-21), 3) := by decide +kernel
theorem dX6_count_28 : decode cX6_count 28 = .ok (.iload_n 1, 1) := by decide +kernel
theorem dX6_count_29 : decode cX6_count 29 = .ok (.ifCond .ne 10, 3) := by decide +kernel
theorem dX6_count_32 : decode cX6_count 32 = .ok (.aload_n 0, 1) := by decide +kernel
theorem dX6_count_33 : decode cX6_count 33 = .ok (.getfield 48, 3) := by decide +kernel
theorem dX6_count_36 : decode cX6_count 36 = .ok (.goto 37, 3) := by decide +kernel
theorem dX6_count_39 : decode cX6_count 39 = .ok (.iload_n 1, 1) := by decide +kernel
theorem dX6_count_40 : decode cX6_count 40 = .ok (.iconst 1, 1) := by decide +kernel
theorem dX6_count_41 : decode cX6_count 41 = .ok (.if_icmp .ne 10, 3) := by decide +kernel
theorem dX6_count_44 : decode cX6_count 44 = .ok (.aload_n 0, 1) := by decide +kernel
theorem dX6_count_45 : decode cX6_count 45 = .ok (.getfield 52, 3) := by decide +kernel
theorem dX6_count_48 : decode cX6_count 48 = .ok (.goto 25, 3) := by decide +kernel
theorem dX6_count_51 : decode cX6_count 51 = .ok (.iload_n 1, 1) := by decide +kernel
theorem dX6_count_52 : decode cX6_count 52 = .ok (.iconst 2, 1) := by decide +kernel
theorem dX6_count_53 : decode cX6_count 53 = .ok (.if_icmp .ne 10, 3) := by decide +kernel
theorem dX6_count_56 : decode cX6_count 56 = .ok (.aload_n 0, 1) := by decide +kernel
theorem dX6_count_57 : decode cX6_count 57 = .ok (.getfield 55, 3) := by decide +kernel
theorem dX6_count_60 : decode cX6_count 60 = .ok (.goto 13, 3) := by decide +kernel
theorem dX6_count_63 : decode cX6_count 63 = .ok (.iload_n 1, 1) := by decide +kernel
theorem dX6_count_64 : decode cX6_count 64 = .ok (.iconst 3, 1) := by decide +kernel
theorem dX6_count_65 : decode cX6_count 65 = .ok (.if_icmp .ne 7, 3) := by decide +kernel
theorem dX6_count_68 : decode cX6_count 68 = .ok (.iload_n 2, 1) := by decide +kernel
theorem dX6_count_69 : decode cX6_count 69 = .ok (.goto 4, 3) := by decide +kernel
theorem dX6_count_72 : decode cX6_count 72 = .ok (.iconst (-1), 1) := by decide +kernel
theorem dX6_count_73 : decode cX6_count 73 = .ok (.ireturn, 1) := by decide +kernel
theorem dJ6_numberOfLeadingZeros_0f7a4_0 : decode cJ6_numberOfLeadingZeros_0f7a4 0 = .ok (.iload_n 0, 1) := by decide +kernel
theorem dJ6_numberOfLeadingZeros_0f7a4_1 : decode cJ6_numberOfLeadingZeros_0f7a4 1 = .ok (.ifCond .gt 14, 3) := by decide +kernel
theorem dJ6_numberOfLeadingZeros_0f7a4_4 : decode cJ6_numberOfLeadingZeros_0f7a4 4 = .ok (.iload_n 0, 1) := by decide +kernel
theorem dJ6_numberOfLeadingZeros_0f7a4_5 : decode cJ6_numberOfLeadingZeros_0f7a4 5 = .ok (.ifCond .ne 8, 3) := by decide +kernel
theorem dJ6_numberOfLeadingZeros_0f7a4_8 : decode cJ6_numberOfLeadingZeros_0f7a4 8 = .ok (.bipush 32, 2) := by decide +kernel
theorem dJ6_numberOfLeadingZeros_0f7a4_10 : decode cJ6_numberOfLeadingZeros_0f7a4 10 = .ok (.goto 4, 3) := by decide +kernel
theorem dJ6_numberOfLeadingZeros_0f7a4_13 : decode cJ6_numberOfLeadingZeros_0f7a4 13 = .ok (.iconst 0, 1) := by decide +kernel
theorem dJ6_numberOfLeadingZeros_0f7a4_14 : decode cJ6_numberOfLeadingZeros_0f7a4 14 = .ok (.ireturn, 1) := by decide +kernel
theorem dJ6_numberOfLeadingZeros_0f7a4_15 : decode cJ6_numberOfLeadingZeros_0f7a4 15 = .ok (.bipush 31, 2) := by decide +kernel
theorem dJ6_numberOfLeadingZeros_0f7a4_17 : decode cJ6_numberOfLeadingZeros_0f7a4 17 = .ok (.istore_n 1, 1) := by decide +kernel
theorem dJ6_numberOfLeadingZeros_0f7a4_18 : decode cJ6_numberOfLeadingZeros_0f7a4 18 = .ok (.iload_n 0, 1) := by decide +kernel
theorem dJ6_numberOfLeadingZeros_0f7a4_19 : decode cJ6_numberOfLeadingZeros_0f7a4 19 = .ok (.ldc_w 264, 3) := by decide +kernel
theorem dJ6_numberOfLeadingZeros_0f7a4_22 : decode cJ6_numberOfLeadingZeros_0f7a4 22 = .ok (.if_icmp .lt 11, 3) := by decide +kernel
theorem dJ6_numberOfLeadingZeros_0f7a4_25 : decode cJ6_numberOfLeadingZeros_0f7a4 25 = .ok (.iinc 1 (-16), 3) := by decide +kernel
theorem dJ6_numberOfLeadingZeros_0f7a4_28 : decode cJ6_numberOfLeadingZeros_0f7a4 28 = .ok (.iload_n 0, 1) := by decide +kernel
theorem dJ6_numberOfLeadingZeros_0f7a4_29 : decode cJ6_numberOfLeadingZeros_0f7a4 29 = .ok (.bipush 16, 2) := by decide +kernel
theorem dJ6_numberOfLeadingZeros_0f7a4_31 : decode cJ6_numberOfLeadingZeros_0f7a4 31 = .ok (.iushr, 1) := by decide +kernel
theorem dJ6_numberOfLeadingZeros_0f7a4_32 : decode cJ6_numberOfLeadingZeros_0f7a4 32 = .ok (.istore_n 0, 1) := by decide +kernel
theorem dJ6_numberOfLeadingZeros_0f7a4_33 : decode cJ6_numberOfLeadingZeros_0f7a4 33 = .ok (.iload_n 0, 1) := by decide +kernel
theorem dJ6_numberOfLeadingZeros_0f7a4_34 : decode cJ6_numberOfLeadingZeros_0f7a4 34 = .ok (.sipush 256, 3) := by decide +kernel
theorem dJ6_numberOfLeadingZeros_0f7a4_37 : decode cJ6_numberOfLeadingZeros_0f7a4 37 = .ok (.if_icmp .lt 11, 3) := by decide +kernel
theorem dJ6_numberOfLeadingZeros_0f7a4_40 : decode cJ6_numberOfLeadingZeros_0f7a4 40 = .ok (.iinc 1 (-8), 3) := by decide +kernel
theorem dJ6_numberOfLeadingZeros_0f7a4_43 : decode cJ6_numberOfLeadingZeros_0f7a4 43 = .ok (.iload_n 0, 1) := by decide +kernel
theorem dJ6_numberOfLeadingZeros_0f7a4_44 : decode cJ6_numberOfLeadingZeros_0f7a4 44 = .ok (.bipush 8, 2) := by decide +kernel
theorem dJ6_numberOfLeadingZeros_0f7a4_46 : decode cJ6_numberOfLeadingZeros_0f7a4 46 = .ok (.iushr, 1) := by decide +kernel
theorem dJ6_numberOfLeadingZeros_0f7a4_47 : decode cJ6_numberOfLeadingZeros_0f7a4 47 = .ok (.istore_n 0, 1) := by decide +kernel
theorem dJ6_numberOfLeadingZeros_0f7a4_48 : decode cJ6_numberOfLeadingZeros_0f7a4 48 = .ok (.iload_n 0, 1) := by decide +kernel
theorem dJ6_numberOfLeadingZeros_0f7a4_49 : decode cJ6_numberOfLeadingZeros_0f7a4 49 = .ok (.bipush 16, 2) := by decide +kernel
theorem dJ6_numberOfLeadingZeros_0f7a4_51 : decode cJ6_numberOfLeadingZeros_0f7a4 51 = .ok (.if_icmp .lt 10, 3) := by decide +kernel
theorem dJ6_numberOfLeadingZeros_0f7a4_54 : decode cJ6_numberOfLeadingZeros_0f7a4 54 = .ok (.iinc 1 (-4), 3) := by decide +kernel
theorem dJ6_numberOfLeadingZeros_0f7a4_57 : decode cJ6_numberOfLeadingZeros_0f7a4 57 = .ok (.iload_n 0, 1) := by decide +kernel
theorem dJ6_numberOfLeadingZeros_0f7a4_58 : decode cJ6_numberOfLeadingZeros_0f7a4 58 = .ok (.iconst 4, 1) := by decide +kernel
theorem dJ6_numberOfLeadingZeros_0f7a4_59 : decode cJ6_numberOfLeadingZeros_0f7a4 59 = .ok (.iushr, 1) := by decide +kernel
theorem dJ6_numberOfLeadingZeros_0f7a4_60 : decode cJ6_numberOfLeadingZeros_0f7a4 60 = .ok (.istore_n 0, 1) := by decide +kernel
theorem dJ6_numberOfLeadingZeros_0f7a4_61 : decode cJ6_numberOfLeadingZeros_0f7a4 61 = .ok (.iload_n 0, 1) := by decide +kernel
theorem dJ6_numberOfLeadingZeros_0f7a4_62 : decode cJ6_numberOfLeadingZeros_0f7a4 62 = .ok (.iconst 4, 1) := by decide +kernel
theorem dJ6_numberOfLeadingZeros_0f7a4_63 : decode cJ6_numberOfLeadingZeros_0f7a4 63 = .ok (.if_icmp .lt 10, 3) := by decide +kernel
theorem dJ6_numberOfLeadingZeros_0f7a4_66 : decode cJ6_numberOfLeadingZeros_0f7a4 66 = .ok (.iinc 1 (-2), 3) := by decide +kernel
theorem dJ6_numberOfLeadingZeros_0f7a4_69 : decode cJ6_numberOfLeadingZeros_0f7a4 69 = .ok (.iload_n 0, 1) := by decide +kernel
theorem dJ6_numberOfLeadingZeros_0f7a4_70 : decode cJ6_numberOfLeadingZeros_0f7a4 70 = .ok (.iconst 2, 1) := by decide +kernel
theorem dJ6_numberOfLeadingZeros_0f7a4_71 : decode cJ6_numberOfLeadingZeros_0f7a4 71 = .ok (.iushr, 1) := by decide +kernel
theorem dJ6_numberOfLeadingZeros_0f7a4_72 : decode cJ6_numberOfLeadingZeros_0f7a4 72 = .ok (.istore_n 0, 1) := by decide +kernel
theorem dJ6_numberOfLeadingZeros_0f7a4_73 : decode cJ6_numberOfLeadingZeros_0f7a4 73 = .ok (.iload_n 1, 1) := by decide +kernel
theorem dJ6_numberOfLeadingZeros_0f7a4_74 : decode cJ6_numberOfLeadingZeros_0f7a4 74 = .ok (.iload_n 0, 1) := by decide +kernel
theorem dJ6_numberOfLeadingZeros_0f7a4_75 : decode cJ6_numberOfLeadingZeros_0f7a4 75 = .ok (.iconst 1, 1) := by decide +kernel
theorem dJ6_numberOfLeadingZeros_0f7a4_76 : decode cJ6_numberOfLeadingZeros_0f7a4 76 = .ok (.iushr, 1) := by decide +kernel
theorem dJ6_numberOfLeadingZeros_0f7a4_77 : decode cJ6_numberOfLeadingZeros_0f7a4 77 = .ok (.isub, 1) := by decide +kernel
theorem dJ6_numberOfLeadingZeros_0f7a4_78 : decode cJ6_numberOfLeadingZeros_0f7a4 78 = .ok (.ireturn, 1) := by decide +kernel
theorem dJ13_compare_74951_0 : decode cJ13_compare_74951 0 = .ok (.lload_n 0, 1) := by decide +kernel
theorem dJ13_compare_74951_1 : decode cJ13_compare_74951 1 = .ok (.lload_n 2, 1) := by decide +kernel
theorem dJ13_compare_74951_2 : decode cJ13_compare_74951 2 = .ok (.lcmp, 1) := by decide +kernel
theorem dJ13_compare_74951_3 : decode cJ13_compare_74951 3 = .ok (.ifCond .ge 7, 3) := by decide +kernel
theorem dJ13_compare_74951_6 : decode cJ13_compare_74951 6 = .ok (.iconst (-1), 1) := by decide +kernel
theorem dJ13_compare_74951_7 : decode cJ13_compare_74951 7 = .ok (.goto 14, 3) := by decide +kernel
theorem dJ13_compare_74951_10 : decode cJ13_compare_74951 10 = .ok (.lload_n 0, 1) := by decide +kernel
theorem dJ13_compare_74951_11 : decode cJ13_compare_74951 11 = .ok (.lload_n 2, 1) := by decide +kernel
theorem dJ13_compare_74951_12 : decode cJ13_compare_74951 12 = .ok (.lcmp, 1) := by decide +kernel
theorem dJ13_compare_74951_13 : decode cJ13_compare_74951 13 = .ok (.ifCond .ne 7, 3) := by decide +kernel
theorem dJ13_compare_74951_16 : decode cJ13_compare_74951 16 = .ok (.iconst 0, 1) := by decide +kernel
theorem dJ13_compare_74951_17 : decode cJ13_compare_74951 17 = .ok (.goto 4, 3) := by decide +kernel
theorem dJ13_compare_74951_20 : decode cJ13_compare_74951 20 = .ok (.iconst 1, 1) := by decide +kernel
theorem dJ13_compare_74951_21 : decode cJ13_compare_74951 21 = .ok (.ireturn, 1) := by decide +kernel
theorem dJ13_numberOfLeadingZeros_95d88_0 : decode cJ13_numberOfLeadingZeros_95d88 0 = .ok (.lload_n 0, 1) := by decide +kernel
theorem dJ13_numberOfLeadingZeros_95d88_1 : decode cJ13_numberOfLeadingZeros_95d88 1 = .ok (.bipush 32, 2) := by decide +kernel
theorem dJ13_numberOfLeadingZeros_95d88_3 : decode cJ13_numberOfLeadingZeros_95d88 3 = .ok (.lushr, 1) := by decide +kernel
theorem dJ13_numberOfLeadingZeros_95d88_4 : decode cJ13_numberOfLeadingZeros_95d88 4 = .ok (.l2i, 1) := by decide +kernel
theorem dJ13_numberOfLeadingZeros_95d88_5 : decode cJ13_numberOfLeadingZeros_95d88 5 = .ok (.istore_n 2, 1) := by decide +kernel
theorem dJ13_numberOfLeadingZeros_95d88_6 : decode cJ13_numberOfLeadingZeros_95d88 6 = .ok (.iload_n 2, 1) := by decide +kernel
theorem dJ13_numberOfLeadingZeros_95d88_7 : decode cJ13_numberOfLeadingZeros_95d88 7 = .ok (.ifCond .ne 14, 3) := by decide +kernel
theorem dJ13_numberOfLeadingZeros_95d88_10 : decode cJ13_numberOfLeadingZeros_95d88 10 = .ok (.bipush 32, 2) := by decide +kernel
theorem dJ13_numberOfLeadingZeros_95d88_12 : decode cJ13_numberOfLeadingZeros_95d88 12 = .ok (.lload_n 0, 1) := by decide +kernel
theorem dJ13_numberOfLeadingZeros_95d88_13 : decode cJ13_numberOfLeadingZeros_95d88 13 = .ok (.l2i, 1) := by decide +kernel
theorem dJ13_numberOfLeadingZeros_95d88_14 : decode cJ13_numberOfLeadingZeros_95d88 14 = .ok (.invokestatic 308, 3) := by decide +kernel
theorem dJ13_numberOfLeadingZeros_95d88_17 : decode cJ13_numberOfLeadingZeros_95d88 17 = .ok (.iadd, 1) := by decide +kernel
theorem dJ13_numberOfLeadingZeros_95d88_18 : decode cJ13_numberOfLeadingZeros_95d88 18 = .ok (.goto 7, 3) := by decide +kernel
theorem dJ13_numberOfLeadingZeros_95d88_21 : decode cJ13_numberOfLeadingZeros_95d88 21 = .ok (.iload_n 2, 1) := by decide +kernel
theorem dJ13_numberOfLeadingZeros_95d88_22 : decode cJ13_numberOfLeadingZeros_95d88 22 = .ok (.invokestatic 308, 3) := by decide +kernel
theorem dJ13_numberOfLeadingZeros_95d88_25 : decode cJ13_numberOfLeadingZeros_95d88 25 = .ok (.ireturn, 1) := by decide +kernel
theorem dJ9_abs_067f4_0 : decode cJ9_abs_067f4 0 = .ok (.lload_n 0, 1) := by decide +kernel
theorem dJ9_abs_067f4_1 : decode cJ9_abs_067f4 1 = .ok (.lconst 0, 1) := by decide +kernel
theorem dJ9_abs_067f4_2 : decode cJ9_abs_067f4 2 = .ok (.lcmp, 1) := by decide +kernel
theorem dJ9_abs_067f4_3 : decode cJ9_abs_067f4 3 = .ok (.ifCond .ge 8, 3) := by decide +kernel
theorem dJ9_abs_067f4_6 : decode cJ9_abs_067f4 6 = .ok (.lload_n 0, 1) := by decide +kernel
theorem dJ9_abs_067f4_7 : decode cJ9_abs_067f4 7 = .ok (.lneg, 1) := by decide +kernel
theorem dJ9_abs_067f4_8 : decode cJ9_abs_067f4 8 = .ok (.goto 4, 3) := by decide +kernel
theorem dJ9_abs_067f4_11 : decode cJ9_abs_067f4 11 = .ok (.lload_n 0, 1) := by decide +kernel
theorem dJ9_abs_067f4_12 : decode cJ9_abs_067f4 12 = .ok (.lreturn, 1) := by decide +kernel
theorem dJ9_max_7cf53_0 : decode cJ9_max_7cf53 0 = .ok (.iload_n 0, 1) := by decide +kernel
theorem dJ9_max_7cf53_1 : decode cJ9_max_7cf53 1 = .ok (.iload_n 1, 1) := by decide +kernel
theorem dJ9_max_7cf53_2 : decode cJ9_max_7cf53 2 = .ok (.if_icmp .lt 7, 3) := by decide +kernel
theorem dJ9_max_7cf53_5 : decode cJ9_max_7cf53 5 = .ok (.iload_n 0, 1) := by decide +kernel
theorem dJ9_max_7cf53_6 : decode cJ9_max_7cf53 6 = .ok (.goto 4, 3) := by decide +kernel
theorem dJ9_max_7cf53_9 : decode cJ9_max_7cf53 9 = .ok (.iload_n 1, 1) := by decide +kernel
theorem dJ9_max_7cf53_10 : decode cJ9_max_7cf53 10 = .ok (.ireturn, 1) := by decide +kernel
theorem dJ9_max_f86c9_0 : decode cJ9_max_f86c9 0 = .ok (.lload_n 0, 1) := by decide +kernel
theorem dJ9_max_f86c9_1 : decode cJ9_max_f86c9 1 = .ok (.lload_n 2, 1) := by decide +kernel
theorem dJ9_max_f86c9_2 : decode cJ9_max_f86c9 2 = .ok (.lcmp, 1) := by decide +kernel
theorem dJ9_max_f86c9_3 : decode cJ9_max_f86c9 3 = .ok (.ifCond .lt 7, 3) := by decide +kernel
theorem dJ9_max_f86c9_6 : decode cJ9_max_f86c9 6 = .ok (.lload_n 0, 1) := by decide +kernel
theorem dJ9_max_f86c9_7 : decode cJ9_max_f86c9 7 = .ok (.goto 4, 3) := by decide +kernel
theorem dJ9_max_f86c9_10 : decode cJ9_max_f86c9 10 = .ok (.lload_n 2, 1) := by decide +kernel
theorem dJ9_max_f86c9_11 : decode cJ9_max_f86c9 11 = .ok (.lreturn, 1) := by decide +kernel
theorem dJ9_min_7cf53_0 : decode cJ9_min_7cf53 0 = .ok (.iload_n 0, 1) := by decide +kernel
theorem dJ9_min_7cf53_1 : decode cJ9_min_7cf53 1 = .ok (.iload_n 1, 1) := by decide +kernel
theorem dJ9_min_7cf53_2 : decode cJ9_min_7cf53 2 = .ok (.if_icmp .gt 7, 3) := by decide +kernel
theorem dJ9_min_7cf53_5 : decode cJ9_min_7cf53 5 = .ok (.iload_n 0, 1) := by decide +kernel
theorem dJ9_min_7cf53_6 : decode cJ9_min_7cf53 6 = .ok (.goto 4, 3) := by decide +kernel
theorem dJ9_min_7cf53_9 : decode cJ9_min_7cf53 9 = .ok (.iload_n 1, 1) := by decide +kernel
theorem dJ9_min_7cf53_10 : decode cJ9_min_7cf53 10 = .ok (.ireturn, 1) := by decide +kernel
theorem dJ9_min_f86c9_0 : decode cJ9_min_f86c9 0 = .ok (.lload_n 0, 1) := by decide +kernel
theorem dJ9_min_f86c9_1 : decode cJ9_min_f86c9 1 = .ok (.lload_n 2, 1) := by decide +kernel
theorem dJ9_min_f86c9_2 : decode cJ9_min_f86c9 2 = .ok (.lcmp, 1) := by decide +kernel
theorem dJ9_min_f86c9_3 : decode cJ9_min_f86c9 3 = .ok (.ifCond .gt 7, 3) := by decide +kernel
theorem dJ9_min_f86c9_6 : decode cJ9_min_f86c9 6 = .ok (.lload_n 0, 1) := by decide +kernel
theorem dJ9_min_f86c9_7 : decode cJ9_min_f86c9 7 = .ok (.goto 4, 3) := by decide +kernel
theorem dJ9_min_f86c9_10 : decode cJ9_min_f86c9 10 = .ok (.lload_n 2, 1) := by decide +kernel
theorem dJ9_min_f86c9_11 : decode cJ9_min_f86c9 11 = .ok (.lreturn, 1) := by decide +kernel
theorem dL_law_0 : decode cL_law 0 = .ok (.new 7, 3) := by decide +kernel
theorem dL_law_3 : decode cL_law 3 = .ok (.dup, 1) := by decide +kernel
theorem dL_law_4 : decode cL_law 4 = .ok (.invokespecial 9, 3) := by decide +kernel
theorem dL_law_7 : decode cL_law 7 = .ok (.astore_n 1, 1) := by decide +kernel
theorem dL_law_8 : decode cL_law 8 = .ok (.new 10, 3) := by decide +kernel
theorem dL_law_11 : decode cL_law 11 = .ok (.dup, 1) := by decide +kernel
theorem dL_law_12 : decode cL_law 12 = .ok (.invokespecial 12, 3) := by decide +kernel
theorem dL_law_15 : decode cL_law 15 = .ok (.astore_n 2, 1) := by decide +kernel
theorem dL_law_16 : decode cL_law 16 = .ok (.iconst 0, 1) := by decide +kernel
theorem dL_law_17 : decode cL_law 17 = .ok (.istore_n 3, 1) := by decide +kernel
theorem dL_law_18 : decode cL_law 18 = .ok (.iload_n 3, 1) := by decide +kernel
theorem dL_law_19 : decode cL_law 19 = .ok (.aload_n 0, 1) := by decide +kernel
theorem dL_law_20 : decode cL_law 20 = .ok (.arraylength, 1) := by decide +kernel
theorem dL_law_21 : decode cL_law 21 = .ok (.bipush 6, 2) := by decide +kernel
theorem dL_law_23 : decode cL_law 23 = .ok (.isub, 1) := by decide +kernel
theorem dL_law_24 : decode cL_law 24 = .ok (.if_icmp .gt 924, 3) := by decide +kernel
theorem dL_law_27 : decode cL_law 27 = .ok (.aload_n 0, 1) := by decide +kernel
theorem dL_law_28 : decode cL_law 28 = .ok (.iload_n 3, 1) := by decide +kernel
theorem dL_law_29 : decode cL_law 29 = .ok (.iaload, 1) := by decide +kernel
theorem dL_law_30 : decode cL_law 30 = .ok (.bipush 31, 2) := by decide +kernel
theorem dL_law_32 : decode cL_law 32 = .ok (.iand, 1) := by decide +kernel
theorem dL_law_33 : decode cL_law 33 = .ok (.tableswitch 909 0 19 #[95, 168, 251, 294, 347, 380, 423, 446, 479, 522, 565, 598, 661, 704, 727, 751, 774, 818, 852, 886], 95) := by decide +kernel
theorem dL_law_128 : decode cL_law 128 = .ok (.aload_n 1, 1) := by decide +kernel
theorem dL_law_129 : decode cL_law 129 = .ok (.aload_n 0, 1) := by decide +kernel
theorem dL_law_130 : decode cL_law 130 = .ok (.iload_n 3, 1) := by decide +kernel
theorem dL_law_131 : decode cL_law 131 = .ok (.iconst 1, 1) := by decide +kernel
theorem dL_law_132 : decode cL_law 132 = .ok (.iadd, 1) := by decide +kernel
theorem dL_law_133 : decode cL_law 133 = .ok (.iaload, 1) := by decide +kernel
theorem dL_law_134 : decode cL_law 134 = .ok (.aload_n 0, 1) := by decide +kernel
theorem dL_law_135 : decode cL_law 135 = .ok (.iload_n 3, 1) := by decide +kernel
theorem dL_law_136 : decode cL_law 136 = .ok (.iconst 2, 1) := by decide +kernel
theorem dL_law_137 : decode cL_law 137 = .ok (.iadd, 1) := by decide +kernel
theorem dL_law_138 : decode cL_law 138 = .ok (.iaload, 1) := by decide +kernel
theorem dL_law_139 : decode cL_law 139 = .ok (.aload_n 0, 1) := by decide +kernel
theorem dL_law_140 : decode cL_law 140 = .ok (.iload_n 3, 1) := by decide +kernel
theorem dL_law_141 : decode cL_law 141 = .ok (.iconst 3, 1) := by decide +kernel
theorem dL_law_142 : decode cL_law 142 = .ok (.iadd, 1) := by decide +kernel
theorem dL_law_143 : decode cL_law 143 = .ok (.iaload, 1) := by decide +kernel
theorem dL_law_144 : decode cL_law 144 = .ok (.i2l, 1) := by decide +kernel
theorem dL_law_145 : decode cL_law 145 = .ok (.bipush 32, 2) := by decide +kernel
theorem dL_law_147 : decode cL_law 147 = .ok (.lshl, 1) := by decide +kernel
theorem dL_law_148 : decode cL_law 148 = .ok (.aload_n 0, 1) := by decide +kernel
theorem dL_law_149 : decode cL_law 149 = .ok (.iload_n 3, 1) := by decide +kernel
theorem dL_law_150 : decode cL_law 150 = .ok (.iconst 4, 1) := by decide +kernel
theorem dL_law_151 : decode cL_law 151 = .ok (.iadd, 1) := by decide +kernel
theorem dL_law_152 : decode cL_law 152 = .ok (.iaload, 1) := by decide +kernel
theorem dL_law_153 : decode cL_law 153 = .ok (.i2l, 1) := by decide +kernel
theorem dL_law_154 : decode cL_law 154 = .ok (.ldc2_w 13, 3) := by decide +kernel
theorem dL_law_157 : decode cL_law 157 = .ok (.land, 1) := by decide +kernel
theorem dL_law_158 : decode cL_law 158 = .ok (.lor, 1) := by decide +kernel
theorem dL_law_159 : decode cL_law 159 = .ok (.invokevirtual 15, 3) := by decide +kernel
theorem dL_law_162 : decode cL_law 162 = .ok (.aload_n 2, 1) := by decide +kernel
theorem dL_law_163 : decode cL_law 163 = .ok (.aload_n 0, 1) := by decide +kernel
theorem dL_law_164 : decode cL_law 164 = .ok (.iload_n 3, 1) := by decide +kernel
theorem dL_law_165 : decode cL_law 165 = .ok (.iconst 1, 1) := by decide +kernel
theorem dL_law_166 : decode cL_law 166 = .ok (.iadd, 1) := by decide +kernel
theorem dL_law_167 : decode cL_law 167 = .ok (.iaload, 1) := by decide +kernel
theorem dL_law_168 : decode cL_law 168 = .ok (.aload_n 0, 1) := by decide +kernel
theorem dL_law_169 : decode cL_law 169 = .ok (.iload_n 3, 1) := by decide +kernel
theorem dL_law_170 : decode cL_law 170 = .ok (.iconst 2, 1) := by decide +kernel
theorem dL_law_171 : decode cL_law 171 = .ok (.iadd, 1) := by decide +kernel
theorem dL_law_172 : decode cL_law 172 = .ok (.iaload, 1) := by decide +kernel
theorem dL_law_173 : decode cL_law 173 = .ok (.aload_n 0, 1) := by decide +kernel
theorem dL_law_174 : decode cL_law 174 = .ok (.iload_n 3, 1) := by decide +kernel
theorem dL_law_175 : decode cL_law 175 = .ok (.iconst 3, 1) := by decide +kernel
theorem dL_law_176 : decode cL_law 176 = .ok (.iadd, 1) := by decide +kernel
theorem dL_law_177 : decode cL_law 177 = .ok (.iaload, 1) := by decide +kernel
theorem dL_law_178 : decode cL_law 178 = .ok (.i2l, 1) := by decide +kernel
theorem dL_law_179 : decode cL_law 179 = .ok (.bipush 32, 2) := by decide +kernel
theorem dL_law_181 : decode cL_law 181 = .ok (.lshl, 1) := by decide +kernel
theorem dL_law_182 : decode cL_law 182 = .ok (.aload_n 0, 1) := by decide +kernel
theorem dL_law_183 : decode cL_law 183 = .ok (.iload_n 3, 1) := by decide +kernel
theorem dL_law_184 : decode cL_law 184 = .ok (.iconst 4, 1) := by decide +kernel
theorem dL_law_185 : decode cL_law 185 = .ok (.iadd, 1) := by decide +kernel
theorem dL_law_186 : decode cL_law 186 = .ok (.iaload, 1) := by decide +kernel
theorem dL_law_187 : decode cL_law 187 = .ok (.i2l, 1) := by decide +kernel
theorem dL_law_188 : decode cL_law 188 = .ok (.ldc2_w 13, 3) := by decide +kernel
theorem dL_law_191 : decode cL_law 191 = .ok (.land, 1) := by decide +kernel
theorem dL_law_192 : decode cL_law 192 = .ok (.lor, 1) := by decide +kernel
theorem dL_law_193 : decode cL_law 193 = .ok (.invokevirtual 19, 3) := by decide +kernel
theorem dL_law_196 : decode cL_law 196 = .ok (.if_icmp .eq 746, 3) := by decide +kernel
theorem dL_law_199 : decode cL_law 199 = .ok (.iconst 0, 1) := by decide +kernel
theorem dL_law_200 : decode cL_law 200 = .ok (.ireturn, 1) := by decide +kernel
theorem dL_law_201 : decode cL_law 201 = .ok (.aload_n 1, 1) := by decide +kernel
theorem dL_law_202 : decode cL_law 202 = .ok (.aload_n 0, 1) := by decide +kernel
theorem dL_law_203 : decode cL_law 203 = .ok (.iload_n 3, 1) := by decide +kernel
theorem dL_law_204 : decode cL_law 204 = .ok (.iconst 1, 1) := by decide +kernel
theorem dL_law_205 : decode cL_law 205 = .ok (.iadd, 1) := by decide +kernel
theorem dL_law_206 : decode cL_law 206 = .ok (.iaload, 1) := by decide +kernel
theorem dL_law_207 : decode cL_law 207 = .ok (.aload_n 0, 1) := by decide +kernel
theorem dL_law_208 : decode cL_law 208 = .ok (.iload_n 3, 1) := by decide +kernel
theorem dL_law_209 : decode cL_law 209 = .ok (.iconst 2, 1) := by decide +kernel
theorem dL_law_210 : decode cL_law 210 = .ok (.iadd, 1) := by decide +kernel
theorem dL_law_211 : decode cL_law 211 = .ok (.iaload, 1) := by decide +kernel
theorem dL_law_212 : decode cL_law 212 = .ok (.aload_n 0, 1) := by decide +kernel
theorem dL_law_213 : decode cL_law 213 = .ok (.iload_n 3, 1) := by decide +kernel
theorem dL_law_214 : decode cL_law 214 = .ok (.iconst 3, 1) := by decide +kernel
theorem dL_law_215 : decode cL_law 215 = .ok (.iadd, 1) := by decide +kernel
theorem dL_law_216 : decode cL_law 216 = .ok (.iaload, 1) := by decide +kernel
theorem dL_law_217 : decode cL_law 217 = .ok (.i2l, 1) := by decide +kernel
theorem dL_law_218 : decode cL_law 218 = .ok (.bipush 32, 2) := by decide +kernel
theorem dL_law_220 : decode cL_law 220 = .ok (.lshl, 1) := by decide +kernel
theorem dL_law_221 : decode cL_law 221 = .ok (.aload_n 0, 1) := by decide +kernel
theorem dL_law_222 : decode cL_law 222 = .ok (.iload_n 3, 1) := by decide +kernel
theorem dL_law_223 : decode cL_law 223 = .ok (.iconst 4, 1) := by decide +kernel
theorem dL_law_224 : decode cL_law 224 = .ok (.iadd, 1) := by decide +kernel
theorem dL_law_225 : decode cL_law 225 = .ok (.iaload, 1) := by decide +kernel
theorem dL_law_226 : decode cL_law 226 = .ok (.i2l, 1) := by decide +kernel
theorem dL_law_227 : decode cL_law 227 = .ok (.ldc2_w 13, 3) := by decide +kernel
theorem dL_law_230 : decode cL_law 230 = .ok (.land, 1) := by decide +kernel
theorem dL_law_231 : decode cL_law 231 = .ok (.lor, 1) := by decide +kernel
theorem dL_law_232 : decode cL_law 232 = .ok (.aload_n 0, 1) := by decide +kernel
theorem dL_law_233 : decode cL_law 233 = .ok (.iload_n 3, 1) := by decide +kernel
theorem dL_law_234 : decode cL_law 234 = .ok (.iconst 5, 1) := by decide +kernel
theorem dL_law_235 : decode cL_law 235 = .ok (.iadd, 1) := by decide +kernel
theorem dL_law_236 : decode cL_law 236 = .ok (.iaload, 1) := by decide +kernel
theorem dL_law_237 : decode cL_law 237 = .ok (.invokevirtual 20, 3) := by decide +kernel
theorem dL_law_240 : decode cL_law 240 = .ok (.aload_n 2, 1) := by decide +kernel
theorem dL_law_241 : decode cL_law 241 = .ok (.aload_n 0, 1) := by decide +kernel
theorem dL_law_242 : decode cL_law 242 = .ok (.iload_n 3, 1) := by decide +kernel
theorem dL_law_243 : decode cL_law 243 = .ok (.iconst 1, 1) := by decide +kernel
theorem dL_law_244 : decode cL_law 244 = .ok (.iadd, 1) := by decide +kernel
theorem dL_law_245 : decode cL_law 245 = .ok (.iaload, 1) := by decide +kernel
theorem dL_law_246 : decode cL_law 246 = .ok (.aload_n 0, 1) := by decide +kernel
theorem dL_law_247 : decode cL_law 247 = .ok (.iload_n 3, 1) := by decide +kernel
theorem dL_law_248 : decode cL_law 248 = .ok (.iconst 2, 1) := by decide +kernel
theorem dL_law_249 : decode cL_law 249 = .ok (.iadd, 1) := by decide +kernel
theorem dL_law_250 : decode cL_law 250 = .ok (.iaload, 1) := by decide +kernel
theorem dL_law_251 : decode cL_law 251 = .ok (.aload_n 0, 1) := by decide +kernel
theorem dL_law_252 : decode cL_law 252 = .ok (.iload_n 3, 1) := by decide +kernel
theorem dL_law_253 : decode cL_law 253 = .ok (.iconst 3, 1) := by decide +kernel
theorem dL_law_254 : decode cL_law 254 = .ok (.iadd, 1) := by decide +kernel
theorem dL_law_255 : decode cL_law 255 = .ok (.iaload, 1) := by decide +kernel
theorem dL_law_256 : decode cL_law 256 = .ok (.i2l, 1) := by decide +kernel
theorem dL_law_257 : decode cL_law 257 = .ok (.bipush 32, 2) := by decide +kernel
theorem dL_law_259 : decode cL_law 259 = .ok (.lshl, 1) := by decide +kernel
theorem dL_law_260 : decode cL_law 260 = .ok (.aload_n 0, 1) := by decide +kernel
theorem dL_law_261 : decode cL_law 261 = .ok (.iload_n 3, 1) := by decide +kernel
theorem dL_law_262 : decode cL_law 262 = .ok (.iconst 4, 1) := by decide +kernel
theorem dL_law_263 : decode cL_law 263 = .ok (.iadd, 1) := by decide +kernel
theorem dL_law_264 : decode cL_law 264 = .ok (.iaload, 1) := by decide +kernel
theorem dL_law_265 : decode cL_law 265 = .ok (.i2l, 1) := by decide +kernel
theorem dL_law_266 : decode cL_law 266 = .ok (.ldc2_w 13, 3) := by decide +kernel
theorem dL_law_269 : decode cL_law 269 = .ok (.land, 1) := by decide +kernel
theorem dL_law_270 : decode cL_law 270 = .ok (.lor, 1) := by decide +kernel
theorem dL_law_271 : decode cL_law 271 = .ok (.aload_n 0, 1) := by decide +kernel
theorem dL_law_272 : decode cL_law 272 = .ok (.iload_n 3, 1) := by decide +kernel
theorem dL_law_273 : decode cL_law 273 = .ok (.iconst 5, 1) := by decide +kernel
theorem dL_law_274 : decode cL_law 274 = .ok (.iadd, 1) := by decide +kernel
theorem dL_law_275 : decode cL_law 275 = .ok (.iaload, 1) := by decide +kernel
theorem dL_law_276 : decode cL_law 276 = .ok (.invokevirtual 24, 3) := by decide +kernel
theorem dL_law_279 : decode cL_law 279 = .ok (.if_icmp .eq 663, 3) := by decide +kernel
theorem dL_law_282 : decode cL_law 282 = .ok (.iconst 0, 1) := by decide +kernel
theorem dL_law_283 : decode cL_law 283 = .ok (.ireturn, 1) := by decide +kernel
theorem dL_law_284 : decode cL_law 284 = .ok (.aload_n 1, 1) := by decide +kernel
theorem dL_law_285 : decode cL_law 285 = .ok (.aload_n 0, 1) := by decide +kernel
theorem dL_law_286 : decode cL_law 286 = .ok (.iload_n 3, 1) := by decide +kernel
theorem dL_law_287 : decode cL_law 287 = .ok (.iconst 1, 1) := by decide +kernel
theorem dL_law_288 : decode cL_law 288 = .ok (.iadd, 1) := by decide +kernel
theorem dL_law_289 : decode cL_law 289 = .ok (.iaload, 1) := by decide +kernel
theorem dL_law_290 : decode cL_law 290 = .ok (.aload_n 0, 1) := by decide +kernel
theorem dL_law_291 : decode cL_law 291 = .ok (.iload_n 3, 1) := by decide +kernel
theorem dL_law_292 : decode cL_law 292 = .ok (.iconst 2, 1) := by decide +kernel
theorem dL_law_293 : decode cL_law 293 = .ok (.iadd, 1) := by decide +kernel
theorem dL_law_294 : decode cL_law 294 = .ok (.iaload, 1) := by decide +kernel
theorem dL_law_295 : decode cL_law 295 = .ok (.aload_n 0, 1) := by decide +kernel
theorem dL_law_296 : decode cL_law 296 = .ok (.iload_n 3, 1) := by decide +kernel
theorem dL_law_297 : decode cL_law 297 = .ok (.iconst 3, 1) := by decide +kernel
theorem dL_law_298 : decode cL_law 298 = .ok (.iadd, 1) := by decide +kernel
theorem dL_law_299 : decode cL_law 299 = .ok (.iaload, 1) := by decide +kernel
theorem dL_law_300 : decode cL_law 300 = .ok (.invokevirtual 25, 3) := by decide +kernel
theorem dL_law_303 : decode cL_law 303 = .ok (.aload_n 2, 1) := by decide +kernel
theorem dL_law_304 : decode cL_law 304 = .ok (.aload_n 0, 1) := by decide +kernel
theorem dL_law_305 : decode cL_law 305 = .ok (.iload_n 3, 1) := by decide +kernel
theorem dL_law_306 : decode cL_law 306 = .ok (.iconst 1, 1) := by decide +kernel
theorem dL_law_307 : decode cL_law 307 = .ok (.iadd, 1) := by decide +kernel
theorem dL_law_308 : decode cL_law 308 = .ok (.iaload, 1) := by decide +kernel
theorem dL_law_309 : decode cL_law 309 = .ok (.aload_n 0, 1) := by decide +kernel
theorem dL_law_310 : decode cL_law 310 = .ok (.iload_n 3, 1) := by decide +kernel
theorem dL_law_311 : decode cL_law 311 = .ok (.iconst 2, 1) := by decide +kernel
theorem dL_law_312 : decode cL_law 312 = .ok (.iadd, 1) := by decide +kernel
theorem dL_law_313 : decode cL_law 313 = .ok (.iaload, 1) := by decide +kernel
theorem dL_law_314 : decode cL_law 314 = .ok (.aload_n 0, 1) := by decide +kernel
theorem dL_law_315 : decode cL_law 315 = .ok (.iload_n 3, 1) := by decide +kernel
theorem dL_law_316 : decode cL_law 316 = .ok (.iconst 3, 1) := by decide +kernel
theorem dL_law_317 : decode cL_law 317 = .ok (.iadd, 1) := by decide +kernel
theorem dL_law_318 : decode cL_law 318 = .ok (.iaload, 1) := by decide +kernel
theorem dL_law_319 : decode cL_law 319 = .ok (.invokevirtual 29, 3) := by decide +kernel
theorem dL_law_322 : decode cL_law 322 = .ok (.if_icmp .eq 620, 3) := by decide +kernel
theorem dL_law_325 : decode cL_law 325 = .ok (.iconst 0, 1) := by decide +kernel
theorem dL_law_326 : decode cL_law 326 = .ok (.ireturn, 1) := by decide +kernel
theorem dL_law_327 : decode cL_law 327 = .ok (.aload_n 1, 1) := by decide +kernel
theorem dL_law_328 : decode cL_law 328 = .ok (.aload_n 0, 1) := by decide +kernel
theorem dL_law_329 : decode cL_law 329 = .ok (.iload_n 3, 1) := by decide +kernel
theorem dL_law_330 : decode cL_law 330 = .ok (.iconst 1, 1) := by decide +kernel
theorem dL_law_331 : decode cL_law 331 = .ok (.iadd, 1) := by decide +kernel
theorem dL_law_332 : decode cL_law 332 = .ok (.iaload, 1) := by decide +kernel
theorem dL_law_333 : decode cL_law 333 = .ok (.aload_n 0, 1) := by decide +kernel
theorem dL_law_334 : decode cL_law 334 = .ok (.iload_n 3, 1) := by decide +kernel
theorem dL_law_335 : decode cL_law 335 = .ok (.iconst 2, 1) := by decide +kernel
theorem dL_law_336 : decode cL_law 336 = .ok (.iadd, 1) := by decide +kernel
theorem dL_law_337 : decode cL_law 337 = .ok (.iaload, 1) := by decide +kernel
theorem dL_law_338 : decode cL_law 338 = .ok (.aload_n 0, 1) := by decide +kernel
theorem dL_law_339 : decode cL_law 339 = .ok (.iload_n 3, 1) := by decide +kernel
theorem dL_law_340 : decode cL_law 340 = .ok (.iconst 3, 1) := by decide +kernel
theorem dL_law_341 : decode cL_law 341 = .ok (.iadd, 1) := by decide +kernel
theorem dL_law_342 : decode cL_law 342 = .ok (.iaload, 1) := by decide +kernel
theorem dL_law_343 : decode cL_law 343 = .ok (.aload_n 0, 1) := by decide +kernel
theorem dL_law_344 : decode cL_law 344 = .ok (.iload_n 3, 1) := by decide +kernel
theorem dL_law_345 : decode cL_law 345 = .ok (.iconst 4, 1) := by decide +kernel
theorem dL_law_346 : decode cL_law 346 = .ok (.iadd, 1) := by decide +kernel
theorem dL_law_347 : decode cL_law 347 = .ok (.iaload, 1) := by decide +kernel
theorem dL_law_348 : decode cL_law 348 = .ok (.invokevirtual 30, 3) := by decide +kernel
theorem dL_law_351 : decode cL_law 351 = .ok (.aload_n 2, 1) := by decide +kernel
theorem dL_law_352 : decode cL_law 352 = .ok (.aload_n 0, 1) := by decide +kernel
theorem dL_law_353 : decode cL_law 353 = .ok (.iload_n 3, 1) := by decide +kernel
theorem dL_law_354 : decode cL_law 354 = .ok (.iconst 1, 1) := by decide +kernel
theorem dL_law_355 : decode cL_law 355 = .ok (.iadd, 1) := by decide +kernel
theorem dL_law_356 : decode cL_law 356 = .ok (.iaload, 1) := by decide +kernel
theorem dL_law_357 : decode cL_law 357 = .ok (.aload_n 0, 1) := by decide +kernel
theorem dL_law_358 : decode cL_law 358 = .ok (.iload_n 3, 1) := by decide +kernel
theorem dL_law_359 : decode cL_law 359 = .ok (.iconst 2, 1) := by decide +kernel
theorem dL_law_360 : decode cL_law 360 = .ok (.iadd, 1) := by decide +kernel
theorem dL_law_361 : decode cL_law 361 = .ok (.iaload, 1) := by decide +kernel
theorem dL_law_362 : decode cL_law 362 = .ok (.aload_n 0, 1) := by decide +kernel
theorem dL_law_363 : decode cL_law 363 = .ok (.iload_n 3, 1) := by decide +kernel
theorem dL_law_364 : decode cL_law 364 = .ok (.iconst 3, 1) := by decide +kernel
theorem dL_law_365 : decode cL_law 365 = .ok (.iadd, 1) := by decide +kernel
theorem dL_law_366 : decode cL_law 366 = .ok (.iaload, 1) := by decide +kernel
theorem dL_law_367 : decode cL_law 367 = .ok (.aload_n 0, 1) := by decide +kernel
theorem dL_law_368 : decode cL_law 368 = .ok (.iload_n 3, 1) := by decide +kernel
theorem dL_law_369 : decode cL_law 369 = .ok (.iconst 4, 1) := by decide +kernel
theorem dL_law_370 : decode cL_law 370 = .ok (.iadd, 1) := by decide +kernel
theorem dL_law_371 : decode cL_law 371 = .ok (.iaload, 1) := by decide +kernel
theorem dL_law_372 : decode cL_law 372 = .ok (.invokevirtual 34, 3) := by decide +kernel
theorem dL_law_375 : decode cL_law 375 = .ok (.if_icmp .eq 567, 3) := by decide +kernel
theorem dL_law_378 : decode cL_law 378 = .ok (.iconst 0, 1) := by decide +kernel
theorem dL_law_379 : decode cL_law 379 = .ok (.ireturn, 1) := by decide +kernel
theorem dL_law_380 : decode cL_law 380 = .ok (.aload_n 1, 1) := by decide +kernel
theorem dL_law_381 : decode cL_law 381 = .ok (.aload_n 0, 1) := by decide +kernel
theorem dL_law_382 : decode cL_law 382 = .ok (.iload_n 3, 1) := by decide +kernel
theorem dL_law_383 : decode cL_law 383 = .ok (.iconst 1, 1) := by decide +kernel
theorem dL_law_384 : decode cL_law 384 = .ok (.iadd, 1) := by decide +kernel
theorem dL_law_385 : decode cL_law 385 = .ok (.iaload, 1) := by decide +kernel
theorem dL_law_386 : decode cL_law 386 = .ok (.aload_n 0, 1) := by decide +kernel
theorem dL_law_387 : decode cL_law 387 = .ok (.iload_n 3, 1) := by decide +kernel
theorem dL_law_388 : decode cL_law 388 = .ok (.iconst 2, 1) := by decide +kernel
theorem dL_law_389 : decode cL_law 389 = .ok (.iadd, 1) := by decide +kernel
theorem dL_law_390 : decode cL_law 390 = .ok (.iaload, 1) := by decide +kernel
theorem dL_law_391 : decode cL_law 391 = .ok (.invokevirtual 35, 3) := by decide +kernel
theorem dL_law_394 : decode cL_law 394 = .ok (.aload_n 2, 1) := by decide +kernel
theorem dL_law_395 : decode cL_law 395 = .ok (.aload_n 0, 1) := by decide +kernel
theorem dL_law_396 : decode cL_law 396 = .ok (.iload_n 3, 1) := by decide +kernel
theorem dL_law_397 : decode cL_law 397 = .ok (.iconst 1, 1) := by decide +kernel
theorem dL_law_398 : decode cL_law 398 = .ok (.iadd, 1) := by decide +kernel
theorem dL_law_399 : decode cL_law 399 = .ok (.iaload, 1) := by decide +kernel
theorem dL_law_400 : decode cL_law 400 = .ok (.aload_n 0, 1) := by decide +kernel
theorem dL_law_401 : decode cL_law 401 = .ok (.iload_n 3, 1) := by decide +kernel
theorem dL_law_402 : decode cL_law 402 = .ok (.iconst 2, 1) := by decide +kernel
theorem dL_law_403 : decode cL_law 403 = .ok (.iadd, 1) := by decide +kernel
theorem dL_law_404 : decode cL_law 404 = .ok (.iaload, 1) := by decide +kernel
theorem dL_law_405 : decode cL_law 405 = .ok (.invokevirtual 39, 3) := by decide +kernel
theorem dL_law_408 : decode cL_law 408 = .ok (.if_icmp .eq 534, 3) := by decide +kernel
theorem dL_law_411 : decode cL_law 411 = .ok (.iconst 0, 1) := by decide +kernel
theorem dL_law_412 : decode cL_law 412 = .ok (.ireturn, 1) := by decide +kernel
theorem dL_law_413 : decode cL_law 413 = .ok (.aload_n 1, 1) := by decide +kernel
theorem dL_law_414 : decode cL_law 414 = .ok (.aload_n 0, 1) := by decide +kernel
theorem dL_law_415 : decode cL_law 415 = .ok (.iload_n 3, 1) := by decide +kernel
theorem dL_law_416 : decode cL_law 416 = .ok (.iconst 1, 1) := by decide +kernel
theorem dL_law_417 : decode cL_law 417 = .ok (.iadd, 1) := by decide +kernel
theorem dL_law_418 : decode cL_law 418 = .ok (.iaload, 1) := by decide +kernel
theorem dL_law_419 : decode cL_law 419 = .ok (.aload_n 0, 1) := by decide +kernel
theorem dL_law_420 : decode cL_law 420 = .ok (.iload_n 3, 1) := by decide +kernel
theorem dL_law_421 : decode cL_law 421 = .ok (.iconst 2, 1) := by decide +kernel
theorem dL_law_422 : decode cL_law 422 = .ok (.iadd, 1) := by decide +kernel
theorem dL_law_423 : decode cL_law 423 = .ok (.iaload, 1) := by decide +kernel
theorem dL_law_424 : decode cL_law 424 = .ok (.aload_n 0, 1) := by decide +kernel
theorem dL_law_425 : decode cL_law 425 = .ok (.iload_n 3, 1) := by decide +kernel
theorem dL_law_426 : decode cL_law 426 = .ok (.iconst 3, 1) := by decide +kernel
theorem dL_law_427 : decode cL_law 427 = .ok (.iadd, 1) := by decide +kernel
theorem dL_law_428 : decode cL_law 428 = .ok (.iaload, 1) := by decide +kernel
theorem dL_law_429 : decode cL_law 429 = .ok (.invokevirtual 40, 3) := by decide +kernel
theorem dL_law_432 : decode cL_law 432 = .ok (.aload_n 2, 1) := by decide +kernel
theorem dL_law_433 : decode cL_law 433 = .ok (.aload_n 0, 1) := by decide +kernel
theorem dL_law_434 : decode cL_law 434 = .ok (.iload_n 3, 1) := by decide +kernel
theorem dL_law_435 : decode cL_law 435 = .ok (.iconst 1, 1) := by decide +kernel
theorem dL_law_436 : decode cL_law 436 = .ok (.iadd, 1) := by decide +kernel
theorem dL_law_437 : decode cL_law 437 = .ok (.iaload, 1) := by decide +kernel
theorem dL_law_438 : decode cL_law 438 = .ok (.aload_n 0, 1) := by decide +kernel
theorem dL_law_439 : decode cL_law 439 = .ok (.iload_n 3, 1) := by decide +kernel
theorem dL_law_440 : decode cL_law 440 = .ok (.iconst 2, 1) := by decide +kernel
theorem dL_law_441 : decode cL_law 441 = .ok (.iadd, 1) := by decide +kernel
theorem dL_law_442 : decode cL_law 442 = .ok (.iaload, 1) := by decide +kernel
theorem dL_law_443 : decode cL_law 443 = .ok (.aload_n 0, 1) := by decide +kernel
theorem dL_law_444 : decode cL_law 444 = .ok (.iload_n 3, 1) := by decide +kernel
theorem dL_law_445 : decode cL_law 445 = .ok (.iconst 3, 1) := by decide +kernel
theorem dL_law_446 : decode cL_law 446 = .ok (.iadd, 1) := by decide +kernel
theorem dL_law_447 : decode cL_law 447 = .ok (.iaload, 1) := by decide +kernel
theorem dL_law_448 : decode cL_law 448 = .ok (.invokevirtual 43, 3) := by decide +kernel
theorem dL_law_451 : decode cL_law 451 = .ok (.if_icmp .eq 491, 3) := by decide +kernel
theorem dL_law_454 : decode cL_law 454 = .ok (.iconst 0, 1) := by decide +kernel
theorem dL_law_455 : decode cL_law 455 = .ok (.ireturn, 1) := by decide +kernel
theorem dL_law_456 : decode cL_law 456 = .ok (.aload_n 1, 1) := by decide +kernel
theorem dL_law_457 : decode cL_law 457 = .ok (.aload_n 0, 1) := by decide +kernel
theorem dL_law_458 : decode cL_law 458 = .ok (.iload_n 3, 1) := by decide +kernel
theorem dL_law_459 : decode cL_law 459 = .ok (.iconst 1, 1) := by decide +kernel
theorem dL_law_460 : decode cL_law 460 = .ok (.iadd, 1) := by decide +kernel
theorem dL_law_461 : decode cL_law 461 = .ok (.iaload, 1) := by decide +kernel
theorem dL_law_462 : decode cL_law 462 = .ok (.invokevirtual 44, 3) := by decide +kernel
theorem dL_law_465 : decode cL_law 465 = .ok (.aload_n 2, 1) := by decide +kernel
theorem dL_law_466 : decode cL_law 466 = .ok (.aload_n 0, 1) := by decide +kernel
theorem dL_law_467 : decode cL_law 467 = .ok (.iload_n 3, 1) := by decide +kernel
theorem dL_law_468 : decode cL_law 468 = .ok (.iconst 1, 1) := by decide +kernel
theorem dL_law_469 : decode cL_law 469 = .ok (.iadd, 1) := by decide +kernel
theorem dL_law_470 : decode cL_law 470 = .ok (.iaload, 1) := by decide +kernel
theorem dL_law_471 : decode cL_law 471 = .ok (.invokevirtual 48, 3) := by decide +kernel
theorem dL_law_474 : decode cL_law 474 = .ok (.if_icmp .eq 468, 3) := by decide +kernel
theorem dL_law_477 : decode cL_law 477 = .ok (.iconst 0, 1) := by decide +kernel
theorem dL_law_478 : decode cL_law 478 = .ok (.ireturn, 1) := by decide +kernel
theorem dL_law_479 : decode cL_law 479 = .ok (.aload_n 1, 1) := by decide +kernel
theorem dL_law_480 : decode cL_law 480 = .ok (.aload_n 0, 1) := by decide +kernel
theorem dL_law_481 : decode cL_law 481 = .ok (.iload_n 3, 1) := by decide +kernel
theorem dL_law_482 : decode cL_law 482 = .ok (.iconst 1, 1) := by decide +kernel
theorem dL_law_483 : decode cL_law 483 = .ok (.iadd, 1) := by decide +kernel
theorem dL_law_484 : decode cL_law 484 = .ok (.iaload, 1) := by decide +kernel
theorem dL_law_485 : decode cL_law 485 = .ok (.aload_n 0, 1) := by decide +kernel
theorem dL_law_486 : decode cL_law 486 = .ok (.iload_n 3, 1) := by decide +kernel
theorem dL_law_487 : decode cL_law 487 = .ok (.iconst 2, 1) := by decide +kernel
theorem dL_law_488 : decode cL_law 488 = .ok (.iadd, 1) := by decide +kernel
theorem dL_law_489 : decode cL_law 489 = .ok (.iaload, 1) := by decide +kernel
theorem dL_law_490 : decode cL_law 490 = .ok (.invokevirtual 49, 3) := by decide +kernel
theorem dL_law_493 : decode cL_law 493 = .ok (.aload_n 2, 1) := by decide +kernel
theorem dL_law_494 : decode cL_law 494 = .ok (.aload_n 0, 1) := by decide +kernel
theorem dL_law_495 : decode cL_law 495 = .ok (.iload_n 3, 1) := by decide +kernel
theorem dL_law_496 : decode cL_law 496 = .ok (.iconst 1, 1) := by decide +kernel
theorem dL_law_497 : decode cL_law 497 = .ok (.iadd, 1) := by decide +kernel
theorem dL_law_498 : decode cL_law 498 = .ok (.iaload, 1) := by decide +kernel
theorem dL_law_499 : decode cL_law 499 = .ok (.aload_n 0, 1) := by decide +kernel
theorem dL_law_500 : decode cL_law 500 = .ok (.iload_n 3, 1) := by decide +kernel
theorem dL_law_501 : decode cL_law 501 = .ok (.iconst 2, 1) := by decide +kernel
theorem dL_law_502 : decode cL_law 502 = .ok (.iadd, 1) := by decide +kernel
theorem dL_law_503 : decode cL_law 503 = .ok (.iaload, 1) := by decide +kernel
theorem dL_law_504 : decode cL_law 504 = .ok (.invokevirtual 52, 3) := by decide +kernel
theorem dL_law_507 : decode cL_law 507 = .ok (.if_icmp .eq 435, 3) := by decide +kernel
theorem dL_law_510 : decode cL_law 510 = .ok (.iconst 0, 1) := by decide +kernel
theorem dL_law_511 : decode cL_law 511 = .ok (.ireturn, 1) := by decide +kernel
theorem dL_law_512 : decode cL_law 512 = .ok (.aload_n 1, 1) := by decide +kernel
theorem dL_law_513 : decode cL_law 513 = .ok (.aload_n 0, 1) := by decide +kernel
theorem dL_law_514 : decode cL_law 514 = .ok (.iload_n 3, 1) := by decide +kernel
theorem dL_law_515 : decode cL_law 515 = .ok (.iconst 1, 1) := by decide +kernel
theorem dL_law_516 : decode cL_law 516 = .ok (.iadd, 1) := by decide +kernel
theorem dL_law_517 : decode cL_law 517 = .ok (.iaload, 1) := by decide +kernel
theorem dL_law_518 : decode cL_law 518 = .ok (.aload_n 0, 1) := by decide +kernel
theorem dL_law_519 : decode cL_law 519 = .ok (.iload_n 3, 1) := by decide +kernel
theorem dL_law_520 : decode cL_law 520 = .ok (.iconst 2, 1) := by decide +kernel
theorem dL_law_521 : decode cL_law 521 = .ok (.iadd, 1) := by decide +kernel
theorem dL_law_522 : decode cL_law 522 = .ok (.iaload, 1) := by decide +kernel
theorem dL_law_523 : decode cL_law 523 = .ok (.aload_n 0, 1) := by decide +kernel
theorem dL_law_524 : decode cL_law 524 = .ok (.iload_n 3, 1) := by decide +kernel
theorem dL_law_525 : decode cL_law 525 = .ok (.iconst 3, 1) := by decide +kernel
theorem dL_law_526 : decode cL_law 526 = .ok (.iadd, 1) := by decide +kernel
theorem dL_law_527 : decode cL_law 527 = .ok (.iaload, 1) := by decide +kernel
theorem dL_law_528 : decode cL_law 528 = .ok (.invokevirtual 53, 3) := by decide +kernel
theorem dL_law_531 : decode cL_law 531 = .ok (.aload_n 2, 1) := by decide +kernel
theorem dL_law_532 : decode cL_law 532 = .ok (.aload_n 0, 1) := by decide +kernel
theorem dL_law_533 : decode cL_law 533 = .ok (.iload_n 3, 1) := by decide +kernel
theorem dL_law_534 : decode cL_law 534 = .ok (.iconst 1, 1) := by decide +kernel
theorem dL_law_535 : decode cL_law 535 = .ok (.iadd, 1) := by decide +kernel
theorem dL_law_536 : decode cL_law 536 = .ok (.iaload, 1) := by decide +kernel
theorem dL_law_537 : decode cL_law 537 = .ok (.aload_n 0, 1) := by decide +kernel
theorem dL_law_538 : decode cL_law 538 = .ok (.iload_n 3, 1) := by decide +kernel
theorem dL_law_539 : decode cL_law 539 = .ok (.iconst 2, 1) := by decide +kernel
theorem dL_law_540 : decode cL_law 540 = .ok (.iadd, 1) := by decide +kernel
theorem dL_law_541 : decode cL_law 541 = .ok (.iaload, 1) := by decide +kernel
theorem dL_law_542 : decode cL_law 542 = .ok (.aload_n 0, 1) := by decide +kernel
theorem dL_law_543 : decode cL_law 543 = .ok (.iload_n 3, 1) := by decide +kernel
theorem dL_law_544 : decode cL_law 544 = .ok (.iconst 3, 1) := by decide +kernel
theorem dL_law_545 : decode cL_law 545 = .ok (.iadd, 1) := by decide +kernel
theorem dL_law_546 : decode cL_law 546 = .ok (.iaload, 1) := by decide +kernel
theorem dL_law_547 : decode cL_law 547 = .ok (.invokevirtual 56, 3) := by decide +kernel
theorem dL_law_550 : decode cL_law 550 = .ok (.if_icmp .eq 392, 3) := by decide +kernel
theorem dL_law_553 : decode cL_law 553 = .ok (.iconst 0, 1) := by decide +kernel
theorem dL_law_554 : decode cL_law 554 = .ok (.ireturn, 1) := by decide +kernel
theorem dL_law_555 : decode cL_law 555 = .ok (.aload_n 1, 1) := by decide +kernel
theorem dL_law_556 : decode cL_law 556 = .ok (.aload_n 0, 1) := by decide +kernel
theorem dL_law_557 : decode cL_law 557 = .ok (.iload_n 3, 1) := by decide +kernel
theorem dL_law_558 : decode cL_law 558 = .ok (.iconst 1, 1) := by decide +kernel
theorem dL_law_559 : decode cL_law 559 = .ok (.iadd, 1) := by decide +kernel
theorem dL_law_560 : decode cL_law 560 = .ok (.iaload, 1) := by decide +kernel
theorem dL_law_561 : decode cL_law 561 = .ok (.aload_n 0, 1) := by decide +kernel
theorem dL_law_562 : decode cL_law 562 = .ok (.iload_n 3, 1) := by decide +kernel
theorem dL_law_563 : decode cL_law 563 = .ok (.iconst 2, 1) := by decide +kernel
theorem dL_law_564 : decode cL_law 564 = .ok (.iadd, 1) := by decide +kernel
theorem dL_law_565 : decode cL_law 565 = .ok (.iaload, 1) := by decide +kernel
theorem dL_law_566 : decode cL_law 566 = .ok (.aload_n 0, 1) := by decide +kernel
theorem dL_law_567 : decode cL_law 567 = .ok (.iload_n 3, 1) := by decide +kernel
theorem dL_law_568 : decode cL_law 568 = .ok (.iconst 3, 1) := by decide +kernel
theorem dL_law_569 : decode cL_law 569 = .ok (.iadd, 1) := by decide +kernel
theorem dL_law_570 : decode cL_law 570 = .ok (.iaload, 1) := by decide +kernel
theorem dL_law_571 : decode cL_law 571 = .ok (.invokevirtual 57, 3) := by decide +kernel
theorem dL_law_574 : decode cL_law 574 = .ok (.aload_n 2, 1) := by decide +kernel
theorem dL_law_575 : decode cL_law 575 = .ok (.aload_n 0, 1) := by decide +kernel
theorem dL_law_576 : decode cL_law 576 = .ok (.iload_n 3, 1) := by decide +kernel
theorem dL_law_577 : decode cL_law 577 = .ok (.iconst 1, 1) := by decide +kernel
theorem dL_law_578 : decode cL_law 578 = .ok (.iadd, 1) := by decide +kernel
theorem dL_law_579 : decode cL_law 579 = .ok (.iaload, 1) := by decide +kernel
theorem dL_law_580 : decode cL_law 580 = .ok (.aload_n 0, 1) := by decide +kernel
theorem dL_law_581 : decode cL_law 581 = .ok (.iload_n 3, 1) := by decide +kernel
theorem dL_law_582 : decode cL_law 582 = .ok (.iconst 2, 1) := by decide +kernel
theorem dL_law_583 : decode cL_law 583 = .ok (.iadd, 1) := by decide +kernel
theorem dL_law_584 : decode cL_law 584 = .ok (.iaload, 1) := by decide +kernel
theorem dL_law_585 : decode cL_law 585 = .ok (.aload_n 0, 1) := by decide +kernel
theorem dL_law_586 : decode cL_law 586 = .ok (.iload_n 3, 1) := by decide +kernel
theorem dL_law_587 : decode cL_law 587 = .ok (.iconst 3, 1) := by decide +kernel
theorem dL_law_588 : decode cL_law 588 = .ok (.iadd, 1) := by decide +kernel
theorem dL_law_589 : decode cL_law 589 = .ok (.iaload, 1) := by decide +kernel
theorem dL_law_590 : decode cL_law 590 = .ok (.invokevirtual 60, 3) := by decide +kernel
theorem dL_law_593 : decode cL_law 593 = .ok (.if_icmp .eq 349, 3) := by decide +kernel
theorem dL_law_596 : decode cL_law 596 = .ok (.iconst 0, 1) := by decide +kernel
theorem dL_law_597 : decode cL_law 597 = .ok (.ireturn, 1) := by decide +kernel
theorem dL_law_598 : decode cL_law 598 = .ok (.aload_n 1, 1) := by decide +kernel
theorem dL_law_599 : decode cL_law 599 = .ok (.aload_n 0, 1) := by decide +kernel
theorem dL_law_600 : decode cL_law 600 = .ok (.iload_n 3, 1) := by decide +kernel
theorem dL_law_601 : decode cL_law 601 = .ok (.iconst 1, 1) := by decide +kernel
theorem dL_law_602 : decode cL_law 602 = .ok (.iadd, 1) := by decide +kernel
theorem dL_law_603 : decode cL_law 603 = .ok (.iaload, 1) := by decide +kernel
theorem dL_law_604 : decode cL_law 604 = .ok (.aload_n 0, 1) := by decide +kernel
theorem dL_law_605 : decode cL_law 605 = .ok (.iload_n 3, 1) := by decide +kernel
theorem dL_law_606 : decode cL_law 606 = .ok (.iconst 2, 1) := by decide +kernel
theorem dL_law_607 : decode cL_law 607 = .ok (.iadd, 1) := by decide +kernel
theorem dL_law_608 : decode cL_law 608 = .ok (.iaload, 1) := by decide +kernel
theorem dL_law_609 : decode cL_law 609 = .ok (.invokevirtual 61, 3) := by decide +kernel
theorem dL_law_612 : decode cL_law 612 = .ok (.aload_n 2, 1) := by decide +kernel
theorem dL_law_613 : decode cL_law 613 = .ok (.aload_n 0, 1) := by decide +kernel
theorem dL_law_614 : decode cL_law 614 = .ok (.iload_n 3, 1) := by decide +kernel
theorem dL_law_615 : decode cL_law 615 = .ok (.iconst 1, 1) := by decide +kernel
theorem dL_law_616 : decode cL_law 616 = .ok (.iadd, 1) := by decide +kernel
theorem dL_law_617 : decode cL_law 617 = .ok (.iaload, 1) := by decide +kernel
theorem dL_law_618 : decode cL_law 618 = .ok (.aload_n 0, 1) := by decide +kernel
theorem dL_law_619 : decode cL_law 619 = .ok (.iload_n 3, 1) := by decide +kernel
theorem dL_law_620 : decode cL_law 620 = .ok (.iconst 2, 1) := by decide +kernel
theorem dL_law_621 : decode cL_law 621 = .ok (.iadd, 1) := by decide +kernel
theorem dL_law_622 : decode cL_law 622 = .ok (.iaload, 1) := by decide +kernel
theorem dL_law_623 : decode cL_law 623 = .ok (.invokevirtual 64, 3) := by decide +kernel
theorem dL_law_626 : decode cL_law 626 = .ok (.if_icmp .eq 316, 3) := by decide +kernel
theorem dL_law_629 : decode cL_law 629 = .ok (.iconst 0, 1) := by decide +kernel
theorem dL_law_630 : decode cL_law 630 = .ok (.ireturn, 1) := by decide +kernel
theorem dL_law_631 : decode cL_law 631 = .ok (.aload_n 1, 1) := by decide +kernel
theorem dL_law_632 : decode cL_law 632 = .ok (.aload_n 0, 1) := by decide +kernel
theorem dL_law_633 : decode cL_law 633 = .ok (.iload_n 3, 1) := by decide +kernel
theorem dL_law_634 : decode cL_law 634 = .ok (.iconst 1, 1) := by decide +kernel
theorem dL_law_635 : decode cL_law 635 = .ok (.iadd, 1) := by decide +kernel
theorem dL_law_636 : decode cL_law 636 = .ok (.iaload, 1) := by decide +kernel
theorem dL_law_637 : decode cL_law 637 = .ok (.aload_n 0, 1) := by decide +kernel
theorem dL_law_638 : decode cL_law 638 = .ok (.iload_n 3, 1) := by decide +kernel
theorem dL_law_639 : decode cL_law 639 = .ok (.iconst 2, 1) := by decide +kernel
theorem dL_law_640 : decode cL_law 640 = .ok (.iadd, 1) := by decide +kernel
theorem dL_law_641 : decode cL_law 641 = .ok (.iaload, 1) := by decide +kernel
theorem dL_law_642 : decode cL_law 642 = .ok (.aload_n 0, 1) := by decide +kernel
theorem dL_law_643 : decode cL_law 643 = .ok (.iload_n 3, 1) := by decide +kernel
theorem dL_law_644 : decode cL_law 644 = .ok (.iconst 3, 1) := by decide +kernel
theorem dL_law_645 : decode cL_law 645 = .ok (.iadd, 1) := by decide +kernel
theorem dL_law_646 : decode cL_law 646 = .ok (.iaload, 1) := by decide +kernel
theorem dL_law_647 : decode cL_law 647 = .ok (.aload_n 0, 1) := by decide +kernel
theorem dL_law_648 : decode cL_law 648 = .ok (.iload_n 3, 1) := by decide +kernel
theorem dL_law_649 : decode cL_law 649 = .ok (.iconst 4, 1) := by decide +kernel
theorem dL_law_650 : decode cL_law 650 = .ok (.iadd, 1) := by decide +kernel
theorem dL_law_651 : decode cL_law 651 = .ok (.iaload, 1) := by decide +kernel
theorem dL_law_652 : decode cL_law 652 = .ok (.aload_n 0, 1) := by decide +kernel
theorem dL_law_653 : decode cL_law 653 = .ok (.iload_n 3, 1) := by decide +kernel
theorem dL_law_654 : decode cL_law 654 = .ok (.iconst 5, 1) := by decide +kernel
theorem dL_law_655 : decode cL_law 655 = .ok (.iadd, 1) := by decide +kernel
theorem dL_law_656 : decode cL_law 656 = .ok (.iaload, 1) := by decide +kernel
theorem dL_law_657 : decode cL_law 657 = .ok (.invokevirtual 65, 3) := by decide +kernel
theorem dL_law_660 : decode cL_law 660 = .ok (.aload_n 2, 1) := by decide +kernel
theorem dL_law_661 : decode cL_law 661 = .ok (.aload_n 0, 1) := by decide +kernel
theorem dL_law_662 : decode cL_law 662 = .ok (.iload_n 3, 1) := by decide +kernel
theorem dL_law_663 : decode cL_law 663 = .ok (.iconst 1, 1) := by decide +kernel
theorem dL_law_664 : decode cL_law 664 = .ok (.iadd, 1) := by decide +kernel
theorem dL_law_665 : decode cL_law 665 = .ok (.iaload, 1) := by decide +kernel
theorem dL_law_666 : decode cL_law 666 = .ok (.aload_n 0, 1) := by decide +kernel
theorem dL_law_667 : decode cL_law 667 = .ok (.iload_n 3, 1) := by decide +kernel
theorem dL_law_668 : decode cL_law 668 = .ok (.iconst 2, 1) := by decide +kernel
theorem dL_law_669 : decode cL_law 669 = .ok (.iadd, 1) := by decide +kernel
theorem dL_law_670 : decode cL_law 670 = .ok (.iaload, 1) := by decide +kernel
theorem dL_law_671 : decode cL_law 671 = .ok (.aload_n 0, 1) := by decide +kernel
theorem dL_law_672 : decode cL_law 672 = .ok (.iload_n 3, 1) := by decide +kernel
theorem dL_law_673 : decode cL_law 673 = .ok (.iconst 3, 1) := by decide +kernel
theorem dL_law_674 : decode cL_law 674 = .ok (.iadd, 1) := by decide +kernel
theorem dL_law_675 : decode cL_law 675 = .ok (.iaload, 1) := by decide +kernel
theorem dL_law_676 : decode cL_law 676 = .ok (.aload_n 0, 1) := by decide +kernel
theorem dL_law_677 : decode cL_law 677 = .ok (.iload_n 3, 1) := by decide +kernel
theorem dL_law_678 : decode cL_law 678 = .ok (.iconst 4, 1) := by decide +kernel
theorem dL_law_679 : decode cL_law 679 = .ok (.iadd, 1) := by decide +kernel
theorem dL_law_680 : decode cL_law 680 = .ok (.iaload, 1) := by decide +kernel
theorem dL_law_681 : decode cL_law 681 = .ok (.aload_n 0, 1) := by decide +kernel
theorem dL_law_682 : decode cL_law 682 = .ok (.iload_n 3, 1) := by decide +kernel
theorem dL_law_683 : decode cL_law 683 = .ok (.iconst 5, 1) := by decide +kernel
theorem dL_law_684 : decode cL_law 684 = .ok (.iadd, 1) := by decide +kernel
theorem dL_law_685 : decode cL_law 685 = .ok (.iaload, 1) := by decide +kernel
theorem dL_law_686 : decode cL_law 686 = .ok (.invokevirtual 69, 3) := by decide +kernel
theorem dL_law_689 : decode cL_law 689 = .ok (.if_icmp .eq 253, 3) := by decide +kernel
theorem dL_law_692 : decode cL_law 692 = .ok (.iconst 0, 1) := by decide +kernel
theorem dL_law_693 : decode cL_law 693 = .ok (.ireturn, 1) := by decide +kernel
theorem dL_law_694 : decode cL_law 694 = .ok (.aload_n 1, 1) := by decide +kernel
theorem dL_law_695 : decode cL_law 695 = .ok (.aload_n 0, 1) := by decide +kernel
theorem dL_law_696 : decode cL_law 696 = .ok (.iload_n 3, 1) := by decide +kernel
theorem dL_law_697 : decode cL_law 697 = .ok (.iconst 1, 1) := by decide +kernel
theorem dL_law_698 : decode cL_law 698 = .ok (.iadd, 1) := by decide +kernel
theorem dL_law_699 : decode cL_law 699 = .ok (.iaload, 1) := by decide +kernel
theorem dL_law_700 : decode cL_law 700 = .ok (.aload_n 0, 1) := by decide +kernel
theorem dL_law_701 : decode cL_law 701 = .ok (.iload_n 3, 1) := by decide +kernel
theorem dL_law_702 : decode cL_law 702 = .ok (.iconst 2, 1) := by decide +kernel
theorem dL_law_703 : decode cL_law 703 = .ok (.iadd, 1) := by decide +kernel
theorem dL_law_704 : decode cL_law 704 = .ok (.iaload, 1) := by decide +kernel
theorem dL_law_705 : decode cL_law 705 = .ok (.aload_n 0, 1) := by decide +kernel
theorem dL_law_706 : decode cL_law 706 = .ok (.iload_n 3, 1) := by decide +kernel
theorem dL_law_707 : decode cL_law 707 = .ok (.iconst 3, 1) := by decide +kernel
theorem dL_law_708 : decode cL_law 708 = .ok (.iadd, 1) := by decide +kernel
theorem dL_law_709 : decode cL_law 709 = .ok (.iaload, 1) := by decide +kernel
theorem dL_law_710 : decode cL_law 710 = .ok (.invokevirtual 70, 3) := by decide +kernel
theorem dL_law_713 : decode cL_law 713 = .ok (.aload_n 2, 1) := by decide +kernel
theorem dL_law_714 : decode cL_law 714 = .ok (.aload_n 0, 1) := by decide +kernel
theorem dL_law_715 : decode cL_law 715 = .ok (.iload_n 3, 1) := by decide +kernel
theorem dL_law_716 : decode cL_law 716 = .ok (.iconst 1, 1) := by decide +kernel
theorem dL_law_717 : decode cL_law 717 = .ok (.iadd, 1) := by decide +kernel
theorem dL_law_718 : decode cL_law 718 = .ok (.iaload, 1) := by decide +kernel
theorem dL_law_719 : decode cL_law 719 = .ok (.aload_n 0, 1) := by decide +kernel
theorem dL_law_720 : decode cL_law 720 = .ok (.iload_n 3, 1) := by decide +kernel
theorem dL_law_721 : decode cL_law 721 = .ok (.iconst 2, 1) := by decide +kernel
theorem dL_law_722 : decode cL_law 722 = .ok (.iadd, 1) := by decide +kernel
theorem dL_law_723 : decode cL_law 723 = .ok (.iaload, 1) := by decide +kernel
theorem dL_law_724 : decode cL_law 724 = .ok (.aload_n 0, 1) := by decide +kernel
theorem dL_law_725 : decode cL_law 725 = .ok (.iload_n 3, 1) := by decide +kernel
theorem dL_law_726 : decode cL_law 726 = .ok (.iconst 3, 1) := by decide +kernel
theorem dL_law_727 : decode cL_law 727 = .ok (.iadd, 1) := by decide +kernel
theorem dL_law_728 : decode cL_law 728 = .ok (.iaload, 1) := by decide +kernel
theorem dL_law_729 : decode cL_law 729 = .ok (.invokevirtual 73, 3) := by decide +kernel
theorem dL_law_732 : decode cL_law 732 = .ok (.if_icmp .eq 210, 3) := by decide +kernel
theorem dL_law_735 : decode cL_law 735 = .ok (.iconst 0, 1) := by decide +kernel
theorem dL_law_736 : decode cL_law 736 = .ok (.ireturn, 1) := by decide +kernel
theorem dL_law_737 : decode cL_law 737 = .ok (.aload_n 1, 1) := by decide +kernel
theorem dL_law_738 : decode cL_law 738 = .ok (.aload_n 0, 1) := by decide +kernel
theorem dL_law_739 : decode cL_law 739 = .ok (.iload_n 3, 1) := by decide +kernel
theorem dL_law_740 : decode cL_law 740 = .ok (.iconst 1, 1) := by decide +kernel
theorem dL_law_741 : decode cL_law 741 = .ok (.iadd, 1) := by decide +kernel
theorem dL_law_742 : decode cL_law 742 = .ok (.iaload, 1) := by decide +kernel
theorem dL_law_743 : decode cL_law 743 = .ok (.invokevirtual 74, 3) := by decide +kernel
theorem dL_law_746 : decode cL_law 746 = .ok (.aload_n 2, 1) := by decide +kernel
theorem dL_law_747 : decode cL_law 747 = .ok (.aload_n 0, 1) := by decide +kernel
theorem dL_law_748 : decode cL_law 748 = .ok (.iload_n 3, 1) := by decide +kernel
theorem dL_law_749 : decode cL_law 749 = .ok (.iconst 1, 1) := by decide +kernel
theorem dL_law_750 : decode cL_law 750 = .ok (.iadd, 1) := by decide +kernel
theorem dL_law_751 : decode cL_law 751 = .ok (.iaload, 1) := by decide +kernel
theorem dL_law_752 : decode cL_law 752 = .ok (.invokevirtual 77, 3) := by decide +kernel
theorem dL_law_755 : decode cL_law 755 = .ok (.if_icmp .eq 187, 3) := by decide +kernel
theorem dL_law_758 : decode cL_law 758 = .ok (.iconst 0, 1) := by decide +kernel
theorem dL_law_759 : decode cL_law 759 = .ok (.ireturn, 1) := by decide +kernel
theorem dL_law_760 : decode cL_law 760 = .ok (.aload_n 1, 1) := by decide +kernel
theorem dL_law_761 : decode cL_law 761 = .ok (.aload_n 0, 1) := by decide +kernel
theorem dL_law_762 : decode cL_law 762 = .ok (.iload_n 3, 1) := by decide +kernel
theorem dL_law_763 : decode cL_law 763 = .ok (.iconst 1, 1) := by decide +kernel
theorem dL_law_764 : decode cL_law 764 = .ok (.iadd, 1) := by decide +kernel
theorem dL_law_765 : decode cL_law 765 = .ok (.iaload, 1) := by decide +kernel
theorem dL_law_766 : decode cL_law 766 = .ok (.invokevirtual 78, 3) := by decide +kernel
theorem dL_law_769 : decode cL_law 769 = .ok (.aload_n 2, 1) := by decide +kernel
theorem dL_law_770 : decode cL_law 770 = .ok (.aload_n 0, 1) := by decide +kernel
theorem dL_law_771 : decode cL_law 771 = .ok (.iload_n 3, 1) := by decide +kernel
theorem dL_law_772 : decode cL_law 772 = .ok (.iconst 1, 1) := by decide +kernel
theorem dL_law_773 : decode cL_law 773 = .ok (.iadd, 1) := by decide +kernel
theorem dL_law_774 : decode cL_law 774 = .ok (.iaload, 1) := by decide +kernel
theorem dL_law_775 : decode cL_law 775 = .ok (.invokevirtual 82, 3) := by decide +kernel
theorem dL_law_778 : decode cL_law 778 = .ok (.lcmp, 1) := by decide +kernel
theorem dL_law_779 : decode cL_law 779 = .ok (.ifCond .eq 163, 3) := by decide +kernel
theorem dL_law_782 : decode cL_law 782 = .ok (.iconst 0, 1) := by decide +kernel
theorem dL_law_783 : decode cL_law 783 = .ok (.ireturn, 1) := by decide +kernel
theorem dL_law_784 : decode cL_law 784 = .ok (.aload_n 1, 1) := by decide +kernel
theorem dL_law_785 : decode cL_law 785 = .ok (.aload_n 0, 1) := by decide +kernel
theorem dL_law_786 : decode cL_law 786 = .ok (.iload_n 3, 1) := by decide +kernel
theorem dL_law_787 : decode cL_law 787 = .ok (.iconst 1, 1) := by decide +kernel
theorem dL_law_788 : decode cL_law 788 = .ok (.iadd, 1) := by decide +kernel
theorem dL_law_789 : decode cL_law 789 = .ok (.iaload, 1) := by decide +kernel
theorem dL_law_790 : decode cL_law 790 = .ok (.invokevirtual 83, 3) := by decide +kernel
theorem dL_law_793 : decode cL_law 793 = .ok (.aload_n 2, 1) := by decide +kernel
theorem dL_law_794 : decode cL_law 794 = .ok (.aload_n 0, 1) := by decide +kernel
theorem dL_law_795 : decode cL_law 795 = .ok (.iload_n 3, 1) := by decide +kernel
theorem dL_law_796 : decode cL_law 796 = .ok (.iconst 1, 1) := by decide +kernel
theorem dL_law_797 : decode cL_law 797 = .ok (.iadd, 1) := by decide +kernel
theorem dL_law_798 : decode cL_law 798 = .ok (.iaload, 1) := by decide +kernel
theorem dL_law_799 : decode cL_law 799 = .ok (.invokevirtual 86, 3) := by decide +kernel
theorem dL_law_802 : decode cL_law 802 = .ok (.if_icmp .eq 140, 3) := by decide +kernel
theorem dL_law_805 : decode cL_law 805 = .ok (.iconst 0, 1) := by decide +kernel
theorem dL_law_806 : decode cL_law 806 = .ok (.ireturn, 1) := by decide +kernel
theorem dL_law_807 : decode cL_law 807 = .ok (.aload_n 1, 1) := by decide +kernel
theorem dL_law_808 : decode cL_law 808 = .ok (.aload_n 0, 1) := by decide +kernel
theorem dL_law_809 : decode cL_law 809 = .ok (.iload_n 3, 1) := by decide +kernel
theorem dL_law_810 : decode cL_law 810 = .ok (.iconst 1, 1) := by decide +kernel
theorem dL_law_811 : decode cL_law 811 = .ok (.iadd, 1) := by decide +kernel
theorem dL_law_812 : decode cL_law 812 = .ok (.iaload, 1) := by decide +kernel
theorem dL_law_813 : decode cL_law 813 = .ok (.aload_n 0, 1) := by decide +kernel
theorem dL_law_814 : decode cL_law 814 = .ok (.iload_n 3, 1) := by decide +kernel
theorem dL_law_815 : decode cL_law 815 = .ok (.iconst 2, 1) := by decide +kernel
theorem dL_law_816 : decode cL_law 816 = .ok (.iadd, 1) := by decide +kernel
theorem dL_law_817 : decode cL_law 817 = .ok (.iaload, 1) := by decide +kernel
theorem dL_law_818 : decode cL_law 818 = .ok (.aload_n 0, 1) := by decide +kernel
theorem dL_law_819 : decode cL_law 819 = .ok (.iload_n 3, 1) := by decide +kernel
theorem dL_law_820 : decode cL_law 820 = .ok (.iconst 3, 1) := by decide +kernel
theorem dL_law_821 : decode cL_law 821 = .ok (.iadd, 1) := by decide +kernel
theorem dL_law_822 : decode cL_law 822 = .ok (.iaload, 1) := by decide +kernel
theorem dL_law_823 : decode cL_law 823 = .ok (.invokevirtual 87, 3) := by decide +kernel
theorem dL_law_826 : decode cL_law 826 = .ok (.aload_n 2, 1) := by decide +kernel
theorem dL_law_827 : decode cL_law 827 = .ok (.aload_n 0, 1) := by decide +kernel
theorem dL_law_828 : decode cL_law 828 = .ok (.iload_n 3, 1) := by decide +kernel
theorem dL_law_829 : decode cL_law 829 = .ok (.iconst 1, 1) := by decide +kernel
theorem dL_law_830 : decode cL_law 830 = .ok (.iadd, 1) := by decide +kernel
theorem dL_law_831 : decode cL_law 831 = .ok (.iaload, 1) := by decide +kernel
theorem dL_law_832 : decode cL_law 832 = .ok (.aload_n 0, 1) := by decide +kernel
theorem dL_law_833 : decode cL_law 833 = .ok (.iload_n 3, 1) := by decide +kernel
theorem dL_law_834 : decode cL_law 834 = .ok (.iconst 2, 1) := by decide +kernel
theorem dL_law_835 : decode cL_law 835 = .ok (.iadd, 1) := by decide +kernel
theorem dL_law_836 : decode cL_law 836 = .ok (.iaload, 1) := by decide +kernel
theorem dL_law_837 : decode cL_law 837 = .ok (.aload_n 0, 1) := by decide +kernel
theorem dL_law_838 : decode cL_law 838 = .ok (.iload_n 3, 1) := by decide +kernel
theorem dL_law_839 : decode cL_law 839 = .ok (.iconst 3, 1) := by decide +kernel
theorem dL_law_840 : decode cL_law 840 = .ok (.iadd, 1) := by decide +kernel
theorem dL_law_841 : decode cL_law 841 = .ok (.iaload, 1) := by decide +kernel
theorem dL_law_842 : decode cL_law 842 = .ok (.invokevirtual 91, 3) := by decide +kernel
theorem dL_law_845 : decode cL_law 845 = .ok (.lcmp, 1) := by decide +kernel
theorem dL_law_846 : decode cL_law 846 = .ok (.ifCond .eq 96, 3) := by decide +kernel
theorem dL_law_849 : decode cL_law 849 = .ok (.iconst 0, 1) := by decide +kernel
theorem dL_law_850 : decode cL_law 850 = .ok (.ireturn, 1) := by decide +kernel
theorem dL_law_851 : decode cL_law 851 = .ok (.aload_n 1, 1) := by decide +kernel
theorem dL_law_852 : decode cL_law 852 = .ok (.aload_n 0, 1) := by decide +kernel
theorem dL_law_853 : decode cL_law 853 = .ok (.iload_n 3, 1) := by decide +kernel
theorem dL_law_854 : decode cL_law 854 = .ok (.iconst 1, 1) := by decide +kernel
theorem dL_law_855 : decode cL_law 855 = .ok (.iadd, 1) := by decide +kernel
theorem dL_law_856 : decode cL_law 856 = .ok (.iaload, 1) := by decide +kernel
theorem dL_law_857 : decode cL_law 857 = .ok (.aload_n 0, 1) := by decide +kernel
theorem dL_law_858 : decode cL_law 858 = .ok (.iload_n 3, 1) := by decide +kernel
theorem dL_law_859 : decode cL_law 859 = .ok (.iconst 2, 1) := by decide +kernel
theorem dL_law_860 : decode cL_law 860 = .ok (.iadd, 1) := by decide +kernel
theorem dL_law_861 : decode cL_law 861 = .ok (.iaload, 1) := by decide +kernel
theorem dL_law_862 : decode cL_law 862 = .ok (.invokevirtual 92, 3) := by decide +kernel
theorem dL_law_865 : decode cL_law 865 = .ok (.aload_n 2, 1) := by decide +kernel
theorem dL_law_866 : decode cL_law 866 = .ok (.aload_n 0, 1) := by decide +kernel
theorem dL_law_867 : decode cL_law 867 = .ok (.iload_n 3, 1) := by decide +kernel
theorem dL_law_868 : decode cL_law 868 = .ok (.iconst 1, 1) := by decide +kernel
theorem dL_law_869 : decode cL_law 869 = .ok (.iadd, 1) := by decide +kernel
theorem dL_law_870 : decode cL_law 870 = .ok (.iaload, 1) := by decide +kernel
theorem dL_law_871 : decode cL_law 871 = .ok (.aload_n 0, 1) := by decide +kernel
theorem dL_law_872 : decode cL_law 872 = .ok (.iload_n 3, 1) := by decide +kernel
theorem dL_law_873 : decode cL_law 873 = .ok (.iconst 2, 1) := by decide +kernel
theorem dL_law_874 : decode cL_law 874 = .ok (.iadd, 1) := by decide +kernel
theorem dL_law_875 : decode cL_law 875 = .ok (.iaload, 1) := by decide +kernel
theorem dL_law_876 : decode cL_law 876 = .ok (.invokevirtual 96, 3) := by decide +kernel
theorem dL_law_879 : decode cL_law 879 = .ok (.lcmp, 1) := by decide +kernel
theorem dL_law_880 : decode cL_law 880 = .ok (.ifCond .eq 62, 3) := by decide +kernel
theorem dL_law_883 : decode cL_law 883 = .ok (.iconst 0, 1) := by decide +kernel
theorem dL_law_884 : decode cL_law 884 = .ok (.ireturn, 1) := by decide +kernel
theorem dL_law_885 : decode cL_law 885 = .ok (.aload_n 1, 1) := by decide +kernel
theorem dL_law_886 : decode cL_law 886 = .ok (.aload_n 0, 1) := by decide +kernel
theorem dL_law_887 : decode cL_law 887 = .ok (.iload_n 3, 1) := by decide +kernel
theorem dL_law_888 : decode cL_law 888 = .ok (.iconst 1, 1) := by decide +kernel
theorem dL_law_889 : decode cL_law 889 = .ok (.iadd, 1) := by decide +kernel
theorem dL_law_890 : decode cL_law 890 = .ok (.iaload, 1) := by decide +kernel
theorem dL_law_891 : decode cL_law 891 = .ok (.aload_n 0, 1) := by decide +kernel
theorem dL_law_892 : decode cL_law 892 = .ok (.iload_n 3, 1) := by decide +kernel
theorem dL_law_893 : decode cL_law 893 = .ok (.iconst 2, 1) := by decide +kernel
theorem dL_law_894 : decode cL_law 894 = .ok (.iadd, 1) := by decide +kernel
theorem dL_law_895 : decode cL_law 895 = .ok (.iaload, 1) := by decide +kernel
theorem dL_law_896 : decode cL_law 896 = .ok (.invokevirtual 97, 3) := by decide +kernel
theorem dL_law_899 : decode cL_law 899 = .ok (.aload_n 2, 1) := by decide +kernel
theorem dL_law_900 : decode cL_law 900 = .ok (.aload_n 0, 1) := by decide +kernel
theorem dL_law_901 : decode cL_law 901 = .ok (.iload_n 3, 1) := by decide +kernel
theorem dL_law_902 : decode cL_law 902 = .ok (.iconst 1, 1) := by decide +kernel
theorem dL_law_903 : decode cL_law 903 = .ok (.iadd, 1) := by decide +kernel
theorem dL_law_904 : decode cL_law 904 = .ok (.iaload, 1) := by decide +kernel
theorem dL_law_905 : decode cL_law 905 = .ok (.aload_n 0, 1) := by decide +kernel
theorem dL_law_906 : decode cL_law 906 = .ok (.iload_n 3, 1) := by decide +kernel
theorem dL_law_907 : decode cL_law 907 = .ok (.iconst 2, 1) := by decide +kernel
theorem dL_law_908 : decode cL_law 908 = .ok (.iadd, 1) := by decide +kernel
theorem dL_law_909 : decode cL_law 909 = .ok (.iaload, 1) := by decide +kernel
theorem dL_law_910 : decode cL_law 910 = .ok (.invokevirtual 100, 3) := by decide +kernel
theorem dL_law_913 : decode cL_law 913 = .ok (.lcmp, 1) := by decide +kernel
theorem dL_law_914 : decode cL_law 914 = .ok (.ifCond .eq 28, 3) := by decide +kernel
theorem dL_law_917 : decode cL_law 917 = .ok (.iconst 0, 1) := by decide +kernel
theorem dL_law_918 : decode cL_law 918 = .ok (.ireturn, 1) := by decide +kernel
theorem dL_law_919 : decode cL_law 919 = .ok (.aload_n 1, 1) := by decide +kernel
theorem dL_law_920 : decode cL_law 920 = .ok (.aload_n 0, 1) := by decide +kernel
theorem dL_law_921 : decode cL_law 921 = .ok (.iload_n 3, 1) := by decide +kernel
theorem dL_law_922 : decode cL_law 922 = .ok (.iconst 1, 1) := by decide +kernel
theorem dL_law_923 : decode cL_law 923 = .ok (.iadd, 1) := by decide +kernel
theorem dL_law_924 : decode cL_law 924 = .ok (.iaload, 1) := by decide +kernel
theorem dL_law_925 : decode cL_law 925 = .ok (.invokevirtual 101, 3) := by decide +kernel
theorem dL_law_928 : decode cL_law 928 = .ok (.aload_n 2, 1) := by decide +kernel
theorem dL_law_929 : decode cL_law 929 = .ok (.aload_n 0, 1) := by decide +kernel
theorem dL_law_930 : decode cL_law 930 = .ok (.iload_n 3, 1) := by decide +kernel
theorem dL_law_931 : decode cL_law 931 = .ok (.iconst 1, 1) := by decide +kernel
theorem dL_law_932 : decode cL_law 932 = .ok (.iadd, 1) := by decide +kernel
theorem dL_law_933 : decode cL_law 933 = .ok (.iaload, 1) := by decide +kernel
theorem dL_law_934 : decode cL_law 934 = .ok (.invokevirtual 104, 3) := by decide +kernel
theorem dL_law_937 : decode cL_law 937 = .ok (.if_icmp .eq 5, 3) := by decide +kernel
theorem dL_law_940 : decode cL_law 940 = .ok (.iconst 0, 1) := by decide +kernel
theorem dL_law_941 : decode cL_law 941 = .ok (.ireturn, 1) := by decide +kernel
theorem dL_law_942 : decode cL_law 942 = .ok (.iinc 3 6, 3) := by decide +kernel
theorem dL_law_945 : decode cL_law 945 = .ok (.goto (-927), 3) := by decide +kernel
theorem dL_law_948 : decode cL_law 948 = .ok (.iconst 1, 1) := by decide +kernel
theorem dL_law_949 : decode cL_law 949 = .ok (.ireturn, 1) := by decide +kernel
end
section
def sm_let {α β : Type} (x : α) (g : α → β) : β := g x
theorem sm_lt {α β : Type} {F : β} {x : α} {g : α → β} (hv : F = sm_let x g) : ∃ y, y = x ∧ F = g y := ⟨x, rfl, hv⟩
/-! OWN ROWS 1: one list of words for all methods, rooms by depth, contracts, calls -/
def sm_T : List Cond := lw_tbl.filter goodWord
theorem sm_in {w : Cond} (h : w ∈ lw_tbl) (hg : goodWord w = true) : w ∈ sm_T := List.mem_filter.mpr ⟨h, hg⟩
theorem sm_gd {y : MethodName} {b : ByteArray} {mL : Nat} {r : Option FieldType} (h : Cond.code y b mL r ∈ sm_T) : GoodIn sm_T (Cond.code y b mL r :: sm_T) := by
  intro w hw
  have h3 : w ∈ sm_T := by
    rcases List.mem_cons.mp hw with h1 | h2
    · rw [h1]; exact h
    · exact h2
  exact ⟨h3, good_of_word (List.mem_filter.mp h3).2⟩
def rmd (d : Nat) : Room := { frames := d, cells := 0, slots := 0, locals := 41 * d }
abbrev sm_ws (y : MethodName) (b : ByteArray) (mL : Nat) (r : Option FieldType) : List Cond := Cond.code y b mL r :: sm_T
def sm_C (p : Program) (s : State) (m : MethodId) (args : Array Value) (meth : Method) (c : Code) (cc : ByteArray) (nL : Nat) (own : String) (ret : Option FieldType) : Prop := CallFix p m c cc nL s args sm_T own ∧ meth.sig.returnType = ret ∧ meth.locks = false
theorem sm_met {l : Launch} {y : MethodName} {cc : ByteArray} {nL : Nat} {ret : Option FieldType} {d : Nat} {Pc : Array Value → State → Prop} {Qc : Array Value → State → Outcome → State → Prop} {free : Addr → Prop} (hy : plainName y.cls = true)
    (body : ∀ (p : Program) (e : Env) (s : State) (m : MethodId) (args : Array Value) (below : List Frame) (meth : Method) (c : Code), sm_C p s m args meth c cc nL y.cls ret → Pc args s → W p l e (rmd d) s m args below meth c s.heap [] 0 0 (MQ below Qc args s 0 0 free) (entryFrame m args nL)) : Met l y (sm_ws y cc nL ret) (rmd d) Pc Qc 0 0 free := by
  refine Met.ofW (cc := cc) (maxL := nL) (ret := ret) hy rfl ?_
  intro p e s m args below meth c s₁ B hml hv
  have hts := atoms_spec (ws := sm_ws y cc nL ret) B.pre
  exact body p e s m args below meth c ⟨⟨B.exec, B.bytes, hml, findClass_of_methodNamed B.named, fun w h => hts w (List.mem_cons_of_mem _ h)⟩, B.returns, B.notSynchronized⟩ hv
/-- what a call needs of its callee -/
def sm_k (y : MethodName) (b : ByteArray) (mL : Nat) (r : Option FieldType) (n : Nat) : Prop := Cond.code y b mL r ∈ sm_T ∧ Cond.initialized y.cls ∈ sm_T ∧ (y.cls ≠ "java/lang/invoke/MethodHandle" ∧ y.cls ≠ "java/lang/invoke/VarHandle" ∧ (parseMethodDescriptor y.desc).map (fun d => d.parameters.length) = some n)
def sm_kS (y : MethodName) (b : ByteArray) (mL : Nat) (r : Option FieldType) (n : Nat) : Prop := sm_k y b mL r n ∧ Cond.static y ∈ sm_T
def sm_kV (y : MethodName) (b : ByteArray) (mL : Nat) (r : Option FieldType) (n : Nat) : Prop := sm_k y b mL r n ∧ Cond.instanceMethod y ∈ sm_T ∧ Cond.selects y.cls y y ∈ sm_T
section SM1
variable {p : Program} {l : Launch} {e : Env} {s : State} {m : MethodId} {args : Array Value} {below : List Frame} {meth : Method} {c : Code} {H : Heap} {locs : List Loc} {Q : State → Prop}
variable {cc : ByteArray} {pc : Nat} {ls : Array Slot} {rest st0 : List Value} {own : String} {nL index n d D mL : Nat} {y : MethodName} {b : ByteArray} {r : Option FieldType} {Pc : Array Value → State → Prop} {Qc : Array Value → State → Outcome → State → Prop} {free : Addr → Prop} {As : List Value}
theorem sm_runS (C : CallFix p m c cc nL s args sm_T own) (hM : Met l y (sm_ws y b mL r) (rmd d) Pc Qc 0 0 free) (k : sm_kS y b mL r n) (hl : Cond.methodLink own index y ∈ sm_T) (hR : d + 1 ≤ D ∧ 8 + (mL + 11) + 41 * d ≤ 41 * D) (hp : PreS s H Pc As) (hn : As.length = n) (hsize : ls.size = nL) (hst : st0 = As.reverse ++ rest) (hW : (rest.map fun v => v.category).sum ≤ 8) (hdg : decode cc pc = .ok (.invokestatic index, 3)) :
    va_Run p l e (rmd D) s m args below meth c H locs 0 0 0 0 (F0 m pc ls st0) rest (Qc As.toArray) free := by
  obtain ⟨⟨k1, k2, k3⟩, k4⟩ := k
  have ht := C.2.2.2.2
  exact va_runS C hM ⟨callB_of n ht (sm_gd k1) rfl rfl rfl (ht _ k2) (ht _ hl) k3 hR, ht _ k4⟩ hp rfl hn hsize hst (by show 2 * 0 + _ ≤ 8; omega) hdg ⟨Nat.le_refl _, Nat.le_refl _⟩
theorem sm_runSN (C : CallFix p m c cc nL s args sm_T own) (hM : Met l y (sm_ws y b mL r) (rmd d) Pc Qc 0 0 free) (k : sm_kS y b mL r n) {host : String} (hl : va_Nw (.methodLinkNest own index y host) s) (hR : d + 1 ≤ D ∧ 8 + (mL + 11) + 41 * d ≤ 41 * D) (hp : PreS s H Pc As) (hn : As.length = n) (hsize : ls.size = nL) (hst : st0 = As.reverse ++ rest) (hW : (rest.map fun v => v.category).sum ≤ 8) (hdg : decode cc pc = .ok (.invokestatic index, 3)) :
    va_Run p l e (rmd D) s m args below meth c H locs 0 0 0 0 (F0 m pc ls st0) rest (Qc As.toArray) free := by
  obtain ⟨⟨k1, k2, k3⟩, k4⟩ := k
  have ht := C.2.2.2.2
  exact va_runSN C hM ⟨va_cnB n ht (sm_gd k1) rfl rfl rfl hl (ht _ k2) k3 hR, ht _ k4, trivial⟩ hp rfl hn hsize hst (by show 2 * 0 + _ ≤ 8; omega) hdg ⟨Nat.le_refl _, Nat.le_refl _⟩
theorem sm_runV {bb : Nat} (C : CallFix p m c cc nL s args sm_T own) (hM : Met l y (sm_ws y b mL r) (rmd d) Pc Qc 0 0 free) (k : sm_kV y b mL r n) (hl : Cond.methodLink own index y ∈ sm_T) (hR : d + 1 ≤ D ∧ 8 + (mL + 11) + 41 * d ≤ 41 * D) (hp : PreV s H y.cls bb Pc As) (hn : As.length = n) (hsize : ls.size = nL) (hst : st0 = As.reverse ++ .ref bb :: rest) (hW : (rest.map fun v => v.category).sum ≤ 8) (hdg : decode cc pc = .ok (.invokevirtual index, 3)) :
    va_Run p l e (rmd D) s m args below meth c H locs 0 0 0 0 (F0 m pc ls st0) rest (Qc (Value.ref bb :: As).toArray) free := by
  obtain ⟨⟨k1, k2, k3⟩, k4, k5⟩ := k
  have ht := C.2.2.2.2
  exact va_runV C hM ⟨callB_of n ht (sm_gd k1) rfl rfl rfl (ht _ k2) (ht _ hl) k3 hR, ht _ k4, ht _ k5⟩ hp rfl hn hsize hst (by show 2 * 0 + _ ≤ 8; omega) hdg ⟨Nat.le_refl _, Nat.le_refl _⟩
/-! calls that leave the heap: the answer is a known value -/
theorem sm_ci {v : Int32} {a : Array Value} (hr : va_Run p l e (rmd D) s m args below meth c H locs 0 0 0 0 (F0 m pc ls st0) rest (vp_Si (fun r => r = v) a) (fun _ => False)) (kk : W p l e (rmd D) s m args below meth c H locs 0 0 Q (F0 m (pc + 3) ls (.int v :: rest))) : W p l e (rmd D) s m args below meth c H locs 0 0 Q (F0 m pc ls st0) :=
  vp_callSi hr.run (fun r h => by rw [h]; exact kk)
theorem sm_cl {v : Int64} {a : Array Value} (hr : va_Run p l e (rmd D) s m args below meth c H locs 0 0 0 0 (F0 m pc ls st0) rest (vp_Sl (fun r => r = v) a) (fun _ => False)) (kk : W p l e (rmd D) s m args below meth c H locs 0 0 Q (F0 m (pc + 3) ls (.long v :: rest))) : W p l e (rmd D) s m args below meth c H locs 0 0 Q (F0 m pc ls st0) :=
  vp_callSl hr.run (fun r h => by rw [h]; exact kk)
theorem sm_cr {v : Nat} {ad : Nat → Value} {a : Array Value} (hr : va_Run p l e (rmd D) s m args below meth c H locs 0 0 0 0 (F0 m pc ls st0) rest (va_Sr (fun r => r = v) ad a) (fun _ => False)) (kk : W p l e (rmd D) s m args below meth c H locs 0 0 Q (F0 m (pc + 3) ls (ad v :: rest))) : W p l e (rmd D) s m args below meth c H locs 0 0 Q (F0 m pc ls st0) :=
  va_csr hr.run (fun r h => by rw [h]; exact kk)
/-! ends that leave the heap -/
theorem sm_ri {F v : Int32} (hx : p.tables.exec = Jvm.exec) (hb : c.code = cc) (hr : meth.sig.returnType = some .int) (hlocks : meth.locks = false) (hv : F = v) (hdg : decode cc pc = .ok (.ireturn, 1)) : W p l e (rmd D) s m args below meth c s.heap [] 0 0 (MQ below (vp_Si (fun r => r = F)) args s 0 0 (fun _ => False)) (F0 m pc ls [.int v]) :=
  W.iret hx hb hr (fun t ht hW => ⟨v, rfl, hv.symm, ht⟩) (fun q h => by cases h) hdg hlocks
theorem sm_rz {F v : Int32} (hx : p.tables.exec = Jvm.exec) (hb : c.code = cc) (hr : meth.sig.returnType = some .boolean) (hlocks : meth.locks = false) (hn : narrow .boolean (.int v) = .int v) (hv : F = v) (hdg : decode cc pc = .ok (.ireturn, 1)) : W p l e (rmd D) s m args below meth c s.heap [] 0 0 (MQ below (vp_Si (fun r => r = F)) args s 0 0 (fun _ => False)) (F0 m pc ls [.int v]) :=
  W.zret hx hb hr hn (fun t ht hW => ⟨v, rfl, hv.symm, ht⟩) (fun q h => by cases h) hdg hlocks
theorem sm_rl {F v : Int64} (hx : p.tables.exec = Jvm.exec) (hb : c.code = cc) (hr : meth.sig.returnType = some .long) (hlocks : meth.locks = false) (hv : F = v) (hdg : decode cc pc = .ok (.lreturn, 1)) : W p l e (rmd D) s m args below meth c s.heap [] 0 0 (MQ below (vp_Sl (fun r => r = F)) args s 0 0 (fun _ => False)) (F0 m pc ls [.long v]) :=
  W.lret hx hb hr (fun t ht hW => ⟨v, rfl, hv.symm, ht⟩) (fun q h => by cases h) hdg hlocks
theorem sm_rr {F v : Nat} {ad : Nat → Nat} {C : String} (hx : p.tables.exec = Jvm.exec) (hb : c.code = cc) (hr : meth.sig.returnType = some (.object C)) (hlocks : meth.locks = false) (hv : F = v) (hdg : decode cc pc = .ok (.areturn, 1)) : W p l e (rmd D) s m args below meth c s.heap [] 0 0 (MQ below (va_Sr (fun r => r = F) (fun k => .ref (ad k))) args s 0 0 (fun _ => False)) (F0 m pc ls [.ref (ad v)]) :=
  W.aret hx hb hr (Or.inl ⟨_, rfl⟩) (Or.inr ⟨_, rfl⟩) (fun t ht hW => ⟨v, rfl, hv.symm, ht⟩) (fun q h => by cases h) hdg hlocks
end SM1
/-! long comparisons with their branch; names -/
section SM2
variable {p : Program} {l : Launch} {e : Env} {R : Room} {s : State} {m : MethodId} {args : Array Value} {below : List Frame} {meth : Method} {c : Code} {H : Heap} {locs : List Loc} {cells slots : Nat} {Q : State → Prop}
variable {cc : ByteArray} {pc : Nat} {ls : Array Slot} {rest : List Value}
theorem lc_eq (hx : p.tables.exec = Jvm.exec) (hb : c.code = cc) {x y : Int64} {off : Int} {tgt : Nat} (d1 : decode cc pc = .ok (.lcmp, 1)) (d2 : decode cc (pc + 1) = .ok (.ifCond .eq off, 3)) (ht : ((pc + 1 : Nat) : Int) + off = (tgt : Int))
    (kt : x = y → W p l e R s m args below meth c H locs cells slots Q (F0 m tgt ls rest)) (kf : ¬ x = y → W p l e R s m args below meth c H locs cells slots Q (F0 m (pc + 1 + 3) ls rest)) : W p l e R s m args below meth c H locs cells slots Q (F0 m pc ls (.long y :: .long x :: rest)) :=
  W.lcmp hx hb d1 (lv_if_eq hx hb d2 ht (fun h => kt ((lg_cmp_eq x y).mp h)) (fun h => kf (fun q => h ((lg_cmp_eq x y).mpr q))))
theorem lc_ne (hx : p.tables.exec = Jvm.exec) (hb : c.code = cc) {x y : Int64} {off : Int} {tgt : Nat} (d1 : decode cc pc = .ok (.lcmp, 1)) (d2 : decode cc (pc + 1) = .ok (.ifCond .ne off, 3)) (ht : ((pc + 1 : Nat) : Int) + off = (tgt : Int))
    (kt : ¬ x = y → W p l e R s m args below meth c H locs cells slots Q (F0 m tgt ls rest)) (kf : x = y → W p l e R s m args below meth c H locs cells slots Q (F0 m (pc + 1 + 3) ls rest)) : W p l e R s m args below meth c H locs cells slots Q (F0 m pc ls (.long y :: .long x :: rest)) :=
  W.lcmp hx hb d1 (lv_if_ne hx hb d2 ht (fun h => kt (fun q => h ((lg_cmp_eq x y).mpr q))) (fun h => kf ((lg_cmp_eq x y).mp h)))
theorem lc_lt (hx : p.tables.exec = Jvm.exec) (hb : c.code = cc) {x y : Int64} {off : Int} {tgt : Nat} (d1 : decode cc pc = .ok (.lcmp, 1)) (d2 : decode cc (pc + 1) = .ok (.ifCond .lt off, 3)) (ht : ((pc + 1 : Nat) : Int) + off = (tgt : Int))
    (kt : x < y → W p l e R s m args below meth c H locs cells slots Q (F0 m tgt ls rest)) (kf : ¬ x < y → W p l e R s m args below meth c H locs cells slots Q (F0 m (pc + 1 + 3) ls rest)) : W p l e R s m args below meth c H locs cells slots Q (F0 m pc ls (.long y :: .long x :: rest)) :=
  W.lcmp hx hb d1 (lv_if_lt hx hb d2 ht (fun h => kt ((lg_cmp_lt x y).mp h)) (fun h => kf (fun q => h ((lg_cmp_lt x y).mpr q))))
theorem lc_ge (hx : p.tables.exec = Jvm.exec) (hb : c.code = cc) {x y : Int64} {off : Int} {tgt : Nat} (d1 : decode cc pc = .ok (.lcmp, 1)) (d2 : decode cc (pc + 1) = .ok (.ifCond .ge off, 3)) (ht : ((pc + 1 : Nat) : Int) + off = (tgt : Int))
    (kt : y ≤ x → W p l e R s m args below meth c H locs cells slots Q (F0 m tgt ls rest)) (kf : ¬ y ≤ x → W p l e R s m args below meth c H locs cells slots Q (F0 m (pc + 1 + 3) ls rest)) : W p l e R s m args below meth c H locs cells slots Q (F0 m pc ls (.long y :: .long x :: rest)) :=
  W.lcmp hx hb d1 (lv_if_ge hx hb d2 ht (fun h => kt ((lg_cmp_ge x y).mp h)) (fun h => kf (fun q => h ((lg_cmp_ge x y).mpr q))))
theorem lc_gt (hx : p.tables.exec = Jvm.exec) (hb : c.code = cc) {x y : Int64} {off : Int} {tgt : Nat} (d1 : decode cc pc = .ok (.lcmp, 1)) (d2 : decode cc (pc + 1) = .ok (.ifCond .gt off, 3)) (ht : ((pc + 1 : Nat) : Int) + off = (tgt : Int))
    (kt : y < x → W p l e R s m args below meth c H locs cells slots Q (F0 m tgt ls rest)) (kf : ¬ y < x → W p l e R s m args below meth c H locs cells slots Q (F0 m (pc + 1 + 3) ls rest)) : W p l e R s m args below meth c H locs cells slots Q (F0 m pc ls (.long y :: .long x :: rest)) :=
  W.lcmp hx hb d1 (lv_if_gt hx hb d2 ht (fun h => kt ((lg_cmp_gt x y).mp h)) (fun h => kf (fun q => h ((lg_cmp_gt x y).mpr q))))
theorem lc_le (hx : p.tables.exec = Jvm.exec) (hb : c.code = cc) {x y : Int64} {off : Int} {tgt : Nat} (d1 : decode cc pc = .ok (.lcmp, 1)) (d2 : decode cc (pc + 1) = .ok (.ifCond .le off, 3)) (ht : ((pc + 1 : Nat) : Int) + off = (tgt : Int))
    (kt : x ≤ y → W p l e R s m args below meth c H locs cells slots Q (F0 m tgt ls rest)) (kf : ¬ x ≤ y → W p l e R s m args below meth c H locs cells slots Q (F0 m (pc + 1 + 3) ls rest)) : W p l e R s m args below meth c H locs cells slots Q (F0 m pc ls (.long y :: .long x :: rest)) :=
  W.lcmp hx hb d1 (lv_if_le hx hb d2 ht (fun h => kt ((lg_cmp_le x y).mp h)) (fun h => kf (fun q => h ((lg_cmp_le x y).mpr q))))
/-- the number on top gets a name; what is asked of the end goes with it -/
theorem sm_nmi {α : Type} {F : α} {x : Int32} {g : Int32 → α} (hv : F = sm_let x g) (k : ∀ y : Int32, y = x → F = g y → W p l e R s m args below meth c H locs cells slots Q (F0 m pc ls (.int y :: rest))) : W p l e R s m args below meth c H locs cells slots Q (F0 m pc ls (.int x :: rest)) := k x rfl hv
theorem sm_nml {α : Type} {F : α} {x : Int64} {g : Int64 → α} (hv : F = sm_let x g) (k : ∀ y : Int64, y = x → F = g y → W p l e R s m args below meth c H locs cells slots Q (F0 m pc ls (.long y :: rest))) : W p l e R s m args below meth c H locs cells slots Q (F0 m pc ls (.long x :: rest)) := k x rfl hv
end SM2
/-- a null test in a function -/
def sm_oc {α : Type} (q : Option Nat) (a : α) (b : Nat → α) : α := match q with
  | none => a
  | some i => b i
theorem sm_oc_n {α : Type} {q : Option Nat} {a : α} {b : Nat → α} (h : q = none) : sm_oc q a b = a := by rw [h]; rfl
theorem sm_oc_s {α : Type} {q : Option Nat} {a : α} {b : Nat → α} {i : Nat} (h : q = some i) : sm_oc q a b = b i := by rw [h]; rfl
end
section
/-! OWN ROWS 2: what stands around a method: constants, classes, words of the nest; worlds as a row of cells -/
abbrev sm_cls : List vw_C := [(RX0, TX0, 4), (RX2, TX2, 2), (RX5, TX5, 8), (RX6, TX6, 21)]
abbrev sm_G : Type := (Nat → Nat) × Nat × Nat × va_G × ClassId × ClassId × ClassId × ClassId
abbrev gF (g : sm_G) : Nat → Nat := g.1
abbrev gtF (g : sm_G) : Nat := g.2.1
abbrev gtT (g : sm_G) : Nat := g.2.2.1
abbrev gD (g : sm_G) : va_G := g.2.2.2.1
abbrev gI (g : sm_G) : ClassId := g.2.2.2.2.1
abbrev gL (g : sm_G) : ClassId := g.2.2.2.2.2.1
abbrev gZ (g : sm_G) : ClassId := g.2.2.2.2.2.2.1
abbrev gC (g : sm_G) : ClassId := g.2.2.2.2.2.2.2
abbrev sm_tys (g : sm_G) : List (ClassId × FieldType) := [(gI g, .int), (gL g, .long), (gZ g, .boolean), (gC g, .object RX0)]
def sm_N : List Cond := [.methodLinkNest RX5 31 yX2_init RX5, .methodLinkNest RX5 39 yX0_init RX5, .methodLinkNest RX4 11 yX5_isBelow RX5, .methodLinkNest RX4 19 yX5_isFloating RX5, .methodLinkNest RX4 49 yX5_formatOf RX5, .methodLinkNest RX4 56 yX5_held RX5, .methodLinkNest RX3 11 yX5_isFloating RX5, .methodLinkNest RX0 30 yX5_inexact RX5, .methodLinkNest RX2 23 yX5_isBelow RX5]
def kFr (i : Nat) : Int32 := if i = 0 then 23 else 52
def kLe (i : Nat) : Int32 := if i = 0 then -149 else -1074
def kMo (i : Nat) : Int32 := if i = 0 then 255 else 2047
def kSi (i : Nat) : Int64 := if i = 0 then -2147483648 else -9223372036854775808
def kIn (i : Nat) : Int64 := if i = 0 then 2139095040 else 9218868437227405312
def kNa (i : Nat) : Int64 := if i = 0 then 2143289344 else 9221120237041090560
def kCF (j : Nat) : Int32 := ([0, 0, 0, 1, 1, 1, 2, 2, 2, 3, 3, 3, 0, 0, 0] : List Int32).getD j 0
def kCT (j : Nat) : Int32 := ([1, 2, 3, 0, 2, 3, 0, 1, 3, 0, 1, 2, 0, 0, 0] : List Int32).getD j 0
def sm_K (g : sm_G) (A : Nat → Prop) (U : State) (H : Heap) : Prop :=
  (va_Z RX1 "BITS32" "LShadowMachine$Format;" (.ref (gF g 0)) A U H ∧ va_Z RX1 "BITS64" "LShadowMachine$Format;" (.ref (gF g 1)) A U H) ∧ (∀ i, i < 2 → va_O RX1 (gF g i) A U H) ∧
  (va_Ef 2 RX1 "fractionBits" "I" (fun i => .int (kFr i)) (gF g) A U H ∧ va_Ef 2 RX1 "leastExponent" "I" (fun i => .int (kLe i)) (gF g) A U H ∧ va_Ef 2 RX1 "mostField" "I" (fun i => .int (kMo i)) (gF g) A U H ∧
   va_Ef 2 RX1 "sign" "J" (fun i => .long (kSi i)) (gF g) A U H ∧ va_Ef 2 RX1 "infinity" "J" (fun i => .long (kIn i)) (gF g) A U H ∧ va_Ef 2 RX1 "nan" "J" (fun i => .long (kNa i)) (gF g) A U H) ∧
  (va_Z RX4 "CONVERTED_FROM" "[I" (.ref (gtF g)) A U H ∧ va_T .int (gtF g) 15 (fun j => .int (kCF j)) A U H) ∧ (va_Z RX4 "CONVERTED_TO" "[I" (.ref (gtT g)) A U H ∧ va_T .int (gtT g) 15 (fun j => .int (kCT j)) A U H)
def sm_A (g : sm_G) (A : Nat → Prop) (U : State) (H : Heap) : Prop := sm_K g A U H ∧ (∀ w ∈ sm_N, va_Nw w U) ∧ va_K (gD g) sm_cls (sm_tys g) U ∧ va_AO RX0 U
theorem sm_K.moved {g : sm_G} {A : Nat → Prop} {u U : State} {H : Heap} (hvm : u.vm.Alike U.vm) (h : sm_K g A u H) : sm_K g A U H := by
  obtain ⟨⟨a1, a2⟩, a3, ⟨b1, b2, b3, b4, b5, b6⟩, ⟨c1, c2⟩, ⟨d1, d2⟩⟩ := h
  exact ⟨⟨a1.moved hvm, a2.moved hvm⟩, fun i hi => (a3 i hi).moved hvm, ⟨b1.moved hvm, b2.moved hvm, b3.moved hvm, b4.moved hvm, b5.moved hvm, b6.moved hvm⟩, ⟨c1.moved hvm, c2.moved hvm⟩, ⟨d1.moved hvm, d2.moved hvm⟩⟩
theorem sm_K.kept {g : sm_G} {A : Nat → Prop} {U : State} {H H1 : Heap} (h : sm_K g A U H) (hq : ∀ a : Nat, a < H.size → ¬ A a → H1[a]? = H[a]?) : sm_K g A U H1 := by
  obtain ⟨⟨a1, a2⟩, a3, ⟨b1, b2, b3, b4, b5, b6⟩, ⟨c1, c2⟩, ⟨d1, d2⟩⟩ := h
  exact ⟨⟨a1.kept hq, a2.kept hq⟩, fun i hi => (a3 i hi).kept hq, ⟨b1.kept hq, b2.kept hq, b3.kept hq, b4.kept hq, b5.kept hq, b6.kept hq⟩, ⟨c1.kept hq, c2.kept hq⟩, ⟨d1.kept hq, d2.kept hq⟩⟩
theorem sm_K.narrow {g : sm_G} {A B : Nat → Prop} {U : State} {H : Heap} (h : sm_K g A U H) (hq : ∀ q, B q → A q) : sm_K g B U H := by
  obtain ⟨⟨a1, a2⟩, a3, ⟨b1, b2, b3, b4, b5, b6⟩, ⟨c1, c2⟩, ⟨d1, d2⟩⟩ := h
  exact ⟨⟨a1.narrow hq, a2.narrow hq⟩, fun i hi => (a3 i hi).narrow hq, ⟨b1.narrow hq, b2.narrow hq, b3.narrow hq, b4.narrow hq, b5.narrow hq, b6.narrow hq⟩, ⟨c1.narrow hq, c2.narrow hq⟩, ⟨d1.narrow hq, d2.narrow hq⟩⟩
theorem sm_N_cases {P : Cond → Prop} (h : ∀ (a : String) (i : Nat) (x : MethodName) (b : String), Cond.methodLinkNest a i x b ∈ sm_N → P (.methodLinkNest a i x b)) : ∀ w ∈ sm_N, P w := by
  intro w hw
  have hw2 := hw
  simp only [sm_N, List.mem_cons, List.not_mem_nil, or_false] at hw
  rcases hw with e | e | e | e | e | e | e | e | e <;> (subst e; exact h _ _ _ _ hw2)
theorem sm_A.moved {g : sm_G} {A : Nat → Prop} {s U : State} {H : Heap} (hW : s.WarmedH U.vm) (h : sm_A g A s H) : sm_A g A U H :=
  ⟨h.1.moved hW.alike, sm_N_cases (P := fun w => va_Nw w U) (fun a i x b hw => va_Nw.warmM hW (h.2.1 _ hw)), va_K.moved hW.alike h.2.2.1, va_AO.moved hW.alike h.2.2.2⟩
theorem sm_A.blind {g : sm_G} {A : Nat → Prop} {U : State} {H : Heap} {f : JFrame} {mk : MethodId} {a : Array Value} (h : sm_A g A U H) : sm_A g A (U.calling f mk a) H :=
  ⟨sm_K.moved (u := U) (U := U.calling f mk a) (Vm.Alike.refl U.vm) h.1, sm_N_cases (P := fun w => va_Nw w (U.calling f mk a)) (fun a i x b hw => va_Nw.same rfl rfl (h.2.1 _ hw)), va_K.moved (u := U) (U := U.calling f mk a) (Vm.Alike.refl U.vm) h.2.2.1, va_AO.moved (u := U) (U := U.calling f mk a) (Vm.Alike.refl U.vm) h.2.2.2⟩
theorem sm_A.kept {g : sm_G} {A : Nat → Prop} {U : State} {H H1 : Heap} (h : sm_A g A U H) (hq : ∀ a : Nat, a < H.size → ¬ A a → H1[a]? = H[a]?) : sm_A g A U H1 := ⟨h.1.kept hq, h.2⟩
theorem sm_A.narrow {g : sm_G} {A B : Nat → Prop} {U : State} {H : Heap} (h : sm_A g A U H) (hq : ∀ q, B q → A q) : sm_A g B U H := ⟨h.1.narrow hq, h.2⟩
/-! a method without a world -/
def sm_P0 (g : sm_G) (U : State) : Prop := sm_A g (fun _ => False) U U.heap
section SMP
variable {s : State} {H : Heap} {locs : List Loc} {A : Nat → Prop} {g : sm_G} {As : List Value}
theorem sm_ps (hA : sm_A g A s s.heap) (hS : va_S A s.heap H locs) : PreS s H (va_Pc As (sm_P0 g)) As :=
  ⟨fun a U f mk q => ⟨q.1, sm_A.blind q.2⟩, fun U hU hW => ⟨rfl, by
    have h1 : sm_A g A U H := (hA.kept hS.2.1).moved hW
    show sm_A g _ U U.heap
    rw [hU]
    exact h1.narrow (fun _ h => h.elim)⟩⟩
theorem sm_pf (hA : sm_A g A s s.heap) (hS : va_S A s.heap H locs) {i : Nat} (hi : i < 2) : PreV s H RX1 (gF g i) (va_Pc (.ref (gF g i) :: As) (sm_P0 g)) As := by
  refine ⟨(sm_ps (As := .ref (gF g i) :: As) hA hS).1, ?_, (sm_ps (As := .ref (gF g i) :: As) hA hS).2⟩
  obtain ⟨cell, h1, h2, h3, -⟩ := (hA.1.2.1 i hi).kept hS.2.1
  exact ⟨cell, h1, h2, h3⟩
end SMP
/-! worlds: N cells at the addresses ad 0, ad 1 ..; what they hold is told by a state -/
abbrev sm_S : Type := (Nat → Nat → Int32) × (Nat → Nat → Int64) × (Nat → Option Nat)
def uI (σ : sm_S) (k i : Nat) (x : Int32) : sm_S := (fun a => if a = k then upd (σ.1 a) i x else σ.1 a, σ.2)
def uL (σ : sm_S) (k i : Nat) (x : Int64) : sm_S := (σ.1, fun a => if a = k then vp_updL (σ.2.1 a) i x else σ.2.1 a, σ.2.2)
def uR (σ : sm_S) (h : Nat) (q : Option Nat) : sm_S := (σ.1, σ.2.1, va_up σ.2.2 h q)
def sm_w (N : Nat) (ad : Nat → Nat) (E : Nat → va_E) : va_W := (List.range N).map (fun k => (ad k, E k))
theorem sm_w_at {N : Nat} {ad : Nat → Nat} {E : Nat → va_E} {k : Nat} (hk : k < N) : (sm_w N ad E)[k]? = some (ad k, E k) := by
  simp [sm_w, hk]
theorem sm_w_set {N : Nat} {ad : Nat → Nat} {E E' : Nat → va_E} {k : Nat} {e : va_E} (h : ∀ j, j < N → E' j = if j = k then e else E j) : (sm_w N ad E).set k (ad k, e) = sm_w N ad E' := by
  apply List.ext_getElem?
  intro j
  by_cases hj : j < N
  · rw [sm_w_at hj, List.getElem?_set, h j hj]
    by_cases hkj : k = j
    · subst hkj
      simp [sm_w, hj]
    · rw [if_neg hkj, sm_w_at hj, if_neg (fun q => hkj q.symm)]
  · rw [List.getElem?_eq_none (by simp [sm_w]; omega), List.getElem?_eq_none (by simp [sm_w]; omega)]
def sm_AX (N : Nat) (ad : Nat → Nat) (sz : Nat) : Nat → Prop := fun q => (∃ k, k < N ∧ q = ad k) ∨ sz ≤ q
def sm_inj (N : Nat) (ad : Nat → Nat) : Prop := ∀ i j, i < N → j < N → ad i = ad j → i = j
theorem sm_D {N : Nat} {ad : Nat → Nat} {E : Nat → va_E} {sz : Nat} (hj : sm_inj N ad) : va_D (sm_AX N ad sz) (sm_w N ad E) := by
  have h0 : ∀ (k : Nat) (q : Nat × va_E), (sm_w N ad E)[k]? = some q → k < N ∧ q.1 = ad k := by
    intro k q h
    have hk : k < N := by
      have := (List.getElem?_eq_some_iff.mp h).1
      simpa [sm_w] using this
    rw [sm_w_at hk] at h
    cases h
    exact ⟨hk, rfl⟩
  refine ⟨fun i j p q hi hq e => ?_, fun k q h => ?_⟩
  · obtain ⟨a1, a2⟩ := h0 i p hi
    obtain ⟨b1, b2⟩ := h0 j q hq
    exact hj i j a1 b1 (by rw [← a2, ← b2]; exact e)
  · obtain ⟨a1, a2⟩ := h0 k q h
    exact Or.inl ⟨k, a1, a2⟩
/-- what a cell holds depends on its own numbers alone (and the references) -/
def sm_lay (E : sm_S → Nat → va_E) : Prop := ∀ (σ τ : sm_S) (j : Nat), σ.1 j = τ.1 j → σ.2.1 j = τ.2.1 j → σ.2.2 = τ.2.2 → E σ j = E τ j
abbrev sm_PP (g : sm_G) (N : Nat) (ad : Nat → Nat) (E : sm_S → Nat → va_E) (σ : sm_S) (H : Heap) : Prop := va_P (gD g) sm_cls (sm_w N ad (E σ)) H
/-- inside a method with a world: the heap holds σ, only the world was written -/
def sm_B (g : sm_G) (N : Nat) (ad : Nat → Nat) (E : sm_S → Nat → va_E) (s : State) (H : Heap) (locs : List Loc) (σ : sm_S) : Prop := sm_PP g N ad E σ H ∧ va_S (sm_AX N ad s.heap.size) s.heap H locs
/-- around it: never changes inside a method -/
def sm_W (g : sm_G) (N : Nat) (ad : Nat → Nat) (E : sm_S → Nat → va_E) (s : State) : Prop := sm_A g (sm_AX N ad s.heap.size) s s.heap ∧ sm_inj N ad ∧ sm_lay E
def sm_Pre (g : sm_G) (N : Nat) (ad : Nat → Nat) (E : sm_S → Nat → va_E) (σ : sm_S) (sz : Nat) (U : State) : Prop := U.heap.size = sz ∧ sm_PP g N ad E σ U.heap ∧ sm_A g (sm_AX N ad sz) U U.heap
theorem sm_AX.sub {N : Nat} {ad : Nat → Nat} {a b : Nat} (h : a ≤ b) : ∀ q, sm_AX N ad b q → sm_AX N ad a q := by
  intro q hq
  rcases hq with h1 | h1
  · exact Or.inl h1
  · exact Or.inr (Nat.le_trans h h1)
section SMW
variable {p : Program} {l : Launch} {e : Env} {s : State} {m : MethodId} {args : Array Value} {below : List Frame} {meth : Method} {c : Code} {H : Heap} {locs : List Loc} {R : Room} {cells slots : Nat} {Q : State → Prop}
variable {cc : ByteArray} {pc : Nat} {ls : Array Slot} {rest st0 : List Value} {own : String} {nL D N : Nat} {ad : Nat → Nat} {E : sm_S → Nat → va_E} {g : sm_G} {σ : sm_S} {As : List Value}
theorem sm_pw (hW : sm_W g N ad E s) (hB : sm_B g N ad E s H locs σ) : PreS s H (va_Pc As (sm_Pre g N ad E σ H.size)) As :=
  ⟨fun a U f mk q => ⟨q.1, q.2.1, q.2.2.1, sm_A.blind q.2.2.2⟩, fun U hU hw => ⟨rfl, by rw [hU], by rw [hU]; exact hB.1, by
    have h1 : sm_A g (sm_AX N ad s.heap.size) U H := (hW.1.kept hB.2.2.1).moved hw
    rw [hU]
    exact h1.narrow (sm_AX.sub hB.2.1)⟩⟩
theorem sm_pv (hW : sm_W g N ad E s) (hB : sm_B g N ad E s H locs σ) {k ci : Nat} {fs : List Value} {C : String} {T : u_T} {n : Nat} (hk : k < N) (hE : E σ k = .inr (ci, fs)) (hc : sm_cls[ci]? = some (C, T, n)) : PreV s H C (ad k) (va_Pc (.ref (ad k) :: As) (sm_Pre g N ad E σ H.size)) As := by
  refine ⟨(sm_pw (As := .ref (ad k) :: As) hW hB).1, ?_, (sm_pw (As := .ref (ad k) :: As) hW hB).2⟩
  exact va_recv (ws := sm_w N ad (E σ)) (q0 := k) hW.1.2.2.1 hB.1 hc (by rw [sm_w_at hk, hE])
/-! ends and calls of methods that write their world -/
abbrev sm_At (g : sm_G) (N : Nat) (ad : Nat → Nat) (E : sm_S → Nat → va_E) : sm_S → State → Prop := fun u t => sm_PP g N ad E u t.heap
abbrev sm_Qi (g : sm_G) (N : Nat) (ad : Nat → Nat) (E : sm_S → Nat → va_E) (sz : Nat) (F : Int32 × sm_S) : Array Value → State → Outcome → State → Prop := va_Qi (fun r u => r = F.1 ∧ u = F.2) (sm_At g N ad E) (sm_AX N ad sz)
abbrev sm_Ql (g : sm_G) (N : Nat) (ad : Nat → Nat) (E : sm_S → Nat → va_E) (sz : Nat) (F : Int64 × sm_S) : Array Value → State → Outcome → State → Prop := va_Ql (fun r u => r = F.1 ∧ u = F.2) (sm_At g N ad E) (sm_AX N ad sz)
abbrev sm_Qv (g : sm_G) (N : Nat) (ad : Nat → Nat) (E : sm_S → Nat → va_E) (sz : Nat) (F : sm_S) : Array Value → State → Outcome → State → Prop := va_Qv (fun u => u = F) (sm_At g N ad E) (sm_AX N ad sz)
theorem sw_ci {F : Int32 × sm_S} {a : Array Value} (hB : sm_B g N ad E s H locs σ) (hr : va_Run p l e (rmd D) s m args below meth c H locs 0 0 0 0 (F0 m pc ls st0) rest (sm_Qi g N ad E H.size F a) (sm_AX N ad H.size))
    (kk : ∀ (H1 : Heap) (locs1 : List Loc), sm_B g N ad E s H1 locs1 F.2 → W p l e (rmd D) s m args below meth c H1 locs1 0 0 Q (F0 m (pc + 3) ls (.int F.1 :: rest))) : W p l e (rmd D) s m args below meth c H locs 0 0 Q (F0 m pc ls st0) :=
  va_calli hr hB.2 (fun q _ h => sm_AX.sub hB.2.1 q h) (sm_AX.sub hB.2.1) (fun r u t H1 locs1 ht _ hp hb _ _ hS => by
    obtain ⟨rfl, rfl⟩ := hp
    exact kk H1 locs1 ⟨by rw [← ht]; exact hb, hS⟩)
theorem sw_cl {F : Int64 × sm_S} {a : Array Value} (hB : sm_B g N ad E s H locs σ) (hr : va_Run p l e (rmd D) s m args below meth c H locs 0 0 0 0 (F0 m pc ls st0) rest (sm_Ql g N ad E H.size F a) (sm_AX N ad H.size))
    (kk : ∀ (H1 : Heap) (locs1 : List Loc), sm_B g N ad E s H1 locs1 F.2 → W p l e (rmd D) s m args below meth c H1 locs1 0 0 Q (F0 m (pc + 3) ls (.long F.1 :: rest))) : W p l e (rmd D) s m args below meth c H locs 0 0 Q (F0 m pc ls st0) :=
  va_calll hr hB.2 (fun q _ h => sm_AX.sub hB.2.1 q h) (sm_AX.sub hB.2.1) (fun r u t H1 locs1 ht _ hp hb _ _ hS => by
    obtain ⟨rfl, rfl⟩ := hp
    exact kk H1 locs1 ⟨by rw [← ht]; exact hb, hS⟩)
theorem sw_cv {F : sm_S} {a : Array Value} (hB : sm_B g N ad E s H locs σ) (hr : va_Run p l e (rmd D) s m args below meth c H locs 0 0 0 0 (F0 m pc ls st0) rest (sm_Qv g N ad E H.size F a) (sm_AX N ad H.size))
    (kk : ∀ (H1 : Heap) (locs1 : List Loc), sm_B g N ad E s H1 locs1 F → W p l e (rmd D) s m args below meth c H1 locs1 0 0 Q (F0 m (pc + 3) ls rest)) : W p l e (rmd D) s m args below meth c H locs 0 0 Q (F0 m pc ls st0) :=
  va_callv hr hB.2 (fun q _ h => sm_AX.sub hB.2.1 q h) (sm_AX.sub hB.2.1) (fun u t H1 locs1 ht _ hp hb _ _ hS => by
    obtain rfl := hp
    exact kk H1 locs1 ⟨by rw [← ht]; exact hb, hS⟩)
theorem sw_ri {F : Int32 × sm_S} {v : Int32} (hx : p.tables.exec = Jvm.exec) (hb : c.code = cc) (hr : meth.sig.returnType = some .int) (hlocks : meth.locks = false) (hB : sm_B g N ad E s H locs σ) (hv : F = (v, σ)) (hdg : decode cc pc = .ok (.ireturn, 1)) : W p l e (rmd D) s m args below meth c H locs 0 0 (MQ below (sm_Qi g N ad E s.heap.size F) args s 0 0 (sm_AX N ad s.heap.size)) (F0 m pc ls [.int v]) :=
  W.iret hx hb hr (fun t ht hW => ⟨⟨v, σ, rfl, ⟨by rw [hv], by rw [hv]⟩, by show sm_PP _ _ _ _ _ t.heap; rw [ht]; exact hB.1⟩, hB.2.F ht⟩) hB.2.2.2 hdg hlocks
theorem sw_rz {F : Int32 × sm_S} {v : Int32} (hx : p.tables.exec = Jvm.exec) (hb : c.code = cc) (hr : meth.sig.returnType = some .boolean) (hlocks : meth.locks = false) (hB : sm_B g N ad E s H locs σ) (hn : narrow .boolean (.int v) = .int v) (hv : F = (v, σ)) (hdg : decode cc pc = .ok (.ireturn, 1)) : W p l e (rmd D) s m args below meth c H locs 0 0 (MQ below (sm_Qi g N ad E s.heap.size F) args s 0 0 (sm_AX N ad s.heap.size)) (F0 m pc ls [.int v]) :=
  W.zret hx hb hr hn (fun t ht hW => ⟨⟨v, σ, rfl, ⟨by rw [hv], by rw [hv]⟩, by show sm_PP _ _ _ _ _ t.heap; rw [ht]; exact hB.1⟩, hB.2.F ht⟩) hB.2.2.2 hdg hlocks
theorem sw_rl {F : Int64 × sm_S} {v : Int64} (hx : p.tables.exec = Jvm.exec) (hb : c.code = cc) (hr : meth.sig.returnType = some .long) (hlocks : meth.locks = false) (hB : sm_B g N ad E s H locs σ) (hv : F = (v, σ)) (hdg : decode cc pc = .ok (.lreturn, 1)) : W p l e (rmd D) s m args below meth c H locs 0 0 (MQ below (sm_Ql g N ad E s.heap.size F) args s 0 0 (sm_AX N ad s.heap.size)) (F0 m pc ls [.long v]) :=
  W.lret hx hb hr (fun t ht hW => ⟨⟨v, σ, rfl, ⟨by rw [hv], by rw [hv]⟩, by show sm_PP _ _ _ _ _ t.heap; rw [ht]; exact hB.1⟩, hB.2.F ht⟩) hB.2.2.2 hdg hlocks
theorem sw_rv {F : sm_S} (hx : p.tables.exec = Jvm.exec) (hb : c.code = cc) (hr : meth.sig.returnType = none) (hlocks : meth.locks = false) (hB : sm_B g N ad E s H locs σ) (hv : F = σ) (hdg : decode cc pc = .ok (.return_, 1)) : W p l e (rmd D) s m args below meth c H locs 0 0 (MQ below (sm_Qv g N ad E s.heap.size F) args s 0 0 (sm_AX N ad s.heap.size)) (F0 m pc ls []) :=
  W.vret hx hb hr (fun t ht hW => ⟨⟨σ, rfl, hv.symm, by show sm_PP _ _ _ _ _ t.heap; rw [ht]; exact hB.1⟩, hB.2.F ht⟩) hB.2.2.2 hdg hlocks
/-! reading and writing the world's cells -/
theorem sw_ia (hx : p.tables.exec = Jvm.exec) (hb : c.code = cc) (hW : sm_W g N ad E s) (hB : sm_B g N ad E s H locs σ) (k : Nat) {len : Nat} (hk : k < N) (hE : ∀ τ : sm_S, E τ k = .inl (gI g, len, .inl (τ.1 k))) {i : Int32} (hin : vp_in i len) (hdg : decode cc pc = .ok (.iaload, 1))
    (kk : W p l e R s m args below meth c H locs cells slots Q (F0 m (pc + 1) ls (.int (σ.1 k i.toNatClampNeg) :: rest))) : W p l e R s m args below meth c H locs cells slots Q (F0 m pc ls (.int i :: .ref (ad k) :: rest)) :=
  va_iald (ws := sm_w N ad (E σ)) hx hb hW.1.2.2.1 hB.1 k 0 (by rw [sm_w_at hk, hE]) rfl hin hdg kk
theorem sw_za (hx : p.tables.exec = Jvm.exec) (hb : c.code = cc) (hW : sm_W g N ad E s) (hB : sm_B g N ad E s H locs σ) (k : Nat) {len : Nat} (hk : k < N) (hE : ∀ τ : sm_S, E τ k = .inl (gZ g, len, .inl (τ.1 k))) {i : Int32} (hin : vp_in i len) (hdg : decode cc pc = .ok (.baload, 1))
    (kk : W p l e R s m args below meth c H locs cells slots Q (F0 m (pc + 1) ls (.int (σ.1 k i.toNatClampNeg) :: rest))) : W p l e R s m args below meth c H locs cells slots Q (F0 m pc ls (.int i :: .ref (ad k) :: rest)) :=
  va_zald (ws := sm_w N ad (E σ)) hx hb hW.1.2.2.1 hB.1 k 2 (by rw [sm_w_at hk, hE]) rfl hin hdg kk
theorem sw_la (hx : p.tables.exec = Jvm.exec) (hb : c.code = cc) (hW : sm_W g N ad E s) (hB : sm_B g N ad E s H locs σ) (k : Nat) {len : Nat} (hk : k < N) (hE : ∀ τ : sm_S, E τ k = .inl (gL g, len, .inr (.inl (τ.2.1 k)))) {i : Int32} (hin : vp_in i len) (hdg : decode cc pc = .ok (.laload, 1))
    (kk : W p l e R s m args below meth c H locs cells slots Q (F0 m (pc + 1) ls (.long (σ.2.1 k i.toNatClampNeg) :: rest))) : W p l e R s m args below meth c H locs cells slots Q (F0 m pc ls (.int i :: .ref (ad k) :: rest)) :=
  va_lald (ws := sm_w N ad (E σ)) hx hb hW.1.2.2.1 hB.1 k 1 (by rw [sm_w_at hk, hE]) rfl hin hdg kk
theorem sm_uI_at (hl : sm_lay E) {k i : Nat} {x : Int32} {v : va_E} (hv : E (uI σ k i x) k = v) : ∀ j, j < N → E (uI σ k i x) j = if j = k then v else E σ j := by
  intro j _
  by_cases h : j = k
  · subst h; rw [if_pos rfl]; exact hv
  · rw [if_neg h]
    exact hl _ _ j (by simp [uI, h]) rfl rfl
theorem sm_uL_at (hl : sm_lay E) {k i : Nat} {x : Int64} {v : va_E} (hv : E (uL σ k i x) k = v) : ∀ j, j < N → E (uL σ k i x) j = if j = k then v else E σ j := by
  intro j _
  by_cases h : j = k
  · subst h; rw [if_pos rfl]; exact hv
  · rw [if_neg h]
    exact hl _ _ j rfl (by simp [uL, h]) rfl
theorem sw_is (hx : p.tables.exec = Jvm.exec) (hb : c.code = cc) (hW : sm_W g N ad E s) (hB : sm_B g N ad E s H locs σ) (k : Nat) {len : Nat} (hk : k < N) (hE : ∀ τ : sm_S, E τ k = .inl (gI g, len, .inl (τ.1 k))) {i x : Int32} (hin : vp_in i len) (hdg : decode cc pc = .ok (.iastore, 1))
    (kk : ∀ (H1 : Heap) (locs1 : List Loc), sm_B g N ad E s H1 locs1 (uI σ k i.toNatClampNeg x) → W p l e R s m args below meth c H1 locs1 cells slots Q (F0 m (pc + 1) ls rest)) : W p l e R s m args below meth c H locs cells slots Q (F0 m pc ls (.int x :: .int i :: .ref (ad k) :: rest)) := by
  refine va_iast (ws := sm_w N ad (E σ)) hx hb hW.1.2.2.1 hB.1 (sm_D hW.2.1) hB.2 k 0 (by rw [sm_w_at hk, hE]) rfl hin hdg (fun H1 locs1 hP _ hS => kk H1 locs1 ⟨?_, hS⟩)
  rw [sm_w_set (E' := E (uI σ k i.toNatClampNeg x)) (sm_uI_at hW.2.2 (by rw [hE]; simp [uI]))] at hP
  exact hP
theorem sw_zs (hx : p.tables.exec = Jvm.exec) (hb : c.code = cc) (hW : sm_W g N ad E s) (hB : sm_B g N ad E s H locs σ) (k : Nat) {len : Nat} (hk : k < N) (hE : ∀ τ : sm_S, E τ k = .inl (gZ g, len, .inl (τ.1 k))) {i x : Int32} (hin : vp_in i len) (hdg : decode cc pc = .ok (.bastore, 1))
    (kk : ∀ (H1 : Heap) (locs1 : List Loc), sm_B g N ad E s H1 locs1 (uI σ k i.toNatClampNeg (vp_nar .boolean x)) → W p l e R s m args below meth c H1 locs1 cells slots Q (F0 m (pc + 1) ls rest)) : W p l e R s m args below meth c H locs cells slots Q (F0 m pc ls (.int x :: .int i :: .ref (ad k) :: rest)) := by
  refine va_zast (ws := sm_w N ad (E σ)) hx hb hW.1.2.2.1 hB.1 (sm_D hW.2.1) hB.2 k 2 (by rw [sm_w_at hk, hE]) rfl hin hdg (fun H1 locs1 hP _ hS => kk H1 locs1 ⟨?_, hS⟩)
  rw [sm_w_set (E' := E (uI σ k i.toNatClampNeg (vp_nar .boolean x))) (sm_uI_at hW.2.2 (by rw [hE]; simp [uI]))] at hP
  exact hP
theorem sw_ls (hx : p.tables.exec = Jvm.exec) (hb : c.code = cc) (hW : sm_W g N ad E s) (hB : sm_B g N ad E s H locs σ) (k : Nat) {len : Nat} (hk : k < N) (hE : ∀ τ : sm_S, E τ k = .inl (gL g, len, .inr (.inl (τ.2.1 k)))) {i : Int32} {x : Int64} (hin : vp_in i len) (hdg : decode cc pc = .ok (.lastore, 1))
    (kk : ∀ (H1 : Heap) (locs1 : List Loc), sm_B g N ad E s H1 locs1 (uL σ k i.toNatClampNeg x) → W p l e R s m args below meth c H1 locs1 cells slots Q (F0 m (pc + 1) ls rest)) : W p l e R s m args below meth c H locs cells slots Q (F0 m pc ls (.long x :: .int i :: .ref (ad k) :: rest)) := by
  refine va_last (ws := sm_w N ad (E σ)) hx hb hW.1.2.2.1 hB.1 (sm_D hW.2.1) hB.2 k 1 (by rw [sm_w_at hk, hE]) rfl hin hdg (fun H1 locs1 hP _ hS => kk H1 locs1 ⟨?_, hS⟩)
  rw [sm_w_set (E' := E (uL σ k i.toNatClampNeg x)) (sm_uL_at hW.2.2 (by rw [hE]; simp [uL]))] at hP
  exact hP
/-- a field of an object of the world -/
theorem sw_g {C ref : String} {T : u_T} {n ci index : Nat} (hx : p.tables.exec = Jvm.exec) (hb : c.code = cc) (hts : ∀ w ∈ sm_T, w.before args s = true) (hown : s.vm.findClass own = some m.cls) (hin : ∀ w ∈ u_ws C T n, w ∈ sm_T) (hW : sm_W g N ad E s) (hB : sm_B g N ad E s H locs σ) (k : Nat) (hk : k < N) {fs : List Value} (hE : E σ k = .inr (ci, fs)) (hc : sm_cls[ci]? = some (C, T, n)) (f : Nat) (hf : f < n) (href : ref = (T f).1) (hl : Cond.fieldLink own index ref (T f).2.1 (T f).2.2.1 ∈ sm_T) {v : Value} (hv : fs[f]? = some v) (hdg : decode cc pc = .ok (.getfield index, 3))
    (kk : W p l e R s m args below meth c H locs cells slots Q (F0 m (pc + 3) ls (v :: rest))) : W p l e R s m args below meth c H locs cells slots Q (F0 m pc ls (.ref (ad k) :: rest)) :=
  va_get (ws := sm_w N ad (E σ)) hx hb hts hin hown hW.1.2.2.1 hB.1 k (by rw [sm_w_at hk, hE]) hc f hf (hts _ hl) (fun x h => by rw [href]; exact h) hv hdg kk
/-- an int field of an object of the world is written: place i of the cell's numbers -/
theorem sw_p {C ref : String} {T : u_T} {n ci index : Nat} (ty0 : Nat → FieldType) (hty : ∀ k, k < n → parseFieldDescriptor (T k).2.2.1 = some (ty0 k)) (hnm : ∀ a, a < n → ∀ b, b < n → a ≠ b → (T a).2.1 ≠ (T b).2.1) (hx : p.tables.exec = Jvm.exec) (hb : c.code = cc) (hts : ∀ w ∈ sm_T, w.before args s = true) (hown : s.vm.findClass own = some m.cls) (hin : ∀ w ∈ u_ws C T n, w ∈ sm_T) (hW : sm_W g N ad E s) (hB : sm_B g N ad E s H locs σ) (k : Nat) (hk : k < N) {fs : List Value} (hE : E σ k = .inr (ci, fs)) (hc : sm_cls[ci]? = some (C, T, n)) (f : Nat) (hf : f < n) (href : ref = (T f).1) (hl : Cond.fieldLink own index ref (T f).2.1 (T f).2.2.1 ∈ sm_T) (hfin : (T f).2.2.2 = false) (hd : parseFieldDescriptor (T f).2.2.1 = some .int) (hlen : f < fs.length) (i : Nat) {x : Int32} (hE2 : E (uI σ k i x) k = .inr (ci, fs.set f (.int x))) (hdg : decode cc pc = .ok (.putfield index, 3))
    (kk : ∀ (H1 : Heap) (locs1 : List Loc), sm_B g N ad E s H1 locs1 (uI σ k i x) → W p l e R s m args below meth c H1 locs1 cells slots Q (F0 m (pc + 3) ls rest)) : W p l e R s m args below meth c H locs cells slots Q (F0 m pc ls (.int x :: .ref (ad k) :: rest)) := by
  refine va_put (ws := sm_w N ad (E σ)) hx hb hts hin ty0 hty hnm hown hW.1.2.2.1 hB.1 (sm_D hW.2.1) hB.2 k (by rw [sm_w_at hk, hE]) hc f hf (hts _ hl) (fun x h => by rw [href]; exact h) hfin hd rfl rfl hlen hdg (fun H1 locs1 hP _ hS => kk H1 locs1 ⟨?_, hS⟩)
  rw [sm_w_set (E' := E (uI σ k i x)) (sm_uI_at hW.2.2 hE2)] at hP
  exact hP
end SMW
end
section
/-! OWN ROWS 3: the two worlds: eX the class's 22 cells, eM the reference's 19 cells -/
def eXc (g : sm_G) (ad : Nat → Nat) (j : Nat) (I : Nat → Int32) (L : Nat → Int64) (ar : Nat → Option Nat) : va_E :=
  if j = 0 then .inr (2, [.ref (ad 1), .ref (ad 2), .ref (ad 3), .ref (ad 4), .ref (ad 5), .ref (ad 6), .ref (ad 8), .int (I 0)])
  else if j = 1 then .inl (gI g, 8, .inl I)
  else if j = 2 then .inl (gL g, 8, .inr (.inl L))
  else if j = 3 then .inl (gI g, 8, .inl I)
  else if j = 4 then .inl (gC g, 4, .inr (.inr (.inr (.inr (fun h => (ar h).map (fun i => ad (10 + 3 * i)))))))
  else if j = 5 then .inl (gC g, 4, .inr (.inr (.inr (.inr (fun h => some (ad (10 + 3 * h)))))))
  else if j = 6 ∨ j = 8 then .inr (1, [.ref (ad (j + 1)), .int (I 0)])
  else if j = 7 ∨ j = 9 then .inl (gI g, 48, .inl I)
  else if j % 3 = 1 then .inr (0, [.ref (ad (j + 1)), .ref (ad (j + 2)), .int (I 0), .int (I 1)])
  else if j % 3 = 2 then .inl (gL g, 12, .inr (.inl L))
  else .inl (gI g, 12, .inl I)
def eX (g : sm_G) (ad : Nat → Nat) (σ : sm_S) (j : Nat) : va_E := eXc g ad j (σ.1 j) (σ.2.1 j) σ.2.2
theorem eX_lay (g : sm_G) (ad : Nat → Nat) : sm_lay (eX g ad) := fun σ τ j h1 h2 h3 => by unfold eX; rw [h1, h2, h3]
theorem eX_0 (g : sm_G) (ad : Nat → Nat) (σ : sm_S) : eX g ad σ 0 = .inr (2, [.ref (ad 1), .ref (ad 2), .ref (ad 3), .ref (ad 4), .ref (ad 5), .ref (ad 6), .ref (ad 8), .int (σ.1 0 0)]) := by simp [eX, eXc]
theorem eX_1 (g : sm_G) (ad : Nat → Nat) (σ : sm_S) : eX g ad σ 1 = .inl (gI g, 8, .inl (σ.1 1)) := by simp [eX, eXc]
theorem eX_2 (g : sm_G) (ad : Nat → Nat) (σ : sm_S) : eX g ad σ 2 = .inl (gL g, 8, .inr (.inl (σ.2.1 2))) := by simp [eX, eXc]
theorem eX_3 (g : sm_G) (ad : Nat → Nat) (σ : sm_S) : eX g ad σ 3 = .inl (gI g, 8, .inl (σ.1 3)) := by simp [eX, eXc]
theorem eX_4 (g : sm_G) (ad : Nat → Nat) (σ : sm_S) : eX g ad σ 4 = .inl (gC g, 4, .inr (.inr (.inr (.inr (fun h => (σ.2.2 h).map (fun i => ad (10 + 3 * i))))))) := by simp [eX, eXc]
theorem eX_5 (g : sm_G) (ad : Nat → Nat) (σ : sm_S) : eX g ad σ 5 = .inl (gC g, 4, .inr (.inr (.inr (.inr (fun h => some (ad (10 + 3 * h))))))) := by simp [eX, eXc]
theorem eX_nt {k : Nat} (hk : k = 6 ∨ k = 8) (g : sm_G) (ad : Nat → Nat) (σ : sm_S) : eX g ad σ k = .inr (1, [.ref (ad (k + 1)), .int (σ.1 k 0)]) := by
  rcases hk with rfl | rfl <;> simp [eX, eXc]
theorem eX_nn {k : Nat} (hk : k = 6 ∨ k = 8) (g : sm_G) (ad : Nat → Nat) (σ : sm_S) : eX g ad σ (k + 1) = .inl (gI g, 48, .inl (σ.1 (k + 1))) := by
  rcases hk with rfl | rfl <;> simp [eX, eXc]
theorem nt_lt {k : Nat} (hk : k = 6 ∨ k = 8) : k < 22 := by omega
theorem nn_lt {k : Nat} (hk : k = 6 ∨ k = 8) : k + 1 < 22 := by omega
theorem eX_c0 {i : Nat} (hi : i < 4) (g : sm_G) (ad : Nat → Nat) (σ : sm_S) : eX g ad σ (10 + 3 * i) = .inr (0, [.ref (ad (11 + 3 * i)), .ref (ad (12 + 3 * i)), .int (σ.1 (10 + 3 * i) 0), .int (σ.1 (10 + 3 * i) 1)]) := by
  rcases (show i = 0 ∨ i = 1 ∨ i = 2 ∨ i = 3 by omega) with rfl | rfl | rfl | rfl <;> simp [eX, eXc]
theorem eX_c1 {i : Nat} (hi : i < 4) (g : sm_G) (ad : Nat → Nat) (σ : sm_S) : eX g ad σ (11 + 3 * i) = .inl (gL g, 12, .inr (.inl (σ.2.1 (11 + 3 * i)))) := by
  rcases (show i = 0 ∨ i = 1 ∨ i = 2 ∨ i = 3 by omega) with rfl | rfl | rfl | rfl <;> simp [eX, eXc]
theorem eX_c2 {i : Nat} (hi : i < 4) (g : sm_G) (ad : Nat → Nat) (σ : sm_S) : eX g ad σ (12 + 3 * i) = .inl (gI g, 12, .inl (σ.1 (12 + 3 * i))) := by
  rcases (show i = 0 ∨ i = 1 ∨ i = 2 ∨ i = 3 by omega) with rfl | rfl | rfl | rfl <;> simp [eX, eXc]
theorem c0_lt {i : Nat} (hi : i < 4) : 10 + 3 * i < 22 := by omega
theorem c1_lt {i : Nat} (hi : i < 4) : 11 + 3 * i < 22 := by omega
theorem c2_lt {i : Nat} (hi : i < 4) : 12 + 3 * i < 22 := by omega
def eMc (g : sm_G) (ad : Nat → Nat) (j : Nat) (I : Nat → Int32) (L : Nat → Int64) : va_E :=
  if j = 0 then .inr (3, [.ref (ad 1), .ref (ad 2), .ref (ad 3), .ref (ad 4), .ref (ad 5), .ref (ad 6), .ref (ad 7), .ref (ad 8), .ref (ad 9), .ref (ad 10), .ref (ad 11), .ref (ad 12), .int (I 0), .int (I 1), .int (I 2), .ref (ad 13), .ref (ad 14), .ref (ad 15), .ref (ad 16), .ref (ad 17), .ref (ad 18)])
  else if j = 1 then .inl (gI g, 8, .inl I)
  else if j = 2 then .inl (gI g, 56, .inl I)
  else if j = 3 then .inl (gL g, 56, .inr (.inl L))
  else if j = 4 then .inl (gZ g, 56, .inl I)
  else if j ≤ 7 then .inl (gI g, 4, .inl I)
  else if j ≤ 12 then .inl (gI g, 16, .inl I)
  else if j = 13 then .inl (gI g, 24, .inl I)
  else if j = 14 then .inl (gL g, 12, .inr (.inl L))
  else if j ≤ 16 then .inl (gI g, 2, .inl I)
  else if j = 17 then .inl (gZ g, 2, .inl I)
  else .inl (gL g, 2, .inr (.inl L))
def eM (g : sm_G) (ad : Nat → Nat) (σ : sm_S) (j : Nat) : va_E := eMc g ad j (σ.1 j) (σ.2.1 j)
theorem eM_lay (g : sm_G) (ad : Nat → Nat) : sm_lay (eM g ad) := fun σ τ j h1 h2 _ => by unfold eM; rw [h1, h2]
theorem eM_0 (g : sm_G) (ad : Nat → Nat) (σ : sm_S) : eM g ad σ 0 = .inr (3, [.ref (ad 1), .ref (ad 2), .ref (ad 3), .ref (ad 4), .ref (ad 5), .ref (ad 6), .ref (ad 7), .ref (ad 8), .ref (ad 9), .ref (ad 10), .ref (ad 11), .ref (ad 12), .int (σ.1 0 0), .int (σ.1 0 1), .int (σ.1 0 2), .ref (ad 13), .ref (ad 14), .ref (ad 15), .ref (ad 16), .ref (ad 17), .ref (ad 18)]) := by simp [eM, eMc]
theorem eM_1 (g : sm_G) (ad : Nat → Nat) (σ : sm_S) : eM g ad σ 1 = .inl (gI g, 8, .inl (σ.1 1)) := by simp [eM, eMc]
theorem eM_2 (g : sm_G) (ad : Nat → Nat) (σ : sm_S) : eM g ad σ 2 = .inl (gI g, 56, .inl (σ.1 2)) := by simp [eM, eMc]
theorem eM_3 (g : sm_G) (ad : Nat → Nat) (σ : sm_S) : eM g ad σ 3 = .inl (gL g, 56, .inr (.inl (σ.2.1 3))) := by simp [eM, eMc]
theorem eM_4 (g : sm_G) (ad : Nat → Nat) (σ : sm_S) : eM g ad σ 4 = .inl (gZ g, 56, .inl (σ.1 4)) := by simp [eM, eMc]
theorem eM_5 (g : sm_G) (ad : Nat → Nat) (σ : sm_S) : eM g ad σ 5 = .inl (gI g, 4, .inl (σ.1 5)) := by simp [eM, eMc]
theorem eM_6 (g : sm_G) (ad : Nat → Nat) (σ : sm_S) : eM g ad σ 6 = .inl (gI g, 4, .inl (σ.1 6)) := by simp [eM, eMc]
theorem eM_7 (g : sm_G) (ad : Nat → Nat) (σ : sm_S) : eM g ad σ 7 = .inl (gI g, 4, .inl (σ.1 7)) := by simp [eM, eMc]
theorem eM_8 (g : sm_G) (ad : Nat → Nat) (σ : sm_S) : eM g ad σ 8 = .inl (gI g, 16, .inl (σ.1 8)) := by simp [eM, eMc]
theorem eM_9 (g : sm_G) (ad : Nat → Nat) (σ : sm_S) : eM g ad σ 9 = .inl (gI g, 16, .inl (σ.1 9)) := by simp [eM, eMc]
theorem eM_10 (g : sm_G) (ad : Nat → Nat) (σ : sm_S) : eM g ad σ 10 = .inl (gI g, 16, .inl (σ.1 10)) := by simp [eM, eMc]
theorem eM_11 (g : sm_G) (ad : Nat → Nat) (σ : sm_S) : eM g ad σ 11 = .inl (gI g, 16, .inl (σ.1 11)) := by simp [eM, eMc]
theorem eM_12 (g : sm_G) (ad : Nat → Nat) (σ : sm_S) : eM g ad σ 12 = .inl (gI g, 16, .inl (σ.1 12)) := by simp [eM, eMc]
theorem eM_13 (g : sm_G) (ad : Nat → Nat) (σ : sm_S) : eM g ad σ 13 = .inl (gI g, 24, .inl (σ.1 13)) := by simp [eM, eMc]
theorem eM_14 (g : sm_G) (ad : Nat → Nat) (σ : sm_S) : eM g ad σ 14 = .inl (gL g, 12, .inr (.inl (σ.2.1 14))) := by simp [eM, eMc]
theorem eM_15 (g : sm_G) (ad : Nat → Nat) (σ : sm_S) : eM g ad σ 15 = .inl (gI g, 2, .inl (σ.1 15)) := by simp [eM, eMc]
theorem eM_16 (g : sm_G) (ad : Nat → Nat) (σ : sm_S) : eM g ad σ 16 = .inl (gI g, 2, .inl (σ.1 16)) := by simp [eM, eMc]
theorem eM_17 (g : sm_G) (ad : Nat → Nat) (σ : sm_S) : eM g ad σ 17 = .inl (gZ g, 2, .inl (σ.1 17)) := by simp [eM, eMc]
theorem eM_18 (g : sm_G) (ad : Nat → Nat) (σ : sm_S) : eM g ad σ 18 = .inl (gL g, 2, .inr (.inl (σ.2.1 18))) := by simp [eM, eMc]
/-! calls that write, with a name for what comes -/
section SMN
variable {p : Program} {l : Launch} {e : Env} {s : State} {m : MethodId} {args : Array Value} {below : List Frame} {meth : Method} {c : Code} {H : Heap} {locs : List Loc} {Q : State → Prop}
variable {pc : Nat} {ls : Array Slot} {rest st0 : List Value} {D N : Nat} {ad : Nat → Nat} {E : sm_S → Nat → va_E} {g : sm_G} {σ : sm_S}
theorem sw_cin {α : Type} {F0' : α} {F : Int32 × sm_S} {a : Array Value} {g0 : Int32 × sm_S → α} (hv : F0' = sm_let F g0) (hB : sm_B g N ad E s H locs σ) (hr : va_Run p l e (rmd D) s m args below meth c H locs 0 0 0 0 (F0 m pc ls st0) rest (sm_Qi g N ad E H.size F a) (sm_AX N ad H.size))
    (kk : ∀ u : Int32 × sm_S, u = F → F0' = g0 u → ∀ (H1 : Heap) (locs1 : List Loc), sm_B g N ad E s H1 locs1 u.2 → W p l e (rmd D) s m args below meth c H1 locs1 0 0 Q (F0 m (pc + 3) ls (.int u.1 :: rest))) : W p l e (rmd D) s m args below meth c H locs 0 0 Q (F0 m pc ls st0) :=
  sw_ci hB hr (kk F rfl hv)
theorem sw_cln {α : Type} {F0' : α} {F : Int64 × sm_S} {a : Array Value} {g0 : Int64 × sm_S → α} (hv : F0' = sm_let F g0) (hB : sm_B g N ad E s H locs σ) (hr : va_Run p l e (rmd D) s m args below meth c H locs 0 0 0 0 (F0 m pc ls st0) rest (sm_Ql g N ad E H.size F a) (sm_AX N ad H.size))
    (kk : ∀ u : Int64 × sm_S, u = F → F0' = g0 u → ∀ (H1 : Heap) (locs1 : List Loc), sm_B g N ad E s H1 locs1 u.2 → W p l e (rmd D) s m args below meth c H1 locs1 0 0 Q (F0 m (pc + 3) ls (.long u.1 :: rest))) : W p l e (rmd D) s m args below meth c H locs 0 0 Q (F0 m pc ls st0) :=
  sw_cl hB hr (kk F rfl hv)
theorem sw_cvn {α : Type} {F0' : α} {F : sm_S} {a : Array Value} {g0 : sm_S → α} (hv : F0' = sm_let F g0) (hB : sm_B g N ad E s H locs σ) (hr : va_Run p l e (rmd D) s m args below meth c H locs 0 0 0 0 (F0 m pc ls st0) rest (sm_Qv g N ad E H.size F a) (sm_AX N ad H.size))
    (kk : ∀ u : sm_S, u = F → F0' = g0 u → ∀ (H1 : Heap) (locs1 : List Loc), sm_B g N ad E s H1 locs1 u → W p l e (rmd D) s m args below meth c H1 locs1 0 0 Q (F0 m (pc + 3) ls rest)) : W p l e (rmd D) s m args below meth c H locs 0 0 Q (F0 m pc ls st0) :=
  sw_cv hB hr (kk F rfl hv)
end SMN
/-! indices -/
theorem in_lit {i : Int32} {n : Nat} (h : decide (¬ (i < 0 ∨ n ≤ i.toNatClampNeg)) = true) : vp_in i n := of_decide_eq_true (p := ¬ (i < 0 ∨ n ≤ i.toNatClampNeg)) h
theorem in_ge {i n : Int32} {N : Nat} (h0 : ¬ i < 0) (h : ¬ n ≤ i) (hN : n.toInt ≤ N) : vp_in i N := by
  rw [vp_in_iff]
  have h1 := Int32.not_lt.mp h0
  have h2 := Int32.not_le.mp h
  rw [Int32.le_iff_toInt_le] at h1
  rw [Int32.lt_iff_toInt_lt] at h2
  have h3 : (0 : Int32).toInt = 0 := rfl
  omega
theorem me_inc {k b : Int32} (h : ¬ b ≤ k) : (b.toInt - (k + 1).toInt).toNat < (b.toInt - k.toInt).toNat := by
  have h2 := Int32.not_le.mp h
  rw [Int32.lt_iff_toInt_lt] at h2
  have h3 := Int32.toInt_lt b
  have h4 := Int32.le_toInt k
  have h5 : (k + 1).toInt = k.toInt + 1 := by
    rw [Int32.toInt_add, show (1 : Int32).toInt = 1 from rfl]
    apply Int.bmod_eq_of_le <;> omega
  omega
theorem me_dec {k b : Int32} (h : ¬ k ≤ b) : ((k + -1).toInt - b.toInt).toNat < (k.toInt - b.toInt).toNat := by
  have h2 := Int32.not_le.mp h
  rw [Int32.lt_iff_toInt_lt] at h2
  have h3 := Int32.toInt_lt k
  have h4 := Int32.le_toInt b
  have h5 : (k + -1).toInt = k.toInt - 1 := by
    rw [Int32.toInt_add, show (-1 : Int32).toInt = -1 from rfl]
    have := Int.bmod_eq_of_le (n := k.toInt + -1) (m := 2 ^ 32) (by omega) (by omega)
    omega
  omega
/-! heads of contracts -/
theorem sm_mP {l : Launch} {y : MethodName} {cc : ByteArray} {nL : Nat} {ret : Option FieldType} {d : Nat} {g : sm_G} {vs : List Value} {Qc : Array Value → State → Outcome → State → Prop} {free : Addr → Prop} (hy : plainName y.cls = true) (hn : (lg_sl vs).length ≤ nL)
    (body : ∀ (p : Program) (e : Env) (s : State) (m : MethodId) (args : Array Value) (below : List Frame) (meth : Method) (c : Code), sm_C p s m args meth c cc nL y.cls ret → sm_A g (fun _ => False) s s.heap → ∀ ls : Array Slot, lv_has ls nL (lv_args 0 vs) → W p l e (rmd d) s m args below meth c s.heap [] 0 0 (MQ below Qc args s 0 0 free) (F0 m 0 ls [])) : Met l y (sm_ws y cc nL ret) (rmd d) (va_Pc vs (sm_P0 g)) Qc 0 0 free := by
  refine sm_met hy (fun p e s m args below meth c C hv => ?_)
  obtain ⟨ha, hA⟩ := hv
  subst ha
  rw [lg_entry_eq]
  exact body p e s m _ below meth c C hA _ (lv_entry vs hn)
theorem sm_mR {l : Launch} {y : MethodName} {cc : ByteArray} {nL : Nat} {ret : Option FieldType} {d N sz : Nat} {ad : Nat → Nat} {E : sm_S → Nat → va_E} {σ : sm_S} {g : sm_G} {vs : List Value} {Qc : Array Value → State → Outcome → State → Prop} {free : Addr → Prop} (hy : plainName y.cls = true) (hn : (lg_sl vs).length ≤ nL) (hj : sm_inj N ad) (hlay : sm_lay E)
    (body : ∀ (p : Program) (e : Env) (s : State) (m : MethodId) (args : Array Value) (below : List Frame) (meth : Method) (c : Code), sm_C p s m args meth c cc nL y.cls ret → sm_W g N ad E s → sm_B g N ad E s s.heap [] σ → ∀ ls : Array Slot, lv_has ls nL (lv_args 0 vs) → W p l e (rmd d) s m args below meth c s.heap [] 0 0 (MQ below Qc args s 0 0 free) (F0 m 0 ls [])) : Met l y (sm_ws y cc nL ret) (rmd d) (va_Pc vs (sm_Pre g N ad E σ sz)) Qc 0 0 free := by
  refine sm_met hy (fun p e s m args below meth c C hv => ?_)
  obtain ⟨ha, hsz, hP, hA⟩ := hv
  subst ha
  subst hsz
  rw [lg_entry_eq]
  exact body p e s m _ below meth c C ⟨hA, hj, hlay⟩ ⟨hP, va_S.rf⟩ _ (lv_entry vs hn)
theorem sm_mWi {l : Launch} {y : MethodName} {cc : ByteArray} {nL : Nat} {ret : Option FieldType} {d N sz : Nat} {ad : Nat → Nat} {E : sm_S → Nat → va_E} {σ : sm_S} {g : sm_G} {vs : List Value} {F : Int32 × sm_S} (hy : plainName y.cls = true) (hn : (lg_sl vs).length ≤ nL) (hj : sm_inj N ad) (hlay : sm_lay E)
    (body : ∀ (p : Program) (e : Env) (s : State) (m : MethodId) (args : Array Value) (below : List Frame) (meth : Method) (c : Code), sm_C p s m args meth c cc nL y.cls ret → sm_W g N ad E s → sm_B g N ad E s s.heap [] σ → ∀ ls : Array Slot, lv_has ls nL (lv_args 0 vs) → W p l e (rmd d) s m args below meth c s.heap [] 0 0 (MQ below (sm_Qi g N ad E s.heap.size F) args s 0 0 (sm_AX N ad s.heap.size)) (F0 m 0 ls [])) : Met l y (sm_ws y cc nL ret) (rmd d) (va_Pc vs (sm_Pre g N ad E σ sz)) (sm_Qi g N ad E sz F) 0 0 (sm_AX N ad sz) := by
  refine sm_met hy (fun p e s m args below meth c C hv => ?_)
  obtain ⟨ha, hsz, hP, hA⟩ := hv
  subst ha
  subst hsz
  rw [lg_entry_eq]
  exact body p e s m _ below meth c C ⟨hA, hj, hlay⟩ ⟨hP, va_S.rf⟩ _ (lv_entry vs hn)
theorem sm_mWl {l : Launch} {y : MethodName} {cc : ByteArray} {nL : Nat} {ret : Option FieldType} {d N sz : Nat} {ad : Nat → Nat} {E : sm_S → Nat → va_E} {σ : sm_S} {g : sm_G} {vs : List Value} {F : Int64 × sm_S} (hy : plainName y.cls = true) (hn : (lg_sl vs).length ≤ nL) (hj : sm_inj N ad) (hlay : sm_lay E)
    (body : ∀ (p : Program) (e : Env) (s : State) (m : MethodId) (args : Array Value) (below : List Frame) (meth : Method) (c : Code), sm_C p s m args meth c cc nL y.cls ret → sm_W g N ad E s → sm_B g N ad E s s.heap [] σ → ∀ ls : Array Slot, lv_has ls nL (lv_args 0 vs) → W p l e (rmd d) s m args below meth c s.heap [] 0 0 (MQ below (sm_Ql g N ad E s.heap.size F) args s 0 0 (sm_AX N ad s.heap.size)) (F0 m 0 ls [])) : Met l y (sm_ws y cc nL ret) (rmd d) (va_Pc vs (sm_Pre g N ad E σ sz)) (sm_Ql g N ad E sz F) 0 0 (sm_AX N ad sz) := by
  refine sm_met hy (fun p e s m args below meth c C hv => ?_)
  obtain ⟨ha, hsz, hP, hA⟩ := hv
  subst ha
  subst hsz
  rw [lg_entry_eq]
  exact body p e s m _ below meth c C ⟨hA, hj, hlay⟩ ⟨hP, va_S.rf⟩ _ (lv_entry vs hn)
theorem sm_mWv {l : Launch} {y : MethodName} {cc : ByteArray} {nL : Nat} {ret : Option FieldType} {d N sz : Nat} {ad : Nat → Nat} {E : sm_S → Nat → va_E} {σ : sm_S} {g : sm_G} {vs : List Value} {F : sm_S} (hy : plainName y.cls = true) (hn : (lg_sl vs).length ≤ nL) (hj : sm_inj N ad) (hlay : sm_lay E)
    (body : ∀ (p : Program) (e : Env) (s : State) (m : MethodId) (args : Array Value) (below : List Frame) (meth : Method) (c : Code), sm_C p s m args meth c cc nL y.cls ret → sm_W g N ad E s → sm_B g N ad E s s.heap [] σ → ∀ ls : Array Slot, lv_has ls nL (lv_args 0 vs) → W p l e (rmd d) s m args below meth c s.heap [] 0 0 (MQ below (sm_Qv g N ad E s.heap.size F) args s 0 0 (sm_AX N ad s.heap.size)) (F0 m 0 ls [])) : Met l y (sm_ws y cc nL ret) (rmd d) (va_Pc vs (sm_Pre g N ad E σ sz)) (sm_Qv g N ad E sz F) 0 0 (sm_AX N ad sz) := by
  refine sm_met hy (fun p e s m args below meth c C hv => ?_)
  obtain ⟨ha, hsz, hP, hA⟩ := hv
  subst ha
  subst hsz
  rw [lg_entry_eq]
  exact body p e s m _ below meth c C ⟨hA, hj, hlay⟩ ⟨hP, va_S.rf⟩ _ (lv_entry vs hn)
/-! the class's array of references -/
theorem eX_uR (g : sm_G) (ad : Nat → Nat) (σ : sm_S) (h : Nat) (q : Option Nat) {e : va_E} (he : e = .inl (gC g, 4, .inr (.inr (.inr (.inr (va_up (fun h => (σ.2.2 h).map (fun i => ad (10 + 3 * i))) h (q.map (fun i => ad (10 + 3 * i))))))))) : ∀ j, j < 22 → eX g ad (uR σ h q) j = if j = 4 then e else eX g ad σ j := by
  intro j _
  by_cases hj : j = 4
  · subst hj
    rw [if_pos rfl, eX_4, he]
    congr 2
    simp only [uR]
    congr 5
    funext k
    by_cases hk : k = h
    · subst hk; simp [va_up]
    · simp [va_up, hk]
  · rw [if_neg hj]
    simp [eX, eXc, hj, uR]
section XRR
variable {p : Program} {l : Launch} {e : Env} {s : State} {m : MethodId} {args : Array Value} {below : List Frame} {meth : Method} {c : Code} {H : Heap} {locs : List Loc} {R : Room} {cells slots : Nat} {Q : State → Prop}
variable {cc : ByteArray} {pc : Nat} {ls : Array Slot} {rest : List Value} {ad : Nat → Nat} {g : sm_G} {σ : sm_S}
theorem xr_ld (hx : p.tables.exec = Jvm.exec) (hb : c.code = cc) (hW : sm_W g 22 ad (eX g ad) s) (hB : sm_B g 22 ad (eX g ad) s H locs σ) {h : Int32} (hin : vp_in h 4) (hdg : decode cc pc = .ok (.aaload, 1))
    (kn : σ.2.2 h.toNatClampNeg = none → W p l e R s m args below meth c H locs cells slots Q (F0 m (pc + 1) ls (.null :: rest))) (ks : ∀ i : Nat, σ.2.2 h.toNatClampNeg = some i → W p l e R s m args below meth c H locs cells slots Q (F0 m (pc + 1) ls (.ref (ad (10 + 3 * i)) :: rest))) : W p l e R s m args below meth c H locs cells slots Q (F0 m pc ls (.int h :: .ref (ad 4) :: rest)) := by
  refine va_aldq (C := RX0) (ws := sm_w 22 ad (eX g ad σ)) hx hb hW.1.2.2.1 hB.1 4 3 (by rw [sm_w_at (by decide), eX_4]) rfl hin hdg ?_
  rcases hq : σ.2.2 h.toNatClampNeg with _ | i
  · exact kn hq
  · exact ks i hq
theorem xr_stN (hx : p.tables.exec = Jvm.exec) (hb : c.code = cc) (hW : sm_W g 22 ad (eX g ad) s) (hB : sm_B g 22 ad (eX g ad) s H locs σ) {h : Int32} (hin : vp_in h 4) (hdg : decode cc pc = .ok (.aastore, 1))
    (kk : ∀ (H1 : Heap) (locs1 : List Loc), sm_B g 22 ad (eX g ad) s H1 locs1 (uR σ h.toNatClampNeg none) → W p l e R s m args below meth c H1 locs1 cells slots Q (F0 m (pc + 1) ls rest)) : W p l e R s m args below meth c H locs cells slots Q (F0 m pc ls (.null :: .int h :: .ref (ad 4) :: rest)) := by
  refine va_astqN (C := RX0) (ws := sm_w 22 ad (eX g ad σ)) hx hb hW.1.2.2.1 hB.1 (sm_D hW.2.1) hB.2 4 3 (by rw [sm_w_at (by decide), eX_4]) rfl hin hdg (fun H1 locs1 hP _ hS => kk H1 locs1 ⟨?_, hS⟩)
  rw [sm_w_set (E' := eX g ad (uR σ h.toNatClampNeg none)) (eX_uR (e := .inl (gC g, 4, .inr (.inr (.inr (.inr (va_up (fun h => (σ.2.2 h).map (fun i => ad (10 + 3 * i))) h.toNatClampNeg none)))))) g ad σ h.toNatClampNeg none rfl)] at hP
  exact hP
theorem xr_st (hx : p.tables.exec = Jvm.exec) (hb : c.code = cc) (hW : sm_W g 22 ad (eX g ad) s) (hB : sm_B g 22 ad (eX g ad) s H locs σ) {i : Nat} (hi : i < 4) {h : Int32} (hin : vp_in h 4) (hdg : decode cc pc = .ok (.aastore, 1))
    (kk : ∀ (H1 : Heap) (locs1 : List Loc), sm_B g 22 ad (eX g ad) s H1 locs1 (uR σ h.toNatClampNeg (some i)) → W p l e R s m args below meth c H1 locs1 cells slots Q (F0 m (pc + 1) ls rest)) : W p l e R s m args below meth c H locs cells slots Q (F0 m pc ls (.ref (ad (10 + 3 * i)) :: .int h :: .ref (ad 4) :: rest)) := by
  refine va_astq (r := (RX0, TX0, 4)) (ws := sm_w 22 ad (eX g ad σ)) hx hb hW.1.2.2.1 hB.1 (sm_D hW.2.1) hB.2 4 3 (10 + 3 * i) 0 (by rw [sm_w_at (by decide), eX_4]) rfl (by rw [sm_w_at (c0_lt hi), eX_c0 hi]) rfl hin hdg (fun H1 locs1 hP _ hS => kk H1 locs1 ⟨?_, hS⟩)
  rw [sm_w_set (E' := eX g ad (uR σ h.toNatClampNeg (some i))) (eX_uR (e := .inl (gC g, 4, .inr (.inr (.inr (.inr (va_up (fun h => (σ.2.2 h).map (fun i => ad (10 + 3 * i))) h.toNatClampNeg (some (ad (10 + 3 * i))))))))) g ad σ h.toNatClampNeg (some i) rfl)] at hP
  exact hP
end XRR
theorem nn_inc {k b : Int32} (h0 : ¬ k < 0) (h : ¬ b ≤ k) : ¬ k + 1 < 0 := by
  have h1 := Int32.not_lt.mp h0
  have h2 := Int32.not_le.mp h
  rw [Int32.le_iff_toInt_le] at h1
  rw [Int32.lt_iff_toInt_lt] at h2
  have h3 := Int32.toInt_lt b
  have h4 : (0 : Int32).toInt = 0 := rfl
  have h5 : (k + 1).toInt = k.toInt + 1 := by
    rw [Int32.toInt_add, show (1 : Int32).toInt = 1 from rfl]
    apply Int.bmod_eq_of_le <;> omega
  intro q
  rw [Int32.lt_iff_toInt_lt] at q
  omega
theorem me_dec10 {k : Int32} (h : ¬ k ≤ 0) : (k + -10).toInt.toNat < k.toInt.toNat := by
  have h2 := Int32.not_le.mp h
  rw [Int32.lt_iff_toInt_lt] at h2
  have h3 := Int32.toInt_lt k
  have h4 : (0 : Int32).toInt = 0 := rfl
  have h5 : (k + -10).toInt = k.toInt - 10 := by
    rw [Int32.toInt_add, show (-10 : Int32).toInt = -10 from rfl]
    have := Int.bmod_eq_of_le (n := k.toInt + -10) (m := 2 ^ 32) (by omega) (by omega)
    omega
  omega
end
section
theorem w_0 : (.selects RX1 yX1_isNan yX1_isNan : Cond) ∈ sm_T := sm_in (List.mem_of_getElem? (i := 0) (by decide +kernel)) rfl
theorem w_1 : (.selects RX5 yX5_put yX5_put : Cond) ∈ sm_T := sm_in (List.mem_of_getElem? (i := 1) (by decide +kernel)) rfl
theorem w_2 : (.selects RX1 yX1_rounded yX1_rounded : Cond) ∈ sm_T := sm_in (List.mem_of_getElem? (i := 2) (by decide +kernel)) rfl
theorem w_3 : (.selects RX1 yX1_signed yX1_signed : Cond) ∈ sm_T := sm_in (List.mem_of_getElem? (i := 3) (by decide +kernel)) rfl
theorem w_4 : (.selects RX1 yX1_isZero yX1_isZero : Cond) ∈ sm_T := sm_in (List.mem_of_getElem? (i := 4) (by decide +kernel)) rfl
theorem w_5 : (.selects RX1 yX1_exponent yX1_exponent : Cond) ∈ sm_T := sm_in (List.mem_of_getElem? (i := 5) (by decide +kernel)) rfl
theorem w_6 : (.selects RX1 yX1_unscaled yX1_unscaled : Cond) ∈ sm_T := sm_in (List.mem_of_getElem? (i := 6) (by decide +kernel)) rfl
theorem w_7 : (.selects RX1 yX1_isInfinite yX1_isInfinite : Cond) ∈ sm_T := sm_in (List.mem_of_getElem? (i := 7) (by decide +kernel)) rfl
theorem w_8 : (.selects RX1 yX1_isNegative yX1_isNegative : Cond) ∈ sm_T := sm_in (List.mem_of_getElem? (i := 8) (by decide +kernel)) rfl
theorem w_9 : (.selects RX1 yX1_significand yX1_significand : Cond) ∈ sm_T := sm_in (List.mem_of_getElem? (i := 9) (by decide +kernel)) rfl
theorem w_10 : (.selects RX5 yX5_failed yX5_failed : Cond) ∈ sm_T := sm_in (List.mem_of_getElem? (i := 10) (by decide +kernel)) rfl
theorem w_11 : (.selects RX1 yX1_sumInOrder yX1_sumInOrder : Cond) ∈ sm_T := sm_in (List.mem_of_getElem? (i := 11) (by decide +kernel)) rfl
theorem w_12 : (.selects RX1 yX1_order yX1_order : Cond) ∈ sm_T := sm_in (List.mem_of_getElem? (i := 12) (by decide +kernel)) rfl
theorem w_13 : (.selects RX5 yX5_shadowOfTwo yX5_shadowOfTwo : Cond) ∈ sm_T := sm_in (List.mem_of_getElem? (i := 13) (by decide +kernel)) rfl
theorem w_14 : (.selects RX5 yX5_giveUp yX5_giveUp : Cond) ∈ sm_T := sm_in (List.mem_of_getElem? (i := 14) (by decide +kernel)) rfl
theorem w_15 : (.selects RX5 yX5_isInt yX5_isInt : Cond) ∈ sm_T := sm_in (List.mem_of_getElem? (i := 15) (by decide +kernel)) rfl
theorem w_16 : (.selects RX5 yX5_unheld yX5_unheld : Cond) ∈ sm_T := sm_in (List.mem_of_getElem? (i := 16) (by decide +kernel)) rfl
theorem w_17 : (.selects RX5 yX5_isHeld yX5_isHeld : Cond) ∈ sm_T := sm_in (List.mem_of_getElem? (i := 17) (by decide +kernel)) rfl
theorem w_18 : (.selects RX0 yX0_narrowed yX0_narrowed : Cond) ∈ sm_T := sm_in (List.mem_of_getElem? (i := 18) (by decide +kernel)) rfl
theorem w_19 : (.selects RX5 yX5_dependentRegisters yX5_dependentRegisters : Cond) ∈ sm_T := sm_in (List.mem_of_getElem? (i := 19) (by decide +kernel)) rfl
theorem w_20 : (.selects RX6 yX6_out yX6_out : Cond) ∈ sm_T := sm_in (List.mem_of_getElem? (i := 20) (by decide +kernel)) rfl
theorem w_21 : (.selects RX6 yX6_clean yX6_clean : Cond) ∈ sm_T := sm_in (List.mem_of_getElem? (i := 21) (by decide +kernel)) rfl
theorem w_22 : (.selects RX6 yX6_isNone yX6_isNone : Cond) ∈ sm_T := sm_in (List.mem_of_getElem? (i := 22) (by decide +kernel)) rfl
theorem w_23 : (.selects RX6 yX6_take yX6_take : Cond) ∈ sm_T := sm_in (List.mem_of_getElem? (i := 23) (by decide +kernel)) rfl
theorem w_24 : (.selects RX6 yX6_places yX6_places : Cond) ∈ sm_T := sm_in (List.mem_of_getElem? (i := 24) (by decide +kernel)) rfl
theorem w_25 : (.selects RX6 yX6_least yX6_least : Cond) ∈ sm_T := sm_in (List.mem_of_getElem? (i := 25) (by decide +kernel)) rfl
theorem w_26 : (.selects RX6 yX6_none yX6_none : Cond) ∈ sm_T := sm_in (List.mem_of_getElem? (i := 26) (by decide +kernel)) rfl
theorem w_27 : (.selects RX6 yX6_put yX6_put : Cond) ∈ sm_T := sm_in (List.mem_of_getElem? (i := 27) (by decide +kernel)) rfl
theorem w_28 : (.selects RX6 yX6_kindAfter yX6_kindAfter : Cond) ∈ sm_T := sm_in (List.mem_of_getElem? (i := 28) (by decide +kernel)) rfl
theorem w_29 : (.selects RX6 yX6_wanted yX6_wanted : Cond) ∈ sm_T := sm_in (List.mem_of_getElem? (i := 29) (by decide +kernel)) rfl
theorem w_30 : (.selects RX6 yX6_converted yX6_converted : Cond) ∈ sm_T := sm_in (List.mem_of_getElem? (i := 30) (by decide +kernel)) rfl
theorem w_31 : (.selects RX6 yX6_fromWhole yX6_fromWhole : Cond) ∈ sm_T := sm_in (List.mem_of_getElem? (i := 31) (by decide +kernel)) rfl
theorem w_32 : (.selects RX6 yX6_round yX6_round : Cond) ∈ sm_T := sm_in (List.mem_of_getElem? (i := 32) (by decide +kernel)) rfl
theorem w_33 : (.selects RX6 yX6_lengthOf yX6_lengthOf : Cond) ∈ sm_T := sm_in (List.mem_of_getElem? (i := 33) (by decide +kernel)) rfl
theorem w_34 : (.selects RX6 yX6_infinite yX6_infinite : Cond) ∈ sm_T := sm_in (List.mem_of_getElem? (i := 34) (by decide +kernel)) rfl
theorem w_35 : (.selects RX6 yX6_signed yX6_signed : Cond) ∈ sm_T := sm_in (List.mem_of_getElem? (i := 35) (by decide +kernel)) rfl
theorem w_36 : (.selects RX6 yX6_toWhole yX6_toWhole : Cond) ∈ sm_T := sm_in (List.mem_of_getElem? (i := 36) (by decide +kernel)) rfl
theorem w_37 : (.selects RX6 yX6_otherFormat yX6_otherFormat : Cond) ∈ sm_T := sm_in (List.mem_of_getElem? (i := 37) (by decide +kernel)) rfl
theorem w_38 : (.selects RX6 yX6_turned yX6_turned : Cond) ∈ sm_T := sm_in (List.mem_of_getElem? (i := 38) (by decide +kernel)) rfl
theorem w_39 : (.selects RX6 yX6_fix yX6_fix : Cond) ∈ sm_T := sm_in (List.mem_of_getElem? (i := 39) (by decide +kernel)) rfl
theorem w_40 : (.selects RX6 yX6_compared yX6_compared : Cond) ∈ sm_T := sm_in (List.mem_of_getElem? (i := 40) (by decide +kernel)) rfl
theorem w_41 : (.selects RX6 yX6_rank yX6_rank : Cond) ∈ sm_T := sm_in (List.mem_of_getElem? (i := 41) (by decide +kernel)) rfl
theorem w_42 : (.selects RX6 yX6_whole yX6_whole : Cond) ∈ sm_T := sm_in (List.mem_of_getElem? (i := 42) (by decide +kernel)) rfl
theorem w_43 : (.selects RX6 yX6_pointed yX6_pointed : Cond) ∈ sm_T := sm_in (List.mem_of_getElem? (i := 43) (by decide +kernel)) rfl
theorem w_44 : (.selects RX6 yX6_sum yX6_sum : Cond) ∈ sm_T := sm_in (List.mem_of_getElem? (i := 44) (by decide +kernel)) rfl
theorem w_45 : (.selects RX6 yX6_spread yX6_spread : Cond) ∈ sm_T := sm_in (List.mem_of_getElem? (i := 45) (by decide +kernel)) rfl
theorem w_46 : (.selects RX6 yX6_product yX6_product : Cond) ∈ sm_T := sm_in (List.mem_of_getElem? (i := 46) (by decide +kernel)) rfl
theorem w_47 : (.selects RX6 yX6_quotient yX6_quotient : Cond) ∈ sm_T := sm_in (List.mem_of_getElem? (i := 47) (by decide +kernel)) rfl
theorem w_48 : (.selects RX6 yX6_remainder yX6_remainder : Cond) ∈ sm_T := sm_in (List.mem_of_getElem? (i := 48) (by decide +kernel)) rfl
theorem w_49 : (.selects RX6 yX6_exception yX6_exception : Cond) ∈ sm_T := sm_in (List.mem_of_getElem? (i := 49) (by decide +kernel)) rfl
theorem w_50 : (.selects RX6 yX6_kindOf yX6_kindOf : Cond) ∈ sm_T := sm_in (List.mem_of_getElem? (i := 50) (by decide +kernel)) rfl
theorem w_51 : (.selects RX6 yX6_stored yX6_stored : Cond) ∈ sm_T := sm_in (List.mem_of_getElem? (i := 51) (by decide +kernel)) rfl
theorem w_52 : (.initialized RL : Cond) ∈ sm_T := sm_in (List.mem_of_getElem? (i := 52) (by decide +kernel)) rfl
theorem w_53 : (.initialized RX5 : Cond) ∈ sm_T := sm_in (List.mem_of_getElem? (i := 53) (by decide +kernel)) rfl
theorem w_54 : (.initialized RX2 : Cond) ∈ sm_T := sm_in (List.mem_of_getElem? (i := 54) (by decide +kernel)) rfl
theorem w_55 : (.initialized RX0 : Cond) ∈ sm_T := sm_in (List.mem_of_getElem? (i := 55) (by decide +kernel)) rfl
theorem w_56 : (.initialized RX6 : Cond) ∈ sm_T := sm_in (List.mem_of_getElem? (i := 56) (by decide +kernel)) rfl
theorem w_57 : (.initialized RJx29ce0 : Cond) ∈ sm_T := sm_in (List.mem_of_getElem? (i := 57) (by decide +kernel)) rfl
theorem w_58 : (.initialized RX1 : Cond) ∈ sm_T := sm_in (List.mem_of_getElem? (i := 58) (by decide +kernel)) rfl
theorem w_59 : (.initialized RX4 : Cond) ∈ sm_T := sm_in (List.mem_of_getElem? (i := 59) (by decide +kernel)) rfl
theorem w_60 : (.initialized RJ13 : Cond) ∈ sm_T := sm_in (List.mem_of_getElem? (i := 60) (by decide +kernel)) rfl
theorem w_61 : (.initialized RJ6 : Cond) ∈ sm_T := sm_in (List.mem_of_getElem? (i := 61) (by decide +kernel)) rfl
theorem w_62 : (.initialized RJ9 : Cond) ∈ sm_T := sm_in (List.mem_of_getElem? (i := 62) (by decide +kernel)) rfl
theorem w_63 : (.initialized RX3 : Cond) ∈ sm_T := sm_in (List.mem_of_getElem? (i := 63) (by decide +kernel)) rfl
theorem w_64 : (.initialized RJ10 : Cond) ∈ sm_T := sm_in (List.mem_of_getElem? (i := 64) (by decide +kernel)) rfl
theorem w_67 : (.methodLink RL 9 yX5_init : Cond) ∈ sm_T := sm_in (List.mem_of_getElem? (i := 67) (by decide +kernel)) rfl
theorem w_68 : (.instanceMethod yX5_init : Cond) ∈ sm_T := sm_in (List.mem_of_getElem? (i := 68) (by decide +kernel)) rfl
theorem w_69 : (.code yX5_init cX5_init 2 (none) : Cond) ∈ sm_T := sm_in (List.mem_of_getElem? (i := 69) (by decide +kernel)) rfl
theorem w_78 : (.instanceMethod yX2_init : Cond) ∈ sm_T := sm_in (List.mem_of_getElem? (i := 78) (by decide +kernel)) rfl
theorem w_79 : (.code yX2_init cX2_init 1 (none) : Cond) ∈ sm_T := sm_in (List.mem_of_getElem? (i := 79) (by decide +kernel)) rfl
theorem w_81 : (.fieldLink RX2 11 RX2 "numbers" "[I" : Cond) ∈ sm_T := sm_in (List.mem_of_getElem? (i := 81) (by decide +kernel)) rfl
theorem w_82 : (.fieldLink RX2 15 RX2 "added" "I" : Cond) ∈ sm_T := sm_in (List.mem_of_getElem? (i := 82) (by decide +kernel)) rfl
theorem w_83 : (.fieldLink RX5 164 RX2 "added" "I" : Cond) ∈ sm_T := sm_in (List.mem_of_getElem? (i := 83) (by decide +kernel)) rfl
theorem w_93 : (.instanceMethod yX0_init : Cond) ∈ sm_T := sm_in (List.mem_of_getElem? (i := 93) (by decide +kernel)) rfl
theorem w_94 : (.code yX0_init cX0_init 1 (none) : Cond) ∈ sm_T := sm_in (List.mem_of_getElem? (i := 94) (by decide +kernel)) rfl
theorem w_96 : (.fieldLink RX0 9 RX0 "values" "[J" : Cond) ∈ sm_T := sm_in (List.mem_of_getElem? (i := 96) (by decide +kernel)) rfl
theorem w_97 : (.fieldLink RX5 129 RX0 "values" "[J" : Cond) ∈ sm_T := sm_in (List.mem_of_getElem? (i := 97) (by decide +kernel)) rfl
theorem w_98 : (.fieldLink RX0 15 RX0 "shadows" "[I" : Cond) ∈ sm_T := sm_in (List.mem_of_getElem? (i := 98) (by decide +kernel)) rfl
theorem w_99 : (.fieldLink RX5 130 RX0 "shadows" "[I" : Cond) ∈ sm_T := sm_in (List.mem_of_getElem? (i := 99) (by decide +kernel)) rfl
theorem w_100 : (.fieldLink RX0 19 RX0 "sort" "I" : Cond) ∈ sm_T := sm_in (List.mem_of_getElem? (i := 100) (by decide +kernel)) rfl
theorem w_101 : (.fieldLink RX5 135 RX0 "sort" "I" : Cond) ∈ sm_T := sm_in (List.mem_of_getElem? (i := 101) (by decide +kernel)) rfl
theorem w_102 : (.fieldLink RX0 23 RX0 "size" "I" : Cond) ∈ sm_T := sm_in (List.mem_of_getElem? (i := 102) (by decide +kernel)) rfl
theorem w_103 : (.fieldLink RX5 121 RX0 "size" "I" : Cond) ∈ sm_T := sm_in (List.mem_of_getElem? (i := 103) (by decide +kernel)) rfl
theorem w_113 : (.fieldLink RX5 9 RX5 "kinds" "[I" : Cond) ∈ sm_T := sm_in (List.mem_of_getElem? (i := 113) (by decide +kernel)) rfl
theorem w_114 : (.fieldLink RX5 13 RX5 "values" "[J" : Cond) ∈ sm_T := sm_in (List.mem_of_getElem? (i := 114) (by decide +kernel)) rfl
theorem w_115 : (.fieldLink RX5 17 RX5 "shadows" "[I" : Cond) ∈ sm_T := sm_in (List.mem_of_getElem? (i := 115) (by decide +kernel)) rfl
theorem w_116 : (.fieldLink RX5 22 RX5 "arrays" "[LShadowMachine$Cells;" : Cond) ∈ sm_T := sm_in (List.mem_of_getElem? (i := 116) (by decide +kernel)) rfl
theorem w_117 : (.fieldLink RX5 26 RX5 "pool" "[LShadowMachine$Cells;" : Cond) ∈ sm_T := sm_in (List.mem_of_getElem? (i := 117) (by decide +kernel)) rfl
theorem w_118 : (.fieldLink RX5 32 RX5 "pins" "LShadowMachine$Notes;" : Cond) ∈ sm_T := sm_in (List.mem_of_getElem? (i := 118) (by decide +kernel)) rfl
theorem w_119 : (.fieldLink RX5 36 RX5 "ways" "LShadowMachine$Notes;" : Cond) ∈ sm_T := sm_in (List.mem_of_getElem? (i := 119) (by decide +kernel)) rfl
theorem w_120 : (.fieldLink RX5 167 RX5 "exceptions" "I" : Cond) ∈ sm_T := sm_in (List.mem_of_getElem? (i := 120) (by decide +kernel)) rfl
theorem w_138 : (.methodLink RL 15 yX5_constant : Cond) ∈ sm_T := sm_in (List.mem_of_getElem? (i := 138) (by decide +kernel)) rfl
theorem w_139 : (.instanceMethod yX5_constant : Cond) ∈ sm_T := sm_in (List.mem_of_getElem? (i := 139) (by decide +kernel)) rfl
theorem w_140 : (.selects RX5 yX5_constant yX5_constant : Cond) ∈ sm_T := sm_in (List.mem_of_getElem? (i := 140) (by decide +kernel)) rfl
theorem w_141 : (.code yX5_constant cX5_constant 5 (some .int) : Cond) ∈ sm_T := sm_in (List.mem_of_getElem? (i := 141) (by decide +kernel)) rfl
theorem w_142 : (.methodLink RX5 40 yX5_isBelow : Cond) ∈ sm_T := sm_in (List.mem_of_getElem? (i := 142) (by decide +kernel)) rfl
theorem w_143 : (.static yX5_isBelow : Cond) ∈ sm_T := sm_in (List.mem_of_getElem? (i := 143) (by decide +kernel)) rfl
theorem w_144 : (.code yX5_isBelow cX5_isBelow 3 (some .boolean) : Cond) ∈ sm_T := sm_in (List.mem_of_getElem? (i := 144) (by decide +kernel)) rfl
theorem w_145 : (.methodLink RX5 44 yX5_held : Cond) ∈ sm_T := sm_in (List.mem_of_getElem? (i := 145) (by decide +kernel)) rfl
theorem w_146 : (.static yX5_held : Cond) ∈ sm_T := sm_in (List.mem_of_getElem? (i := 146) (by decide +kernel)) rfl
theorem w_147 : (.code yX5_held cX5_held 3 (some .long) : Cond) ∈ sm_T := sm_in (List.mem_of_getElem? (i := 147) (by decide +kernel)) rfl
theorem w_148 : (.fieldLink RX5 173 RX1 "BITS32" "LShadowMachine$Format;" : Cond) ∈ sm_T := sm_in (List.mem_of_getElem? (i := 148) (by decide +kernel)) rfl
theorem w_150 : (.methodLink RX5 182 yX1_withOneNan : Cond) ∈ sm_T := sm_in (List.mem_of_getElem? (i := 150) (by decide +kernel)) rfl
theorem w_151 : (.instanceMethod yX1_withOneNan : Cond) ∈ sm_T := sm_in (List.mem_of_getElem? (i := 151) (by decide +kernel)) rfl
theorem w_152 : (.selects RX1 yX1_withOneNan yX1_withOneNan : Cond) ∈ sm_T := sm_in (List.mem_of_getElem? (i := 152) (by decide +kernel)) rfl
theorem w_153 : (.code yX1_withOneNan cX1_withOneNan 3 (some .long) : Cond) ∈ sm_T := sm_in (List.mem_of_getElem? (i := 153) (by decide +kernel)) rfl
theorem w_154 : (.methodLink RX1 51 yX1_isNan : Cond) ∈ sm_T := sm_in (List.mem_of_getElem? (i := 154) (by decide +kernel)) rfl
theorem w_156 : (.instanceMethod yX1_isNan : Cond) ∈ sm_T := sm_in (List.mem_of_getElem? (i := 156) (by decide +kernel)) rfl
theorem w_158 : (.code yX1_isNan cX1_isNan 3 (some .boolean) : Cond) ∈ sm_T := sm_in (List.mem_of_getElem? (i := 158) (by decide +kernel)) rfl
theorem w_159 : (.methodLink RX1 118 yX1_magnitude : Cond) ∈ sm_T := sm_in (List.mem_of_getElem? (i := 159) (by decide +kernel)) rfl
theorem w_160 : (.instanceMethod yX1_magnitude : Cond) ∈ sm_T := sm_in (List.mem_of_getElem? (i := 160) (by decide +kernel)) rfl
theorem w_161 : (.selects RX1 yX1_magnitude yX1_magnitude : Cond) ∈ sm_T := sm_in (List.mem_of_getElem? (i := 161) (by decide +kernel)) rfl
theorem w_162 : (.code yX1_magnitude cX1_magnitude 3 (some .long) : Cond) ∈ sm_T := sm_in (List.mem_of_getElem? (i := 162) (by decide +kernel)) rfl
theorem w_163 : (.constantLong RX1 40 (-1) : Cond) ∈ sm_T := sm_in (List.mem_of_getElem? (i := 163) (by decide +kernel)) rfl
theorem w_164 : (.fieldLink RX5 179 RX1 "BITS64" "LShadowMachine$Format;" : Cond) ∈ sm_T := sm_in (List.mem_of_getElem? (i := 164) (by decide +kernel)) rfl
theorem w_166 : (.methodLink RX5 48 yX5_put : Cond) ∈ sm_T := sm_in (List.mem_of_getElem? (i := 166) (by decide +kernel)) rfl
theorem w_168 : (.instanceMethod yX5_put : Cond) ∈ sm_T := sm_in (List.mem_of_getElem? (i := 168) (by decide +kernel)) rfl
theorem w_169 : (.code yX5_put cX5_put 6 (none) : Cond) ∈ sm_T := sm_in (List.mem_of_getElem? (i := 169) (by decide +kernel)) rfl
theorem w_170 : (.methodLink RL 20 yX5_input : Cond) ∈ sm_T := sm_in (List.mem_of_getElem? (i := 170) (by decide +kernel)) rfl
theorem w_171 : (.instanceMethod yX5_input : Cond) ∈ sm_T := sm_in (List.mem_of_getElem? (i := 171) (by decide +kernel)) rfl
theorem w_172 : (.selects RX5 yX5_input yX5_input : Cond) ∈ sm_T := sm_in (List.mem_of_getElem? (i := 172) (by decide +kernel)) rfl
theorem w_173 : (.code yX5_input cX5_input 6 (some .int) : Cond) ∈ sm_T := sm_in (List.mem_of_getElem? (i := 173) (by decide +kernel)) rfl
theorem w_174 : (.methodLink RL 25 yX5_one : Cond) ∈ sm_T := sm_in (List.mem_of_getElem? (i := 174) (by decide +kernel)) rfl
theorem w_175 : (.instanceMethod yX5_one : Cond) ∈ sm_T := sm_in (List.mem_of_getElem? (i := 175) (by decide +kernel)) rfl
theorem w_176 : (.selects RX5 yX5_one yX5_one : Cond) ∈ sm_T := sm_in (List.mem_of_getElem? (i := 176) (by decide +kernel)) rfl
theorem w_177 : (.code yX5_one cX5_one 5 (some .int) : Cond) ∈ sm_T := sm_in (List.mem_of_getElem? (i := 177) (by decide +kernel)) rfl
theorem w_178 : (.methodLink RX5 52 yX4_takes : Cond) ∈ sm_T := sm_in (List.mem_of_getElem? (i := 178) (by decide +kernel)) rfl
theorem w_179 : (.static yX4_takes : Cond) ∈ sm_T := sm_in (List.mem_of_getElem? (i := 179) (by decide +kernel)) rfl
theorem w_180 : (.code yX4_takes cX4_takes 2 (some .boolean) : Cond) ∈ sm_T := sm_in (List.mem_of_getElem? (i := 180) (by decide +kernel)) rfl
theorem w_182 : (.fieldLink RX4 15 RX4 "CONVERTED_FROM" "[I" : Cond) ∈ sm_T := sm_in (List.mem_of_getElem? (i := 182) (by decide +kernel)) rfl
theorem w_185 : (.static yX5_isFloating : Cond) ∈ sm_T := sm_in (List.mem_of_getElem? (i := 185) (by decide +kernel)) rfl
theorem w_186 : (.code yX5_isFloating cX5_isFloating 1 (some .boolean) : Cond) ∈ sm_T := sm_in (List.mem_of_getElem? (i := 186) (by decide +kernel)) rfl
theorem w_187 : (.methodLink RX5 58 yX4_rounds : Cond) ∈ sm_T := sm_in (List.mem_of_getElem? (i := 187) (by decide +kernel)) rfl
theorem w_188 : (.static yX4_rounds : Cond) ∈ sm_T := sm_in (List.mem_of_getElem? (i := 188) (by decide +kernel)) rfl
theorem w_189 : (.code yX4_rounds cX4_rounds 1 (some .boolean) : Cond) ∈ sm_T := sm_in (List.mem_of_getElem? (i := 189) (by decide +kernel)) rfl
theorem w_190 : (.methodLink RX5 62 yX5_inexact : Cond) ∈ sm_T := sm_in (List.mem_of_getElem? (i := 190) (by decide +kernel)) rfl
theorem w_191 : (.static yX5_inexact : Cond) ∈ sm_T := sm_in (List.mem_of_getElem? (i := 191) (by decide +kernel)) rfl
theorem w_192 : (.code yX5_inexact cX5_inexact 2 (some .int) : Cond) ∈ sm_T := sm_in (List.mem_of_getElem? (i := 192) (by decide +kernel)) rfl
theorem w_193 : (.methodLink RX5 66 yX4_resultKind : Cond) ∈ sm_T := sm_in (List.mem_of_getElem? (i := 193) (by decide +kernel)) rfl
theorem w_194 : (.static yX4_resultKind : Cond) ∈ sm_T := sm_in (List.mem_of_getElem? (i := 194) (by decide +kernel)) rfl
theorem w_195 : (.code yX4_resultKind cX4_resultKind 2 (some .int) : Cond) ∈ sm_T := sm_in (List.mem_of_getElem? (i := 195) (by decide +kernel)) rfl
theorem w_196 : (.fieldLink RX4 23 RX4 "CONVERTED_TO" "[I" : Cond) ∈ sm_T := sm_in (List.mem_of_getElem? (i := 196) (by decide +kernel)) rfl
theorem w_198 : (.methodLink RX5 70 yX4_result : Cond) ∈ sm_T := sm_in (List.mem_of_getElem? (i := 198) (by decide +kernel)) rfl
theorem w_199 : (.static yX4_result : Cond) ∈ sm_T := sm_in (List.mem_of_getElem? (i := 199) (by decide +kernel)) rfl
theorem w_200 : (.code yX4_result cX4_result 4 (some .long) : Cond) ∈ sm_T := sm_in (List.mem_of_getElem? (i := 200) (by decide +kernel)) rfl
theorem w_201 : (.fieldLink RX4 26 RX1 "BITS32" "LShadowMachine$Format;" : Cond) ∈ sm_T := sm_in (List.mem_of_getElem? (i := 201) (by decide +kernel)) rfl
theorem w_202 : (.methodLink RX4 32 yX1_ofWhole : Cond) ∈ sm_T := sm_in (List.mem_of_getElem? (i := 202) (by decide +kernel)) rfl
theorem w_203 : (.instanceMethod yX1_ofWhole : Cond) ∈ sm_T := sm_in (List.mem_of_getElem? (i := 203) (by decide +kernel)) rfl
theorem w_204 : (.selects RX1 yX1_ofWhole yX1_ofWhole : Cond) ∈ sm_T := sm_in (List.mem_of_getElem? (i := 204) (by decide +kernel)) rfl
theorem w_205 : (.code yX1_ofWhole cX1_ofWhole 3 (some .long) : Cond) ∈ sm_T := sm_in (List.mem_of_getElem? (i := 205) (by decide +kernel)) rfl
theorem w_206 : (.constantLong RX1 65 (-9223372036854775808) : Cond) ∈ sm_T := sm_in (List.mem_of_getElem? (i := 206) (by decide +kernel)) rfl
theorem w_207 : (.constantLong RX1 67 (4611686018427387904) : Cond) ∈ sm_T := sm_in (List.mem_of_getElem? (i := 207) (by decide +kernel)) rfl
theorem w_208 : (.methodLink RX1 69 yX1_rounded : Cond) ∈ sm_T := sm_in (List.mem_of_getElem? (i := 208) (by decide +kernel)) rfl
theorem w_210 : (.instanceMethod yX1_rounded : Cond) ∈ sm_T := sm_in (List.mem_of_getElem? (i := 210) (by decide +kernel)) rfl
theorem w_211 : (.code yX1_rounded cX1_rounded 10 (some .long) : Cond) ∈ sm_T := sm_in (List.mem_of_getElem? (i := 211) (by decide +kernel)) rfl
theorem w_212 : (.methodLink RX1 131 yJ13_numberOfLeadingZeros_95d88 : Cond) ∈ sm_T := sm_in (List.mem_of_getElem? (i := 212) (by decide +kernel)) rfl
theorem w_213 : (.static yJ13_numberOfLeadingZeros_95d88 : Cond) ∈ sm_T := sm_in (List.mem_of_getElem? (i := 213) (by decide +kernel)) rfl
theorem w_214 : (.code yJ13_numberOfLeadingZeros_95d88 cJ13_numberOfLeadingZeros_95d88 3 (some .int) : Cond) ∈ sm_T := sm_in (List.mem_of_getElem? (i := 214) (by decide +kernel)) rfl
theorem w_215 : (.methodLink RJ13 308 yJ6_numberOfLeadingZeros_0f7a4 : Cond) ∈ sm_T := sm_in (List.mem_of_getElem? (i := 215) (by decide +kernel)) rfl
theorem w_216 : (.static yJ6_numberOfLeadingZeros_0f7a4 : Cond) ∈ sm_T := sm_in (List.mem_of_getElem? (i := 216) (by decide +kernel)) rfl
theorem w_217 : (.code yJ6_numberOfLeadingZeros_0f7a4 cJ6_numberOfLeadingZeros_0f7a4 2 (some .int) : Cond) ∈ sm_T := sm_in (List.mem_of_getElem? (i := 217) (by decide +kernel)) rfl
theorem w_218 : (.constant RJ6 264 (65536) : Cond) ∈ sm_T := sm_in (List.mem_of_getElem? (i := 218) (by decide +kernel)) rfl
theorem w_219 : (.methodLink RX1 121 yJ9_max_7cf53 : Cond) ∈ sm_T := sm_in (List.mem_of_getElem? (i := 219) (by decide +kernel)) rfl
theorem w_220 : (.static yJ9_max_7cf53 : Cond) ∈ sm_T := sm_in (List.mem_of_getElem? (i := 220) (by decide +kernel)) rfl
theorem w_221 : (.code yJ9_max_7cf53 cJ9_max_7cf53 2 (some .int) : Cond) ∈ sm_T := sm_in (List.mem_of_getElem? (i := 221) (by decide +kernel)) rfl
theorem w_222 : (.methodLink RX1 84 yX1_signed : Cond) ∈ sm_T := sm_in (List.mem_of_getElem? (i := 222) (by decide +kernel)) rfl
theorem w_224 : (.instanceMethod yX1_signed : Cond) ∈ sm_T := sm_in (List.mem_of_getElem? (i := 224) (by decide +kernel)) rfl
theorem w_225 : (.code yX1_signed cX1_signed 4 (some .long) : Cond) ∈ sm_T := sm_in (List.mem_of_getElem? (i := 225) (by decide +kernel)) rfl
theorem w_226 : (.methodLink RX1 134 yX1_shiftedToEven : Cond) ∈ sm_T := sm_in (List.mem_of_getElem? (i := 226) (by decide +kernel)) rfl
theorem w_227 : (.static yX1_shiftedToEven : Cond) ∈ sm_T := sm_in (List.mem_of_getElem? (i := 227) (by decide +kernel)) rfl
theorem w_228 : (.code yX1_shiftedToEven cX1_shiftedToEven 10 (some .long) : Cond) ∈ sm_T := sm_in (List.mem_of_getElem? (i := 228) (by decide +kernel)) rfl
theorem w_229 : (.methodLink RX1 73 yJ9_abs_067f4 : Cond) ∈ sm_T := sm_in (List.mem_of_getElem? (i := 229) (by decide +kernel)) rfl
theorem w_230 : (.static yJ9_abs_067f4 : Cond) ∈ sm_T := sm_in (List.mem_of_getElem? (i := 230) (by decide +kernel)) rfl
theorem w_231 : (.code yJ9_abs_067f4 cJ9_abs_067f4 2 (some .long) : Cond) ∈ sm_T := sm_in (List.mem_of_getElem? (i := 231) (by decide +kernel)) rfl
theorem w_232 : (.fieldLink RX4 36 RX1 "BITS64" "LShadowMachine$Format;" : Cond) ∈ sm_T := sm_in (List.mem_of_getElem? (i := 232) (by decide +kernel)) rfl
theorem w_233 : (.methodLink RX4 39 yX1_truncated : Cond) ∈ sm_T := sm_in (List.mem_of_getElem? (i := 233) (by decide +kernel)) rfl
theorem w_234 : (.instanceMethod yX1_truncated : Cond) ∈ sm_T := sm_in (List.mem_of_getElem? (i := 234) (by decide +kernel)) rfl
theorem w_235 : (.selects RX1 yX1_truncated yX1_truncated : Cond) ∈ sm_T := sm_in (List.mem_of_getElem? (i := 235) (by decide +kernel)) rfl
theorem w_236 : (.code yX1_truncated cX1_truncated 6 (some .long) : Cond) ∈ sm_T := sm_in (List.mem_of_getElem? (i := 236) (by decide +kernel)) rfl
theorem w_237 : (.methodLink RX1 88 yX1_isZero : Cond) ∈ sm_T := sm_in (List.mem_of_getElem? (i := 237) (by decide +kernel)) rfl
theorem w_239 : (.instanceMethod yX1_isZero : Cond) ∈ sm_T := sm_in (List.mem_of_getElem? (i := 239) (by decide +kernel)) rfl
theorem w_240 : (.code yX1_isZero cX1_isZero 3 (some .boolean) : Cond) ∈ sm_T := sm_in (List.mem_of_getElem? (i := 240) (by decide +kernel)) rfl
theorem w_241 : (.methodLink RX1 91 yX1_exponent : Cond) ∈ sm_T := sm_in (List.mem_of_getElem? (i := 241) (by decide +kernel)) rfl
theorem w_243 : (.instanceMethod yX1_exponent : Cond) ∈ sm_T := sm_in (List.mem_of_getElem? (i := 243) (by decide +kernel)) rfl
theorem w_244 : (.code yX1_exponent cX1_exponent 4 (some .int) : Cond) ∈ sm_T := sm_in (List.mem_of_getElem? (i := 244) (by decide +kernel)) rfl
theorem w_245 : (.methodLink RX1 125 yX1_unscaled : Cond) ∈ sm_T := sm_in (List.mem_of_getElem? (i := 245) (by decide +kernel)) rfl
theorem w_247 : (.instanceMethod yX1_unscaled : Cond) ∈ sm_T := sm_in (List.mem_of_getElem? (i := 247) (by decide +kernel)) rfl
theorem w_248 : (.code yX1_unscaled cX1_unscaled 7 (some .long) : Cond) ∈ sm_T := sm_in (List.mem_of_getElem? (i := 248) (by decide +kernel)) rfl
theorem w_249 : (.methodLink RX1 128 yX1_placesUp : Cond) ∈ sm_T := sm_in (List.mem_of_getElem? (i := 249) (by decide +kernel)) rfl
theorem w_250 : (.static yX1_placesUp : Cond) ∈ sm_T := sm_in (List.mem_of_getElem? (i := 250) (by decide +kernel)) rfl
theorem w_251 : (.code yX1_placesUp cX1_placesUp 2 (some .int) : Cond) ∈ sm_T := sm_in (List.mem_of_getElem? (i := 251) (by decide +kernel)) rfl
theorem w_252 : (.methodLink RX1 78 yX1_isInfinite : Cond) ∈ sm_T := sm_in (List.mem_of_getElem? (i := 252) (by decide +kernel)) rfl
theorem w_254 : (.instanceMethod yX1_isInfinite : Cond) ∈ sm_T := sm_in (List.mem_of_getElem? (i := 254) (by decide +kernel)) rfl
theorem w_255 : (.code yX1_isInfinite cX1_isInfinite 3 (some .boolean) : Cond) ∈ sm_T := sm_in (List.mem_of_getElem? (i := 255) (by decide +kernel)) rfl
theorem w_256 : (.methodLink RX1 81 yX1_isNegative : Cond) ∈ sm_T := sm_in (List.mem_of_getElem? (i := 256) (by decide +kernel)) rfl
theorem w_258 : (.instanceMethod yX1_isNegative : Cond) ∈ sm_T := sm_in (List.mem_of_getElem? (i := 258) (by decide +kernel)) rfl
theorem w_259 : (.code yX1_isNegative cX1_isNegative 3 (some .boolean) : Cond) ∈ sm_T := sm_in (List.mem_of_getElem? (i := 259) (by decide +kernel)) rfl
theorem w_260 : (.constantLong RX1 98 (9223372036854775807) : Cond) ∈ sm_T := sm_in (List.mem_of_getElem? (i := 260) (by decide +kernel)) rfl
theorem w_261 : (.methodLink RX1 95 yX1_significand : Cond) ∈ sm_T := sm_in (List.mem_of_getElem? (i := 261) (by decide +kernel)) rfl
theorem w_263 : (.instanceMethod yX1_significand : Cond) ∈ sm_T := sm_in (List.mem_of_getElem? (i := 263) (by decide +kernel)) rfl
theorem w_264 : (.code yX1_significand cX1_significand 5 (some .long) : Cond) ∈ sm_T := sm_in (List.mem_of_getElem? (i := 264) (by decide +kernel)) rfl
theorem w_265 : (.methodLink RX4 42 yX4_nearestInt : Cond) ∈ sm_T := sm_in (List.mem_of_getElem? (i := 265) (by decide +kernel)) rfl
theorem w_266 : (.static yX4_nearestInt : Cond) ∈ sm_T := sm_in (List.mem_of_getElem? (i := 266) (by decide +kernel)) rfl
theorem w_267 : (.code yX4_nearestInt cX4_nearestInt 2 (some .long) : Cond) ∈ sm_T := sm_in (List.mem_of_getElem? (i := 267) (by decide +kernel)) rfl
theorem w_268 : (.constantLong RX4 72 (-2147483648) : Cond) ∈ sm_T := sm_in (List.mem_of_getElem? (i := 268) (by decide +kernel)) rfl
theorem w_269 : (.constantLong RX4 74 (2147483647) : Cond) ∈ sm_T := sm_in (List.mem_of_getElem? (i := 269) (by decide +kernel)) rfl
theorem w_270 : (.methodLink RX4 76 yJ9_min_f86c9 : Cond) ∈ sm_T := sm_in (List.mem_of_getElem? (i := 270) (by decide +kernel)) rfl
theorem w_271 : (.static yJ9_min_f86c9 : Cond) ∈ sm_T := sm_in (List.mem_of_getElem? (i := 271) (by decide +kernel)) rfl
theorem w_272 : (.code yJ9_min_f86c9 cJ9_min_f86c9 4 (some .long) : Cond) ∈ sm_T := sm_in (List.mem_of_getElem? (i := 272) (by decide +kernel)) rfl
theorem w_273 : (.methodLink RX4 80 yJ9_max_f86c9 : Cond) ∈ sm_T := sm_in (List.mem_of_getElem? (i := 273) (by decide +kernel)) rfl
theorem w_274 : (.static yJ9_max_f86c9 : Cond) ∈ sm_T := sm_in (List.mem_of_getElem? (i := 274) (by decide +kernel)) rfl
theorem w_275 : (.code yJ9_max_f86c9 cJ9_max_f86c9 4 (some .long) : Cond) ∈ sm_T := sm_in (List.mem_of_getElem? (i := 275) (by decide +kernel)) rfl
theorem w_276 : (.methodLink RX4 45 yX1_ofOther : Cond) ∈ sm_T := sm_in (List.mem_of_getElem? (i := 276) (by decide +kernel)) rfl
theorem w_277 : (.instanceMethod yX1_ofOther : Cond) ∈ sm_T := sm_in (List.mem_of_getElem? (i := 277) (by decide +kernel)) rfl
theorem w_278 : (.selects RX1 yX1_ofOther yX1_ofOther : Cond) ∈ sm_T := sm_in (List.mem_of_getElem? (i := 278) (by decide +kernel)) rfl
theorem w_279 : (.code yX1_ofOther cX1_ofOther 4 (some .long) : Cond) ∈ sm_T := sm_in (List.mem_of_getElem? (i := 279) (by decide +kernel)) rfl
theorem w_281 : (.static yX5_formatOf : Cond) ∈ sm_T := sm_in (List.mem_of_getElem? (i := 281) (by decide +kernel)) rfl
theorem w_282 : (.code yX5_formatOf cX5_formatOf 1 (some (.object "ShadowMachine$Format")) : Cond) ∈ sm_T := sm_in (List.mem_of_getElem? (i := 282) (by decide +kernel)) rfl
theorem w_283 : (.methodLink RX4 53 yX1_negated : Cond) ∈ sm_T := sm_in (List.mem_of_getElem? (i := 283) (by decide +kernel)) rfl
theorem w_284 : (.instanceMethod yX1_negated : Cond) ∈ sm_T := sm_in (List.mem_of_getElem? (i := 284) (by decide +kernel)) rfl
theorem w_285 : (.selects RX1 yX1_negated yX1_negated : Cond) ∈ sm_T := sm_in (List.mem_of_getElem? (i := 285) (by decide +kernel)) rfl
theorem w_286 : (.code yX1_negated cX1_negated 3 (some .long) : Cond) ∈ sm_T := sm_in (List.mem_of_getElem? (i := 286) (by decide +kernel)) rfl
theorem w_288 : (.methodLink RX4 60 yX1_magnitude : Cond) ∈ sm_T := sm_in (List.mem_of_getElem? (i := 288) (by decide +kernel)) rfl
theorem w_289 : (.methodLink RX4 63 yJ9_abs_067f4 : Cond) ∈ sm_T := sm_in (List.mem_of_getElem? (i := 289) (by decide +kernel)) rfl
theorem w_290 : (.methodLink RX4 68 yX4_resultKind : Cond) ∈ sm_T := sm_in (List.mem_of_getElem? (i := 290) (by decide +kernel)) rfl
theorem w_291 : (.methodLink RL 30 yX5_two : Cond) ∈ sm_T := sm_in (List.mem_of_getElem? (i := 291) (by decide +kernel)) rfl
theorem w_292 : (.instanceMethod yX5_two : Cond) ∈ sm_T := sm_in (List.mem_of_getElem? (i := 292) (by decide +kernel)) rfl
theorem w_293 : (.selects RX5 yX5_two yX5_two : Cond) ∈ sm_T := sm_in (List.mem_of_getElem? (i := 293) (by decide +kernel)) rfl
theorem w_294 : (.code yX5_two cX5_two 8 (some .int) : Cond) ∈ sm_T := sm_in (List.mem_of_getElem? (i := 294) (by decide +kernel)) rfl
theorem w_295 : (.methodLink RX5 74 yX3_takes : Cond) ∈ sm_T := sm_in (List.mem_of_getElem? (i := 295) (by decide +kernel)) rfl
theorem w_296 : (.static yX3_takes : Cond) ∈ sm_T := sm_in (List.mem_of_getElem? (i := 296) (by decide +kernel)) rfl
theorem w_297 : (.code yX3_takes cX3_takes 3 (some .boolean) : Cond) ∈ sm_T := sm_in (List.mem_of_getElem? (i := 297) (by decide +kernel)) rfl
theorem w_299 : (.methodLink RX5 79 yX3_divides : Cond) ∈ sm_T := sm_in (List.mem_of_getElem? (i := 299) (by decide +kernel)) rfl
theorem w_300 : (.static yX3_divides : Cond) ∈ sm_T := sm_in (List.mem_of_getElem? (i := 300) (by decide +kernel)) rfl
theorem w_301 : (.code yX3_divides cX3_divides 1 (some .boolean) : Cond) ∈ sm_T := sm_in (List.mem_of_getElem? (i := 301) (by decide +kernel)) rfl
theorem w_302 : (.methodLink RX5 82 yX5_isFloating : Cond) ∈ sm_T := sm_in (List.mem_of_getElem? (i := 302) (by decide +kernel)) rfl
theorem w_303 : (.methodLink RX5 85 yX5_failed : Cond) ∈ sm_T := sm_in (List.mem_of_getElem? (i := 303) (by decide +kernel)) rfl
theorem w_305 : (.instanceMethod yX5_failed : Cond) ∈ sm_T := sm_in (List.mem_of_getElem? (i := 305) (by decide +kernel)) rfl
theorem w_306 : (.code yX5_failed cX5_failed 2 (some .int) : Cond) ∈ sm_T := sm_in (List.mem_of_getElem? (i := 306) (by decide +kernel)) rfl
theorem w_307 : (.methodLink RX5 88 yX5_formatOf : Cond) ∈ sm_T := sm_in (List.mem_of_getElem? (i := 307) (by decide +kernel)) rfl
theorem w_308 : (.methodLink RX5 92 yX3_floatingResult : Cond) ∈ sm_T := sm_in (List.mem_of_getElem? (i := 308) (by decide +kernel)) rfl
theorem w_309 : (.static yX3_floatingResult : Cond) ∈ sm_T := sm_in (List.mem_of_getElem? (i := 309) (by decide +kernel)) rfl
theorem w_310 : (.code yX3_floatingResult cX3_floatingResult 6 (some .long) : Cond) ∈ sm_T := sm_in (List.mem_of_getElem? (i := 310) (by decide +kernel)) rfl
theorem w_311 : (.methodLink RX3 43 yX1_sum : Cond) ∈ sm_T := sm_in (List.mem_of_getElem? (i := 311) (by decide +kernel)) rfl
theorem w_312 : (.instanceMethod yX1_sum : Cond) ∈ sm_T := sm_in (List.mem_of_getElem? (i := 312) (by decide +kernel)) rfl
theorem w_313 : (.selects RX1 yX1_sum yX1_sum : Cond) ∈ sm_T := sm_in (List.mem_of_getElem? (i := 313) (by decide +kernel)) rfl
theorem w_314 : (.code yX1_sum cX1_sum 5 (some .long) : Cond) ∈ sm_T := sm_in (List.mem_of_getElem? (i := 314) (by decide +kernel)) rfl
theorem w_315 : (.methodLink RX1 100 yX1_sumInOrder : Cond) ∈ sm_T := sm_in (List.mem_of_getElem? (i := 315) (by decide +kernel)) rfl
theorem w_317 : (.instanceMethod yX1_sumInOrder : Cond) ∈ sm_T := sm_in (List.mem_of_getElem? (i := 317) (by decide +kernel)) rfl
theorem w_318 : (.code yX1_sumInOrder cX1_sumInOrder 13 (some .long) : Cond) ∈ sm_T := sm_in (List.mem_of_getElem? (i := 318) (by decide +kernel)) rfl
theorem w_319 : (.methodLink RX1 104 yX1_shiftedDown : Cond) ∈ sm_T := sm_in (List.mem_of_getElem? (i := 319) (by decide +kernel)) rfl
theorem w_320 : (.static yX1_shiftedDown : Cond) ∈ sm_T := sm_in (List.mem_of_getElem? (i := 320) (by decide +kernel)) rfl
theorem w_321 : (.code yX1_shiftedDown cX1_shiftedDown 5 (some .long) : Cond) ∈ sm_T := sm_in (List.mem_of_getElem? (i := 321) (by decide +kernel)) rfl
theorem w_322 : (.methodLink RX3 48 yX1_negated : Cond) ∈ sm_T := sm_in (List.mem_of_getElem? (i := 322) (by decide +kernel)) rfl
theorem w_323 : (.methodLink RX3 52 yX1_product : Cond) ∈ sm_T := sm_in (List.mem_of_getElem? (i := 323) (by decide +kernel)) rfl
theorem w_324 : (.instanceMethod yX1_product : Cond) ∈ sm_T := sm_in (List.mem_of_getElem? (i := 324) (by decide +kernel)) rfl
theorem w_325 : (.selects RX1 yX1_product yX1_product : Cond) ∈ sm_T := sm_in (List.mem_of_getElem? (i := 325) (by decide +kernel)) rfl
theorem w_326 : (.code yX1_product cX1_product 8 (some .long) : Cond) ∈ sm_T := sm_in (List.mem_of_getElem? (i := 326) (by decide +kernel)) rfl
theorem w_327 : (.methodLink RX1 108 yX1_highProduct : Cond) ∈ sm_T := sm_in (List.mem_of_getElem? (i := 327) (by decide +kernel)) rfl
theorem w_328 : (.static yX1_highProduct : Cond) ∈ sm_T := sm_in (List.mem_of_getElem? (i := 328) (by decide +kernel)) rfl
theorem w_329 : (.code yX1_highProduct cX1_highProduct 18 (some .long) : Cond) ∈ sm_T := sm_in (List.mem_of_getElem? (i := 329) (by decide +kernel)) rfl
theorem w_330 : (.constantLong RX1 137 (134217727) : Cond) ∈ sm_T := sm_in (List.mem_of_getElem? (i := 330) (by decide +kernel)) rfl
theorem w_331 : (.methodLink RX3 55 yX1_quotient : Cond) ∈ sm_T := sm_in (List.mem_of_getElem? (i := 331) (by decide +kernel)) rfl
theorem w_332 : (.instanceMethod yX1_quotient : Cond) ∈ sm_T := sm_in (List.mem_of_getElem? (i := 332) (by decide +kernel)) rfl
theorem w_333 : (.selects RX1 yX1_quotient yX1_quotient : Cond) ∈ sm_T := sm_in (List.mem_of_getElem? (i := 333) (by decide +kernel)) rfl
theorem w_334 : (.code yX1_quotient cX1_quotient 7 (some .long) : Cond) ∈ sm_T := sm_in (List.mem_of_getElem? (i := 334) (by decide +kernel)) rfl
theorem w_335 : (.methodLink RX1 111 yX1_longQuotient : Cond) ∈ sm_T := sm_in (List.mem_of_getElem? (i := 335) (by decide +kernel)) rfl
theorem w_336 : (.static yX1_longQuotient : Cond) ∈ sm_T := sm_in (List.mem_of_getElem? (i := 336) (by decide +kernel)) rfl
theorem w_337 : (.code yX1_longQuotient cX1_longQuotient 9 (some .long) : Cond) ∈ sm_T := sm_in (List.mem_of_getElem? (i := 337) (by decide +kernel)) rfl
theorem w_338 : (.methodLink RX3 58 yX1_remainder : Cond) ∈ sm_T := sm_in (List.mem_of_getElem? (i := 338) (by decide +kernel)) rfl
theorem w_339 : (.instanceMethod yX1_remainder : Cond) ∈ sm_T := sm_in (List.mem_of_getElem? (i := 339) (by decide +kernel)) rfl
theorem w_340 : (.selects RX1 yX1_remainder yX1_remainder : Cond) ∈ sm_T := sm_in (List.mem_of_getElem? (i := 340) (by decide +kernel)) rfl
theorem w_341 : (.code yX1_remainder cX1_remainder 7 (some .long) : Cond) ∈ sm_T := sm_in (List.mem_of_getElem? (i := 341) (by decide +kernel)) rfl
theorem w_342 : (.methodLink RX1 114 yX1_longRemainder : Cond) ∈ sm_T := sm_in (List.mem_of_getElem? (i := 342) (by decide +kernel)) rfl
theorem w_343 : (.static yX1_longRemainder : Cond) ∈ sm_T := sm_in (List.mem_of_getElem? (i := 343) (by decide +kernel)) rfl
theorem w_344 : (.code yX1_longRemainder cX1_longRemainder 8 (some .long) : Cond) ∈ sm_T := sm_in (List.mem_of_getElem? (i := 344) (by decide +kernel)) rfl
theorem w_345 : (.methodLink RX1 139 yJ9_min_7cf53 : Cond) ∈ sm_T := sm_in (List.mem_of_getElem? (i := 345) (by decide +kernel)) rfl
theorem w_346 : (.static yJ9_min_7cf53 : Cond) ∈ sm_T := sm_in (List.mem_of_getElem? (i := 346) (by decide +kernel)) rfl
theorem w_347 : (.code yJ9_min_7cf53 cJ9_min_7cf53 2 (some .int) : Cond) ∈ sm_T := sm_in (List.mem_of_getElem? (i := 347) (by decide +kernel)) rfl
theorem w_348 : (.methodLink RX3 61 yX1_least : Cond) ∈ sm_T := sm_in (List.mem_of_getElem? (i := 348) (by decide +kernel)) rfl
theorem w_349 : (.instanceMethod yX1_least : Cond) ∈ sm_T := sm_in (List.mem_of_getElem? (i := 349) (by decide +kernel)) rfl
theorem w_350 : (.selects RX1 yX1_least yX1_least : Cond) ∈ sm_T := sm_in (List.mem_of_getElem? (i := 350) (by decide +kernel)) rfl
theorem w_351 : (.code yX1_least cX1_least 5 (some .long) : Cond) ∈ sm_T := sm_in (List.mem_of_getElem? (i := 351) (by decide +kernel)) rfl
theorem w_352 : (.methodLink RX1 55 yX1_order : Cond) ∈ sm_T := sm_in (List.mem_of_getElem? (i := 352) (by decide +kernel)) rfl
theorem w_354 : (.instanceMethod yX1_order : Cond) ∈ sm_T := sm_in (List.mem_of_getElem? (i := 354) (by decide +kernel)) rfl
theorem w_355 : (.code yX1_order cX1_order 3 (some .long) : Cond) ∈ sm_T := sm_in (List.mem_of_getElem? (i := 355) (by decide +kernel)) rfl
theorem w_356 : (.methodLink RX3 64 yX1_greatest : Cond) ∈ sm_T := sm_in (List.mem_of_getElem? (i := 356) (by decide +kernel)) rfl
theorem w_357 : (.instanceMethod yX1_greatest : Cond) ∈ sm_T := sm_in (List.mem_of_getElem? (i := 357) (by decide +kernel)) rfl
theorem w_358 : (.selects RX1 yX1_greatest yX1_greatest : Cond) ∈ sm_T := sm_in (List.mem_of_getElem? (i := 358) (by decide +kernel)) rfl
theorem w_359 : (.code yX1_greatest cX1_greatest 5 (some .long) : Cond) ∈ sm_T := sm_in (List.mem_of_getElem? (i := 359) (by decide +kernel)) rfl
theorem w_360 : (.methodLink RX3 67 yX1_compared : Cond) ∈ sm_T := sm_in (List.mem_of_getElem? (i := 360) (by decide +kernel)) rfl
theorem w_361 : (.instanceMethod yX1_compared : Cond) ∈ sm_T := sm_in (List.mem_of_getElem? (i := 361) (by decide +kernel)) rfl
theorem w_362 : (.selects RX1 yX1_compared yX1_compared : Cond) ∈ sm_T := sm_in (List.mem_of_getElem? (i := 362) (by decide +kernel)) rfl
theorem w_363 : (.code yX1_compared cX1_compared 6 (some .int) : Cond) ∈ sm_T := sm_in (List.mem_of_getElem? (i := 363) (by decide +kernel)) rfl
theorem w_364 : (.methodLink RX1 59 yJ13_compare_74951 : Cond) ∈ sm_T := sm_in (List.mem_of_getElem? (i := 364) (by decide +kernel)) rfl
theorem w_365 : (.static yJ13_compare_74951 : Cond) ∈ sm_T := sm_in (List.mem_of_getElem? (i := 365) (by decide +kernel)) rfl
theorem w_366 : (.code yJ13_compare_74951 cJ13_compare_74951 4 (some .int) : Cond) ∈ sm_T := sm_in (List.mem_of_getElem? (i := 366) (by decide +kernel)) rfl
theorem w_367 : (.methodLink RX5 96 yX3_wholeResult : Cond) ∈ sm_T := sm_in (List.mem_of_getElem? (i := 367) (by decide +kernel)) rfl
theorem w_368 : (.static yX3_wholeResult : Cond) ∈ sm_T := sm_in (List.mem_of_getElem? (i := 368) (by decide +kernel)) rfl
theorem w_369 : (.code yX3_wholeResult cX3_wholeResult 8 (some .long) : Cond) ∈ sm_T := sm_in (List.mem_of_getElem? (i := 369) (by decide +kernel)) rfl
theorem w_370 : (.methodLink RX3 18 yX3_calculated : Cond) ∈ sm_T := sm_in (List.mem_of_getElem? (i := 370) (by decide +kernel)) rfl
theorem w_371 : (.static yX3_calculated : Cond) ∈ sm_T := sm_in (List.mem_of_getElem? (i := 371) (by decide +kernel)) rfl
theorem w_372 : (.code yX3_calculated cX3_calculated 5 (some .long) : Cond) ∈ sm_T := sm_in (List.mem_of_getElem? (i := 372) (by decide +kernel)) rfl
theorem w_373 : (.methodLink RX3 26 yJ9_min_f86c9 : Cond) ∈ sm_T := sm_in (List.mem_of_getElem? (i := 373) (by decide +kernel)) rfl
theorem w_374 : (.methodLink RX3 32 yJ9_max_f86c9 : Cond) ∈ sm_T := sm_in (List.mem_of_getElem? (i := 374) (by decide +kernel)) rfl
theorem w_375 : (.methodLink RX3 22 yX3_combined : Cond) ∈ sm_T := sm_in (List.mem_of_getElem? (i := 375) (by decide +kernel)) rfl
theorem w_376 : (.static yX3_combined : Cond) ∈ sm_T := sm_in (List.mem_of_getElem? (i := 376) (by decide +kernel)) rfl
theorem w_377 : (.code yX3_combined cX3_combined 7 (some .long) : Cond) ∈ sm_T := sm_in (List.mem_of_getElem? (i := 377) (by decide +kernel)) rfl
theorem w_378 : (.constantLong RX3 35 (4294967295) : Cond) ∈ sm_T := sm_in (List.mem_of_getElem? (i := 378) (by decide +kernel)) rfl
theorem w_379 : (.methodLink RX3 37 yJ13_compare_74951 : Cond) ∈ sm_T := sm_in (List.mem_of_getElem? (i := 379) (by decide +kernel)) rfl
theorem w_380 : (.methodLink RX5 100 yX3_resultKind : Cond) ∈ sm_T := sm_in (List.mem_of_getElem? (i := 380) (by decide +kernel)) rfl
theorem w_381 : (.static yX3_resultKind : Cond) ∈ sm_T := sm_in (List.mem_of_getElem? (i := 381) (by decide +kernel)) rfl
theorem w_382 : (.code yX3_resultKind cX3_resultKind 2 (some .int) : Cond) ∈ sm_T := sm_in (List.mem_of_getElem? (i := 382) (by decide +kernel)) rfl
theorem w_383 : (.methodLink RX5 101 yX5_shadowOfTwo : Cond) ∈ sm_T := sm_in (List.mem_of_getElem? (i := 383) (by decide +kernel)) rfl
theorem w_385 : (.instanceMethod yX5_shadowOfTwo : Cond) ∈ sm_T := sm_in (List.mem_of_getElem? (i := 385) (by decide +kernel)) rfl
theorem w_386 : (.code yX5_shadowOfTwo cX5_shadowOfTwo 6 (some .int) : Cond) ∈ sm_T := sm_in (List.mem_of_getElem? (i := 386) (by decide +kernel)) rfl
theorem w_387 : (.methodLink RX5 186 yX3_calculates : Cond) ∈ sm_T := sm_in (List.mem_of_getElem? (i := 387) (by decide +kernel)) rfl
theorem w_388 : (.static yX3_calculates : Cond) ∈ sm_T := sm_in (List.mem_of_getElem? (i := 388) (by decide +kernel)) rfl
theorem w_389 : (.code yX3_calculates cX3_calculates 1 (some .boolean) : Cond) ∈ sm_T := sm_in (List.mem_of_getElem? (i := 389) (by decide +kernel)) rfl
theorem w_390 : (.methodLink RX5 110 yX5_giveUp : Cond) ∈ sm_T := sm_in (List.mem_of_getElem? (i := 390) (by decide +kernel)) rfl
theorem w_392 : (.instanceMethod yX5_giveUp : Cond) ∈ sm_T := sm_in (List.mem_of_getElem? (i := 392) (by decide +kernel)) rfl
theorem w_393 : (.code yX5_giveUp cX5_giveUp 4 (none) : Cond) ∈ sm_T := sm_in (List.mem_of_getElem? (i := 393) (by decide +kernel)) rfl
theorem w_394 : (.methodLink RX5 154 yX2_add : Cond) ∈ sm_T := sm_in (List.mem_of_getElem? (i := 394) (by decide +kernel)) rfl
theorem w_395 : (.instanceMethod yX2_add : Cond) ∈ sm_T := sm_in (List.mem_of_getElem? (i := 395) (by decide +kernel)) rfl
theorem w_396 : (.selects RX2 yX2_add yX2_add : Cond) ∈ sm_T := sm_in (List.mem_of_getElem? (i := 396) (by decide +kernel)) rfl
theorem w_397 : (.code yX2_add cX2_add 5 (none) : Cond) ∈ sm_T := sm_in (List.mem_of_getElem? (i := 397) (by decide +kernel)) rfl
theorem w_398 : (.methodLink RX2 19 yX2_startOf : Cond) ∈ sm_T := sm_in (List.mem_of_getElem? (i := 398) (by decide +kernel)) rfl
theorem w_399 : (.static yX2_startOf : Cond) ∈ sm_T := sm_in (List.mem_of_getElem? (i := 399) (by decide +kernel)) rfl
theorem w_400 : (.code yX2_startOf cX2_startOf 1 (some .int) : Cond) ∈ sm_T := sm_in (List.mem_of_getElem? (i := 400) (by decide +kernel)) rfl
theorem w_401 : (.methodLink RX5 151 yX5_joined : Cond) ∈ sm_T := sm_in (List.mem_of_getElem? (i := 401) (by decide +kernel)) rfl
theorem w_402 : (.static yX5_joined : Cond) ∈ sm_T := sm_in (List.mem_of_getElem? (i := 402) (by decide +kernel)) rfl
theorem w_403 : (.code yX5_joined cX5_joined 2 (some .int) : Cond) ∈ sm_T := sm_in (List.mem_of_getElem? (i := 403) (by decide +kernel)) rfl
theorem w_404 : (.methodLink RX5 189 yX3_mixes : Cond) ∈ sm_T := sm_in (List.mem_of_getElem? (i := 404) (by decide +kernel)) rfl
theorem w_405 : (.static yX3_mixes : Cond) ∈ sm_T := sm_in (List.mem_of_getElem? (i := 405) (by decide +kernel)) rfl
theorem w_406 : (.code yX3_mixes cX3_mixes 1 (some .boolean) : Cond) ∈ sm_T := sm_in (List.mem_of_getElem? (i := 406) (by decide +kernel)) rfl
theorem w_407 : (.methodLink RX3 15 yX3_divides : Cond) ∈ sm_T := sm_in (List.mem_of_getElem? (i := 407) (by decide +kernel)) rfl
theorem w_408 : (.methodLink RL 35 yX5_move : Cond) ∈ sm_T := sm_in (List.mem_of_getElem? (i := 408) (by decide +kernel)) rfl
theorem w_409 : (.instanceMethod yX5_move : Cond) ∈ sm_T := sm_in (List.mem_of_getElem? (i := 409) (by decide +kernel)) rfl
theorem w_410 : (.selects RX5 yX5_move yX5_move : Cond) ∈ sm_T := sm_in (List.mem_of_getElem? (i := 410) (by decide +kernel)) rfl
theorem w_411 : (.code yX5_move cX5_move 3 (some .int) : Cond) ∈ sm_T := sm_in (List.mem_of_getElem? (i := 411) (by decide +kernel)) rfl
theorem w_412 : (.methodLink RL 40 yX5_array : Cond) ∈ sm_T := sm_in (List.mem_of_getElem? (i := 412) (by decide +kernel)) rfl
theorem w_413 : (.instanceMethod yX5_array : Cond) ∈ sm_T := sm_in (List.mem_of_getElem? (i := 413) (by decide +kernel)) rfl
theorem w_414 : (.selects RX5 yX5_array yX5_array : Cond) ∈ sm_T := sm_in (List.mem_of_getElem? (i := 414) (by decide +kernel)) rfl
theorem w_415 : (.code yX5_array cX5_array 5 (some .int) : Cond) ∈ sm_T := sm_in (List.mem_of_getElem? (i := 415) (by decide +kernel)) rfl
theorem w_416 : (.methodLink RX5 105 yX5_isInt : Cond) ∈ sm_T := sm_in (List.mem_of_getElem? (i := 416) (by decide +kernel)) rfl
theorem w_418 : (.instanceMethod yX5_isInt : Cond) ∈ sm_T := sm_in (List.mem_of_getElem? (i := 418) (by decide +kernel)) rfl
theorem w_419 : (.code yX5_isInt cX5_isInt 2 (some .boolean) : Cond) ∈ sm_T := sm_in (List.mem_of_getElem? (i := 419) (by decide +kernel)) rfl
theorem w_420 : (.constantLong RX5 108 (12) : Cond) ∈ sm_T := sm_in (List.mem_of_getElem? (i := 420) (by decide +kernel)) rfl
theorem w_421 : (.methodLink RX5 114 yX5_unheld : Cond) ∈ sm_T := sm_in (List.mem_of_getElem? (i := 421) (by decide +kernel)) rfl
theorem w_423 : (.instanceMethod yX5_unheld : Cond) ∈ sm_T := sm_in (List.mem_of_getElem? (i := 423) (by decide +kernel)) rfl
theorem w_424 : (.code yX5_unheld cX5_unheld 3 (some (.object "ShadowMachine$Cells")) : Cond) ∈ sm_T := sm_in (List.mem_of_getElem? (i := 424) (by decide +kernel)) rfl
theorem w_425 : (.methodLink RX5 192 yX5_isHeld : Cond) ∈ sm_T := sm_in (List.mem_of_getElem? (i := 425) (by decide +kernel)) rfl
theorem w_427 : (.instanceMethod yX5_isHeld : Cond) ∈ sm_T := sm_in (List.mem_of_getElem? (i := 427) (by decide +kernel)) rfl
theorem w_428 : (.code yX5_isHeld cX5_isHeld 3 (some .boolean) : Cond) ∈ sm_T := sm_in (List.mem_of_getElem? (i := 428) (by decide +kernel)) rfl
theorem w_429 : (.methodLink RX5 118 yX0_renew : Cond) ∈ sm_T := sm_in (List.mem_of_getElem? (i := 429) (by decide +kernel)) rfl
theorem w_430 : (.instanceMethod yX0_renew : Cond) ∈ sm_T := sm_in (List.mem_of_getElem? (i := 430) (by decide +kernel)) rfl
theorem w_431 : (.selects RX0 yX0_renew yX0_renew : Cond) ∈ sm_T := sm_in (List.mem_of_getElem? (i := 431) (by decide +kernel)) rfl
theorem w_432 : (.code yX0_renew cX0_renew 4 (none) : Cond) ∈ sm_T := sm_in (List.mem_of_getElem? (i := 432) (by decide +kernel)) rfl
theorem w_433 : (.methodLink RL 44 yX5_drop : Cond) ∈ sm_T := sm_in (List.mem_of_getElem? (i := 433) (by decide +kernel)) rfl
theorem w_434 : (.instanceMethod yX5_drop : Cond) ∈ sm_T := sm_in (List.mem_of_getElem? (i := 434) (by decide +kernel)) rfl
theorem w_435 : (.selects RX5 yX5_drop yX5_drop : Cond) ∈ sm_T := sm_in (List.mem_of_getElem? (i := 435) (by decide +kernel)) rfl
theorem w_436 : (.code yX5_drop cX5_drop 2 (some .int) : Cond) ∈ sm_T := sm_in (List.mem_of_getElem? (i := 436) (by decide +kernel)) rfl
theorem w_437 : (.methodLink RL 49 yX5_share : Cond) ∈ sm_T := sm_in (List.mem_of_getElem? (i := 437) (by decide +kernel)) rfl
theorem w_438 : (.instanceMethod yX5_share : Cond) ∈ sm_T := sm_in (List.mem_of_getElem? (i := 438) (by decide +kernel)) rfl
theorem w_439 : (.selects RX5 yX5_share yX5_share : Cond) ∈ sm_T := sm_in (List.mem_of_getElem? (i := 439) (by decide +kernel)) rfl
theorem w_440 : (.code yX5_share cX5_share 3 (some .int) : Cond) ∈ sm_T := sm_in (List.mem_of_getElem? (i := 440) (by decide +kernel)) rfl
theorem w_441 : (.methodLink RL 53 yX5_load : Cond) ∈ sm_T := sm_in (List.mem_of_getElem? (i := 441) (by decide +kernel)) rfl
theorem w_442 : (.instanceMethod yX5_load : Cond) ∈ sm_T := sm_in (List.mem_of_getElem? (i := 442) (by decide +kernel)) rfl
theorem w_443 : (.selects RX5 yX5_load yX5_load : Cond) ∈ sm_T := sm_in (List.mem_of_getElem? (i := 443) (by decide +kernel)) rfl
theorem w_444 : (.code yX5_load cX5_load 6 (some .int) : Cond) ∈ sm_T := sm_in (List.mem_of_getElem? (i := 444) (by decide +kernel)) rfl
theorem w_445 : (.methodLink RX5 125 yX0_kindTaken : Cond) ∈ sm_T := sm_in (List.mem_of_getElem? (i := 445) (by decide +kernel)) rfl
theorem w_446 : (.instanceMethod yX0_kindTaken : Cond) ∈ sm_T := sm_in (List.mem_of_getElem? (i := 446) (by decide +kernel)) rfl
theorem w_447 : (.selects RX0 yX0_kindTaken yX0_kindTaken : Cond) ∈ sm_T := sm_in (List.mem_of_getElem? (i := 447) (by decide +kernel)) rfl
theorem w_448 : (.code yX0_kindTaken cX0_kindTaken 1 (some .int) : Cond) ∈ sm_T := sm_in (List.mem_of_getElem? (i := 448) (by decide +kernel)) rfl
theorem w_449 : (.methodLink RL 57 yX5_store : Cond) ∈ sm_T := sm_in (List.mem_of_getElem? (i := 449) (by decide +kernel)) rfl
theorem w_450 : (.instanceMethod yX5_store : Cond) ∈ sm_T := sm_in (List.mem_of_getElem? (i := 450) (by decide +kernel)) rfl
theorem w_451 : (.selects RX5 yX5_store yX5_store : Cond) ∈ sm_T := sm_in (List.mem_of_getElem? (i := 451) (by decide +kernel)) rfl
theorem w_452 : (.code yX5_store cX5_store 5 (some .int) : Cond) ∈ sm_T := sm_in (List.mem_of_getElem? (i := 452) (by decide +kernel)) rfl
theorem w_453 : (.methodLink RX5 131 yX0_keep : Cond) ∈ sm_T := sm_in (List.mem_of_getElem? (i := 453) (by decide +kernel)) rfl
theorem w_454 : (.instanceMethod yX0_keep : Cond) ∈ sm_T := sm_in (List.mem_of_getElem? (i := 454) (by decide +kernel)) rfl
theorem w_455 : (.selects RX0 yX0_keep yX0_keep : Cond) ∈ sm_T := sm_in (List.mem_of_getElem? (i := 455) (by decide +kernel)) rfl
theorem w_456 : (.code yX0_keep cX0_keep 5 (none) : Cond) ∈ sm_T := sm_in (List.mem_of_getElem? (i := 456) (by decide +kernel)) rfl
theorem w_457 : (.methodLink RX0 26 yX0_narrowed : Cond) ∈ sm_T := sm_in (List.mem_of_getElem? (i := 457) (by decide +kernel)) rfl
theorem w_459 : (.instanceMethod yX0_narrowed : Cond) ∈ sm_T := sm_in (List.mem_of_getElem? (i := 459) (by decide +kernel)) rfl
theorem w_460 : (.code yX0_narrowed cX0_narrowed 3 (some .long) : Cond) ∈ sm_T := sm_in (List.mem_of_getElem? (i := 460) (by decide +kernel)) rfl
theorem w_462 : (.methodLink RL 61 yX5_length : Cond) ∈ sm_T := sm_in (List.mem_of_getElem? (i := 462) (by decide +kernel)) rfl
theorem w_463 : (.instanceMethod yX5_length : Cond) ∈ sm_T := sm_in (List.mem_of_getElem? (i := 463) (by decide +kernel)) rfl
theorem w_464 : (.selects RX5 yX5_length yX5_length : Cond) ∈ sm_T := sm_in (List.mem_of_getElem? (i := 464) (by decide +kernel)) rfl
theorem w_465 : (.code yX5_length cX5_length 4 (some .int) : Cond) ∈ sm_T := sm_in (List.mem_of_getElem? (i := 465) (by decide +kernel)) rfl
theorem w_466 : (.methodLink RL 65 yX5_copy : Cond) ∈ sm_T := sm_in (List.mem_of_getElem? (i := 466) (by decide +kernel)) rfl
theorem w_467 : (.instanceMethod yX5_copy : Cond) ∈ sm_T := sm_in (List.mem_of_getElem? (i := 467) (by decide +kernel)) rfl
theorem w_468 : (.selects RX5 yX5_copy yX5_copy : Cond) ∈ sm_T := sm_in (List.mem_of_getElem? (i := 468) (by decide +kernel)) rfl
theorem w_469 : (.code yX5_copy cX5_copy 8 (some .int) : Cond) ∈ sm_T := sm_in (List.mem_of_getElem? (i := 469) (by decide +kernel)) rfl
theorem w_470 : (.methodLink RX5 138 yX0_hasRun : Cond) ∈ sm_T := sm_in (List.mem_of_getElem? (i := 470) (by decide +kernel)) rfl
theorem w_471 : (.instanceMethod yX0_hasRun : Cond) ∈ sm_T := sm_in (List.mem_of_getElem? (i := 471) (by decide +kernel)) rfl
theorem w_472 : (.selects RX0 yX0_hasRun yX0_hasRun : Cond) ∈ sm_T := sm_in (List.mem_of_getElem? (i := 472) (by decide +kernel)) rfl
theorem w_473 : (.code yX0_hasRun cX0_hasRun 3 (some .boolean) : Cond) ∈ sm_T := sm_in (List.mem_of_getElem? (i := 473) (by decide +kernel)) rfl
theorem w_477 : (.methodLink RL 70 yX5_branch : Cond) ∈ sm_T := sm_in (List.mem_of_getElem? (i := 477) (by decide +kernel)) rfl
theorem w_478 : (.instanceMethod yX5_branch : Cond) ∈ sm_T := sm_in (List.mem_of_getElem? (i := 478) (by decide +kernel)) rfl
theorem w_479 : (.selects RX5 yX5_branch yX5_branch : Cond) ∈ sm_T := sm_in (List.mem_of_getElem? (i := 479) (by decide +kernel)) rfl
theorem w_480 : (.code yX5_branch cX5_branch 6 (some .int) : Cond) ∈ sm_T := sm_in (List.mem_of_getElem? (i := 480) (by decide +kernel)) rfl
theorem w_481 : (.methodLink RX5 147 yX5_isSo : Cond) ∈ sm_T := sm_in (List.mem_of_getElem? (i := 481) (by decide +kernel)) rfl
theorem w_482 : (.static yX5_isSo : Cond) ∈ sm_T := sm_in (List.mem_of_getElem? (i := 482) (by decide +kernel)) rfl
theorem w_483 : (.code yX5_isSo cX5_isSo 5 (some .boolean) : Cond) ∈ sm_T := sm_in (List.mem_of_getElem? (i := 483) (by decide +kernel)) rfl
theorem w_484 : (.methodLink RL 74 yX5_kind : Cond) ∈ sm_T := sm_in (List.mem_of_getElem? (i := 484) (by decide +kernel)) rfl
theorem w_485 : (.instanceMethod yX5_kind : Cond) ∈ sm_T := sm_in (List.mem_of_getElem? (i := 485) (by decide +kernel)) rfl
theorem w_486 : (.selects RX5 yX5_kind yX5_kind : Cond) ∈ sm_T := sm_in (List.mem_of_getElem? (i := 486) (by decide +kernel)) rfl
theorem w_487 : (.code yX5_kind cX5_kind 2 (some .int) : Cond) ∈ sm_T := sm_in (List.mem_of_getElem? (i := 487) (by decide +kernel)) rfl
theorem w_488 : (.methodLink RL 78 yX5_bits : Cond) ∈ sm_T := sm_in (List.mem_of_getElem? (i := 488) (by decide +kernel)) rfl
theorem w_489 : (.instanceMethod yX5_bits : Cond) ∈ sm_T := sm_in (List.mem_of_getElem? (i := 489) (by decide +kernel)) rfl
theorem w_490 : (.selects RX5 yX5_bits yX5_bits : Cond) ∈ sm_T := sm_in (List.mem_of_getElem? (i := 490) (by decide +kernel)) rfl
theorem w_491 : (.code yX5_bits cX5_bits 2 (some .long) : Cond) ∈ sm_T := sm_in (List.mem_of_getElem? (i := 491) (by decide +kernel)) rfl
theorem w_492 : (.constantLong RX5 158 (1234567890123456789) : Cond) ∈ sm_T := sm_in (List.mem_of_getElem? (i := 492) (by decide +kernel)) rfl
theorem w_493 : (.methodLink RL 83 yX5_shadow : Cond) ∈ sm_T := sm_in (List.mem_of_getElem? (i := 493) (by decide +kernel)) rfl
theorem w_494 : (.instanceMethod yX5_shadow : Cond) ∈ sm_T := sm_in (List.mem_of_getElem? (i := 494) (by decide +kernel)) rfl
theorem w_495 : (.selects RX5 yX5_shadow yX5_shadow : Cond) ∈ sm_T := sm_in (List.mem_of_getElem? (i := 495) (by decide +kernel)) rfl
theorem w_496 : (.code yX5_shadow cX5_shadow 2 (some .int) : Cond) ∈ sm_T := sm_in (List.mem_of_getElem? (i := 496) (by decide +kernel)) rfl
theorem w_497 : (.methodLink RL 87 yX5_cell : Cond) ∈ sm_T := sm_in (List.mem_of_getElem? (i := 497) (by decide +kernel)) rfl
theorem w_498 : (.instanceMethod yX5_cell : Cond) ∈ sm_T := sm_in (List.mem_of_getElem? (i := 498) (by decide +kernel)) rfl
theorem w_499 : (.selects RX5 yX5_cell yX5_cell : Cond) ∈ sm_T := sm_in (List.mem_of_getElem? (i := 499) (by decide +kernel)) rfl
theorem w_500 : (.code yX5_cell cX5_cell 5 (some .long) : Cond) ∈ sm_T := sm_in (List.mem_of_getElem? (i := 500) (by decide +kernel)) rfl
theorem w_501 : (.methodLink RL 92 yX5_pin : Cond) ∈ sm_T := sm_in (List.mem_of_getElem? (i := 501) (by decide +kernel)) rfl
theorem w_502 : (.instanceMethod yX5_pin : Cond) ∈ sm_T := sm_in (List.mem_of_getElem? (i := 502) (by decide +kernel)) rfl
theorem w_503 : (.selects RX5 yX5_pin yX5_pin : Cond) ∈ sm_T := sm_in (List.mem_of_getElem? (i := 503) (by decide +kernel)) rfl
theorem w_504 : (.code yX5_pin cX5_pin 3 (some .long) : Cond) ∈ sm_T := sm_in (List.mem_of_getElem? (i := 504) (by decide +kernel)) rfl
theorem w_505 : (.methodLink RX5 160 yX2_told : Cond) ∈ sm_T := sm_in (List.mem_of_getElem? (i := 505) (by decide +kernel)) rfl
theorem w_506 : (.instanceMethod yX2_told : Cond) ∈ sm_T := sm_in (List.mem_of_getElem? (i := 506) (by decide +kernel)) rfl
theorem w_507 : (.selects RX2 yX2_told yX2_told : Cond) ∈ sm_T := sm_in (List.mem_of_getElem? (i := 507) (by decide +kernel)) rfl
theorem w_508 : (.code yX2_told cX2_told 3 (some .long) : Cond) ∈ sm_T := sm_in (List.mem_of_getElem? (i := 508) (by decide +kernel)) rfl
theorem w_510 : (.constantLong RX2 27 (1234567890123456789) : Cond) ∈ sm_T := sm_in (List.mem_of_getElem? (i := 510) (by decide +kernel)) rfl
theorem w_511 : (.methodLink RL 97 yX5_way : Cond) ∈ sm_T := sm_in (List.mem_of_getElem? (i := 511) (by decide +kernel)) rfl
theorem w_512 : (.instanceMethod yX5_way : Cond) ∈ sm_T := sm_in (List.mem_of_getElem? (i := 512) (by decide +kernel)) rfl
theorem w_513 : (.selects RX5 yX5_way yX5_way : Cond) ∈ sm_T := sm_in (List.mem_of_getElem? (i := 513) (by decide +kernel)) rfl
theorem w_514 : (.code yX5_way cX5_way 3 (some .long) : Cond) ∈ sm_T := sm_in (List.mem_of_getElem? (i := 514) (by decide +kernel)) rfl
theorem w_515 : (.methodLink RL 101 yX5_count : Cond) ∈ sm_T := sm_in (List.mem_of_getElem? (i := 515) (by decide +kernel)) rfl
theorem w_516 : (.instanceMethod yX5_count : Cond) ∈ sm_T := sm_in (List.mem_of_getElem? (i := 516) (by decide +kernel)) rfl
theorem w_517 : (.selects RX5 yX5_count yX5_count : Cond) ∈ sm_T := sm_in (List.mem_of_getElem? (i := 517) (by decide +kernel)) rfl
theorem w_518 : (.code yX5_count cX5_count 2 (some .int) : Cond) ∈ sm_T := sm_in (List.mem_of_getElem? (i := 518) (by decide +kernel)) rfl
theorem w_519 : (.methodLink RX5 170 yX5_dependentRegisters : Cond) ∈ sm_T := sm_in (List.mem_of_getElem? (i := 519) (by decide +kernel)) rfl
theorem w_521 : (.instanceMethod yX5_dependentRegisters : Cond) ∈ sm_T := sm_in (List.mem_of_getElem? (i := 521) (by decide +kernel)) rfl
theorem w_522 : (.code yX5_dependentRegisters cX5_dependentRegisters 3 (some .int) : Cond) ∈ sm_T := sm_in (List.mem_of_getElem? (i := 522) (by decide +kernel)) rfl
theorem w_525 : (.methodLink RL 12 yX6_init : Cond) ∈ sm_T := sm_in (List.mem_of_getElem? (i := 525) (by decide +kernel)) rfl
theorem w_526 : (.instanceMethod yX6_init : Cond) ∈ sm_T := sm_in (List.mem_of_getElem? (i := 526) (by decide +kernel)) rfl
theorem w_527 : (.code yX6_init cX6_init 2 (none) : Cond) ∈ sm_T := sm_in (List.mem_of_getElem? (i := 527) (by decide +kernel)) rfl
theorem w_529 : (.fieldLink RX6 7 RX6 "kind" "[I" : Cond) ∈ sm_T := sm_in (List.mem_of_getElem? (i := 529) (by decide +kernel)) rfl
theorem w_530 : (.fieldLink RX6 13 RX6 "set" "[I" : Cond) ∈ sm_T := sm_in (List.mem_of_getElem? (i := 530) (by decide +kernel)) rfl
theorem w_531 : (.fieldLink RX6 16 RX6 "bits" "[J" : Cond) ∈ sm_T := sm_in (List.mem_of_getElem? (i := 531) (by decide +kernel)) rfl
theorem w_532 : (.fieldLink RX6 20 RX6 "exact" "[Z" : Cond) ∈ sm_T := sm_in (List.mem_of_getElem? (i := 532) (by decide +kernel)) rfl
theorem w_533 : (.fieldLink RX6 24 RX6 "store" "[I" : Cond) ∈ sm_T := sm_in (List.mem_of_getElem? (i := 533) (by decide +kernel)) rfl
theorem w_534 : (.fieldLink RX6 27 RX6 "sort" "[I" : Cond) ∈ sm_T := sm_in (List.mem_of_getElem? (i := 534) (by decide +kernel)) rfl
theorem w_535 : (.fieldLink RX6 30 RX6 "size" "[I" : Cond) ∈ sm_T := sm_in (List.mem_of_getElem? (i := 535) (by decide +kernel)) rfl
theorem w_536 : (.fieldLink RX6 33 RX6 "pinOp" "[I" : Cond) ∈ sm_T := sm_in (List.mem_of_getElem? (i := 536) (by decide +kernel)) rfl
theorem w_537 : (.fieldLink RX6 36 RX6 "pinSet" "[I" : Cond) ∈ sm_T := sm_in (List.mem_of_getElem? (i := 537) (by decide +kernel)) rfl
theorem w_538 : (.fieldLink RX6 39 RX6 "wayTo" "[I" : Cond) ∈ sm_T := sm_in (List.mem_of_getElem? (i := 538) (by decide +kernel)) rfl
theorem w_539 : (.fieldLink RX6 42 RX6 "waySet" "[I" : Cond) ∈ sm_T := sm_in (List.mem_of_getElem? (i := 539) (by decide +kernel)) rfl
theorem w_540 : (.fieldLink RX6 45 RX6 "wayExact" "[I" : Cond) ∈ sm_T := sm_in (List.mem_of_getElem? (i := 540) (by decide +kernel)) rfl
theorem w_541 : (.fieldLink RX6 48 RX6 "pins" "I" : Cond) ∈ sm_T := sm_in (List.mem_of_getElem? (i := 541) (by decide +kernel)) rfl
theorem w_542 : (.fieldLink RX6 52 RX6 "ways" "I" : Cond) ∈ sm_T := sm_in (List.mem_of_getElem? (i := 542) (by decide +kernel)) rfl
theorem w_543 : (.fieldLink RX6 55 RX6 "thrown" "I" : Cond) ∈ sm_T := sm_in (List.mem_of_getElem? (i := 543) (by decide +kernel)) rfl
theorem w_544 : (.fieldLink RX6 58 RX6 "moved" "[I" : Cond) ∈ sm_T := sm_in (List.mem_of_getElem? (i := 544) (by decide +kernel)) rfl
theorem w_545 : (.fieldLink RX6 61 RX6 "movedBits" "[J" : Cond) ∈ sm_T := sm_in (List.mem_of_getElem? (i := 545) (by decide +kernel)) rfl
theorem w_546 : (.fieldLink RX6 64 RX6 "sortOf" "[I" : Cond) ∈ sm_T := sm_in (List.mem_of_getElem? (i := 546) (by decide +kernel)) rfl
theorem w_547 : (.fieldLink RX6 67 RX6 "power" "[I" : Cond) ∈ sm_T := sm_in (List.mem_of_getElem? (i := 547) (by decide +kernel)) rfl
theorem w_548 : (.fieldLink RX6 70 RX6 "minus" "[Z" : Cond) ∈ sm_T := sm_in (List.mem_of_getElem? (i := 548) (by decide +kernel)) rfl
theorem w_549 : (.fieldLink RX6 73 RX6 "part" "[J" : Cond) ∈ sm_T := sm_in (List.mem_of_getElem? (i := 549) (by decide +kernel)) rfl
theorem w_594 : (.methodLink RL 19 yX6_constant : Cond) ∈ sm_T := sm_in (List.mem_of_getElem? (i := 594) (by decide +kernel)) rfl
theorem w_595 : (.instanceMethod yX6_constant : Cond) ∈ sm_T := sm_in (List.mem_of_getElem? (i := 595) (by decide +kernel)) rfl
theorem w_596 : (.selects RX6 yX6_constant yX6_constant : Cond) ∈ sm_T := sm_in (List.mem_of_getElem? (i := 596) (by decide +kernel)) rfl
theorem w_597 : (.code yX6_constant cX6_constant 5 (some .int) : Cond) ∈ sm_T := sm_in (List.mem_of_getElem? (i := 597) (by decide +kernel)) rfl
theorem w_598 : (.methodLink RX6 140 yX6_out : Cond) ∈ sm_T := sm_in (List.mem_of_getElem? (i := 598) (by decide +kernel)) rfl
theorem w_600 : (.instanceMethod yX6_out : Cond) ∈ sm_T := sm_in (List.mem_of_getElem? (i := 600) (by decide +kernel)) rfl
theorem w_601 : (.code yX6_out cX6_out 3 (some .boolean) : Cond) ∈ sm_T := sm_in (List.mem_of_getElem? (i := 601) (by decide +kernel)) rfl
theorem w_602 : (.methodLink RX6 144 yX6_clean : Cond) ∈ sm_T := sm_in (List.mem_of_getElem? (i := 602) (by decide +kernel)) rfl
theorem w_604 : (.instanceMethod yX6_clean : Cond) ∈ sm_T := sm_in (List.mem_of_getElem? (i := 604) (by decide +kernel)) rfl
theorem w_605 : (.code yX6_clean cX6_clean 6 (some .long) : Cond) ∈ sm_T := sm_in (List.mem_of_getElem? (i := 605) (by decide +kernel)) rfl
theorem w_606 : (.methodLink RX6 132 yX6_isNone : Cond) ∈ sm_T := sm_in (List.mem_of_getElem? (i := 606) (by decide +kernel)) rfl
theorem w_608 : (.instanceMethod yX6_isNone : Cond) ∈ sm_T := sm_in (List.mem_of_getElem? (i := 608) (by decide +kernel)) rfl
theorem w_609 : (.code yX6_isNone cX6_isNone 4 (some .boolean) : Cond) ∈ sm_T := sm_in (List.mem_of_getElem? (i := 609) (by decide +kernel)) rfl
theorem w_610 : (.methodLink RX6 111 yX6_take : Cond) ∈ sm_T := sm_in (List.mem_of_getElem? (i := 610) (by decide +kernel)) rfl
theorem w_612 : (.instanceMethod yX6_take : Cond) ∈ sm_T := sm_in (List.mem_of_getElem? (i := 612) (by decide +kernel)) rfl
theorem w_613 : (.code yX6_take cX6_take 11 (none) : Cond) ∈ sm_T := sm_in (List.mem_of_getElem? (i := 613) (by decide +kernel)) rfl
theorem w_614 : (.methodLink RX6 88 yX6_places : Cond) ∈ sm_T := sm_in (List.mem_of_getElem? (i := 614) (by decide +kernel)) rfl
theorem w_616 : (.instanceMethod yX6_places : Cond) ∈ sm_T := sm_in (List.mem_of_getElem? (i := 616) (by decide +kernel)) rfl
theorem w_617 : (.code yX6_places cX6_places 2 (some .int) : Cond) ∈ sm_T := sm_in (List.mem_of_getElem? (i := 617) (by decide +kernel)) rfl
theorem w_618 : (.constantLong RX6 92 (9223372036854775807) : Cond) ∈ sm_T := sm_in (List.mem_of_getElem? (i := 618) (by decide +kernel)) rfl
theorem w_619 : (.constantLong RX6 94 (2147483647) : Cond) ∈ sm_T := sm_in (List.mem_of_getElem? (i := 619) (by decide +kernel)) rfl
theorem w_620 : (.methodLink RX6 96 yX6_least : Cond) ∈ sm_T := sm_in (List.mem_of_getElem? (i := 620) (by decide +kernel)) rfl
theorem w_622 : (.instanceMethod yX6_least : Cond) ∈ sm_T := sm_in (List.mem_of_getElem? (i := 622) (by decide +kernel)) rfl
theorem w_623 : (.code yX6_least cX6_least 2 (some .int) : Cond) ∈ sm_T := sm_in (List.mem_of_getElem? (i := 623) (by decide +kernel)) rfl
theorem w_624 : (.methodLink RX6 115 yX6_none : Cond) ∈ sm_T := sm_in (List.mem_of_getElem? (i := 624) (by decide +kernel)) rfl
theorem w_626 : (.instanceMethod yX6_none : Cond) ∈ sm_T := sm_in (List.mem_of_getElem? (i := 626) (by decide +kernel)) rfl
theorem w_627 : (.code yX6_none cX6_none 2 (some .long) : Cond) ∈ sm_T := sm_in (List.mem_of_getElem? (i := 627) (by decide +kernel)) rfl
theorem w_628 : (.constantLong RX6 76 (9221120237041090560) : Cond) ∈ sm_T := sm_in (List.mem_of_getElem? (i := 628) (by decide +kernel)) rfl
theorem w_629 : (.constantLong RX6 78 (2143289344) : Cond) ∈ sm_T := sm_in (List.mem_of_getElem? (i := 629) (by decide +kernel)) rfl
theorem w_630 : (.methodLink RX6 148 yX6_put : Cond) ∈ sm_T := sm_in (List.mem_of_getElem? (i := 630) (by decide +kernel)) rfl
theorem w_632 : (.instanceMethod yX6_put : Cond) ∈ sm_T := sm_in (List.mem_of_getElem? (i := 632) (by decide +kernel)) rfl
theorem w_633 : (.code yX6_put cX6_put 6 (none) : Cond) ∈ sm_T := sm_in (List.mem_of_getElem? (i := 633) (by decide +kernel)) rfl
theorem w_634 : (.methodLink RL 24 yX6_input : Cond) ∈ sm_T := sm_in (List.mem_of_getElem? (i := 634) (by decide +kernel)) rfl
theorem w_635 : (.instanceMethod yX6_input : Cond) ∈ sm_T := sm_in (List.mem_of_getElem? (i := 635) (by decide +kernel)) rfl
theorem w_636 : (.selects RX6 yX6_input yX6_input : Cond) ∈ sm_T := sm_in (List.mem_of_getElem? (i := 636) (by decide +kernel)) rfl
theorem w_637 : (.code yX6_input cX6_input 6 (some .int) : Cond) ∈ sm_T := sm_in (List.mem_of_getElem? (i := 637) (by decide +kernel)) rfl
theorem w_638 : (.methodLink RL 29 yX6_one : Cond) ∈ sm_T := sm_in (List.mem_of_getElem? (i := 638) (by decide +kernel)) rfl
theorem w_639 : (.instanceMethod yX6_one : Cond) ∈ sm_T := sm_in (List.mem_of_getElem? (i := 639) (by decide +kernel)) rfl
theorem w_640 : (.selects RX6 yX6_one yX6_one : Cond) ∈ sm_T := sm_in (List.mem_of_getElem? (i := 640) (by decide +kernel)) rfl
theorem w_641 : (.code yX6_one cX6_one 9 (some .int) : Cond) ∈ sm_T := sm_in (List.mem_of_getElem? (i := 641) (by decide +kernel)) rfl
theorem w_642 : (.methodLink RX6 162 yX6_kindAfter : Cond) ∈ sm_T := sm_in (List.mem_of_getElem? (i := 642) (by decide +kernel)) rfl
theorem w_644 : (.instanceMethod yX6_kindAfter : Cond) ∈ sm_T := sm_in (List.mem_of_getElem? (i := 644) (by decide +kernel)) rfl
theorem w_645 : (.code yX6_kindAfter cX6_kindAfter 2 (some .int) : Cond) ∈ sm_T := sm_in (List.mem_of_getElem? (i := 645) (by decide +kernel)) rfl
theorem w_646 : (.methodLink RX6 166 yX6_wanted : Cond) ∈ sm_T := sm_in (List.mem_of_getElem? (i := 646) (by decide +kernel)) rfl
theorem w_648 : (.instanceMethod yX6_wanted : Cond) ∈ sm_T := sm_in (List.mem_of_getElem? (i := 648) (by decide +kernel)) rfl
theorem w_649 : (.code yX6_wanted cX6_wanted 2 (some .int) : Cond) ∈ sm_T := sm_in (List.mem_of_getElem? (i := 649) (by decide +kernel)) rfl
theorem w_650 : (.methodLink RX6 169 yX6_converted : Cond) ∈ sm_T := sm_in (List.mem_of_getElem? (i := 650) (by decide +kernel)) rfl
theorem w_652 : (.instanceMethod yX6_converted : Cond) ∈ sm_T := sm_in (List.mem_of_getElem? (i := 652) (by decide +kernel)) rfl
theorem w_653 : (.code yX6_converted cX6_converted 4 (some .long) : Cond) ∈ sm_T := sm_in (List.mem_of_getElem? (i := 653) (by decide +kernel)) rfl
theorem w_654 : (.methodLink RX6 152 yX6_fromWhole : Cond) ∈ sm_T := sm_in (List.mem_of_getElem? (i := 654) (by decide +kernel)) rfl
theorem w_656 : (.instanceMethod yX6_fromWhole : Cond) ∈ sm_T := sm_in (List.mem_of_getElem? (i := 656) (by decide +kernel)) rfl
theorem w_657 : (.code yX6_fromWhole cX6_fromWhole 6 (some .long) : Cond) ∈ sm_T := sm_in (List.mem_of_getElem? (i := 657) (by decide +kernel)) rfl
theorem w_658 : (.constantLong RX6 84 (-9223372036854775808) : Cond) ∈ sm_T := sm_in (List.mem_of_getElem? (i := 658) (by decide +kernel)) rfl
theorem w_659 : (.constantLong RX6 126 (2305843009213693952) : Cond) ∈ sm_T := sm_in (List.mem_of_getElem? (i := 659) (by decide +kernel)) rfl
theorem w_660 : (.methodLink RX6 122 yX6_round : Cond) ∈ sm_T := sm_in (List.mem_of_getElem? (i := 660) (by decide +kernel)) rfl
theorem w_662 : (.instanceMethod yX6_round : Cond) ∈ sm_T := sm_in (List.mem_of_getElem? (i := 662) (by decide +kernel)) rfl
theorem w_663 : (.code yX6_round cX6_round 16 (some .long) : Cond) ∈ sm_T := sm_in (List.mem_of_getElem? (i := 663) (by decide +kernel)) rfl
theorem w_664 : (.methodLink RX6 99 yX6_lengthOf : Cond) ∈ sm_T := sm_in (List.mem_of_getElem? (i := 664) (by decide +kernel)) rfl
theorem w_666 : (.instanceMethod yX6_lengthOf : Cond) ∈ sm_T := sm_in (List.mem_of_getElem? (i := 666) (by decide +kernel)) rfl
theorem w_667 : (.code yX6_lengthOf cX6_lengthOf 6 (some .int) : Cond) ∈ sm_T := sm_in (List.mem_of_getElem? (i := 667) (by decide +kernel)) rfl
theorem w_668 : (.methodLink RX6 103 yX6_infinite : Cond) ∈ sm_T := sm_in (List.mem_of_getElem? (i := 668) (by decide +kernel)) rfl
theorem w_670 : (.instanceMethod yX6_infinite : Cond) ∈ sm_T := sm_in (List.mem_of_getElem? (i := 670) (by decide +kernel)) rfl
theorem w_671 : (.code yX6_infinite cX6_infinite 2 (some .long) : Cond) ∈ sm_T := sm_in (List.mem_of_getElem? (i := 671) (by decide +kernel)) rfl
theorem w_672 : (.constantLong RX6 80 (9218868437227405312) : Cond) ∈ sm_T := sm_in (List.mem_of_getElem? (i := 672) (by decide +kernel)) rfl
theorem w_673 : (.constantLong RX6 82 (2139095040) : Cond) ∈ sm_T := sm_in (List.mem_of_getElem? (i := 673) (by decide +kernel)) rfl
theorem w_674 : (.methodLink RX6 107 yX6_signed : Cond) ∈ sm_T := sm_in (List.mem_of_getElem? (i := 674) (by decide +kernel)) rfl
theorem w_676 : (.instanceMethod yX6_signed : Cond) ∈ sm_T := sm_in (List.mem_of_getElem? (i := 676) (by decide +kernel)) rfl
theorem w_677 : (.code yX6_signed cX6_signed 5 (some .long) : Cond) ∈ sm_T := sm_in (List.mem_of_getElem? (i := 677) (by decide +kernel)) rfl
theorem w_678 : (.constantLong RX6 86 (2147483648) : Cond) ∈ sm_T := sm_in (List.mem_of_getElem? (i := 678) (by decide +kernel)) rfl
theorem w_679 : (.constantLong RX6 128 (4611686018427387904) : Cond) ∈ sm_T := sm_in (List.mem_of_getElem? (i := 679) (by decide +kernel)) rfl
theorem w_680 : (.methodLink RX6 155 yX6_toWhole : Cond) ∈ sm_T := sm_in (List.mem_of_getElem? (i := 680) (by decide +kernel)) rfl
theorem w_682 : (.instanceMethod yX6_toWhole : Cond) ∈ sm_T := sm_in (List.mem_of_getElem? (i := 682) (by decide +kernel)) rfl
theorem w_683 : (.code yX6_toWhole cX6_toWhole 10 (some .long) : Cond) ∈ sm_T := sm_in (List.mem_of_getElem? (i := 683) (by decide +kernel)) rfl
theorem w_684 : (.methodLink RX6 159 yX6_otherFormat : Cond) ∈ sm_T := sm_in (List.mem_of_getElem? (i := 684) (by decide +kernel)) rfl
theorem w_686 : (.instanceMethod yX6_otherFormat : Cond) ∈ sm_T := sm_in (List.mem_of_getElem? (i := 686) (by decide +kernel)) rfl
theorem w_687 : (.code yX6_otherFormat cX6_otherFormat 4 (some .long) : Cond) ∈ sm_T := sm_in (List.mem_of_getElem? (i := 687) (by decide +kernel)) rfl
theorem w_688 : (.methodLink RX6 172 yX6_turned : Cond) ∈ sm_T := sm_in (List.mem_of_getElem? (i := 688) (by decide +kernel)) rfl
theorem w_690 : (.instanceMethod yX6_turned : Cond) ∈ sm_T := sm_in (List.mem_of_getElem? (i := 690) (by decide +kernel)) rfl
theorem w_691 : (.code yX6_turned cX6_turned 7 (some .long) : Cond) ∈ sm_T := sm_in (List.mem_of_getElem? (i := 691) (by decide +kernel)) rfl
theorem w_692 : (.methodLink RL 34 yX6_two : Cond) ∈ sm_T := sm_in (List.mem_of_getElem? (i := 692) (by decide +kernel)) rfl
theorem w_693 : (.instanceMethod yX6_two : Cond) ∈ sm_T := sm_in (List.mem_of_getElem? (i := 693) (by decide +kernel)) rfl
theorem w_694 : (.selects RX6 yX6_two yX6_two : Cond) ∈ sm_T := sm_in (List.mem_of_getElem? (i := 694) (by decide +kernel)) rfl
theorem w_695 : (.code yX6_two cX6_two 14 (some .int) : Cond) ∈ sm_T := sm_in (List.mem_of_getElem? (i := 695) (by decide +kernel)) rfl
theorem w_696 : (.methodLink RX6 191 yX6_fix : Cond) ∈ sm_T := sm_in (List.mem_of_getElem? (i := 696) (by decide +kernel)) rfl
theorem w_698 : (.instanceMethod yX6_fix : Cond) ∈ sm_T := sm_in (List.mem_of_getElem? (i := 698) (by decide +kernel)) rfl
theorem w_699 : (.code yX6_fix cX6_fix 4 (none) : Cond) ∈ sm_T := sm_in (List.mem_of_getElem? (i := 699) (by decide +kernel)) rfl
theorem w_700 : (.methodLink RX6 195 yX6_compared : Cond) ∈ sm_T := sm_in (List.mem_of_getElem? (i := 700) (by decide +kernel)) rfl
theorem w_702 : (.instanceMethod yX6_compared : Cond) ∈ sm_T := sm_in (List.mem_of_getElem? (i := 702) (by decide +kernel)) rfl
theorem w_703 : (.code yX6_compared cX6_compared 12 (some .int) : Cond) ∈ sm_T := sm_in (List.mem_of_getElem? (i := 703) (by decide +kernel)) rfl
theorem w_704 : (.methodLink RX6 136 yX6_rank : Cond) ∈ sm_T := sm_in (List.mem_of_getElem? (i := 704) (by decide +kernel)) rfl
theorem w_706 : (.instanceMethod yX6_rank : Cond) ∈ sm_T := sm_in (List.mem_of_getElem? (i := 706) (by decide +kernel)) rfl
theorem w_707 : (.code yX6_rank cX6_rank 6 (some .long) : Cond) ∈ sm_T := sm_in (List.mem_of_getElem? (i := 707) (by decide +kernel)) rfl
theorem w_708 : (.constantLong RX6 130 (-1) : Cond) ∈ sm_T := sm_in (List.mem_of_getElem? (i := 708) (by decide +kernel)) rfl
theorem w_709 : (.methodLink RX6 199 yX6_whole : Cond) ∈ sm_T := sm_in (List.mem_of_getElem? (i := 709) (by decide +kernel)) rfl
theorem w_711 : (.instanceMethod yX6_whole : Cond) ∈ sm_T := sm_in (List.mem_of_getElem? (i := 711) (by decide +kernel)) rfl
theorem w_712 : (.code yX6_whole cX6_whole 10 (some .long) : Cond) ∈ sm_T := sm_in (List.mem_of_getElem? (i := 712) (by decide +kernel)) rfl
theorem w_713 : (.constantLong RX6 176 (4294967295) : Cond) ∈ sm_T := sm_in (List.mem_of_getElem? (i := 713) (by decide +kernel)) rfl
theorem w_714 : (.methodLink RX6 203 yX6_pointed : Cond) ∈ sm_T := sm_in (List.mem_of_getElem? (i := 714) (by decide +kernel)) rfl
theorem w_716 : (.instanceMethod yX6_pointed : Cond) ∈ sm_T := sm_in (List.mem_of_getElem? (i := 716) (by decide +kernel)) rfl
theorem w_717 : (.code yX6_pointed cX6_pointed 7 (some .long) : Cond) ∈ sm_T := sm_in (List.mem_of_getElem? (i := 717) (by decide +kernel)) rfl
theorem w_718 : (.methodLink RX6 178 yX6_sum : Cond) ∈ sm_T := sm_in (List.mem_of_getElem? (i := 718) (by decide +kernel)) rfl
theorem w_720 : (.instanceMethod yX6_sum : Cond) ∈ sm_T := sm_in (List.mem_of_getElem? (i := 720) (by decide +kernel)) rfl
theorem w_721 : (.code yX6_sum cX6_sum 14 (some .long) : Cond) ∈ sm_T := sm_in (List.mem_of_getElem? (i := 721) (by decide +kernel)) rfl
theorem w_722 : (.methodLink RX6 118 yX6_spread : Cond) ∈ sm_T := sm_in (List.mem_of_getElem? (i := 722) (by decide +kernel)) rfl
theorem w_724 : (.instanceMethod yX6_spread : Cond) ∈ sm_T := sm_in (List.mem_of_getElem? (i := 724) (by decide +kernel)) rfl
theorem w_725 : (.code yX6_spread cX6_spread 3 (none) : Cond) ∈ sm_T := sm_in (List.mem_of_getElem? (i := 725) (by decide +kernel)) rfl
theorem w_726 : (.methodLink RX6 182 yX6_product : Cond) ∈ sm_T := sm_in (List.mem_of_getElem? (i := 726) (by decide +kernel)) rfl
theorem w_728 : (.instanceMethod yX6_product : Cond) ∈ sm_T := sm_in (List.mem_of_getElem? (i := 728) (by decide +kernel)) rfl
theorem w_729 : (.code yX6_product cX6_product 22 (some .long) : Cond) ∈ sm_T := sm_in (List.mem_of_getElem? (i := 729) (by decide +kernel)) rfl
theorem w_730 : (.methodLink RX6 185 yX6_quotient : Cond) ∈ sm_T := sm_in (List.mem_of_getElem? (i := 730) (by decide +kernel)) rfl
theorem w_732 : (.instanceMethod yX6_quotient : Cond) ∈ sm_T := sm_in (List.mem_of_getElem? (i := 732) (by decide +kernel)) rfl
theorem w_733 : (.code yX6_quotient cX6_quotient 12 (some .long) : Cond) ∈ sm_T := sm_in (List.mem_of_getElem? (i := 733) (by decide +kernel)) rfl
theorem w_734 : (.methodLink RX6 188 yX6_remainder : Cond) ∈ sm_T := sm_in (List.mem_of_getElem? (i := 734) (by decide +kernel)) rfl
theorem w_736 : (.instanceMethod yX6_remainder : Cond) ∈ sm_T := sm_in (List.mem_of_getElem? (i := 736) (by decide +kernel)) rfl
theorem w_737 : (.code yX6_remainder cX6_remainder 9 (some .long) : Cond) ∈ sm_T := sm_in (List.mem_of_getElem? (i := 737) (by decide +kernel)) rfl
theorem w_738 : (.methodLink RL 39 yX6_move : Cond) ∈ sm_T := sm_in (List.mem_of_getElem? (i := 738) (by decide +kernel)) rfl
theorem w_739 : (.instanceMethod yX6_move : Cond) ∈ sm_T := sm_in (List.mem_of_getElem? (i := 739) (by decide +kernel)) rfl
theorem w_740 : (.selects RX6 yX6_move yX6_move : Cond) ∈ sm_T := sm_in (List.mem_of_getElem? (i := 740) (by decide +kernel)) rfl
theorem w_741 : (.code yX6_move cX6_move 3 (some .int) : Cond) ∈ sm_T := sm_in (List.mem_of_getElem? (i := 741) (by decide +kernel)) rfl
theorem w_742 : (.methodLink RL 43 yX6_array : Cond) ∈ sm_T := sm_in (List.mem_of_getElem? (i := 742) (by decide +kernel)) rfl
theorem w_743 : (.instanceMethod yX6_array : Cond) ∈ sm_T := sm_in (List.mem_of_getElem? (i := 743) (by decide +kernel)) rfl
theorem w_744 : (.selects RX6 yX6_array yX6_array : Cond) ∈ sm_T := sm_in (List.mem_of_getElem? (i := 744) (by decide +kernel)) rfl
theorem w_745 : (.code yX6_array cX6_array 6 (some .int) : Cond) ∈ sm_T := sm_in (List.mem_of_getElem? (i := 745) (by decide +kernel)) rfl
theorem w_746 : (.constantLong RX6 206 (12) : Cond) ∈ sm_T := sm_in (List.mem_of_getElem? (i := 746) (by decide +kernel)) rfl
theorem w_747 : (.methodLink RX6 208 yX6_exception : Cond) ∈ sm_T := sm_in (List.mem_of_getElem? (i := 747) (by decide +kernel)) rfl
theorem w_749 : (.instanceMethod yX6_exception : Cond) ∈ sm_T := sm_in (List.mem_of_getElem? (i := 749) (by decide +kernel)) rfl
theorem w_750 : (.code yX6_exception cX6_exception 2 (some .int) : Cond) ∈ sm_T := sm_in (List.mem_of_getElem? (i := 750) (by decide +kernel)) rfl
theorem w_751 : (.methodLink RL 48 yX6_drop : Cond) ∈ sm_T := sm_in (List.mem_of_getElem? (i := 751) (by decide +kernel)) rfl
theorem w_752 : (.instanceMethod yX6_drop : Cond) ∈ sm_T := sm_in (List.mem_of_getElem? (i := 752) (by decide +kernel)) rfl
theorem w_753 : (.selects RX6 yX6_drop yX6_drop : Cond) ∈ sm_T := sm_in (List.mem_of_getElem? (i := 753) (by decide +kernel)) rfl
theorem w_754 : (.code yX6_drop cX6_drop 2 (some .int) : Cond) ∈ sm_T := sm_in (List.mem_of_getElem? (i := 754) (by decide +kernel)) rfl
theorem w_755 : (.methodLink RL 52 yX6_share : Cond) ∈ sm_T := sm_in (List.mem_of_getElem? (i := 755) (by decide +kernel)) rfl
theorem w_756 : (.instanceMethod yX6_share : Cond) ∈ sm_T := sm_in (List.mem_of_getElem? (i := 756) (by decide +kernel)) rfl
theorem w_757 : (.selects RX6 yX6_share yX6_share : Cond) ∈ sm_T := sm_in (List.mem_of_getElem? (i := 757) (by decide +kernel)) rfl
theorem w_758 : (.code yX6_share cX6_share 3 (some .int) : Cond) ∈ sm_T := sm_in (List.mem_of_getElem? (i := 758) (by decide +kernel)) rfl
theorem w_759 : (.methodLink RL 56 yX6_load : Cond) ∈ sm_T := sm_in (List.mem_of_getElem? (i := 759) (by decide +kernel)) rfl
theorem w_760 : (.instanceMethod yX6_load : Cond) ∈ sm_T := sm_in (List.mem_of_getElem? (i := 760) (by decide +kernel)) rfl
theorem w_761 : (.selects RX6 yX6_load yX6_load : Cond) ∈ sm_T := sm_in (List.mem_of_getElem? (i := 761) (by decide +kernel)) rfl
theorem w_762 : (.code yX6_load cX6_load 6 (some .int) : Cond) ∈ sm_T := sm_in (List.mem_of_getElem? (i := 762) (by decide +kernel)) rfl
theorem w_763 : (.methodLink RX6 211 yX6_kindOf : Cond) ∈ sm_T := sm_in (List.mem_of_getElem? (i := 763) (by decide +kernel)) rfl
theorem w_765 : (.instanceMethod yX6_kindOf : Cond) ∈ sm_T := sm_in (List.mem_of_getElem? (i := 765) (by decide +kernel)) rfl
theorem w_766 : (.code yX6_kindOf cX6_kindOf 2 (some .int) : Cond) ∈ sm_T := sm_in (List.mem_of_getElem? (i := 766) (by decide +kernel)) rfl
theorem w_767 : (.methodLink RL 60 yX6_store : Cond) ∈ sm_T := sm_in (List.mem_of_getElem? (i := 767) (by decide +kernel)) rfl
theorem w_768 : (.instanceMethod yX6_store : Cond) ∈ sm_T := sm_in (List.mem_of_getElem? (i := 768) (by decide +kernel)) rfl
theorem w_769 : (.selects RX6 yX6_store yX6_store : Cond) ∈ sm_T := sm_in (List.mem_of_getElem? (i := 769) (by decide +kernel)) rfl
theorem w_770 : (.code yX6_store cX6_store 5 (some .int) : Cond) ∈ sm_T := sm_in (List.mem_of_getElem? (i := 770) (by decide +kernel)) rfl
theorem w_771 : (.methodLink RX6 214 yX6_stored : Cond) ∈ sm_T := sm_in (List.mem_of_getElem? (i := 771) (by decide +kernel)) rfl
theorem w_773 : (.instanceMethod yX6_stored : Cond) ∈ sm_T := sm_in (List.mem_of_getElem? (i := 773) (by decide +kernel)) rfl
theorem w_774 : (.code yX6_stored cX6_stored 4 (some .long) : Cond) ∈ sm_T := sm_in (List.mem_of_getElem? (i := 774) (by decide +kernel)) rfl
theorem w_775 : (.methodLink RL 64 yX6_length : Cond) ∈ sm_T := sm_in (List.mem_of_getElem? (i := 775) (by decide +kernel)) rfl
theorem w_776 : (.instanceMethod yX6_length : Cond) ∈ sm_T := sm_in (List.mem_of_getElem? (i := 776) (by decide +kernel)) rfl
theorem w_777 : (.selects RX6 yX6_length yX6_length : Cond) ∈ sm_T := sm_in (List.mem_of_getElem? (i := 777) (by decide +kernel)) rfl
theorem w_778 : (.code yX6_length cX6_length 3 (some .int) : Cond) ∈ sm_T := sm_in (List.mem_of_getElem? (i := 778) (by decide +kernel)) rfl
theorem w_779 : (.methodLink RL 69 yX6_copy : Cond) ∈ sm_T := sm_in (List.mem_of_getElem? (i := 779) (by decide +kernel)) rfl
theorem w_780 : (.instanceMethod yX6_copy : Cond) ∈ sm_T := sm_in (List.mem_of_getElem? (i := 780) (by decide +kernel)) rfl
theorem w_781 : (.selects RX6 yX6_copy yX6_copy : Cond) ∈ sm_T := sm_in (List.mem_of_getElem? (i := 781) (by decide +kernel)) rfl
theorem w_782 : (.code yX6_copy cX6_copy 10 (some .int) : Cond) ∈ sm_T := sm_in (List.mem_of_getElem? (i := 782) (by decide +kernel)) rfl
theorem w_783 : (.methodLink RL 73 yX6_branch : Cond) ∈ sm_T := sm_in (List.mem_of_getElem? (i := 783) (by decide +kernel)) rfl
theorem w_784 : (.instanceMethod yX6_branch : Cond) ∈ sm_T := sm_in (List.mem_of_getElem? (i := 784) (by decide +kernel)) rfl
theorem w_785 : (.selects RX6 yX6_branch yX6_branch : Cond) ∈ sm_T := sm_in (List.mem_of_getElem? (i := 785) (by decide +kernel)) rfl
theorem w_786 : (.code yX6_branch cX6_branch 11 (some .int) : Cond) ∈ sm_T := sm_in (List.mem_of_getElem? (i := 786) (by decide +kernel)) rfl
theorem w_787 : (.methodLink RL 77 yX6_kind : Cond) ∈ sm_T := sm_in (List.mem_of_getElem? (i := 787) (by decide +kernel)) rfl
theorem w_788 : (.instanceMethod yX6_kind : Cond) ∈ sm_T := sm_in (List.mem_of_getElem? (i := 788) (by decide +kernel)) rfl
theorem w_789 : (.selects RX6 yX6_kind yX6_kind : Cond) ∈ sm_T := sm_in (List.mem_of_getElem? (i := 789) (by decide +kernel)) rfl
theorem w_790 : (.code yX6_kind cX6_kind 2 (some .int) : Cond) ∈ sm_T := sm_in (List.mem_of_getElem? (i := 790) (by decide +kernel)) rfl
theorem w_791 : (.methodLink RL 82 yX6_bits : Cond) ∈ sm_T := sm_in (List.mem_of_getElem? (i := 791) (by decide +kernel)) rfl
theorem w_792 : (.instanceMethod yX6_bits : Cond) ∈ sm_T := sm_in (List.mem_of_getElem? (i := 792) (by decide +kernel)) rfl
theorem w_793 : (.selects RX6 yX6_bits yX6_bits : Cond) ∈ sm_T := sm_in (List.mem_of_getElem? (i := 793) (by decide +kernel)) rfl
theorem w_794 : (.code yX6_bits cX6_bits 2 (some .long) : Cond) ∈ sm_T := sm_in (List.mem_of_getElem? (i := 794) (by decide +kernel)) rfl
theorem w_795 : (.constantLong RX6 217 (1234567890123456789) : Cond) ∈ sm_T := sm_in (List.mem_of_getElem? (i := 795) (by decide +kernel)) rfl
theorem w_796 : (.methodLink RL 86 yX6_shadow : Cond) ∈ sm_T := sm_in (List.mem_of_getElem? (i := 796) (by decide +kernel)) rfl
theorem w_797 : (.instanceMethod yX6_shadow : Cond) ∈ sm_T := sm_in (List.mem_of_getElem? (i := 797) (by decide +kernel)) rfl
theorem w_798 : (.selects RX6 yX6_shadow yX6_shadow : Cond) ∈ sm_T := sm_in (List.mem_of_getElem? (i := 798) (by decide +kernel)) rfl
theorem w_799 : (.code yX6_shadow cX6_shadow 2 (some .int) : Cond) ∈ sm_T := sm_in (List.mem_of_getElem? (i := 799) (by decide +kernel)) rfl
theorem w_800 : (.methodLink RL 91 yX6_cell : Cond) ∈ sm_T := sm_in (List.mem_of_getElem? (i := 800) (by decide +kernel)) rfl
theorem w_801 : (.instanceMethod yX6_cell : Cond) ∈ sm_T := sm_in (List.mem_of_getElem? (i := 801) (by decide +kernel)) rfl
theorem w_802 : (.selects RX6 yX6_cell yX6_cell : Cond) ∈ sm_T := sm_in (List.mem_of_getElem? (i := 802) (by decide +kernel)) rfl
theorem w_803 : (.code yX6_cell cX6_cell 6 (some .long) : Cond) ∈ sm_T := sm_in (List.mem_of_getElem? (i := 803) (by decide +kernel)) rfl
theorem w_804 : (.methodLink RL 96 yX6_pin : Cond) ∈ sm_T := sm_in (List.mem_of_getElem? (i := 804) (by decide +kernel)) rfl
theorem w_805 : (.instanceMethod yX6_pin : Cond) ∈ sm_T := sm_in (List.mem_of_getElem? (i := 805) (by decide +kernel)) rfl
theorem w_806 : (.selects RX6 yX6_pin yX6_pin : Cond) ∈ sm_T := sm_in (List.mem_of_getElem? (i := 806) (by decide +kernel)) rfl
theorem w_807 : (.code yX6_pin cX6_pin 3 (some .long) : Cond) ∈ sm_T := sm_in (List.mem_of_getElem? (i := 807) (by decide +kernel)) rfl
theorem w_808 : (.methodLink RL 100 yX6_way : Cond) ∈ sm_T := sm_in (List.mem_of_getElem? (i := 808) (by decide +kernel)) rfl
theorem w_809 : (.instanceMethod yX6_way : Cond) ∈ sm_T := sm_in (List.mem_of_getElem? (i := 809) (by decide +kernel)) rfl
theorem w_810 : (.selects RX6 yX6_way yX6_way : Cond) ∈ sm_T := sm_in (List.mem_of_getElem? (i := 810) (by decide +kernel)) rfl
theorem w_811 : (.code yX6_way cX6_way 3 (some .long) : Cond) ∈ sm_T := sm_in (List.mem_of_getElem? (i := 811) (by decide +kernel)) rfl
theorem w_812 : (.methodLink RL 104 yX6_count : Cond) ∈ sm_T := sm_in (List.mem_of_getElem? (i := 812) (by decide +kernel)) rfl
theorem w_813 : (.instanceMethod yX6_count : Cond) ∈ sm_T := sm_in (List.mem_of_getElem? (i := 813) (by decide +kernel)) rfl
theorem w_814 : (.selects RX6 yX6_count yX6_count : Cond) ∈ sm_T := sm_in (List.mem_of_getElem? (i := 814) (by decide +kernel)) rfl
theorem w_815 : (.code yX6_count cX6_count 4 (some .int) : Cond) ∈ sm_T := sm_in (List.mem_of_getElem? (i := 815) (by decide +kernel)) rfl
theorem w_816 : (.constantLong RL 13 (4294967295) : Cond) ∈ sm_T := sm_in (List.mem_of_getElem? (i := 816) (by decide +kernel)) rfl
theorem w_817 : (.fieldLink RX1 36 RX1 "sign" "J" : Cond) ∈ sm_T := sm_in (List.mem_of_getElem? (i := 817) (by decide +kernel)) rfl
theorem w_818 : (.fieldLink RX1 45 RX1 "infinity" "J" : Cond) ∈ sm_T := sm_in (List.mem_of_getElem? (i := 818) (by decide +kernel)) rfl
theorem w_819 : (.fieldLink RX1 48 RX1 "nan" "J" : Cond) ∈ sm_T := sm_in (List.mem_of_getElem? (i := 819) (by decide +kernel)) rfl
theorem w_820 : (.fieldLink RX1 29 RX1 "fractionBits" "I" : Cond) ∈ sm_T := sm_in (List.mem_of_getElem? (i := 820) (by decide +kernel)) rfl
theorem w_821 : (.fieldLink RX1 33 RX1 "leastExponent" "I" : Cond) ∈ sm_T := sm_in (List.mem_of_getElem? (i := 821) (by decide +kernel)) rfl
theorem w_822 : (.fieldLink RX1 42 RX1 "mostField" "I" : Cond) ∈ sm_T := sm_in (List.mem_of_getElem? (i := 822) (by decide +kernel)) rfl
theorem in_X0 : ∀ w ∈ u_ws RX0 TX0 4, w ∈ sm_T := by decide +kernel
theorem in_X2 : ∀ w ∈ u_ws RX2 TX2 2, w ∈ sm_T := by decide +kernel
theorem in_X5 : ∀ w ∈ u_ws RX5 TX5 8, w ∈ sm_T := by decide +kernel
theorem in_X6 : ∀ w ∈ u_ws RX6 TX6 21, w ∈ sm_T := by decide +kernel
theorem k_X0_renew : sm_kV yX0_renew cX0_renew 4 (none) 2 := ⟨⟨w_432, w_55, by decide +kernel⟩, w_430, w_431⟩
theorem k_X0_kindTaken : sm_kV yX0_kindTaken cX0_kindTaken 1 (some .int) 0 := ⟨⟨w_448, w_55, by decide +kernel⟩, w_446, w_447⟩
theorem k_X0_hasRun : sm_kV yX0_hasRun cX0_hasRun 3 (some .boolean) 2 := ⟨⟨w_473, w_55, by decide +kernel⟩, w_471, w_472⟩
theorem k_X0_keep : sm_kV yX0_keep cX0_keep 5 (none) 3 := ⟨⟨w_456, w_55, by decide +kernel⟩, w_454, w_455⟩
theorem k_X0_narrowed : sm_kV yX0_narrowed cX0_narrowed 3 (some .long) 1 := ⟨⟨w_460, w_55, by decide +kernel⟩, w_459, w_18⟩
theorem k_X1_withOneNan : sm_kV yX1_withOneNan cX1_withOneNan 3 (some .long) 1 := ⟨⟨w_153, w_58, by decide +kernel⟩, w_151, w_152⟩
theorem k_X1_negated : sm_kV yX1_negated cX1_negated 3 (some .long) 1 := ⟨⟨w_286, w_58, by decide +kernel⟩, w_284, w_285⟩
theorem k_X1_magnitude : sm_kV yX1_magnitude cX1_magnitude 3 (some .long) 1 := ⟨⟨w_162, w_58, by decide +kernel⟩, w_160, w_161⟩
theorem k_X1_least : sm_kV yX1_least cX1_least 5 (some .long) 2 := ⟨⟨w_351, w_58, by decide +kernel⟩, w_349, w_350⟩
theorem k_X1_greatest : sm_kV yX1_greatest cX1_greatest 5 (some .long) 2 := ⟨⟨w_359, w_58, by decide +kernel⟩, w_357, w_358⟩
theorem k_X1_compared : sm_kV yX1_compared cX1_compared 6 (some .int) 3 := ⟨⟨w_363, w_58, by decide +kernel⟩, w_361, w_362⟩
theorem k_X1_ofWhole : sm_kV yX1_ofWhole cX1_ofWhole 3 (some .long) 1 := ⟨⟨w_205, w_58, by decide +kernel⟩, w_203, w_204⟩
theorem k_X1_ofOther : sm_kV yX1_ofOther cX1_ofOther 4 (some .long) 2 := ⟨⟨w_279, w_58, by decide +kernel⟩, w_277, w_278⟩
theorem k_X1_truncated : sm_kV yX1_truncated cX1_truncated 6 (some .long) 1 := ⟨⟨w_236, w_58, by decide +kernel⟩, w_234, w_235⟩
theorem k_X1_sum : sm_kV yX1_sum cX1_sum 5 (some .long) 2 := ⟨⟨w_314, w_58, by decide +kernel⟩, w_312, w_313⟩
theorem k_X1_sumInOrder : sm_kV yX1_sumInOrder cX1_sumInOrder 13 (some .long) 2 := ⟨⟨w_318, w_58, by decide +kernel⟩, w_317, w_11⟩
theorem k_X1_product : sm_kV yX1_product cX1_product 8 (some .long) 2 := ⟨⟨w_326, w_58, by decide +kernel⟩, w_324, w_325⟩
theorem k_X1_quotient : sm_kV yX1_quotient cX1_quotient 7 (some .long) 2 := ⟨⟨w_334, w_58, by decide +kernel⟩, w_332, w_333⟩
theorem k_X1_remainder : sm_kV yX1_remainder cX1_remainder 7 (some .long) 2 := ⟨⟨w_341, w_58, by decide +kernel⟩, w_339, w_340⟩
theorem k_X1_isNan : sm_kV yX1_isNan cX1_isNan 3 (some .boolean) 1 := ⟨⟨w_158, w_58, by decide +kernel⟩, w_156, w_0⟩
theorem k_X1_isInfinite : sm_kV yX1_isInfinite cX1_isInfinite 3 (some .boolean) 1 := ⟨⟨w_255, w_58, by decide +kernel⟩, w_254, w_7⟩
theorem k_X1_isZero : sm_kV yX1_isZero cX1_isZero 3 (some .boolean) 1 := ⟨⟨w_240, w_58, by decide +kernel⟩, w_239, w_4⟩
theorem k_X1_isNegative : sm_kV yX1_isNegative cX1_isNegative 3 (some .boolean) 1 := ⟨⟨w_259, w_58, by decide +kernel⟩, w_258, w_8⟩
theorem k_X1_signed : sm_kV yX1_signed cX1_signed 4 (some .long) 2 := ⟨⟨w_225, w_58, by decide +kernel⟩, w_224, w_3⟩
theorem k_X1_order : sm_kV yX1_order cX1_order 3 (some .long) 1 := ⟨⟨w_355, w_58, by decide +kernel⟩, w_354, w_12⟩
theorem k_X1_exponent : sm_kV yX1_exponent cX1_exponent 4 (some .int) 1 := ⟨⟨w_244, w_58, by decide +kernel⟩, w_243, w_5⟩
theorem k_X1_significand : sm_kV yX1_significand cX1_significand 5 (some .long) 1 := ⟨⟨w_264, w_58, by decide +kernel⟩, w_263, w_9⟩
theorem k_X1_unscaled : sm_kV yX1_unscaled cX1_unscaled 7 (some .long) 1 := ⟨⟨w_248, w_58, by decide +kernel⟩, w_247, w_6⟩
theorem k_X1_placesUp : sm_kS yX1_placesUp cX1_placesUp 2 (some .int) 1 := ⟨⟨w_251, w_58, by decide +kernel⟩, w_250⟩
theorem k_X1_rounded : sm_kV yX1_rounded cX1_rounded 10 (some .long) 3 := ⟨⟨w_211, w_58, by decide +kernel⟩, w_210, w_2⟩
theorem k_X1_shiftedToEven : sm_kS yX1_shiftedToEven cX1_shiftedToEven 10 (some .long) 2 := ⟨⟨w_228, w_58, by decide +kernel⟩, w_227⟩
theorem k_X1_shiftedDown : sm_kS yX1_shiftedDown cX1_shiftedDown 5 (some .long) 2 := ⟨⟨w_321, w_58, by decide +kernel⟩, w_320⟩
theorem k_X1_highProduct : sm_kS yX1_highProduct cX1_highProduct 18 (some .long) 2 := ⟨⟨w_329, w_58, by decide +kernel⟩, w_328⟩
theorem k_X1_longQuotient : sm_kS yX1_longQuotient cX1_longQuotient 9 (some .long) 2 := ⟨⟨w_337, w_58, by decide +kernel⟩, w_336⟩
theorem k_X1_longRemainder : sm_kS yX1_longRemainder cX1_longRemainder 8 (some .long) 3 := ⟨⟨w_344, w_58, by decide +kernel⟩, w_343⟩
theorem k_X2_add : sm_kV yX2_add cX2_add 5 (none) 3 := ⟨⟨w_397, w_54, by decide +kernel⟩, w_395, w_396⟩
theorem k_X2_told : sm_kV yX2_told cX2_told 3 (some .long) 2 := ⟨⟨w_508, w_54, by decide +kernel⟩, w_506, w_507⟩
theorem k_X2_startOf : sm_kS yX2_startOf cX2_startOf 1 (some .int) 1 := ⟨⟨w_400, w_54, by decide +kernel⟩, w_399⟩
theorem k_X3_takes : sm_kS yX3_takes cX3_takes 3 (some .boolean) 3 := ⟨⟨w_297, w_63, by decide +kernel⟩, w_296⟩
theorem k_X3_divides : sm_kS yX3_divides cX3_divides 1 (some .boolean) 1 := ⟨⟨w_301, w_63, by decide +kernel⟩, w_300⟩
theorem k_X3_calculates : sm_kS yX3_calculates cX3_calculates 1 (some .boolean) 1 := ⟨⟨w_389, w_63, by decide +kernel⟩, w_388⟩
theorem k_X3_mixes : sm_kS yX3_mixes cX3_mixes 1 (some .boolean) 1 := ⟨⟨w_406, w_63, by decide +kernel⟩, w_405⟩
theorem k_X3_resultKind : sm_kS yX3_resultKind cX3_resultKind 2 (some .int) 2 := ⟨⟨w_382, w_63, by decide +kernel⟩, w_381⟩
theorem k_X3_wholeResult : sm_kS yX3_wholeResult cX3_wholeResult 8 (some .long) 4 := ⟨⟨w_369, w_63, by decide +kernel⟩, w_368⟩
theorem k_X3_calculated : sm_kS yX3_calculated cX3_calculated 5 (some .long) 3 := ⟨⟨w_372, w_63, by decide +kernel⟩, w_371⟩
theorem k_X3_combined : sm_kS yX3_combined cX3_combined 7 (some .long) 4 := ⟨⟨w_377, w_63, by decide +kernel⟩, w_376⟩
theorem k_X3_floatingResult : sm_kS yX3_floatingResult cX3_floatingResult 6 (some .long) 4 := ⟨⟨w_310, w_63, by decide +kernel⟩, w_309⟩
theorem k_X4_takes : sm_kS yX4_takes cX4_takes 2 (some .boolean) 2 := ⟨⟨w_180, w_59, by decide +kernel⟩, w_179⟩
theorem k_X4_rounds : sm_kS yX4_rounds cX4_rounds 1 (some .boolean) 1 := ⟨⟨w_189, w_59, by decide +kernel⟩, w_188⟩
theorem k_X4_resultKind : sm_kS yX4_resultKind cX4_resultKind 2 (some .int) 2 := ⟨⟨w_195, w_59, by decide +kernel⟩, w_194⟩
theorem k_X4_result : sm_kS yX4_result cX4_result 4 (some .long) 3 := ⟨⟨w_200, w_59, by decide +kernel⟩, w_199⟩
theorem k_X4_nearestInt : sm_kS yX4_nearestInt cX4_nearestInt 2 (some .long) 1 := ⟨⟨w_267, w_59, by decide +kernel⟩, w_266⟩
theorem k_X5_constant : sm_kV yX5_constant cX5_constant 5 (some .int) 3 := ⟨⟨w_141, w_53, by decide +kernel⟩, w_139, w_140⟩
theorem k_X5_input : sm_kV yX5_input cX5_input 6 (some .int) 4 := ⟨⟨w_173, w_53, by decide +kernel⟩, w_171, w_172⟩
theorem k_X5_one : sm_kV yX5_one cX5_one 5 (some .int) 3 := ⟨⟨w_177, w_53, by decide +kernel⟩, w_175, w_176⟩
theorem k_X5_two : sm_kV yX5_two cX5_two 8 (some .int) 4 := ⟨⟨w_294, w_53, by decide +kernel⟩, w_292, w_293⟩
theorem k_X5_move : sm_kV yX5_move cX5_move 3 (some .int) 2 := ⟨⟨w_411, w_53, by decide +kernel⟩, w_409, w_410⟩
theorem k_X5_array : sm_kV yX5_array cX5_array 5 (some .int) 3 := ⟨⟨w_415, w_53, by decide +kernel⟩, w_413, w_414⟩
theorem k_X5_drop : sm_kV yX5_drop cX5_drop 2 (some .int) 1 := ⟨⟨w_436, w_53, by decide +kernel⟩, w_434, w_435⟩
theorem k_X5_share : sm_kV yX5_share cX5_share 3 (some .int) 2 := ⟨⟨w_440, w_53, by decide +kernel⟩, w_438, w_439⟩
theorem k_X5_load : sm_kV yX5_load cX5_load 6 (some .int) 3 := ⟨⟨w_444, w_53, by decide +kernel⟩, w_442, w_443⟩
theorem k_X5_store : sm_kV yX5_store cX5_store 5 (some .int) 3 := ⟨⟨w_452, w_53, by decide +kernel⟩, w_450, w_451⟩
theorem k_X5_length : sm_kV yX5_length cX5_length 4 (some .int) 2 := ⟨⟨w_465, w_53, by decide +kernel⟩, w_463, w_464⟩
theorem k_X5_copy : sm_kV yX5_copy cX5_copy 8 (some .int) 5 := ⟨⟨w_469, w_53, by decide +kernel⟩, w_467, w_468⟩
theorem k_X5_branch : sm_kV yX5_branch cX5_branch 6 (some .int) 3 := ⟨⟨w_480, w_53, by decide +kernel⟩, w_478, w_479⟩
theorem k_X5_kind : sm_kV yX5_kind cX5_kind 2 (some .int) 1 := ⟨⟨w_487, w_53, by decide +kernel⟩, w_485, w_486⟩
theorem k_X5_bits : sm_kV yX5_bits cX5_bits 2 (some .long) 1 := ⟨⟨w_491, w_53, by decide +kernel⟩, w_489, w_490⟩
theorem k_X5_shadow : sm_kV yX5_shadow cX5_shadow 2 (some .int) 1 := ⟨⟨w_496, w_53, by decide +kernel⟩, w_494, w_495⟩
theorem k_X5_cell : sm_kV yX5_cell cX5_cell 5 (some .long) 3 := ⟨⟨w_500, w_53, by decide +kernel⟩, w_498, w_499⟩
theorem k_X5_pin : sm_kV yX5_pin cX5_pin 3 (some .long) 2 := ⟨⟨w_504, w_53, by decide +kernel⟩, w_502, w_503⟩
theorem k_X5_way : sm_kV yX5_way cX5_way 3 (some .long) 2 := ⟨⟨w_514, w_53, by decide +kernel⟩, w_512, w_513⟩
theorem k_X5_count : sm_kV yX5_count cX5_count 2 (some .int) 1 := ⟨⟨w_518, w_53, by decide +kernel⟩, w_516, w_517⟩
theorem k_X5_isBelow : sm_kS yX5_isBelow cX5_isBelow 3 (some .boolean) 2 := ⟨⟨w_144, w_53, by decide +kernel⟩, w_143⟩
theorem k_X5_isFloating : sm_kS yX5_isFloating cX5_isFloating 1 (some .boolean) 1 := ⟨⟨w_186, w_53, by decide +kernel⟩, w_185⟩
theorem k_X5_formatOf : sm_kS yX5_formatOf cX5_formatOf 1 (some (.object "ShadowMachine$Format")) 1 := ⟨⟨w_282, w_53, by decide +kernel⟩, w_281⟩
theorem k_X5_held : sm_kS yX5_held cX5_held 3 (some .long) 2 := ⟨⟨w_147, w_53, by decide +kernel⟩, w_146⟩
theorem k_X5_joined : sm_kS yX5_joined cX5_joined 2 (some .int) 2 := ⟨⟨w_403, w_53, by decide +kernel⟩, w_402⟩
theorem k_X5_inexact : sm_kS yX5_inexact cX5_inexact 2 (some .int) 1 := ⟨⟨w_192, w_53, by decide +kernel⟩, w_191⟩
theorem k_X5_isSo : sm_kS yX5_isSo cX5_isSo 5 (some .boolean) 3 := ⟨⟨w_483, w_53, by decide +kernel⟩, w_482⟩
theorem k_X5_isInt : sm_kV yX5_isInt cX5_isInt 2 (some .boolean) 1 := ⟨⟨w_419, w_53, by decide +kernel⟩, w_418, w_15⟩
theorem k_X5_put : sm_kV yX5_put cX5_put 6 (none) 4 := ⟨⟨w_169, w_53, by decide +kernel⟩, w_168, w_1⟩
theorem k_X5_failed : sm_kV yX5_failed cX5_failed 2 (some .int) 1 := ⟨⟨w_306, w_53, by decide +kernel⟩, w_305, w_10⟩
theorem k_X5_giveUp : sm_kV yX5_giveUp cX5_giveUp 4 (none) 2 := ⟨⟨w_393, w_53, by decide +kernel⟩, w_392, w_14⟩
theorem k_X5_shadowOfTwo : sm_kV yX5_shadowOfTwo cX5_shadowOfTwo 6 (some .int) 3 := ⟨⟨w_386, w_53, by decide +kernel⟩, w_385, w_13⟩
theorem k_X5_dependentRegisters : sm_kV yX5_dependentRegisters cX5_dependentRegisters 3 (some .int) 0 := ⟨⟨w_522, w_53, by decide +kernel⟩, w_521, w_19⟩
theorem k_X5_unheld : sm_kV yX5_unheld cX5_unheld 3 (some (.object "ShadowMachine$Cells")) 0 := ⟨⟨w_424, w_53, by decide +kernel⟩, w_423, w_16⟩
theorem k_X5_isHeld : sm_kV yX5_isHeld cX5_isHeld 3 (some .boolean) 1 := ⟨⟨w_428, w_53, by decide +kernel⟩, w_427, w_17⟩
theorem k_X6_out : sm_kV yX6_out cX6_out 3 (some .boolean) 2 := ⟨⟨w_601, w_56, by decide +kernel⟩, w_600, w_20⟩
theorem k_X6_places : sm_kV yX6_places cX6_places 2 (some .int) 1 := ⟨⟨w_617, w_56, by decide +kernel⟩, w_616, w_24⟩
theorem k_X6_least : sm_kV yX6_least cX6_least 2 (some .int) 1 := ⟨⟨w_623, w_56, by decide +kernel⟩, w_622, w_25⟩
theorem k_X6_none : sm_kV yX6_none cX6_none 2 (some .long) 1 := ⟨⟨w_627, w_56, by decide +kernel⟩, w_626, w_26⟩
theorem k_X6_infinite : sm_kV yX6_infinite cX6_infinite 2 (some .long) 1 := ⟨⟨w_671, w_56, by decide +kernel⟩, w_670, w_34⟩
theorem k_X6_signed : sm_kV yX6_signed cX6_signed 5 (some .long) 3 := ⟨⟨w_677, w_56, by decide +kernel⟩, w_676, w_35⟩
theorem k_X6_lengthOf : sm_kV yX6_lengthOf cX6_lengthOf 6 (some .int) 1 := ⟨⟨w_667, w_56, by decide +kernel⟩, w_666, w_33⟩
theorem k_X6_take : sm_kV yX6_take cX6_take 11 (none) 3 := ⟨⟨w_613, w_56, by decide +kernel⟩, w_612, w_23⟩
theorem k_X6_spread : sm_kV yX6_spread cX6_spread 3 (none) 1 := ⟨⟨w_725, w_56, by decide +kernel⟩, w_724, w_45⟩
theorem k_X6_round : sm_kV yX6_round cX6_round 16 (some .long) 5 := ⟨⟨w_663, w_56, by decide +kernel⟩, w_662, w_32⟩
theorem k_X6_sum : sm_kV yX6_sum cX6_sum 14 (some .long) 3 := ⟨⟨w_721, w_56, by decide +kernel⟩, w_720, w_44⟩
theorem k_X6_product : sm_kV yX6_product cX6_product 22 (some .long) 3 := ⟨⟨w_729, w_56, by decide +kernel⟩, w_728, w_46⟩
theorem k_X6_quotient : sm_kV yX6_quotient cX6_quotient 12 (some .long) 3 := ⟨⟨w_733, w_56, by decide +kernel⟩, w_732, w_47⟩
theorem k_X6_remainder : sm_kV yX6_remainder cX6_remainder 9 (some .long) 3 := ⟨⟨w_737, w_56, by decide +kernel⟩, w_736, w_48⟩
theorem k_X6_fromWhole : sm_kV yX6_fromWhole cX6_fromWhole 6 (some .long) 2 := ⟨⟨w_657, w_56, by decide +kernel⟩, w_656, w_31⟩
theorem k_X6_toWhole : sm_kV yX6_toWhole cX6_toWhole 10 (some .long) 3 := ⟨⟨w_683, w_56, by decide +kernel⟩, w_682, w_36⟩
theorem k_X6_otherFormat : sm_kV yX6_otherFormat cX6_otherFormat 4 (some .long) 2 := ⟨⟨w_687, w_56, by decide +kernel⟩, w_686, w_37⟩
theorem k_X6_isNone : sm_kV yX6_isNone cX6_isNone 4 (some .boolean) 2 := ⟨⟨w_609, w_56, by decide +kernel⟩, w_608, w_22⟩
theorem k_X6_rank : sm_kV yX6_rank cX6_rank 6 (some .long) 2 := ⟨⟨w_707, w_56, by decide +kernel⟩, w_706, w_41⟩
theorem k_X6_compared : sm_kV yX6_compared cX6_compared 12 (some .int) 4 := ⟨⟨w_703, w_56, by decide +kernel⟩, w_702, w_40⟩
theorem k_X6_clean : sm_kV yX6_clean cX6_clean 6 (some .long) 2 := ⟨⟨w_605, w_56, by decide +kernel⟩, w_604, w_21⟩
theorem k_X6_put : sm_kV yX6_put cX6_put 6 (none) 4 := ⟨⟨w_633, w_56, by decide +kernel⟩, w_632, w_27⟩
theorem k_X6_fix : sm_kV yX6_fix cX6_fix 4 (none) 2 := ⟨⟨w_699, w_56, by decide +kernel⟩, w_698, w_39⟩
theorem k_X6_constant : sm_kV yX6_constant cX6_constant 5 (some .int) 3 := ⟨⟨w_597, w_56, by decide +kernel⟩, w_595, w_596⟩
theorem k_X6_input : sm_kV yX6_input cX6_input 6 (some .int) 4 := ⟨⟨w_637, w_56, by decide +kernel⟩, w_635, w_636⟩
theorem k_X6_wanted : sm_kV yX6_wanted cX6_wanted 2 (some .int) 1 := ⟨⟨w_649, w_56, by decide +kernel⟩, w_648, w_29⟩
theorem k_X6_converted : sm_kV yX6_converted cX6_converted 4 (some .long) 2 := ⟨⟨w_653, w_56, by decide +kernel⟩, w_652, w_30⟩
theorem k_X6_kindAfter : sm_kV yX6_kindAfter cX6_kindAfter 2 (some .int) 1 := ⟨⟨w_645, w_56, by decide +kernel⟩, w_644, w_28⟩
theorem k_X6_turned : sm_kV yX6_turned cX6_turned 7 (some .long) 3 := ⟨⟨w_691, w_56, by decide +kernel⟩, w_690, w_38⟩
theorem k_X6_one : sm_kV yX6_one cX6_one 9 (some .int) 3 := ⟨⟨w_641, w_56, by decide +kernel⟩, w_639, w_640⟩
theorem k_X6_whole : sm_kV yX6_whole cX6_whole 10 (some .long) 4 := ⟨⟨w_712, w_56, by decide +kernel⟩, w_711, w_42⟩
theorem k_X6_pointed : sm_kV yX6_pointed cX6_pointed 7 (some .long) 4 := ⟨⟨w_717, w_56, by decide +kernel⟩, w_716, w_43⟩
theorem k_X6_two : sm_kV yX6_two cX6_two 14 (some .int) 4 := ⟨⟨w_695, w_56, by decide +kernel⟩, w_693, w_694⟩
theorem k_X6_move : sm_kV yX6_move cX6_move 3 (some .int) 2 := ⟨⟨w_741, w_56, by decide +kernel⟩, w_739, w_740⟩
theorem k_X6_exception : sm_kV yX6_exception cX6_exception 2 (some .int) 1 := ⟨⟨w_750, w_56, by decide +kernel⟩, w_749, w_49⟩
theorem k_X6_array : sm_kV yX6_array cX6_array 6 (some .int) 3 := ⟨⟨w_745, w_56, by decide +kernel⟩, w_743, w_744⟩
theorem k_X6_drop : sm_kV yX6_drop cX6_drop 2 (some .int) 1 := ⟨⟨w_754, w_56, by decide +kernel⟩, w_752, w_753⟩
theorem k_X6_share : sm_kV yX6_share cX6_share 3 (some .int) 2 := ⟨⟨w_758, w_56, by decide +kernel⟩, w_756, w_757⟩
theorem k_X6_kindOf : sm_kV yX6_kindOf cX6_kindOf 2 (some .int) 1 := ⟨⟨w_766, w_56, by decide +kernel⟩, w_765, w_50⟩
theorem k_X6_load : sm_kV yX6_load cX6_load 6 (some .int) 3 := ⟨⟨w_762, w_56, by decide +kernel⟩, w_760, w_761⟩
theorem k_X6_stored : sm_kV yX6_stored cX6_stored 4 (some .long) 2 := ⟨⟨w_774, w_56, by decide +kernel⟩, w_773, w_51⟩
theorem k_X6_store : sm_kV yX6_store cX6_store 5 (some .int) 3 := ⟨⟨w_770, w_56, by decide +kernel⟩, w_768, w_769⟩
theorem k_X6_length : sm_kV yX6_length cX6_length 3 (some .int) 2 := ⟨⟨w_778, w_56, by decide +kernel⟩, w_776, w_777⟩
theorem k_X6_copy : sm_kV yX6_copy cX6_copy 10 (some .int) 5 := ⟨⟨w_782, w_56, by decide +kernel⟩, w_780, w_781⟩
theorem k_X6_branch : sm_kV yX6_branch cX6_branch 11 (some .int) 3 := ⟨⟨w_786, w_56, by decide +kernel⟩, w_784, w_785⟩
theorem k_X6_kind : sm_kV yX6_kind cX6_kind 2 (some .int) 1 := ⟨⟨w_790, w_56, by decide +kernel⟩, w_788, w_789⟩
theorem k_X6_bits : sm_kV yX6_bits cX6_bits 2 (some .long) 1 := ⟨⟨w_794, w_56, by decide +kernel⟩, w_792, w_793⟩
theorem k_X6_shadow : sm_kV yX6_shadow cX6_shadow 2 (some .int) 1 := ⟨⟨w_799, w_56, by decide +kernel⟩, w_797, w_798⟩
theorem k_X6_cell : sm_kV yX6_cell cX6_cell 6 (some .long) 3 := ⟨⟨w_803, w_56, by decide +kernel⟩, w_801, w_802⟩
theorem k_X6_pin : sm_kV yX6_pin cX6_pin 3 (some .long) 2 := ⟨⟨w_807, w_56, by decide +kernel⟩, w_805, w_806⟩
theorem k_X6_way : sm_kV yX6_way cX6_way 3 (some .long) 2 := ⟨⟨w_811, w_56, by decide +kernel⟩, w_809, w_810⟩
theorem k_X6_count : sm_kV yX6_count cX6_count 4 (some .int) 1 := ⟨⟨w_815, w_56, by decide +kernel⟩, w_813, w_814⟩
theorem k_J6_numberOfLeadingZeros_0f7a4 : sm_kS yJ6_numberOfLeadingZeros_0f7a4 cJ6_numberOfLeadingZeros_0f7a4 2 (some .int) 1 := ⟨⟨w_217, w_61, by decide +kernel⟩, w_216⟩
theorem k_J13_compare_74951 : sm_kS yJ13_compare_74951 cJ13_compare_74951 4 (some .int) 2 := ⟨⟨w_366, w_60, by decide +kernel⟩, w_365⟩
theorem k_J13_numberOfLeadingZeros_95d88 : sm_kS yJ13_numberOfLeadingZeros_95d88 cJ13_numberOfLeadingZeros_95d88 3 (some .int) 1 := ⟨⟨w_214, w_60, by decide +kernel⟩, w_213⟩
theorem k_J9_abs_067f4 : sm_kS yJ9_abs_067f4 cJ9_abs_067f4 2 (some .long) 1 := ⟨⟨w_231, w_62, by decide +kernel⟩, w_230⟩
theorem k_J9_max_7cf53 : sm_kS yJ9_max_7cf53 cJ9_max_7cf53 2 (some .int) 2 := ⟨⟨w_221, w_62, by decide +kernel⟩, w_220⟩
theorem k_J9_max_f86c9 : sm_kS yJ9_max_f86c9 cJ9_max_f86c9 4 (some .long) 2 := ⟨⟨w_275, w_62, by decide +kernel⟩, w_274⟩
theorem k_J9_min_7cf53 : sm_kS yJ9_min_7cf53 cJ9_min_7cf53 2 (some .int) 2 := ⟨⟨w_347, w_62, by decide +kernel⟩, w_346⟩
theorem k_J9_min_f86c9 : sm_kS yJ9_min_f86c9 cJ9_min_f86c9 4 (some .long) 2 := ⟨⟨w_272, w_62, by decide +kernel⟩, w_271⟩
end
section
section FLD
variable {p : Program} {l : Launch} {e : Env} {s : State} {m : MethodId} {args : Array Value} {below : List Frame} {meth : Method} {c : Code} {H : Heap} {locs : List Loc} {R : Room} {cells slots : Nat} {Q : State → Prop}
variable {cc : ByteArray} {pc : Nat} {ls : Array Slot} {rest : List Value} {ad : Nat → Nat} {g : sm_G} {σ : sm_S} {A : Nat → Prop}
theorem fg_RX2_11 (hx : p.tables.exec = Jvm.exec) (hb : c.code = cc) (hts : ∀ w ∈ sm_T, w.before args s = true) (hown : s.vm.findClass RX2 = some m.cls) (hW : sm_W g 22 ad (eX g ad) s) (hB : sm_B g 22 ad (eX g ad) s H locs σ) {k : Nat} (hk : k = 6 ∨ k = 8) (D : decode cc pc = .ok (.getfield 11, 3)) (kk : W p l e R s m args below meth c H locs cells slots Q (F0 m (pc + 3) ls (.ref (ad (k + 1)) :: rest))) : W p l e R s m args below meth c H locs cells slots Q (F0 m pc ls (.ref (ad k) :: rest)) :=
  sw_g hx hb hts hown in_X2 hW hB (k) (nt_lt hk) (eX_nt hk g ad σ) rfl 0 (by decide) rfl w_81 rfl D kk
theorem fg_RX2_15 (hx : p.tables.exec = Jvm.exec) (hb : c.code = cc) (hts : ∀ w ∈ sm_T, w.before args s = true) (hown : s.vm.findClass RX2 = some m.cls) (hW : sm_W g 22 ad (eX g ad) s) (hB : sm_B g 22 ad (eX g ad) s H locs σ) {k : Nat} (hk : k = 6 ∨ k = 8) (D : decode cc pc = .ok (.getfield 15, 3)) (kk : W p l e R s m args below meth c H locs cells slots Q (F0 m (pc + 3) ls (.int (σ.1 k 0) :: rest))) : W p l e R s m args below meth c H locs cells slots Q (F0 m pc ls (.ref (ad k) :: rest)) :=
  sw_g hx hb hts hown in_X2 hW hB (k) (nt_lt hk) (eX_nt hk g ad σ) rfl 1 (by decide) rfl w_82 rfl D kk
theorem fp_RX2_15 (hx : p.tables.exec = Jvm.exec) (hb : c.code = cc) (hts : ∀ w ∈ sm_T, w.before args s = true) (hown : s.vm.findClass RX2 = some m.cls) (hW : sm_W g 22 ad (eX g ad) s) (hB : sm_B g 22 ad (eX g ad) s H locs σ) {k : Nat} (hk : k = 6 ∨ k = 8) {x : Int32} (D : decode cc pc = .ok (.putfield 15, 3)) (kk : ∀ (H1 : Heap) (locs1 : List Loc), sm_B g 22 ad (eX g ad) s H1 locs1 (uI σ (k) 0 x) → W p l e R s m args below meth c H1 locs1 cells slots Q (F0 m (pc + 3) ls (rest))) : W p l e R s m args below meth c H locs cells slots Q (F0 m pc ls (.int x :: .ref (ad k) :: rest)) :=
  sw_p tyX2 tyX2_ok nmX2 hx hb hts hown in_X2 hW hB (k) (nt_lt hk) (eX_nt hk g ad σ) rfl 1 (by decide) rfl w_82 rfl rfl (by simp) 0 (by rw [eX_nt hk]; simp [uI, upd]) D kk
theorem fg_RX5_164 (hx : p.tables.exec = Jvm.exec) (hb : c.code = cc) (hts : ∀ w ∈ sm_T, w.before args s = true) (hown : s.vm.findClass RX5 = some m.cls) (hW : sm_W g 22 ad (eX g ad) s) (hB : sm_B g 22 ad (eX g ad) s H locs σ) {k : Nat} (hk : k = 6 ∨ k = 8) (D : decode cc pc = .ok (.getfield 164, 3)) (kk : W p l e R s m args below meth c H locs cells slots Q (F0 m (pc + 3) ls (.int (σ.1 k 0) :: rest))) : W p l e R s m args below meth c H locs cells slots Q (F0 m pc ls (.ref (ad k) :: rest)) :=
  sw_g hx hb hts hown in_X2 hW hB (k) (nt_lt hk) (eX_nt hk g ad σ) rfl 1 (by decide) rfl w_83 rfl D kk
theorem fp_RX5_164 (hx : p.tables.exec = Jvm.exec) (hb : c.code = cc) (hts : ∀ w ∈ sm_T, w.before args s = true) (hown : s.vm.findClass RX5 = some m.cls) (hW : sm_W g 22 ad (eX g ad) s) (hB : sm_B g 22 ad (eX g ad) s H locs σ) {k : Nat} (hk : k = 6 ∨ k = 8) {x : Int32} (D : decode cc pc = .ok (.putfield 164, 3)) (kk : ∀ (H1 : Heap) (locs1 : List Loc), sm_B g 22 ad (eX g ad) s H1 locs1 (uI σ (k) 0 x) → W p l e R s m args below meth c H1 locs1 cells slots Q (F0 m (pc + 3) ls (rest))) : W p l e R s m args below meth c H locs cells slots Q (F0 m pc ls (.int x :: .ref (ad k) :: rest)) :=
  sw_p tyX2 tyX2_ok nmX2 hx hb hts hown in_X2 hW hB (k) (nt_lt hk) (eX_nt hk g ad σ) rfl 1 (by decide) rfl w_83 rfl rfl (by simp) 0 (by rw [eX_nt hk]; simp [uI, upd]) D kk
theorem fg_RX0_9 (hx : p.tables.exec = Jvm.exec) (hb : c.code = cc) (hts : ∀ w ∈ sm_T, w.before args s = true) (hown : s.vm.findClass RX0 = some m.cls) (hW : sm_W g 22 ad (eX g ad) s) (hB : sm_B g 22 ad (eX g ad) s H locs σ) {i : Nat} (hi : i < 4) (D : decode cc pc = .ok (.getfield 9, 3)) (kk : W p l e R s m args below meth c H locs cells slots Q (F0 m (pc + 3) ls (.ref (ad (11 + 3 * i)) :: rest))) : W p l e R s m args below meth c H locs cells slots Q (F0 m pc ls (.ref (ad (10 + 3 * i)) :: rest)) :=
  sw_g hx hb hts hown in_X0 hW hB (10 + 3 * i) (c0_lt hi) (eX_c0 hi g ad σ) rfl 0 (by decide) rfl w_96 rfl D kk
theorem fg_RX5_129 (hx : p.tables.exec = Jvm.exec) (hb : c.code = cc) (hts : ∀ w ∈ sm_T, w.before args s = true) (hown : s.vm.findClass RX5 = some m.cls) (hW : sm_W g 22 ad (eX g ad) s) (hB : sm_B g 22 ad (eX g ad) s H locs σ) {i : Nat} (hi : i < 4) (D : decode cc pc = .ok (.getfield 129, 3)) (kk : W p l e R s m args below meth c H locs cells slots Q (F0 m (pc + 3) ls (.ref (ad (11 + 3 * i)) :: rest))) : W p l e R s m args below meth c H locs cells slots Q (F0 m pc ls (.ref (ad (10 + 3 * i)) :: rest)) :=
  sw_g hx hb hts hown in_X0 hW hB (10 + 3 * i) (c0_lt hi) (eX_c0 hi g ad σ) rfl 0 (by decide) rfl w_97 rfl D kk
theorem fg_RX0_15 (hx : p.tables.exec = Jvm.exec) (hb : c.code = cc) (hts : ∀ w ∈ sm_T, w.before args s = true) (hown : s.vm.findClass RX0 = some m.cls) (hW : sm_W g 22 ad (eX g ad) s) (hB : sm_B g 22 ad (eX g ad) s H locs σ) {i : Nat} (hi : i < 4) (D : decode cc pc = .ok (.getfield 15, 3)) (kk : W p l e R s m args below meth c H locs cells slots Q (F0 m (pc + 3) ls (.ref (ad (12 + 3 * i)) :: rest))) : W p l e R s m args below meth c H locs cells slots Q (F0 m pc ls (.ref (ad (10 + 3 * i)) :: rest)) :=
  sw_g hx hb hts hown in_X0 hW hB (10 + 3 * i) (c0_lt hi) (eX_c0 hi g ad σ) rfl 1 (by decide) rfl w_98 rfl D kk
theorem fg_RX5_130 (hx : p.tables.exec = Jvm.exec) (hb : c.code = cc) (hts : ∀ w ∈ sm_T, w.before args s = true) (hown : s.vm.findClass RX5 = some m.cls) (hW : sm_W g 22 ad (eX g ad) s) (hB : sm_B g 22 ad (eX g ad) s H locs σ) {i : Nat} (hi : i < 4) (D : decode cc pc = .ok (.getfield 130, 3)) (kk : W p l e R s m args below meth c H locs cells slots Q (F0 m (pc + 3) ls (.ref (ad (12 + 3 * i)) :: rest))) : W p l e R s m args below meth c H locs cells slots Q (F0 m pc ls (.ref (ad (10 + 3 * i)) :: rest)) :=
  sw_g hx hb hts hown in_X0 hW hB (10 + 3 * i) (c0_lt hi) (eX_c0 hi g ad σ) rfl 1 (by decide) rfl w_99 rfl D kk
theorem fg_RX0_19 (hx : p.tables.exec = Jvm.exec) (hb : c.code = cc) (hts : ∀ w ∈ sm_T, w.before args s = true) (hown : s.vm.findClass RX0 = some m.cls) (hW : sm_W g 22 ad (eX g ad) s) (hB : sm_B g 22 ad (eX g ad) s H locs σ) {i : Nat} (hi : i < 4) (D : decode cc pc = .ok (.getfield 19, 3)) (kk : W p l e R s m args below meth c H locs cells slots Q (F0 m (pc + 3) ls (.int (σ.1 (10 + 3 * i) 0) :: rest))) : W p l e R s m args below meth c H locs cells slots Q (F0 m pc ls (.ref (ad (10 + 3 * i)) :: rest)) :=
  sw_g hx hb hts hown in_X0 hW hB (10 + 3 * i) (c0_lt hi) (eX_c0 hi g ad σ) rfl 2 (by decide) rfl w_100 rfl D kk
theorem fp_RX0_19 (hx : p.tables.exec = Jvm.exec) (hb : c.code = cc) (hts : ∀ w ∈ sm_T, w.before args s = true) (hown : s.vm.findClass RX0 = some m.cls) (hW : sm_W g 22 ad (eX g ad) s) (hB : sm_B g 22 ad (eX g ad) s H locs σ) {i : Nat} (hi : i < 4) {x : Int32} (D : decode cc pc = .ok (.putfield 19, 3)) (kk : ∀ (H1 : Heap) (locs1 : List Loc), sm_B g 22 ad (eX g ad) s H1 locs1 (uI σ (10 + 3 * i) 0 x) → W p l e R s m args below meth c H1 locs1 cells slots Q (F0 m (pc + 3) ls (rest))) : W p l e R s m args below meth c H locs cells slots Q (F0 m pc ls (.int x :: .ref (ad (10 + 3 * i)) :: rest)) :=
  sw_p tyX0 tyX0_ok nmX0 hx hb hts hown in_X0 hW hB (10 + 3 * i) (c0_lt hi) (eX_c0 hi g ad σ) rfl 2 (by decide) rfl w_100 rfl rfl (by simp) 0 (by rw [eX_c0 hi]; simp [uI, upd]) D kk
theorem fg_RX5_135 (hx : p.tables.exec = Jvm.exec) (hb : c.code = cc) (hts : ∀ w ∈ sm_T, w.before args s = true) (hown : s.vm.findClass RX5 = some m.cls) (hW : sm_W g 22 ad (eX g ad) s) (hB : sm_B g 22 ad (eX g ad) s H locs σ) {i : Nat} (hi : i < 4) (D : decode cc pc = .ok (.getfield 135, 3)) (kk : W p l e R s m args below meth c H locs cells slots Q (F0 m (pc + 3) ls (.int (σ.1 (10 + 3 * i) 0) :: rest))) : W p l e R s m args below meth c H locs cells slots Q (F0 m pc ls (.ref (ad (10 + 3 * i)) :: rest)) :=
  sw_g hx hb hts hown in_X0 hW hB (10 + 3 * i) (c0_lt hi) (eX_c0 hi g ad σ) rfl 2 (by decide) rfl w_101 rfl D kk
theorem fp_RX5_135 (hx : p.tables.exec = Jvm.exec) (hb : c.code = cc) (hts : ∀ w ∈ sm_T, w.before args s = true) (hown : s.vm.findClass RX5 = some m.cls) (hW : sm_W g 22 ad (eX g ad) s) (hB : sm_B g 22 ad (eX g ad) s H locs σ) {i : Nat} (hi : i < 4) {x : Int32} (D : decode cc pc = .ok (.putfield 135, 3)) (kk : ∀ (H1 : Heap) (locs1 : List Loc), sm_B g 22 ad (eX g ad) s H1 locs1 (uI σ (10 + 3 * i) 0 x) → W p l e R s m args below meth c H1 locs1 cells slots Q (F0 m (pc + 3) ls (rest))) : W p l e R s m args below meth c H locs cells slots Q (F0 m pc ls (.int x :: .ref (ad (10 + 3 * i)) :: rest)) :=
  sw_p tyX0 tyX0_ok nmX0 hx hb hts hown in_X0 hW hB (10 + 3 * i) (c0_lt hi) (eX_c0 hi g ad σ) rfl 2 (by decide) rfl w_101 rfl rfl (by simp) 0 (by rw [eX_c0 hi]; simp [uI, upd]) D kk
theorem fg_RX0_23 (hx : p.tables.exec = Jvm.exec) (hb : c.code = cc) (hts : ∀ w ∈ sm_T, w.before args s = true) (hown : s.vm.findClass RX0 = some m.cls) (hW : sm_W g 22 ad (eX g ad) s) (hB : sm_B g 22 ad (eX g ad) s H locs σ) {i : Nat} (hi : i < 4) (D : decode cc pc = .ok (.getfield 23, 3)) (kk : W p l e R s m args below meth c H locs cells slots Q (F0 m (pc + 3) ls (.int (σ.1 (10 + 3 * i) 1) :: rest))) : W p l e R s m args below meth c H locs cells slots Q (F0 m pc ls (.ref (ad (10 + 3 * i)) :: rest)) :=
  sw_g hx hb hts hown in_X0 hW hB (10 + 3 * i) (c0_lt hi) (eX_c0 hi g ad σ) rfl 3 (by decide) rfl w_102 rfl D kk
theorem fp_RX0_23 (hx : p.tables.exec = Jvm.exec) (hb : c.code = cc) (hts : ∀ w ∈ sm_T, w.before args s = true) (hown : s.vm.findClass RX0 = some m.cls) (hW : sm_W g 22 ad (eX g ad) s) (hB : sm_B g 22 ad (eX g ad) s H locs σ) {i : Nat} (hi : i < 4) {x : Int32} (D : decode cc pc = .ok (.putfield 23, 3)) (kk : ∀ (H1 : Heap) (locs1 : List Loc), sm_B g 22 ad (eX g ad) s H1 locs1 (uI σ (10 + 3 * i) 1 x) → W p l e R s m args below meth c H1 locs1 cells slots Q (F0 m (pc + 3) ls (rest))) : W p l e R s m args below meth c H locs cells slots Q (F0 m pc ls (.int x :: .ref (ad (10 + 3 * i)) :: rest)) :=
  sw_p tyX0 tyX0_ok nmX0 hx hb hts hown in_X0 hW hB (10 + 3 * i) (c0_lt hi) (eX_c0 hi g ad σ) rfl 3 (by decide) rfl w_102 rfl rfl (by simp) 1 (by rw [eX_c0 hi]; simp [uI, upd]) D kk
theorem fg_RX5_121 (hx : p.tables.exec = Jvm.exec) (hb : c.code = cc) (hts : ∀ w ∈ sm_T, w.before args s = true) (hown : s.vm.findClass RX5 = some m.cls) (hW : sm_W g 22 ad (eX g ad) s) (hB : sm_B g 22 ad (eX g ad) s H locs σ) {i : Nat} (hi : i < 4) (D : decode cc pc = .ok (.getfield 121, 3)) (kk : W p l e R s m args below meth c H locs cells slots Q (F0 m (pc + 3) ls (.int (σ.1 (10 + 3 * i) 1) :: rest))) : W p l e R s m args below meth c H locs cells slots Q (F0 m pc ls (.ref (ad (10 + 3 * i)) :: rest)) :=
  sw_g hx hb hts hown in_X0 hW hB (10 + 3 * i) (c0_lt hi) (eX_c0 hi g ad σ) rfl 3 (by decide) rfl w_103 rfl D kk
theorem fp_RX5_121 (hx : p.tables.exec = Jvm.exec) (hb : c.code = cc) (hts : ∀ w ∈ sm_T, w.before args s = true) (hown : s.vm.findClass RX5 = some m.cls) (hW : sm_W g 22 ad (eX g ad) s) (hB : sm_B g 22 ad (eX g ad) s H locs σ) {i : Nat} (hi : i < 4) {x : Int32} (D : decode cc pc = .ok (.putfield 121, 3)) (kk : ∀ (H1 : Heap) (locs1 : List Loc), sm_B g 22 ad (eX g ad) s H1 locs1 (uI σ (10 + 3 * i) 1 x) → W p l e R s m args below meth c H1 locs1 cells slots Q (F0 m (pc + 3) ls (rest))) : W p l e R s m args below meth c H locs cells slots Q (F0 m pc ls (.int x :: .ref (ad (10 + 3 * i)) :: rest)) :=
  sw_p tyX0 tyX0_ok nmX0 hx hb hts hown in_X0 hW hB (10 + 3 * i) (c0_lt hi) (eX_c0 hi g ad σ) rfl 3 (by decide) rfl w_103 rfl rfl (by simp) 1 (by rw [eX_c0 hi]; simp [uI, upd]) D kk
theorem fg_RX5_9 (hx : p.tables.exec = Jvm.exec) (hb : c.code = cc) (hts : ∀ w ∈ sm_T, w.before args s = true) (hown : s.vm.findClass RX5 = some m.cls) (hW : sm_W g 22 ad (eX g ad) s) (hB : sm_B g 22 ad (eX g ad) s H locs σ) (D : decode cc pc = .ok (.getfield 9, 3)) (kk : W p l e R s m args below meth c H locs cells slots Q (F0 m (pc + 3) ls (.ref (ad 1) :: rest))) : W p l e R s m args below meth c H locs cells slots Q (F0 m pc ls (.ref (ad 0) :: rest)) :=
  sw_g hx hb hts hown in_X5 hW hB (0) (by decide) (eX_0 g ad σ) rfl 0 (by decide) rfl w_113 rfl D kk
theorem fg_RX5_13 (hx : p.tables.exec = Jvm.exec) (hb : c.code = cc) (hts : ∀ w ∈ sm_T, w.before args s = true) (hown : s.vm.findClass RX5 = some m.cls) (hW : sm_W g 22 ad (eX g ad) s) (hB : sm_B g 22 ad (eX g ad) s H locs σ) (D : decode cc pc = .ok (.getfield 13, 3)) (kk : W p l e R s m args below meth c H locs cells slots Q (F0 m (pc + 3) ls (.ref (ad 2) :: rest))) : W p l e R s m args below meth c H locs cells slots Q (F0 m pc ls (.ref (ad 0) :: rest)) :=
  sw_g hx hb hts hown in_X5 hW hB (0) (by decide) (eX_0 g ad σ) rfl 1 (by decide) rfl w_114 rfl D kk
theorem fg_RX5_17 (hx : p.tables.exec = Jvm.exec) (hb : c.code = cc) (hts : ∀ w ∈ sm_T, w.before args s = true) (hown : s.vm.findClass RX5 = some m.cls) (hW : sm_W g 22 ad (eX g ad) s) (hB : sm_B g 22 ad (eX g ad) s H locs σ) (D : decode cc pc = .ok (.getfield 17, 3)) (kk : W p l e R s m args below meth c H locs cells slots Q (F0 m (pc + 3) ls (.ref (ad 3) :: rest))) : W p l e R s m args below meth c H locs cells slots Q (F0 m pc ls (.ref (ad 0) :: rest)) :=
  sw_g hx hb hts hown in_X5 hW hB (0) (by decide) (eX_0 g ad σ) rfl 2 (by decide) rfl w_115 rfl D kk
theorem fg_RX5_22 (hx : p.tables.exec = Jvm.exec) (hb : c.code = cc) (hts : ∀ w ∈ sm_T, w.before args s = true) (hown : s.vm.findClass RX5 = some m.cls) (hW : sm_W g 22 ad (eX g ad) s) (hB : sm_B g 22 ad (eX g ad) s H locs σ) (D : decode cc pc = .ok (.getfield 22, 3)) (kk : W p l e R s m args below meth c H locs cells slots Q (F0 m (pc + 3) ls (.ref (ad 4) :: rest))) : W p l e R s m args below meth c H locs cells slots Q (F0 m pc ls (.ref (ad 0) :: rest)) :=
  sw_g hx hb hts hown in_X5 hW hB (0) (by decide) (eX_0 g ad σ) rfl 3 (by decide) rfl w_116 rfl D kk
theorem fg_RX5_26 (hx : p.tables.exec = Jvm.exec) (hb : c.code = cc) (hts : ∀ w ∈ sm_T, w.before args s = true) (hown : s.vm.findClass RX5 = some m.cls) (hW : sm_W g 22 ad (eX g ad) s) (hB : sm_B g 22 ad (eX g ad) s H locs σ) (D : decode cc pc = .ok (.getfield 26, 3)) (kk : W p l e R s m args below meth c H locs cells slots Q (F0 m (pc + 3) ls (.ref (ad 5) :: rest))) : W p l e R s m args below meth c H locs cells slots Q (F0 m pc ls (.ref (ad 0) :: rest)) :=
  sw_g hx hb hts hown in_X5 hW hB (0) (by decide) (eX_0 g ad σ) rfl 4 (by decide) rfl w_117 rfl D kk
theorem fg_RX5_32 (hx : p.tables.exec = Jvm.exec) (hb : c.code = cc) (hts : ∀ w ∈ sm_T, w.before args s = true) (hown : s.vm.findClass RX5 = some m.cls) (hW : sm_W g 22 ad (eX g ad) s) (hB : sm_B g 22 ad (eX g ad) s H locs σ) (D : decode cc pc = .ok (.getfield 32, 3)) (kk : W p l e R s m args below meth c H locs cells slots Q (F0 m (pc + 3) ls (.ref (ad 6) :: rest))) : W p l e R s m args below meth c H locs cells slots Q (F0 m pc ls (.ref (ad 0) :: rest)) :=
  sw_g hx hb hts hown in_X5 hW hB (0) (by decide) (eX_0 g ad σ) rfl 5 (by decide) rfl w_118 rfl D kk
theorem fg_RX5_36 (hx : p.tables.exec = Jvm.exec) (hb : c.code = cc) (hts : ∀ w ∈ sm_T, w.before args s = true) (hown : s.vm.findClass RX5 = some m.cls) (hW : sm_W g 22 ad (eX g ad) s) (hB : sm_B g 22 ad (eX g ad) s H locs σ) (D : decode cc pc = .ok (.getfield 36, 3)) (kk : W p l e R s m args below meth c H locs cells slots Q (F0 m (pc + 3) ls (.ref (ad 8) :: rest))) : W p l e R s m args below meth c H locs cells slots Q (F0 m pc ls (.ref (ad 0) :: rest)) :=
  sw_g hx hb hts hown in_X5 hW hB (0) (by decide) (eX_0 g ad σ) rfl 6 (by decide) rfl w_119 rfl D kk
theorem fg_RX5_167 (hx : p.tables.exec = Jvm.exec) (hb : c.code = cc) (hts : ∀ w ∈ sm_T, w.before args s = true) (hown : s.vm.findClass RX5 = some m.cls) (hW : sm_W g 22 ad (eX g ad) s) (hB : sm_B g 22 ad (eX g ad) s H locs σ) (D : decode cc pc = .ok (.getfield 167, 3)) (kk : W p l e R s m args below meth c H locs cells slots Q (F0 m (pc + 3) ls (.int (σ.1 0 0) :: rest))) : W p l e R s m args below meth c H locs cells slots Q (F0 m pc ls (.ref (ad 0) :: rest)) :=
  sw_g hx hb hts hown in_X5 hW hB (0) (by decide) (eX_0 g ad σ) rfl 7 (by decide) rfl w_120 rfl D kk
theorem fp_RX5_167 (hx : p.tables.exec = Jvm.exec) (hb : c.code = cc) (hts : ∀ w ∈ sm_T, w.before args s = true) (hown : s.vm.findClass RX5 = some m.cls) (hW : sm_W g 22 ad (eX g ad) s) (hB : sm_B g 22 ad (eX g ad) s H locs σ) {x : Int32} (D : decode cc pc = .ok (.putfield 167, 3)) (kk : ∀ (H1 : Heap) (locs1 : List Loc), sm_B g 22 ad (eX g ad) s H1 locs1 (uI σ (0) 0 x) → W p l e R s m args below meth c H1 locs1 cells slots Q (F0 m (pc + 3) ls (rest))) : W p l e R s m args below meth c H locs cells slots Q (F0 m pc ls (.int x :: .ref (ad 0) :: rest)) :=
  sw_p tyX5 tyX5_ok nmX5 hx hb hts hown in_X5 hW hB (0) (by decide) (eX_0 g ad σ) rfl 7 (by decide) rfl w_120 rfl rfl (by simp) 0 (by rw [eX_0]; rfl) D kk
theorem fg_RX6_7 (hx : p.tables.exec = Jvm.exec) (hb : c.code = cc) (hts : ∀ w ∈ sm_T, w.before args s = true) (hown : s.vm.findClass RX6 = some m.cls) (hW : sm_W g 19 ad (eM g ad) s) (hB : sm_B g 19 ad (eM g ad) s H locs σ) (D : decode cc pc = .ok (.getfield 7, 3)) (kk : W p l e R s m args below meth c H locs cells slots Q (F0 m (pc + 3) ls (.ref (ad 1) :: rest))) : W p l e R s m args below meth c H locs cells slots Q (F0 m pc ls (.ref (ad 0) :: rest)) :=
  sw_g hx hb hts hown in_X6 hW hB (0) (by decide) (eM_0 g ad σ) rfl 0 (by decide) rfl w_529 rfl D kk
theorem fg_RX6_13 (hx : p.tables.exec = Jvm.exec) (hb : c.code = cc) (hts : ∀ w ∈ sm_T, w.before args s = true) (hown : s.vm.findClass RX6 = some m.cls) (hW : sm_W g 19 ad (eM g ad) s) (hB : sm_B g 19 ad (eM g ad) s H locs σ) (D : decode cc pc = .ok (.getfield 13, 3)) (kk : W p l e R s m args below meth c H locs cells slots Q (F0 m (pc + 3) ls (.ref (ad 2) :: rest))) : W p l e R s m args below meth c H locs cells slots Q (F0 m pc ls (.ref (ad 0) :: rest)) :=
  sw_g hx hb hts hown in_X6 hW hB (0) (by decide) (eM_0 g ad σ) rfl 1 (by decide) rfl w_530 rfl D kk
theorem fg_RX6_16 (hx : p.tables.exec = Jvm.exec) (hb : c.code = cc) (hts : ∀ w ∈ sm_T, w.before args s = true) (hown : s.vm.findClass RX6 = some m.cls) (hW : sm_W g 19 ad (eM g ad) s) (hB : sm_B g 19 ad (eM g ad) s H locs σ) (D : decode cc pc = .ok (.getfield 16, 3)) (kk : W p l e R s m args below meth c H locs cells slots Q (F0 m (pc + 3) ls (.ref (ad 3) :: rest))) : W p l e R s m args below meth c H locs cells slots Q (F0 m pc ls (.ref (ad 0) :: rest)) :=
  sw_g hx hb hts hown in_X6 hW hB (0) (by decide) (eM_0 g ad σ) rfl 2 (by decide) rfl w_531 rfl D kk
theorem fg_RX6_20 (hx : p.tables.exec = Jvm.exec) (hb : c.code = cc) (hts : ∀ w ∈ sm_T, w.before args s = true) (hown : s.vm.findClass RX6 = some m.cls) (hW : sm_W g 19 ad (eM g ad) s) (hB : sm_B g 19 ad (eM g ad) s H locs σ) (D : decode cc pc = .ok (.getfield 20, 3)) (kk : W p l e R s m args below meth c H locs cells slots Q (F0 m (pc + 3) ls (.ref (ad 4) :: rest))) : W p l e R s m args below meth c H locs cells slots Q (F0 m pc ls (.ref (ad 0) :: rest)) :=
  sw_g hx hb hts hown in_X6 hW hB (0) (by decide) (eM_0 g ad σ) rfl 3 (by decide) rfl w_532 rfl D kk
theorem fg_RX6_24 (hx : p.tables.exec = Jvm.exec) (hb : c.code = cc) (hts : ∀ w ∈ sm_T, w.before args s = true) (hown : s.vm.findClass RX6 = some m.cls) (hW : sm_W g 19 ad (eM g ad) s) (hB : sm_B g 19 ad (eM g ad) s H locs σ) (D : decode cc pc = .ok (.getfield 24, 3)) (kk : W p l e R s m args below meth c H locs cells slots Q (F0 m (pc + 3) ls (.ref (ad 5) :: rest))) : W p l e R s m args below meth c H locs cells slots Q (F0 m pc ls (.ref (ad 0) :: rest)) :=
  sw_g hx hb hts hown in_X6 hW hB (0) (by decide) (eM_0 g ad σ) rfl 4 (by decide) rfl w_533 rfl D kk
theorem fg_RX6_27 (hx : p.tables.exec = Jvm.exec) (hb : c.code = cc) (hts : ∀ w ∈ sm_T, w.before args s = true) (hown : s.vm.findClass RX6 = some m.cls) (hW : sm_W g 19 ad (eM g ad) s) (hB : sm_B g 19 ad (eM g ad) s H locs σ) (D : decode cc pc = .ok (.getfield 27, 3)) (kk : W p l e R s m args below meth c H locs cells slots Q (F0 m (pc + 3) ls (.ref (ad 6) :: rest))) : W p l e R s m args below meth c H locs cells slots Q (F0 m pc ls (.ref (ad 0) :: rest)) :=
  sw_g hx hb hts hown in_X6 hW hB (0) (by decide) (eM_0 g ad σ) rfl 5 (by decide) rfl w_534 rfl D kk
theorem fg_RX6_30 (hx : p.tables.exec = Jvm.exec) (hb : c.code = cc) (hts : ∀ w ∈ sm_T, w.before args s = true) (hown : s.vm.findClass RX6 = some m.cls) (hW : sm_W g 19 ad (eM g ad) s) (hB : sm_B g 19 ad (eM g ad) s H locs σ) (D : decode cc pc = .ok (.getfield 30, 3)) (kk : W p l e R s m args below meth c H locs cells slots Q (F0 m (pc + 3) ls (.ref (ad 7) :: rest))) : W p l e R s m args below meth c H locs cells slots Q (F0 m pc ls (.ref (ad 0) :: rest)) :=
  sw_g hx hb hts hown in_X6 hW hB (0) (by decide) (eM_0 g ad σ) rfl 6 (by decide) rfl w_535 rfl D kk
theorem fg_RX6_33 (hx : p.tables.exec = Jvm.exec) (hb : c.code = cc) (hts : ∀ w ∈ sm_T, w.before args s = true) (hown : s.vm.findClass RX6 = some m.cls) (hW : sm_W g 19 ad (eM g ad) s) (hB : sm_B g 19 ad (eM g ad) s H locs σ) (D : decode cc pc = .ok (.getfield 33, 3)) (kk : W p l e R s m args below meth c H locs cells slots Q (F0 m (pc + 3) ls (.ref (ad 8) :: rest))) : W p l e R s m args below meth c H locs cells slots Q (F0 m pc ls (.ref (ad 0) :: rest)) :=
  sw_g hx hb hts hown in_X6 hW hB (0) (by decide) (eM_0 g ad σ) rfl 7 (by decide) rfl w_536 rfl D kk
theorem fg_RX6_36 (hx : p.tables.exec = Jvm.exec) (hb : c.code = cc) (hts : ∀ w ∈ sm_T, w.before args s = true) (hown : s.vm.findClass RX6 = some m.cls) (hW : sm_W g 19 ad (eM g ad) s) (hB : sm_B g 19 ad (eM g ad) s H locs σ) (D : decode cc pc = .ok (.getfield 36, 3)) (kk : W p l e R s m args below meth c H locs cells slots Q (F0 m (pc + 3) ls (.ref (ad 9) :: rest))) : W p l e R s m args below meth c H locs cells slots Q (F0 m pc ls (.ref (ad 0) :: rest)) :=
  sw_g hx hb hts hown in_X6 hW hB (0) (by decide) (eM_0 g ad σ) rfl 8 (by decide) rfl w_537 rfl D kk
theorem fg_RX6_39 (hx : p.tables.exec = Jvm.exec) (hb : c.code = cc) (hts : ∀ w ∈ sm_T, w.before args s = true) (hown : s.vm.findClass RX6 = some m.cls) (hW : sm_W g 19 ad (eM g ad) s) (hB : sm_B g 19 ad (eM g ad) s H locs σ) (D : decode cc pc = .ok (.getfield 39, 3)) (kk : W p l e R s m args below meth c H locs cells slots Q (F0 m (pc + 3) ls (.ref (ad 10) :: rest))) : W p l e R s m args below meth c H locs cells slots Q (F0 m pc ls (.ref (ad 0) :: rest)) :=
  sw_g hx hb hts hown in_X6 hW hB (0) (by decide) (eM_0 g ad σ) rfl 9 (by decide) rfl w_538 rfl D kk
theorem fg_RX6_42 (hx : p.tables.exec = Jvm.exec) (hb : c.code = cc) (hts : ∀ w ∈ sm_T, w.before args s = true) (hown : s.vm.findClass RX6 = some m.cls) (hW : sm_W g 19 ad (eM g ad) s) (hB : sm_B g 19 ad (eM g ad) s H locs σ) (D : decode cc pc = .ok (.getfield 42, 3)) (kk : W p l e R s m args below meth c H locs cells slots Q (F0 m (pc + 3) ls (.ref (ad 11) :: rest))) : W p l e R s m args below meth c H locs cells slots Q (F0 m pc ls (.ref (ad 0) :: rest)) :=
  sw_g hx hb hts hown in_X6 hW hB (0) (by decide) (eM_0 g ad σ) rfl 10 (by decide) rfl w_539 rfl D kk
theorem fg_RX6_45 (hx : p.tables.exec = Jvm.exec) (hb : c.code = cc) (hts : ∀ w ∈ sm_T, w.before args s = true) (hown : s.vm.findClass RX6 = some m.cls) (hW : sm_W g 19 ad (eM g ad) s) (hB : sm_B g 19 ad (eM g ad) s H locs σ) (D : decode cc pc = .ok (.getfield 45, 3)) (kk : W p l e R s m args below meth c H locs cells slots Q (F0 m (pc + 3) ls (.ref (ad 12) :: rest))) : W p l e R s m args below meth c H locs cells slots Q (F0 m pc ls (.ref (ad 0) :: rest)) :=
  sw_g hx hb hts hown in_X6 hW hB (0) (by decide) (eM_0 g ad σ) rfl 11 (by decide) rfl w_540 rfl D kk
theorem fg_RX6_48 (hx : p.tables.exec = Jvm.exec) (hb : c.code = cc) (hts : ∀ w ∈ sm_T, w.before args s = true) (hown : s.vm.findClass RX6 = some m.cls) (hW : sm_W g 19 ad (eM g ad) s) (hB : sm_B g 19 ad (eM g ad) s H locs σ) (D : decode cc pc = .ok (.getfield 48, 3)) (kk : W p l e R s m args below meth c H locs cells slots Q (F0 m (pc + 3) ls (.int (σ.1 0 0) :: rest))) : W p l e R s m args below meth c H locs cells slots Q (F0 m pc ls (.ref (ad 0) :: rest)) :=
  sw_g hx hb hts hown in_X6 hW hB (0) (by decide) (eM_0 g ad σ) rfl 12 (by decide) rfl w_541 rfl D kk
theorem fp_RX6_48 (hx : p.tables.exec = Jvm.exec) (hb : c.code = cc) (hts : ∀ w ∈ sm_T, w.before args s = true) (hown : s.vm.findClass RX6 = some m.cls) (hW : sm_W g 19 ad (eM g ad) s) (hB : sm_B g 19 ad (eM g ad) s H locs σ) {x : Int32} (D : decode cc pc = .ok (.putfield 48, 3)) (kk : ∀ (H1 : Heap) (locs1 : List Loc), sm_B g 19 ad (eM g ad) s H1 locs1 (uI σ (0) 0 x) → W p l e R s m args below meth c H1 locs1 cells slots Q (F0 m (pc + 3) ls (rest))) : W p l e R s m args below meth c H locs cells slots Q (F0 m pc ls (.int x :: .ref (ad 0) :: rest)) :=
  sw_p tyX6 tyX6_ok nmX6 hx hb hts hown in_X6 hW hB (0) (by decide) (eM_0 g ad σ) rfl 12 (by decide) rfl w_541 rfl rfl (by simp) 0 (by rw [eM_0]; rfl) D kk
theorem fg_RX6_52 (hx : p.tables.exec = Jvm.exec) (hb : c.code = cc) (hts : ∀ w ∈ sm_T, w.before args s = true) (hown : s.vm.findClass RX6 = some m.cls) (hW : sm_W g 19 ad (eM g ad) s) (hB : sm_B g 19 ad (eM g ad) s H locs σ) (D : decode cc pc = .ok (.getfield 52, 3)) (kk : W p l e R s m args below meth c H locs cells slots Q (F0 m (pc + 3) ls (.int (σ.1 0 1) :: rest))) : W p l e R s m args below meth c H locs cells slots Q (F0 m pc ls (.ref (ad 0) :: rest)) :=
  sw_g hx hb hts hown in_X6 hW hB (0) (by decide) (eM_0 g ad σ) rfl 13 (by decide) rfl w_542 rfl D kk
theorem fp_RX6_52 (hx : p.tables.exec = Jvm.exec) (hb : c.code = cc) (hts : ∀ w ∈ sm_T, w.before args s = true) (hown : s.vm.findClass RX6 = some m.cls) (hW : sm_W g 19 ad (eM g ad) s) (hB : sm_B g 19 ad (eM g ad) s H locs σ) {x : Int32} (D : decode cc pc = .ok (.putfield 52, 3)) (kk : ∀ (H1 : Heap) (locs1 : List Loc), sm_B g 19 ad (eM g ad) s H1 locs1 (uI σ (0) 1 x) → W p l e R s m args below meth c H1 locs1 cells slots Q (F0 m (pc + 3) ls (rest))) : W p l e R s m args below meth c H locs cells slots Q (F0 m pc ls (.int x :: .ref (ad 0) :: rest)) :=
  sw_p tyX6 tyX6_ok nmX6 hx hb hts hown in_X6 hW hB (0) (by decide) (eM_0 g ad σ) rfl 13 (by decide) rfl w_542 rfl rfl (by simp) 1 (by rw [eM_0]; rfl) D kk
theorem fg_RX6_55 (hx : p.tables.exec = Jvm.exec) (hb : c.code = cc) (hts : ∀ w ∈ sm_T, w.before args s = true) (hown : s.vm.findClass RX6 = some m.cls) (hW : sm_W g 19 ad (eM g ad) s) (hB : sm_B g 19 ad (eM g ad) s H locs σ) (D : decode cc pc = .ok (.getfield 55, 3)) (kk : W p l e R s m args below meth c H locs cells slots Q (F0 m (pc + 3) ls (.int (σ.1 0 2) :: rest))) : W p l e R s m args below meth c H locs cells slots Q (F0 m pc ls (.ref (ad 0) :: rest)) :=
  sw_g hx hb hts hown in_X6 hW hB (0) (by decide) (eM_0 g ad σ) rfl 14 (by decide) rfl w_543 rfl D kk
theorem fp_RX6_55 (hx : p.tables.exec = Jvm.exec) (hb : c.code = cc) (hts : ∀ w ∈ sm_T, w.before args s = true) (hown : s.vm.findClass RX6 = some m.cls) (hW : sm_W g 19 ad (eM g ad) s) (hB : sm_B g 19 ad (eM g ad) s H locs σ) {x : Int32} (D : decode cc pc = .ok (.putfield 55, 3)) (kk : ∀ (H1 : Heap) (locs1 : List Loc), sm_B g 19 ad (eM g ad) s H1 locs1 (uI σ (0) 2 x) → W p l e R s m args below meth c H1 locs1 cells slots Q (F0 m (pc + 3) ls (rest))) : W p l e R s m args below meth c H locs cells slots Q (F0 m pc ls (.int x :: .ref (ad 0) :: rest)) :=
  sw_p tyX6 tyX6_ok nmX6 hx hb hts hown in_X6 hW hB (0) (by decide) (eM_0 g ad σ) rfl 14 (by decide) rfl w_543 rfl rfl (by simp) 2 (by rw [eM_0]; rfl) D kk
theorem fg_RX6_58 (hx : p.tables.exec = Jvm.exec) (hb : c.code = cc) (hts : ∀ w ∈ sm_T, w.before args s = true) (hown : s.vm.findClass RX6 = some m.cls) (hW : sm_W g 19 ad (eM g ad) s) (hB : sm_B g 19 ad (eM g ad) s H locs σ) (D : decode cc pc = .ok (.getfield 58, 3)) (kk : W p l e R s m args below meth c H locs cells slots Q (F0 m (pc + 3) ls (.ref (ad 13) :: rest))) : W p l e R s m args below meth c H locs cells slots Q (F0 m pc ls (.ref (ad 0) :: rest)) :=
  sw_g hx hb hts hown in_X6 hW hB (0) (by decide) (eM_0 g ad σ) rfl 15 (by decide) rfl w_544 rfl D kk
theorem fg_RX6_61 (hx : p.tables.exec = Jvm.exec) (hb : c.code = cc) (hts : ∀ w ∈ sm_T, w.before args s = true) (hown : s.vm.findClass RX6 = some m.cls) (hW : sm_W g 19 ad (eM g ad) s) (hB : sm_B g 19 ad (eM g ad) s H locs σ) (D : decode cc pc = .ok (.getfield 61, 3)) (kk : W p l e R s m args below meth c H locs cells slots Q (F0 m (pc + 3) ls (.ref (ad 14) :: rest))) : W p l e R s m args below meth c H locs cells slots Q (F0 m pc ls (.ref (ad 0) :: rest)) :=
  sw_g hx hb hts hown in_X6 hW hB (0) (by decide) (eM_0 g ad σ) rfl 16 (by decide) rfl w_545 rfl D kk
theorem fg_RX6_64 (hx : p.tables.exec = Jvm.exec) (hb : c.code = cc) (hts : ∀ w ∈ sm_T, w.before args s = true) (hown : s.vm.findClass RX6 = some m.cls) (hW : sm_W g 19 ad (eM g ad) s) (hB : sm_B g 19 ad (eM g ad) s H locs σ) (D : decode cc pc = .ok (.getfield 64, 3)) (kk : W p l e R s m args below meth c H locs cells slots Q (F0 m (pc + 3) ls (.ref (ad 15) :: rest))) : W p l e R s m args below meth c H locs cells slots Q (F0 m pc ls (.ref (ad 0) :: rest)) :=
  sw_g hx hb hts hown in_X6 hW hB (0) (by decide) (eM_0 g ad σ) rfl 17 (by decide) rfl w_546 rfl D kk
theorem fg_RX6_67 (hx : p.tables.exec = Jvm.exec) (hb : c.code = cc) (hts : ∀ w ∈ sm_T, w.before args s = true) (hown : s.vm.findClass RX6 = some m.cls) (hW : sm_W g 19 ad (eM g ad) s) (hB : sm_B g 19 ad (eM g ad) s H locs σ) (D : decode cc pc = .ok (.getfield 67, 3)) (kk : W p l e R s m args below meth c H locs cells slots Q (F0 m (pc + 3) ls (.ref (ad 16) :: rest))) : W p l e R s m args below meth c H locs cells slots Q (F0 m pc ls (.ref (ad 0) :: rest)) :=
  sw_g hx hb hts hown in_X6 hW hB (0) (by decide) (eM_0 g ad σ) rfl 18 (by decide) rfl w_547 rfl D kk
theorem fg_RX6_70 (hx : p.tables.exec = Jvm.exec) (hb : c.code = cc) (hts : ∀ w ∈ sm_T, w.before args s = true) (hown : s.vm.findClass RX6 = some m.cls) (hW : sm_W g 19 ad (eM g ad) s) (hB : sm_B g 19 ad (eM g ad) s H locs σ) (D : decode cc pc = .ok (.getfield 70, 3)) (kk : W p l e R s m args below meth c H locs cells slots Q (F0 m (pc + 3) ls (.ref (ad 17) :: rest))) : W p l e R s m args below meth c H locs cells slots Q (F0 m pc ls (.ref (ad 0) :: rest)) :=
  sw_g hx hb hts hown in_X6 hW hB (0) (by decide) (eM_0 g ad σ) rfl 19 (by decide) rfl w_548 rfl D kk
theorem fg_RX6_73 (hx : p.tables.exec = Jvm.exec) (hb : c.code = cc) (hts : ∀ w ∈ sm_T, w.before args s = true) (hown : s.vm.findClass RX6 = some m.cls) (hW : sm_W g 19 ad (eM g ad) s) (hB : sm_B g 19 ad (eM g ad) s H locs σ) (D : decode cc pc = .ok (.getfield 73, 3)) (kk : W p l e R s m args below meth c H locs cells slots Q (F0 m (pc + 3) ls (.ref (ad 18) :: rest))) : W p l e R s m args below meth c H locs cells slots Q (F0 m pc ls (.ref (ad 0) :: rest)) :=
  sw_g hx hb hts hown in_X6 hW hB (0) (by decide) (eM_0 g ad σ) rfl 20 (by decide) rfl w_549 rfl D kk
theorem fg_RX1_36 (hx : p.tables.exec = Jvm.exec) (hb : c.code = cc) (hts : ∀ w ∈ sm_T, w.before args s = true) (hown : s.vm.findClass RX1 = some m.cls) (hA : sm_A g A s s.heap) (hS : va_S A s.heap H locs) {i : Nat} (hi : i < 2) (D : decode cc pc = .ok (.getfield 36, 3)) (kk : W p l e R s m args below meth c H locs cells slots Q (F0 m (pc + 3) ls (.long (kSi i) :: rest))) : W p l e R s m args below meth c H locs cells slots Q (F0 m pc ls (.ref (gF g i) :: rest)) :=
  va_getX hx hb (hA.1.2.2.1.2.2.2.1) hi hS hown (hts _ w_817) (fun _ h => h) D kk
theorem fg_RX1_45 (hx : p.tables.exec = Jvm.exec) (hb : c.code = cc) (hts : ∀ w ∈ sm_T, w.before args s = true) (hown : s.vm.findClass RX1 = some m.cls) (hA : sm_A g A s s.heap) (hS : va_S A s.heap H locs) {i : Nat} (hi : i < 2) (D : decode cc pc = .ok (.getfield 45, 3)) (kk : W p l e R s m args below meth c H locs cells slots Q (F0 m (pc + 3) ls (.long (kIn i) :: rest))) : W p l e R s m args below meth c H locs cells slots Q (F0 m pc ls (.ref (gF g i) :: rest)) :=
  va_getX hx hb (hA.1.2.2.1.2.2.2.2.1) hi hS hown (hts _ w_818) (fun _ h => h) D kk
theorem fg_RX1_48 (hx : p.tables.exec = Jvm.exec) (hb : c.code = cc) (hts : ∀ w ∈ sm_T, w.before args s = true) (hown : s.vm.findClass RX1 = some m.cls) (hA : sm_A g A s s.heap) (hS : va_S A s.heap H locs) {i : Nat} (hi : i < 2) (D : decode cc pc = .ok (.getfield 48, 3)) (kk : W p l e R s m args below meth c H locs cells slots Q (F0 m (pc + 3) ls (.long (kNa i) :: rest))) : W p l e R s m args below meth c H locs cells slots Q (F0 m pc ls (.ref (gF g i) :: rest)) :=
  va_getX hx hb (hA.1.2.2.1.2.2.2.2.2) hi hS hown (hts _ w_819) (fun _ h => h) D kk
theorem fg_RX1_29 (hx : p.tables.exec = Jvm.exec) (hb : c.code = cc) (hts : ∀ w ∈ sm_T, w.before args s = true) (hown : s.vm.findClass RX1 = some m.cls) (hA : sm_A g A s s.heap) (hS : va_S A s.heap H locs) {i : Nat} (hi : i < 2) (D : decode cc pc = .ok (.getfield 29, 3)) (kk : W p l e R s m args below meth c H locs cells slots Q (F0 m (pc + 3) ls (.int (kFr i) :: rest))) : W p l e R s m args below meth c H locs cells slots Q (F0 m pc ls (.ref (gF g i) :: rest)) :=
  va_getX hx hb (hA.1.2.2.1.1) hi hS hown (hts _ w_820) (fun _ h => h) D kk
theorem fg_RX1_33 (hx : p.tables.exec = Jvm.exec) (hb : c.code = cc) (hts : ∀ w ∈ sm_T, w.before args s = true) (hown : s.vm.findClass RX1 = some m.cls) (hA : sm_A g A s s.heap) (hS : va_S A s.heap H locs) {i : Nat} (hi : i < 2) (D : decode cc pc = .ok (.getfield 33, 3)) (kk : W p l e R s m args below meth c H locs cells slots Q (F0 m (pc + 3) ls (.int (kLe i) :: rest))) : W p l e R s m args below meth c H locs cells slots Q (F0 m pc ls (.ref (gF g i) :: rest)) :=
  va_getX hx hb (hA.1.2.2.1.2.1) hi hS hown (hts _ w_821) (fun _ h => h) D kk
theorem fg_RX1_42 (hx : p.tables.exec = Jvm.exec) (hb : c.code = cc) (hts : ∀ w ∈ sm_T, w.before args s = true) (hown : s.vm.findClass RX1 = some m.cls) (hA : sm_A g A s s.heap) (hS : va_S A s.heap H locs) {i : Nat} (hi : i < 2) (D : decode cc pc = .ok (.getfield 42, 3)) (kk : W p l e R s m args below meth c H locs cells slots Q (F0 m (pc + 3) ls (.int (kMo i) :: rest))) : W p l e R s m args below meth c H locs cells slots Q (F0 m pc ls (.ref (gF g i) :: rest)) :=
  va_getX hx hb (hA.1.2.2.1.2.2.1) hi hS hown (hts _ w_822) (fun _ h => h) D kk
end FLD
end
