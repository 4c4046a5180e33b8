section
-- ===== PART A: goes FIRST, ahead of the names: the tables' words, and 'selects' of the private methods out of them =====
/-- a private method of a class that the tables say can be made, by its rows of tables_1 -/
def lw_okq (q : MethodName × Nat) : Prop := (q.1.cls ≠ "java/lang/invoke/MethodHandle" ∧ q.1.cls ≠ "java/lang/invoke/VarHandle") ∧ Cond.instantiable q.1.cls q.2 ∈ tables_1 ∧ Cond.privateMethod q.1 ∈ tables_1 ∧ Cond.instanceMethod q.1 ∈ tables_1
theorem lw_p0 : lw_okq (⟨"NumberDesk", "find", "(I)LNumberDesk$Line;"⟩, 12) := ⟨⟨by decide +kernel, by decide +kernel⟩, List.mem_of_getElem? (i := 10) (by decide +kernel), List.mem_of_getElem? (i := 172) (by decide +kernel), List.mem_of_getElem? (i := 173) (by decide +kernel)⟩
theorem lw_p1 : lw_okq (⟨"NumberDesk", "loadBoth", "(LNumberDesk$Line;LNumberDesk$Line;I)Z"⟩, 12) := ⟨⟨by decide +kernel, by decide +kernel⟩, List.mem_of_getElem? (i := 10) (by decide +kernel), List.mem_of_getElem? (i := 209) (by decide +kernel), List.mem_of_getElem? (i := 210) (by decide +kernel)⟩
theorem lw_p2 : lw_okq (⟨"NumberDesk", "load", "(LNumberDesk$Line;LNumberDesk$Num;I)Z"⟩, 12) := ⟨⟨by decide +kernel, by decide +kernel⟩, List.mem_of_getElem? (i := 10) (by decide +kernel), List.mem_of_getElem? (i := 213) (by decide +kernel), List.mem_of_getElem? (i := 214) (by decide +kernel)⟩
theorem lw_p3 : lw_okq (⟨"NumberDesk$Reader", "skipBlanks", "(LNumberDesk$Line;)V"⟩, 1) := ⟨⟨by decide +kernel, by decide +kernel⟩, List.mem_of_getElem? (i := 39) (by decide +kernel), List.mem_of_getElem? (i := 225) (by decide +kernel), List.mem_of_getElem? (i := 226) (by decide +kernel)⟩
theorem lw_p4 : lw_okq (⟨"NumberDesk$Reader", "readSign", "(LNumberDesk$Line;)I"⟩, 1) := ⟨⟨by decide +kernel, by decide +kernel⟩, List.mem_of_getElem? (i := 39) (by decide +kernel), List.mem_of_getElem? (i := 230) (by decide +kernel), List.mem_of_getElem? (i := 231) (by decide +kernel)⟩
theorem lw_p5 : lw_okq (⟨"NumberDesk$Reader", "readDigits", "(LNumberDesk$Line;LNumberDesk$Num;)Z"⟩, 1) := ⟨⟨by decide +kernel, by decide +kernel⟩, List.mem_of_getElem? (i := 39) (by decide +kernel), List.mem_of_getElem? (i := 234) (by decide +kernel), List.mem_of_getElem? (i := 235) (by decide +kernel)⟩
theorem lw_p6 : lw_okq (⟨"NumberDesk$Reader", "readExponent", "(LNumberDesk$Line;LNumberDesk$Num;)Z"⟩, 1) := ⟨⟨by decide +kernel, by decide +kernel⟩, List.mem_of_getElem? (i := 39) (by decide +kernel), List.mem_of_getElem? (i := 245) (by decide +kernel), List.mem_of_getElem? (i := 246) (by decide +kernel)⟩
theorem lw_p7 : lw_okq (⟨"NumberDesk$Num", "countUp", "()V"⟩, 4) := ⟨⟨by decide +kernel, by decide +kernel⟩, List.mem_of_getElem? (i := 62) (by decide +kernel), List.mem_of_getElem? (i := 261) (by decide +kernel), List.mem_of_getElem? (i := 262) (by decide +kernel)⟩
theorem lw_p8 : lw_okq (⟨"NumberDesk$Reckoner", "nearTo", "(LNumberDesk$Num;LNumberDesk$Num;)LNumberDesk$Num;"⟩, 7) := ⟨⟨by decide +kernel, by decide +kernel⟩, List.mem_of_getElem? (i := 56) (by decide +kernel), List.mem_of_getElem? (i := 283) (by decide +kernel), List.mem_of_getElem? (i := 284) (by decide +kernel)⟩
theorem lw_p9 : lw_okq (⟨"NumberDesk$Reckoner", "fillCells", "(LNumberDesk$Num;LNumberDesk$Num;III)V"⟩, 7) := ⟨⟨by decide +kernel, by decide +kernel⟩, List.mem_of_getElem? (i := 56) (by decide +kernel), List.mem_of_getElem? (i := 297) (by decide +kernel), List.mem_of_getElem? (i := 298) (by decide +kernel)⟩
theorem lw_p10 : lw_okq (⟨"NumberDesk$Reckoner", "takeCells", "(IIILNumberDesk$Num;)V"⟩, 7) := ⟨⟨by decide +kernel, by decide +kernel⟩, List.mem_of_getElem? (i := 56) (by decide +kernel), List.mem_of_getElem? (i := 305) (by decide +kernel), List.mem_of_getElem? (i := 306) (by decide +kernel)⟩
theorem lw_p11 : lw_okq (⟨"NumberDesk$Reckoner", "product", "(LNumberDesk$Num;LNumberDesk$Num;LNumberDesk$Num;)V"⟩, 7) := ⟨⟨by decide +kernel, by decide +kernel⟩, List.mem_of_getElem? (i := 56) (by decide +kernel), List.mem_of_getElem? (i := 316) (by decide +kernel), List.mem_of_getElem? (i := 317) (by decide +kernel)⟩
theorem lw_p12 : lw_okq (⟨"NumberDesk$Reckoner", "quotient", "(LNumberDesk$Num;LNumberDesk$Num;ILNumberDesk$Num;)V"⟩, 7) := ⟨⟨by decide +kernel, by decide +kernel⟩, List.mem_of_getElem? (i := 56) (by decide +kernel), List.mem_of_getElem? (i := 323) (by decide +kernel), List.mem_of_getElem? (i := 324) (by decide +kernel)⟩
theorem lw_p13 : lw_okq (⟨"NumberDesk$Reckoner", "divide", "(LNumberDesk$Num;LNumberDesk$Num;IILNumberDesk$Num;)I"⟩, 7) := ⟨⟨by decide +kernel, by decide +kernel⟩, List.mem_of_getElem? (i := 56) (by decide +kernel), List.mem_of_getElem? (i := 327) (by decide +kernel), List.mem_of_getElem? (i := 328) (by decide +kernel)⟩
theorem lw_p14 : lw_okq (⟨"NumberDesk$Reckoner", "bringDown", "(II)V"⟩, 7) := ⟨⟨by decide +kernel, by decide +kernel⟩, List.mem_of_getElem? (i := 56) (by decide +kernel), List.mem_of_getElem? (i := 331) (by decide +kernel), List.mem_of_getElem? (i := 332) (by decide +kernel)⟩
theorem lw_p15 : lw_okq (⟨"NumberDesk$Reckoner", "takeAwayAll", "(I)I"⟩, 7) := ⟨⟨by decide +kernel, by decide +kernel⟩, List.mem_of_getElem? (i := 56) (by decide +kernel), List.mem_of_getElem? (i := 335) (by decide +kernel), List.mem_of_getElem? (i := 336) (by decide +kernel)⟩
def lw_privs_1 : List (MethodName × Nat) := [(⟨"NumberDesk", "find", "(I)LNumberDesk$Line;"⟩, 12), (⟨"NumberDesk", "loadBoth", "(LNumberDesk$Line;LNumberDesk$Line;I)Z"⟩, 12), (⟨"NumberDesk", "load", "(LNumberDesk$Line;LNumberDesk$Num;I)Z"⟩, 12), (⟨"NumberDesk$Reader", "skipBlanks", "(LNumberDesk$Line;)V"⟩, 1), (⟨"NumberDesk$Reader", "readSign", "(LNumberDesk$Line;)I"⟩, 1), (⟨"NumberDesk$Reader", "readDigits", "(LNumberDesk$Line;LNumberDesk$Num;)Z"⟩, 1), (⟨"NumberDesk$Reader", "readExponent", "(LNumberDesk$Line;LNumberDesk$Num;)Z"⟩, 1), (⟨"NumberDesk$Num", "countUp", "()V"⟩, 4), (⟨"NumberDesk$Reckoner", "nearTo", "(LNumberDesk$Num;LNumberDesk$Num;)LNumberDesk$Num;"⟩, 7), (⟨"NumberDesk$Reckoner", "fillCells", "(LNumberDesk$Num;LNumberDesk$Num;III)V"⟩, 7), (⟨"NumberDesk$Reckoner", "takeCells", "(IIILNumberDesk$Num;)V"⟩, 7), (⟨"NumberDesk$Reckoner", "product", "(LNumberDesk$Num;LNumberDesk$Num;LNumberDesk$Num;)V"⟩, 7), (⟨"NumberDesk$Reckoner", "quotient", "(LNumberDesk$Num;LNumberDesk$Num;ILNumberDesk$Num;)V"⟩, 7), (⟨"NumberDesk$Reckoner", "divide", "(LNumberDesk$Num;LNumberDesk$Num;IILNumberDesk$Num;)I"⟩, 7), (⟨"NumberDesk$Reckoner", "bringDown", "(II)V"⟩, 7), (⟨"NumberDesk$Reckoner", "takeAwayAll", "(I)I"⟩, 7)]
theorem lw_r1 : ∀ q ∈ lw_privs_1, lw_okq q := List.forall_mem_cons.mpr ⟨lw_p0, List.forall_mem_cons.mpr ⟨lw_p1, List.forall_mem_cons.mpr ⟨lw_p2, List.forall_mem_cons.mpr ⟨lw_p3, List.forall_mem_cons.mpr ⟨lw_p4, List.forall_mem_cons.mpr ⟨lw_p5, List.forall_mem_cons.mpr ⟨lw_p6, List.forall_mem_cons.mpr ⟨lw_p7, List.forall_mem_cons.mpr ⟨lw_p8, List.forall_mem_cons.mpr ⟨lw_p9, List.forall_mem_cons.mpr ⟨lw_p10, List.forall_mem_cons.mpr ⟨lw_p11, List.forall_mem_cons.mpr ⟨lw_p12, List.forall_mem_cons.mpr ⟨lw_p13, List.forall_mem_cons.mpr ⟨lw_p14, List.forall_mem_cons.mpr ⟨lw_p15, fun _ h => absurd h List.not_mem_nil⟩⟩⟩⟩⟩⟩⟩⟩⟩⟩⟩⟩⟩⟩⟩⟩
theorem lw_p16 : lw_okq (⟨"NumberDesk$Reckoner", "holdsDivisor", "(I)Z"⟩, 7) := ⟨⟨by decide +kernel, by decide +kernel⟩, List.mem_of_getElem? (i := 56) (by decide +kernel), List.mem_of_getElem? (i := 339) (by decide +kernel), List.mem_of_getElem? (i := 340) (by decide +kernel)⟩
theorem lw_p17 : lw_okq (⟨"NumberDesk$Reckoner", "takeAwayOnce", "(I)V"⟩, 7) := ⟨⟨by decide +kernel, by decide +kernel⟩, List.mem_of_getElem? (i := 56) (by decide +kernel), List.mem_of_getElem? (i := 343) (by decide +kernel), List.mem_of_getElem? (i := 344) (by decide +kernel)⟩
theorem lw_p18 : lw_okq (⟨"NumberDesk$Reckoner", "partOf", "(LNumberDesk$Num;LNumberDesk$Num;ILNumberDesk$Num;)I"⟩, 7) := ⟨⟨by decide +kernel, by decide +kernel⟩, List.mem_of_getElem? (i := 56) (by decide +kernel), List.mem_of_getElem? (i := 352) (by decide +kernel), List.mem_of_getElem? (i := 353) (by decide +kernel)⟩
theorem lw_p19 : lw_okq (⟨"NumberDesk$Reckoner", "restOf", "(LNumberDesk$Num;LNumberDesk$Num;ILNumberDesk$Num;)I"⟩, 7) := ⟨⟨by decide +kernel, by decide +kernel⟩, List.mem_of_getElem? (i := 56) (by decide +kernel), List.mem_of_getElem? (i := 356) (by decide +kernel), List.mem_of_getElem? (i := 357) (by decide +kernel)⟩
theorem lw_p20 : lw_okq (⟨"NumberDesk$Reckoner", "powerOf", "(LNumberDesk$Num;IILNumberDesk$Num;)I"⟩, 7) := ⟨⟨by decide +kernel, by decide +kernel⟩, List.mem_of_getElem? (i := 56) (by decide +kernel), List.mem_of_getElem? (i := 366) (by decide +kernel), List.mem_of_getElem? (i := 367) (by decide +kernel)⟩
theorem lw_p21 : lw_okq (⟨"NumberDesk$Reckoner", "multiplyInto", "(LNumberDesk$Num;LNumberDesk$Num;I)V"⟩, 7) := ⟨⟨by decide +kernel, by decide +kernel⟩, List.mem_of_getElem? (i := 56) (by decide +kernel), List.mem_of_getElem? (i := 373) (by decide +kernel), List.mem_of_getElem? (i := 374) (by decide +kernel)⟩
theorem lw_p22 : lw_okq (⟨"NumberDesk", "write", "(LNumberDesk$Num;LNumberDesk$Line;)I"⟩, 12) := ⟨⟨by decide +kernel, by decide +kernel⟩, List.mem_of_getElem? (i := 10) (by decide +kernel), List.mem_of_getElem? (i := 377) (by decide +kernel), List.mem_of_getElem? (i := 378) (by decide +kernel)⟩
theorem lw_p23 : lw_okq (⟨"NumberDesk$Writer", "addSign", "(LNumberDesk$Num;LNumberDesk$Line;)V"⟩, 0) := ⟨⟨by decide +kernel, by decide +kernel⟩, List.mem_of_getElem? (i := 49) (by decide +kernel), List.mem_of_getElem? (i := 398) (by decide +kernel), List.mem_of_getElem? (i := 399) (by decide +kernel)⟩
theorem lw_p24 : lw_okq (⟨"NumberDesk$Writer", "addWithExponent", "(LNumberDesk$Num;ILNumberDesk$Line;)V"⟩, 0) := ⟨⟨by decide +kernel, by decide +kernel⟩, List.mem_of_getElem? (i := 49) (by decide +kernel), List.mem_of_getElem? (i := 405) (by decide +kernel), List.mem_of_getElem? (i := 406) (by decide +kernel)⟩
theorem lw_p25 : lw_okq (⟨"NumberDesk$Writer", "addExponent", "(ILNumberDesk$Line;)V"⟩, 0) := ⟨⟨by decide +kernel, by decide +kernel⟩, List.mem_of_getElem? (i := 49) (by decide +kernel), List.mem_of_getElem? (i := 413) (by decide +kernel), List.mem_of_getElem? (i := 414) (by decide +kernel)⟩
theorem lw_p26 : lw_okq (⟨"NumberDesk", "keepPage", "(LNumberDesk$Line;)I"⟩, 12) := ⟨⟨by decide +kernel, by decide +kernel⟩, List.mem_of_getElem? (i := 10) (by decide +kernel), List.mem_of_getElem? (i := 418) (by decide +kernel), List.mem_of_getElem? (i := 419) (by decide +kernel)⟩
theorem lw_p27 : lw_okq (⟨"NumberDesk", "layOut", "(LNumberDesk$Num;IILNumberDesk$Line;)I"⟩, 12) := ⟨⟨by decide +kernel, by decide +kernel⟩, List.mem_of_getElem? (i := 10) (by decide +kernel), List.mem_of_getElem? (i := 443) (by decide +kernel), List.mem_of_getElem? (i := 444) (by decide +kernel)⟩
theorem lw_p28 : lw_okq (⟨"NumberDeskModel", "four", "(I)V"⟩, 14) := ⟨⟨by decide +kernel, by decide +kernel⟩, List.mem_of_getElem? (i := 495) (by decide +kernel), List.mem_of_getElem? (i := 548) (by decide +kernel), List.mem_of_getElem? (i := 549) (by decide +kernel)⟩
theorem lw_p29 : lw_okq (⟨"NumberDeskModel", "read", "(II)Z"⟩, 14) := ⟨⟨by decide +kernel, by decide +kernel⟩, List.mem_of_getElem? (i := 495) (by decide +kernel), List.mem_of_getElem? (i := 587) (by decide +kernel), List.mem_of_getElem? (i := 588) (by decide +kernel)⟩
theorem lw_p30 : lw_okq (⟨"NumberDeskModel", "settle", "(I)V"⟩, 14) := ⟨⟨by decide +kernel, by decide +kernel⟩, List.mem_of_getElem? (i := 495) (by decide +kernel), List.mem_of_getElem? (i := 594) (by decide +kernel), List.mem_of_getElem? (i := 595) (by decide +kernel)⟩
theorem lw_p31 : lw_okq (⟨"NumberDeskModel", "zero", "(I)V"⟩, 14) := ⟨⟨by decide +kernel, by decide +kernel⟩, List.mem_of_getElem? (i := 495) (by decide +kernel), List.mem_of_getElem? (i := 598) (by decide +kernel), List.mem_of_getElem? (i := 599) (by decide +kernel)⟩
def lw_privs_2 : List (MethodName × Nat) := [(⟨"NumberDesk$Reckoner", "holdsDivisor", "(I)Z"⟩, 7), (⟨"NumberDesk$Reckoner", "takeAwayOnce", "(I)V"⟩, 7), (⟨"NumberDesk$Reckoner", "partOf", "(LNumberDesk$Num;LNumberDesk$Num;ILNumberDesk$Num;)I"⟩, 7), (⟨"NumberDesk$Reckoner", "restOf", "(LNumberDesk$Num;LNumberDesk$Num;ILNumberDesk$Num;)I"⟩, 7), (⟨"NumberDesk$Reckoner", "powerOf", "(LNumberDesk$Num;IILNumberDesk$Num;)I"⟩, 7), (⟨"NumberDesk$Reckoner", "multiplyInto", "(LNumberDesk$Num;LNumberDesk$Num;I)V"⟩, 7), (⟨"NumberDesk", "write", "(LNumberDesk$Num;LNumberDesk$Line;)I"⟩, 12), (⟨"NumberDesk$Writer", "addSign", "(LNumberDesk$Num;LNumberDesk$Line;)V"⟩, 0), (⟨"NumberDesk$Writer", "addWithExponent", "(LNumberDesk$Num;ILNumberDesk$Line;)V"⟩, 0), (⟨"NumberDesk$Writer", "addExponent", "(ILNumberDesk$Line;)V"⟩, 0), (⟨"NumberDesk", "keepPage", "(LNumberDesk$Line;)I"⟩, 12), (⟨"NumberDesk", "layOut", "(LNumberDesk$Num;IILNumberDesk$Line;)I"⟩, 12), (⟨"NumberDeskModel", "four", "(I)V"⟩, 14), (⟨"NumberDeskModel", "read", "(II)Z"⟩, 14), (⟨"NumberDeskModel", "settle", "(I)V"⟩, 14), (⟨"NumberDeskModel", "zero", "(I)V"⟩, 14)]
theorem lw_r2 : ∀ q ∈ lw_privs_2, lw_okq q := List.forall_mem_cons.mpr ⟨lw_p16, List.forall_mem_cons.mpr ⟨lw_p17, List.forall_mem_cons.mpr ⟨lw_p18, List.forall_mem_cons.mpr ⟨lw_p19, List.forall_mem_cons.mpr ⟨lw_p20, List.forall_mem_cons.mpr ⟨lw_p21, List.forall_mem_cons.mpr ⟨lw_p22, List.forall_mem_cons.mpr ⟨lw_p23, List.forall_mem_cons.mpr ⟨lw_p24, List.forall_mem_cons.mpr ⟨lw_p25, List.forall_mem_cons.mpr ⟨lw_p26, List.forall_mem_cons.mpr ⟨lw_p27, List.forall_mem_cons.mpr ⟨lw_p28, List.forall_mem_cons.mpr ⟨lw_p29, List.forall_mem_cons.mpr ⟨lw_p30, List.forall_mem_cons.mpr ⟨lw_p31, fun _ h => absurd h List.not_mem_nil⟩⟩⟩⟩⟩⟩⟩⟩⟩⟩⟩⟩⟩⟩⟩⟩
theorem lw_p32 : lw_okq (⟨"NumberDeskModel", "isWhole", "(I)Z"⟩, 14) := ⟨⟨by decide +kernel, by decide +kernel⟩, List.mem_of_getElem? (i := 495) (by decide +kernel), List.mem_of_getElem? (i := 602) (by decide +kernel), List.mem_of_getElem? (i := 603) (by decide +kernel)⟩
theorem lw_p33 : lw_okq (⟨"NumberDeskModel", "round", "(II)V"⟩, 14) := ⟨⟨by decide +kernel, by decide +kernel⟩, List.mem_of_getElem? (i := 495) (by decide +kernel), List.mem_of_getElem? (i := 606) (by decide +kernel), List.mem_of_getElem? (i := 607) (by decide +kernel)⟩
theorem lw_p34 : lw_okq (⟨"NumberDeskModel", "high", "(I)I"⟩, 14) := ⟨⟨by decide +kernel, by decide +kernel⟩, List.mem_of_getElem? (i := 495) (by decide +kernel), List.mem_of_getElem? (i := 610) (by decide +kernel), List.mem_of_getElem? (i := 611) (by decide +kernel)⟩
theorem lw_p35 : lw_okq (⟨"NumberDeskModel", "digit", "(II)I"⟩, 14) := ⟨⟨by decide +kernel, by decide +kernel⟩, List.mem_of_getElem? (i := 495) (by decide +kernel), List.mem_of_getElem? (i := 614) (by decide +kernel), List.mem_of_getElem? (i := 615) (by decide +kernel)⟩
theorem lw_p36 : lw_okq (⟨"NumberDeskModel", "valueOf", "(I)I"⟩, 14) := ⟨⟨by decide +kernel, by decide +kernel⟩, List.mem_of_getElem? (i := 495) (by decide +kernel), List.mem_of_getElem? (i := 618) (by decide +kernel), List.mem_of_getElem? (i := 619) (by decide +kernel)⟩
theorem lw_p37 : lw_okq (⟨"NumberDeskModel", "worked", "(II)I"⟩, 14) := ⟨⟨by decide +kernel, by decide +kernel⟩, List.mem_of_getElem? (i := 495) (by decide +kernel), List.mem_of_getElem? (i := 622) (by decide +kernel), List.mem_of_getElem? (i := 623) (by decide +kernel)⟩
theorem lw_p38 : lw_okq (⟨"NumberDeskModel", "add", "(IIZI)V"⟩, 14) := ⟨⟨by decide +kernel, by decide +kernel⟩, List.mem_of_getElem? (i := 495) (by decide +kernel), List.mem_of_getElem? (i := 626) (by decide +kernel), List.mem_of_getElem? (i := 627) (by decide +kernel)⟩
theorem lw_p39 : lw_okq (⟨"NumberDeskModel", "copy", "(II)V"⟩, 14) := ⟨⟨by decide +kernel, by decide +kernel⟩, List.mem_of_getElem? (i := 495) (by decide +kernel), List.mem_of_getElem? (i := 630) (by decide +kernel), List.mem_of_getElem? (i := 631) (by decide +kernel)⟩
theorem lw_p40 : lw_okq (⟨"NumberDeskModel", "multiply", "(III)V"⟩, 14) := ⟨⟨by decide +kernel, by decide +kernel⟩, List.mem_of_getElem? (i := 495) (by decide +kernel), List.mem_of_getElem? (i := 634) (by decide +kernel), List.mem_of_getElem? (i := 635) (by decide +kernel)⟩
theorem lw_p41 : lw_okq (⟨"NumberDeskModel", "divide", "(IIII)V"⟩, 14) := ⟨⟨by decide +kernel, by decide +kernel⟩, List.mem_of_getElem? (i := 495) (by decide +kernel), List.mem_of_getElem? (i := 638) (by decide +kernel), List.mem_of_getElem? (i := 639) (by decide +kernel)⟩
theorem lw_p42 : lw_okq (⟨"NumberDeskModel", "isEnough", "(I)Z"⟩, 14) := ⟨⟨by decide +kernel, by decide +kernel⟩, List.mem_of_getElem? (i := 495) (by decide +kernel), List.mem_of_getElem? (i := 642) (by decide +kernel), List.mem_of_getElem? (i := 643) (by decide +kernel)⟩
theorem lw_p43 : lw_okq (⟨"NumberDeskModel", "noZeros", "(I)V"⟩, 14) := ⟨⟨by decide +kernel, by decide +kernel⟩, List.mem_of_getElem? (i := 495) (by decide +kernel), List.mem_of_getElem? (i := 646) (by decide +kernel), List.mem_of_getElem? (i := 647) (by decide +kernel)⟩
theorem lw_p44 : lw_okq (⟨"NumberDeskModel", "part", "(III)Z"⟩, 14) := ⟨⟨by decide +kernel, by decide +kernel⟩, List.mem_of_getElem? (i := 495) (by decide +kernel), List.mem_of_getElem? (i := 650) (by decide +kernel), List.mem_of_getElem? (i := 651) (by decide +kernel)⟩
theorem lw_p45 : lw_okq (⟨"NumberDeskModel", "raise", "(I)I"⟩, 14) := ⟨⟨by decide +kernel, by decide +kernel⟩, List.mem_of_getElem? (i := 495) (by decide +kernel), List.mem_of_getElem? (i := 654) (by decide +kernel), List.mem_of_getElem? (i := 655) (by decide +kernel)⟩
theorem lw_p46 : lw_okq (⟨"NumberDeskModel", "answer", "(II)I"⟩, 14) := ⟨⟨by decide +kernel, by decide +kernel⟩, List.mem_of_getElem? (i := 495) (by decide +kernel), List.mem_of_getElem? (i := 658) (by decide +kernel), List.mem_of_getElem? (i := 659) (by decide +kernel)⟩
theorem lw_p47 : lw_okq (⟨"NumberDeskModel", "write", "(I)I"⟩, 14) := ⟨⟨by decide +kernel, by decide +kernel⟩, List.mem_of_getElem? (i := 495) (by decide +kernel), List.mem_of_getElem? (i := 662) (by decide +kernel), List.mem_of_getElem? (i := 663) (by decide +kernel)⟩
def lw_privs_3 : List (MethodName × Nat) := [(⟨"NumberDeskModel", "isWhole", "(I)Z"⟩, 14), (⟨"NumberDeskModel", "round", "(II)V"⟩, 14), (⟨"NumberDeskModel", "high", "(I)I"⟩, 14), (⟨"NumberDeskModel", "digit", "(II)I"⟩, 14), (⟨"NumberDeskModel", "valueOf", "(I)I"⟩, 14), (⟨"NumberDeskModel", "worked", "(II)I"⟩, 14), (⟨"NumberDeskModel", "add", "(IIZI)V"⟩, 14), (⟨"NumberDeskModel", "copy", "(II)V"⟩, 14), (⟨"NumberDeskModel", "multiply", "(III)V"⟩, 14), (⟨"NumberDeskModel", "divide", "(IIII)V"⟩, 14), (⟨"NumberDeskModel", "isEnough", "(I)Z"⟩, 14), (⟨"NumberDeskModel", "noZeros", "(I)V"⟩, 14), (⟨"NumberDeskModel", "part", "(III)Z"⟩, 14), (⟨"NumberDeskModel", "raise", "(I)I"⟩, 14), (⟨"NumberDeskModel", "answer", "(II)I"⟩, 14), (⟨"NumberDeskModel", "write", "(I)I"⟩, 14)]
theorem lw_r3 : ∀ q ∈ lw_privs_3, lw_okq q := List.forall_mem_cons.mpr ⟨lw_p32, List.forall_mem_cons.mpr ⟨lw_p33, List.forall_mem_cons.mpr ⟨lw_p34, List.forall_mem_cons.mpr ⟨lw_p35, List.forall_mem_cons.mpr ⟨lw_p36, List.forall_mem_cons.mpr ⟨lw_p37, List.forall_mem_cons.mpr ⟨lw_p38, List.forall_mem_cons.mpr ⟨lw_p39, List.forall_mem_cons.mpr ⟨lw_p40, List.forall_mem_cons.mpr ⟨lw_p41, List.forall_mem_cons.mpr ⟨lw_p42, List.forall_mem_cons.mpr ⟨lw_p43, List.forall_mem_cons.mpr ⟨lw_p44, List.forall_mem_cons.mpr ⟨lw_p45, List.forall_mem_cons.mpr ⟨lw_p46, List.forall_mem_cons.mpr ⟨lw_p47, fun _ h => absurd h List.not_mem_nil⟩⟩⟩⟩⟩⟩⟩⟩⟩⟩⟩⟩⟩⟩⟩⟩
theorem lw_p48 : lw_okq (⟨"NumberDeskModel", "letter", "(I)V"⟩, 14) := ⟨⟨by decide +kernel, by decide +kernel⟩, List.mem_of_getElem? (i := 495) (by decide +kernel), List.mem_of_getElem? (i := 666) (by decide +kernel), List.mem_of_getElem? (i := 667) (by decide +kernel)⟩
theorem lw_p49 : lw_okq (⟨"NumberDeskModel", "plain", "(III)V"⟩, 14) := ⟨⟨by decide +kernel, by decide +kernel⟩, List.mem_of_getElem? (i := 495) (by decide +kernel), List.mem_of_getElem? (i := 670) (by decide +kernel), List.mem_of_getElem? (i := 671) (by decide +kernel)⟩
theorem lw_p50 : lw_okq (⟨"NumberDeskModel", "keep", "(I)I"⟩, 14) := ⟨⟨by decide +kernel, by decide +kernel⟩, List.mem_of_getElem? (i := 495) (by decide +kernel), List.mem_of_getElem? (i := 674) (by decide +kernel), List.mem_of_getElem? (i := 675) (by decide +kernel)⟩
theorem lw_p51 : lw_okq (⟨"NumberDeskModel", "strictly", "(II)I"⟩, 14) := ⟨⟨by decide +kernel, by decide +kernel⟩, List.mem_of_getElem? (i := 495) (by decide +kernel), List.mem_of_getElem? (i := 698) (by decide +kernel), List.mem_of_getElem? (i := 699) (by decide +kernel)⟩
theorem lw_p52 : lw_okq (⟨"NumberDeskModel", "loosely", "(II)I"⟩, 14) := ⟨⟨by decide +kernel, by decide +kernel⟩, List.mem_of_getElem? (i := 495) (by decide +kernel), List.mem_of_getElem? (i := 705) (by decide +kernel), List.mem_of_getElem? (i := 706) (by decide +kernel)⟩
def lw_privs_4 : List (MethodName × Nat) := [(⟨"NumberDeskModel", "letter", "(I)V"⟩, 14), (⟨"NumberDeskModel", "plain", "(III)V"⟩, 14), (⟨"NumberDeskModel", "keep", "(I)I"⟩, 14), (⟨"NumberDeskModel", "strictly", "(II)I"⟩, 14), (⟨"NumberDeskModel", "loosely", "(II)I"⟩, 14)]
theorem lw_r4 : ∀ q ∈ lw_privs_4, lw_okq q := List.forall_mem_cons.mpr ⟨lw_p48, List.forall_mem_cons.mpr ⟨lw_p49, List.forall_mem_cons.mpr ⟨lw_p50, List.forall_mem_cons.mpr ⟨lw_p51, List.forall_mem_cons.mpr ⟨lw_p52, fun _ h => absurd h List.not_mem_nil⟩⟩⟩⟩⟩
def lw_privs : List (MethodName × Nat) := lw_privs_1 ++ (lw_privs_2 ++ (lw_privs_3 ++ (lw_privs_4)))
def lw_tbl : List Cond := k2_sels lw_privs ++ tables_1
theorem lw_privs_ok : ∀ q ∈ lw_privs, lw_okq q := by
  show ∀ q ∈ lw_privs_1 ++ (lw_privs_2 ++ (lw_privs_3 ++ (lw_privs_4))), lw_okq q
  exact List.forall_mem_append.mpr ⟨lw_r1, List.forall_mem_append.mpr ⟨lw_r2, List.forall_mem_append.mpr ⟨lw_r3, lw_r4⟩⟩⟩
-- ===== end of PART A; then your names; then what follows =====
end
section
/-- the words that a call hands on -/
def lw_g : List Cond := lw_tbl.filter goodWord
theorem lw_gm {w : Cond} (p : Nat) (h : lw_tbl[p]? = some w) (hg : goodWord w = true) : w ∈ lw_g := List.mem_filter.mpr ⟨List.mem_of_getElem? h, hg⟩
/-! The world of a fixed graph of objects whose references never change: cell i holds ints (h i k); the judgement WW over (h, pc, locals, stack); a row an instruction. -/
abbrev Hp : Type := Nat → Nat → Int32
def up2 (h : Hp) (i k : Nat) (v : Int32) : Hp := fun j => if j = i then upd (h i) k v else h j
theorem up2_i (h : Hp) (i k : Nat) (v : Int32) : up2 h i k v i = upd (h i) k v := by simp [up2]
theorem up2_ne (h : Hp) {i j : Nat} (k : Nat) (v : Int32) (hj : j ≠ i) : up2 h i k v j = h j := by simp [up2, hj]
/-- a world: class data, classes, array classes, addresses, entities, how many -/
abbrev wd_V : Type := va_G × List vw_C × List (ClassId × FieldType) × (Nat → Nat) × (Nat → (Nat → Int32) → va_E) × Nat
abbrev wd_D (V : wd_V) : va_G := V.1
abbrev wd_cl (V : wd_V) : List vw_C := V.2.1
abbrev wd_ty (V : wd_V) : List (ClassId × FieldType) := V.2.2.1
abbrev wd_ad (V : wd_V) : Nat → Nat := V.2.2.2.1
abbrev wd_E (V : wd_V) : Nat → (Nat → Int32) → va_E := V.2.2.2.2.1
abbrev wd_N (V : wd_V) : Nat := V.2.2.2.2.2
def wd_ws (V : wd_V) (h : Hp) : va_W := (List.range (wd_N V)).map fun i => (wd_ad V i, wd_E V i (h i))
def wd_A (V : wd_V) : Nat → Prop := fun q => ∃ i, i < wd_N V ∧ q = wd_ad V i
def wd_inj (V : wd_V) : Prop := ∀ i j, i < wd_N V → j < wd_N V → wd_ad V i = wd_ad V j → i = j
def wd_P (V : wd_V) (h : Hp) (H : Heap) : Prop := va_P (wd_D V) (wd_cl V) (wd_ws V h) H
theorem wd_at {V : wd_V} {h : Hp} {i : Nat} (hi : i < wd_N V) : (wd_ws V h)[i]? = some (wd_ad V i, wd_E V i (h i)) := by
  simp only [wd_ws, List.getElem?_map]
  rw [List.getElem?_range hi]
  rfl
theorem wd_get {V : wd_V} {h : Hp} {i : Nat} {q : Nat × va_E} (hq : (wd_ws V h)[i]? = some q) : i < wd_N V ∧ q = (wd_ad V i, wd_E V i (h i)) := by
  have hi : i < wd_N V := by
    have := (List.getElem?_eq_some_iff.mp hq).1
    simpa [wd_ws] using this
  refine ⟨hi, ?_⟩
  rw [wd_at hi] at hq
  exact (Option.some.inj hq).symm
theorem wd_Dof {V : wd_V} (hI : wd_inj V) (h : Hp) : va_D (wd_A V) (wd_ws V h) := by
  refine ⟨fun i j p q hp hq e => ?_, fun k q hq => ?_⟩
  · obtain ⟨a1, rfl⟩ := wd_get hp
    obtain ⟨b1, rfl⟩ := wd_get hq
    exact hI i j a1 b1 e
  · obtain ⟨a1, rfl⟩ := wd_get hq
    exact ⟨k, a1, rfl⟩
theorem wd_set {V : wd_V} {h : Hp} {i k : Nat} {v : Int32} (hi : i < wd_N V) : (wd_ws V h).set i (wd_ad V i, wd_E V i (upd (h i) k v)) = wd_ws V (up2 h i k v) := by
  apply List.ext_getElem?
  intro j
  rw [List.getElem?_set]
  by_cases hj : i = j
  · subst hj
    rw [if_pos rfl, wd_at hi, up2_i]
    have : i < (wd_ws V h).length := by simpa [wd_ws] using hi
    rw [if_pos this]
  · rw [if_neg hj]
    by_cases hl : j < wd_N V
    · rw [wd_at hl, wd_at hl, up2_ne _ _ _ (fun e => hj e.symm)]
    · have e1 : ∀ g : Hp, (wd_ws V g)[j]? = none := fun g => by
        rw [List.getElem?_eq_none_iff]
        simp [wd_ws]
        omega
      rw [e1, e1]
/-- the locals: what the list says (its first word on a place counts), all of one slot -/
def wk_lv (ls : Array Slot) (nL : Nat) (lv : List (Nat × Value)) : Prop := ls.size = nL ∧ lv_wf ls ∧ ∀ i v, lv.lookup i = some v → ls[i]? = some (.val v) ∧ v.category = 1
theorem wk_store1 {ls : Array Slot} {nL : Nat} {lv : List (Nat × Value)} {i : Nat} {v : Value} (h : wk_lv ls nL lv) (hi : i < nL) (hc : v.category = 1) : ∃ ls', storeLocals ls i v = some ls' ∧ wk_lv ls' nL ((i, v) :: lv) := by
  obtain ⟨hs, hw, hl⟩ := h
  obtain ⟨ls', e, g⟩ := lv_store1 (l := []) ⟨hs, hw, fun q hq => by cases hq⟩ hi hc
  refine ⟨ls', e, g.1, g.2.1, fun j w hjw => ?_⟩
  rw [List.lookup_cons] at hjw
  by_cases hji : j = i
  · subst hji
    simp only [BEq.rfl] at hjw
    cases hjw
    exact ⟨g.2.2 (j, v) List.mem_cons_self, hc⟩
  · have hb : (j == i) = false := by simpa using hji
    rw [hb] at hjw
    obtain ⟨a, b⟩ := hl j w hjw
    obtain ⟨ls2, e2, g2⟩ := lv_store1 (l := [(j, w)]) ⟨hs, hw, fun q hq => by
      rw [List.mem_singleton] at hq
      subst hq
      exact a⟩ hi hc
    rw [e] at e2
    cases e2
    refine ⟨g2.2.2 (j, w) ?_, b⟩
    refine List.mem_cons_of_mem _ ?_
    simp [hb, b]
abbrev wk_X : Type := Program × Launch × Env × Room × State × MethodId × Array Value × List Frame × Method × Code × (State → Prop) × Nat × Nat × Nat
def WW (X : wk_X) (V : wd_V) (h : Hp) (pc : Nat) (lv : List (Nat × Value)) (st : List Value) : Prop :=
  match X with
  | (p, l, e, R, s, m, args, below, meth, c, Q, nL, cells, slots) => ∀ (H : Heap) (locs : List Loc) (ls : Array Slot), wd_P V h H → va_S (wd_A V) s.heap H locs → wk_lv ls nL lv → W p l e R s m args below meth c H locs cells slots Q (F0 m pc ls st)
/-- what a body knows: machine, code, its class, the tables' words, the world's classes, its room -/
def wk_C (X : wk_X) (V : wd_V) (cc : ByteArray) (own : String) (nL0 fr lo : Nat) : Prop :=
  match X with
  | (p, l, e, R, s, m, args, below, meth, c, Q, nL, cells, slots) => p.tables.exec = Jvm.exec ∧ c.code = cc ∧ c.maxLocals = nL ∧ s.vm.findClass own = some m.cls ∧ (∀ w ∈ lw_g, w.before args s = true) ∧ va_K (wd_D V) (wd_cl V) (wd_ty V) s ∧ wd_inj V ∧ nL = nL0 ∧ fr ≤ R.frames ∧ lo ≤ R.locals ∧ cells ≤ R.cells ∧ slots ≤ R.slots
theorem wk_sub {X : wk_X} {V : wd_V} {h : Hp} {pc : Nat} {lv lv' : List (Nat × Value)} {st : List Value} (hs : ∀ q ∈ lv', lv.lookup q.1 = some q.2) (k : WW X V h pc lv' st) : WW X V h pc lv st := by
  obtain ⟨p, l, e, R, s, m, args, below, meth, c, Q, nL, cells, slots⟩ := X
  intro H locs ls hP hS hl
  refine k H locs ls hP hS ⟨hl.1, hl.2.1, fun i v hv => hl.2.2 i v ?_⟩
  have : ∀ (l : List (Nat × Value)), l.lookup i = some v → (i, v) ∈ l := by
    intro l
    induction l with
    | nil => intro q; cases q
    | cons a l ih =>
      intro q
      rw [List.lookup_cons] at q
      by_cases hb : (i == a.1) = true
      · rw [hb] at q
        have e1 : i = a.1 := by simpa using hb
        cases q
        rw [e1]
        exact List.mem_cons_self
      · rw [Bool.not_eq_true] at hb
        rw [hb] at q
        exact List.mem_cons_of_mem _ (ih q)
  exact hs (i, v) (this lv' hv)
def wk_all (lv : List (Nat × Value)) : List (Nat × Value) → Prop
  | [] => True
  | q :: r => lv.lookup q.1 = some q.2 ∧ wk_all lv r
theorem wk_go {X : wk_X} {V : wd_V} {h : Hp} {pc : Nat} {lv lv' : List (Nat × Value)} {st : List Value} (k : WW X V h pc lv' st) (hs : wk_all lv lv') : WW X V h pc lv st := by
  refine wk_sub ?_ k
  revert hs
  clear k
  induction lv' with
  | nil => intro _ q hq; cases hq
  | cons a r ih =>
    intro h q hq
    rcases List.mem_cons.mp hq with rfl | h2
    · exact h.1
    · exact ih h.2 q h2
theorem wk_all_of {lv : List (Nat × Value)} : ∀ {l : List (Nat × Value)}, wk_all lv l → ∀ q ∈ l, lv.lookup q.1 = some q.2
  | [], _, q, hq => by cases hq
  | a :: r, h, q, hq => by
    rcases List.mem_cons.mp hq with rfl | h2
    · exact h.1
    · exact wk_all_of h.2 q h2

theorem wk_iconst {X : wk_X} {V : wd_V} {h : Hp} {pc : Nat} {lv : List (Nat × Value)} {st : List Value} {cc : ByteArray} {own : String} {nL fr lo : Nat} (C : wk_C X V cc own nL fr lo) {n : Int} {v : Int32} (d : decode cc pc = .ok (.iconst n, 1)) (hv : Int32.ofInt n = v) (k : WW X V h (pc + 1) lv (.int v :: st)) : WW X V h pc lv (st) := by
  obtain ⟨p, l, e, R, s, m, args, below, meth, c, Q, nL0, cells, slots⟩ := X
  obtain ⟨hx, hb, hml, hown, hts, hK, hI, rfl, hfr, hlo, hcl, hsl⟩ := C
  intro H locs ls hP hS hl
  exact lv_iconst hx hb d hv (k H locs ls hP hS hl)

theorem wk_bipush {X : wk_X} {V : wd_V} {h : Hp} {pc : Nat} {lv : List (Nat × Value)} {st : List Value} {cc : ByteArray} {own : String} {nL fr lo : Nat} (C : wk_C X V cc own nL fr lo) {n : Int} {v : Int32} (d : decode cc pc = .ok (.bipush n, 2)) (hv : (Int8.ofInt n).toInt32 = v) (k : WW X V h (pc + 2) lv (.int v :: st)) : WW X V h pc lv (st) := by
  obtain ⟨p, l, e, R, s, m, args, below, meth, c, Q, nL0, cells, slots⟩ := X
  obtain ⟨hx, hb, hml, hown, hts, hK, hI, rfl, hfr, hlo, hcl, hsl⟩ := C
  intro H locs ls hP hS hl
  exact lv_bipush hx hb d hv (k H locs ls hP hS hl)

theorem wk_sipush {X : wk_X} {V : wd_V} {h : Hp} {pc : Nat} {lv : List (Nat × Value)} {st : List Value} {cc : ByteArray} {own : String} {nL fr lo : Nat} (C : wk_C X V cc own nL fr lo) {n : Int} {v : Int32} (d : decode cc pc = .ok (.sipush n, 3)) (hv : (Int16.ofInt n).toInt32 = v) (k : WW X V h (pc + 3) lv (.int v :: st)) : WW X V h pc lv (st) := by
  obtain ⟨p, l, e, R, s, m, args, below, meth, c, Q, nL0, cells, slots⟩ := X
  obtain ⟨hx, hb, hml, hown, hts, hK, hI, rfl, hfr, hlo, hcl, hsl⟩ := C
  intro H locs ls hP hS hl
  exact lv_sipush hx hb d hv (k H locs ls hP hS hl)

theorem wk_lconst {X : wk_X} {V : wd_V} {h : Hp} {pc : Nat} {lv : List (Nat × Value)} {st : List Value} {cc : ByteArray} {own : String} {nL fr lo : Nat} (C : wk_C X V cc own nL fr lo) {n : Fin 2} {v : Int64} (d : decode cc pc = .ok (.lconst n, 1)) (hv : Int64.ofNat (n : Nat) = v) (k : WW X V h (pc + 1) lv (.long v :: st)) : WW X V h pc lv (st) := by
  obtain ⟨p, l, e, R, s, m, args, below, meth, c, Q, nL0, cells, slots⟩ := X
  obtain ⟨hx, hb, hml, hown, hts, hK, hI, rfl, hfr, hlo, hcl, hsl⟩ := C
  intro H locs ls hP hS hl
  exact lv_lconst hx hb d hv (k H locs ls hP hS hl)

theorem wk_ldc {X : wk_X} {V : wd_V} {h : Hp} {pc : Nat} {lv : List (Nat × Value)} {st : List Value} {cc : ByteArray} {own : String} {nL fr lo : Nat} (C : wk_C X V cc own nL fr lo) {i : Nat} {v : Int32} (d : decode cc pc = .ok (.ldc i, 2)) (hw : Cond.constant own i v ∈ lw_g) (k : WW X V h (pc + 2) lv (.int v :: st)) : WW X V h pc lv (st) := by
  obtain ⟨p, l, e, R, s, m, args, below, meth, c, Q, nL0, cells, slots⟩ := X
  obtain ⟨hx, hb, hml, hown, hts, hK, hI, rfl, hfr, hlo, hcl, hsl⟩ := C
  intro H locs ls hP hS hl
  exact lv_ldc hx hb hown (hts _ hw) d (k H locs ls hP hS hl)

theorem wk_ldc2 {X : wk_X} {V : wd_V} {h : Hp} {pc : Nat} {lv : List (Nat × Value)} {st : List Value} {cc : ByteArray} {own : String} {nL fr lo : Nat} (C : wk_C X V cc own nL fr lo) {i : Nat} {v : Int64} (d : decode cc pc = .ok (.ldc2_w i, 3)) (hw : Cond.constantLong own i v ∈ lw_g) (k : WW X V h (pc + 3) lv (.long v :: st)) : WW X V h pc lv (st) := by
  obtain ⟨p, l, e, R, s, m, args, below, meth, c, Q, nL0, cells, slots⟩ := X
  obtain ⟨hx, hb, hml, hown, hts, hK, hI, rfl, hfr, hlo, hcl, hsl⟩ := C
  intro H locs ls hP hS hl
  exact lv_ldc2 hx hb hown (hts _ hw) d (k H locs ls hP hS hl)

theorem wk_iload_n {X : wk_X} {V : wd_V} {h : Hp} {pc : Nat} {lv : List (Nat × Value)} {st : List Value} {cc : ByteArray} {own : String} {nL fr lo : Nat} (C : wk_C X V cc own nL fr lo) {n : Fin 4} (i : Nat) {x : Int32} (d : decode cc pc = .ok (.iload_n n, 1)) (hi : (n : Nat) = i) (hk : lv.lookup i = some (.int x)) (k : WW X V h (pc + 1) lv (.int x :: st)) : WW X V h pc lv (st) := by
  obtain ⟨p, l, e, R, s, m, args, below, meth, c, Q, nL0, cells, slots⟩ := X
  obtain ⟨hx, hb, hml, hown, hts, hK, hI, rfl, hfr, hlo, hcl, hsl⟩ := C
  intro H locs ls hP hS hl
  exact lv_iload_n hx hb d hi (hl.2.2 i _ hk).1 (k H locs ls hP hS hl)

theorem wk_iload {X : wk_X} {V : wd_V} {h : Hp} {pc : Nat} {lv : List (Nat × Value)} {st : List Value} {cc : ByteArray} {own : String} {nL fr lo : Nat} (C : wk_C X V cc own nL fr lo) {i : Nat} {x : Int32} (d : decode cc pc = .ok (.iload i, 2)) (hk : lv.lookup i = some (.int x)) (k : WW X V h (pc + 2) lv (.int x :: st)) : WW X V h pc lv (st) := by
  obtain ⟨p, l, e, R, s, m, args, below, meth, c, Q, nL0, cells, slots⟩ := X
  obtain ⟨hx, hb, hml, hown, hts, hK, hI, rfl, hfr, hlo, hcl, hsl⟩ := C
  intro H locs ls hP hS hl
  exact lv_iload hx hb d (hl.2.2 i _ hk).1 (k H locs ls hP hS hl)

theorem wk_aload_n {X : wk_X} {V : wd_V} {h : Hp} {pc : Nat} {lv : List (Nat × Value)} {st : List Value} {cc : ByteArray} {own : String} {nL fr lo : Nat} (C : wk_C X V cc own nL fr lo) {n : Fin 4} (i : Nat) {x : Nat} (d : decode cc pc = .ok (.aload_n n, 1)) (hi : (n : Nat) = i) (hk : lv.lookup i = some (.ref x)) (k : WW X V h (pc + 1) lv (.ref x :: st)) : WW X V h pc lv (st) := by
  obtain ⟨p, l, e, R, s, m, args, below, meth, c, Q, nL0, cells, slots⟩ := X
  obtain ⟨hx, hb, hml, hown, hts, hK, hI, rfl, hfr, hlo, hcl, hsl⟩ := C
  intro H locs ls hP hS hl
  exact lv_aload_n hx hb d hi (hl.2.2 i _ hk).1 (k H locs ls hP hS hl)

theorem wk_aload {X : wk_X} {V : wd_V} {h : Hp} {pc : Nat} {lv : List (Nat × Value)} {st : List Value} {cc : ByteArray} {own : String} {nL fr lo : Nat} (C : wk_C X V cc own nL fr lo) {i : Nat} {x : Nat} (d : decode cc pc = .ok (.aload i, 2)) (hk : lv.lookup i = some (.ref x)) (k : WW X V h (pc + 2) lv (.ref x :: st)) : WW X V h pc lv (st) := by
  obtain ⟨p, l, e, R, s, m, args, below, meth, c, Q, nL0, cells, slots⟩ := X
  obtain ⟨hx, hb, hml, hown, hts, hK, hI, rfl, hfr, hlo, hcl, hsl⟩ := C
  intro H locs ls hP hS hl
  exact lv_aload hx hb d (hl.2.2 i _ hk).1 (k H locs ls hP hS hl)

theorem wk_aload_nN {X : wk_X} {V : wd_V} {h : Hp} {pc : Nat} {lv : List (Nat × Value)} {st : List Value} {cc : ByteArray} {own : String} {nL fr lo : Nat} (C : wk_C X V cc own nL fr lo) {n : Fin 4} (i : Nat) (d : decode cc pc = .ok (.aload_n n, 1)) (hi : (n : Nat) = i) (hk : lv.lookup i = some .null) (k : WW X V h (pc + 1) lv (.null :: st)) : WW X V h pc lv (st) := by
  obtain ⟨p, l, e, R, s, m, args, below, meth, c, Q, nL0, cells, slots⟩ := X
  obtain ⟨hx, hb, hml, hown, hts, hK, hI, rfl, hfr, hlo, hcl, hsl⟩ := C
  intro H locs ls hP hS hl
  exact lv_aload_nN hx hb d hi (hl.2.2 i _ hk).1 (k H locs ls hP hS hl)

theorem wk_aloadN {X : wk_X} {V : wd_V} {h : Hp} {pc : Nat} {lv : List (Nat × Value)} {st : List Value} {cc : ByteArray} {own : String} {nL fr lo : Nat} (C : wk_C X V cc own nL fr lo) {i : Nat} (d : decode cc pc = .ok (.aload i, 2)) (hk : lv.lookup i = some .null) (k : WW X V h (pc + 2) lv (.null :: st)) : WW X V h pc lv (st) := by
  obtain ⟨p, l, e, R, s, m, args, below, meth, c, Q, nL0, cells, slots⟩ := X
  obtain ⟨hx, hb, hml, hown, hts, hK, hI, rfl, hfr, hlo, hcl, hsl⟩ := C
  intro H locs ls hP hS hl
  exact lv_aloadN hx hb d (hl.2.2 i _ hk).1 (k H locs ls hP hS hl)

theorem wk_aloadq {X : wk_X} {V : wd_V} {h : Hp} {pc : Nat} {lv : List (Nat × Value)} {st : List Value} {cc : ByteArray} {own : String} {nL fr lo : Nat} (C : wk_C X V cc own nL fr lo) {i : Nat} {o : Option Nat} (d : decode cc pc = .ok (.aload i, 2)) (hk : lv.lookup i = some (va_rf o)) (k : WW X V h (pc + 2) lv (va_rf o :: st)) : WW X V h pc lv st := by
  cases o with
  | none => exact wk_aloadN C d hk k
  | some x => exact wk_aload C d hk k
theorem wk_aload_nq {X : wk_X} {V : wd_V} {h : Hp} {pc : Nat} {lv : List (Nat × Value)} {st : List Value} {cc : ByteArray} {own : String} {nL fr lo : Nat} (C : wk_C X V cc own nL fr lo) {n : Fin 4} (i : Nat) {o : Option Nat} (d : decode cc pc = .ok (.aload_n n, 1)) (hi : (n : Nat) = i) (hk : lv.lookup i = some (va_rf o)) (k : WW X V h (pc + 1) lv (va_rf o :: st)) : WW X V h pc lv st := by
  cases o with
  | none => exact wk_aload_nN C i d hi hk k
  | some x => exact wk_aload_n C i d hi hk k

theorem wk_istore_n {X : wk_X} {V : wd_V} {h : Hp} {pc : Nat} {lv : List (Nat × Value)} {st : List Value} {cc : ByteArray} {own : String} {nL fr lo : Nat} (C : wk_C X V cc own nL fr lo) {n : Fin 4} (i : Nat) {x : Int32} (d : decode cc pc = .ok (.istore_n n, 1)) (hi : (n : Nat) = i) (hn : i < nL) (k : WW X V h (pc + 1) ((i, .int x) :: lv) st) : WW X V h pc lv (.int x :: st) := by
  obtain ⟨p, l, e, R, s, m, args, below, meth, c, Q, nL0, cells, slots⟩ := X
  obtain ⟨hx, hb, hml, hown, hts, hK, hI, rfl, hfr, hlo, hcl, hsl⟩ := C
  intro H locs ls hP hS hl
  subst hi
  obtain ⟨ls', e', h'⟩ := wk_store1 (v := .int x) hl hn rfl
  intro T hT Z
  obtain ⟨t, a, b⟩ := k H locs ls' hP hS h' T hT Z
  refine ⟨t, ?_, b⟩
  jvm_step Z.here [Z.here.top, ↓top_set Z.here.top, hx, hb, d, e']
  exact a

theorem wk_istore {X : wk_X} {V : wd_V} {h : Hp} {pc : Nat} {lv : List (Nat × Value)} {st : List Value} {cc : ByteArray} {own : String} {nL fr lo : Nat} (C : wk_C X V cc own nL fr lo) {i : Nat} {x : Int32} (d : decode cc pc = .ok (.istore i, 2))  (hn : i < nL) (k : WW X V h (pc + 2) ((i, .int x) :: lv) st) : WW X V h pc lv (.int x :: st) := by
  obtain ⟨p, l, e, R, s, m, args, below, meth, c, Q, nL0, cells, slots⟩ := X
  obtain ⟨hx, hb, hml, hown, hts, hK, hI, rfl, hfr, hlo, hcl, hsl⟩ := C
  intro H locs ls hP hS hl
  obtain ⟨ls', e', h'⟩ := wk_store1 (v := .int x) hl hn rfl
  intro T hT Z
  obtain ⟨t, a, b⟩ := k H locs ls' hP hS h' T hT Z
  refine ⟨t, ?_, b⟩
  jvm_step Z.here [Z.here.top, ↓top_set Z.here.top, hx, hb, d, e']
  exact a

theorem wk_astore_n {X : wk_X} {V : wd_V} {h : Hp} {pc : Nat} {lv : List (Nat × Value)} {st : List Value} {cc : ByteArray} {own : String} {nL fr lo : Nat} (C : wk_C X V cc own nL fr lo) {n : Fin 4} (i : Nat) {x : Nat} (d : decode cc pc = .ok (.astore_n n, 1)) (hi : (n : Nat) = i) (hn : i < nL) (k : WW X V h (pc + 1) ((i, .ref x) :: lv) st) : WW X V h pc lv (.ref x :: st) := by
  obtain ⟨p, l, e, R, s, m, args, below, meth, c, Q, nL0, cells, slots⟩ := X
  obtain ⟨hx, hb, hml, hown, hts, hK, hI, rfl, hfr, hlo, hcl, hsl⟩ := C
  intro H locs ls hP hS hl
  subst hi
  obtain ⟨ls', e', h'⟩ := wk_store1 (v := .ref x) hl hn rfl
  intro T hT Z
  obtain ⟨t, a, b⟩ := k H locs ls' hP hS h' T hT Z
  refine ⟨t, ?_, b⟩
  jvm_step Z.here [Z.here.top, ↓top_set Z.here.top, hx, hb, d, e', Value.isRef]
  exact a

theorem wk_astore {X : wk_X} {V : wd_V} {h : Hp} {pc : Nat} {lv : List (Nat × Value)} {st : List Value} {cc : ByteArray} {own : String} {nL fr lo : Nat} (C : wk_C X V cc own nL fr lo) {i : Nat} {x : Nat} (d : decode cc pc = .ok (.astore i, 2))  (hn : i < nL) (k : WW X V h (pc + 2) ((i, .ref x) :: lv) st) : WW X V h pc lv (.ref x :: st) := by
  obtain ⟨p, l, e, R, s, m, args, below, meth, c, Q, nL0, cells, slots⟩ := X
  obtain ⟨hx, hb, hml, hown, hts, hK, hI, rfl, hfr, hlo, hcl, hsl⟩ := C
  intro H locs ls hP hS hl
  obtain ⟨ls', e', h'⟩ := wk_store1 (v := .ref x) hl hn rfl
  intro T hT Z
  obtain ⟨t, a, b⟩ := k H locs ls' hP hS h' T hT Z
  refine ⟨t, ?_, b⟩
  jvm_step Z.here [Z.here.top, ↓top_set Z.here.top, hx, hb, d, e', Value.isRef]
  exact a

theorem wk_astore_nN {X : wk_X} {V : wd_V} {h : Hp} {pc : Nat} {lv : List (Nat × Value)} {st : List Value} {cc : ByteArray} {own : String} {nL fr lo : Nat} (C : wk_C X V cc own nL fr lo) {n : Fin 4} (i : Nat) (d : decode cc pc = .ok (.astore_n n, 1)) (hi : (n : Nat) = i) (hn : i < nL) (k : WW X V h (pc + 1) ((i, .null) :: lv) st) : WW X V h pc lv (.null :: st) := by
  obtain ⟨p, l, e, R, s, m, args, below, meth, c, Q, nL0, cells, slots⟩ := X
  obtain ⟨hx, hb, hml, hown, hts, hK, hI, rfl, hfr, hlo, hcl, hsl⟩ := C
  intro H locs ls hP hS hl
  subst hi
  obtain ⟨ls', e', h'⟩ := wk_store1 (v := .null) hl hn rfl
  intro T hT Z
  obtain ⟨t, a, b⟩ := k H locs ls' hP hS h' T hT Z
  refine ⟨t, ?_, b⟩
  jvm_step Z.here [Z.here.top, ↓top_set Z.here.top, hx, hb, d, e', Value.isRef]
  exact a

theorem wk_astoreN {X : wk_X} {V : wd_V} {h : Hp} {pc : Nat} {lv : List (Nat × Value)} {st : List Value} {cc : ByteArray} {own : String} {nL fr lo : Nat} (C : wk_C X V cc own nL fr lo) {i : Nat} (d : decode cc pc = .ok (.astore i, 2))  (hn : i < nL) (k : WW X V h (pc + 2) ((i, .null) :: lv) st) : WW X V h pc lv (.null :: st) := by
  obtain ⟨p, l, e, R, s, m, args, below, meth, c, Q, nL0, cells, slots⟩ := X
  obtain ⟨hx, hb, hml, hown, hts, hK, hI, rfl, hfr, hlo, hcl, hsl⟩ := C
  intro H locs ls hP hS hl
  obtain ⟨ls', e', h'⟩ := wk_store1 (v := .null) hl hn rfl
  intro T hT Z
  obtain ⟨t, a, b⟩ := k H locs ls' hP hS h' T hT Z
  refine ⟨t, ?_, b⟩
  jvm_step Z.here [Z.here.top, ↓top_set Z.here.top, hx, hb, d, e', Value.isRef]
  exact a

theorem wk_astoreq {X : wk_X} {V : wd_V} {h : Hp} {pc : Nat} {lv : List (Nat × Value)} {st : List Value} {cc : ByteArray} {own : String} {nL fr lo : Nat} (C : wk_C X V cc own nL fr lo) {i : Nat} {o : Option Nat} (d : decode cc pc = .ok (.astore i, 2)) (hn : i < nL) (k : WW X V h (pc + 2) ((i, va_rf o) :: lv) st) : WW X V h pc lv (va_rf o :: st) := by
  cases o with
  | none => exact wk_astoreN C d hn k
  | some x => exact wk_astore C d hn k
theorem wk_astore_nq {X : wk_X} {V : wd_V} {h : Hp} {pc : Nat} {lv : List (Nat × Value)} {st : List Value} {cc : ByteArray} {own : String} {nL fr lo : Nat} (C : wk_C X V cc own nL fr lo) {n : Fin 4} (i : Nat) {o : Option Nat} (d : decode cc pc = .ok (.astore_n n, 1)) (hi : (n : Nat) = i) (hn : i < nL) (k : WW X V h (pc + 1) ((i, va_rf o) :: lv) st) : WW X V h pc lv (va_rf o :: st) := by
  cases o with
  | none => exact wk_astore_nN C i d hi hn k
  | some x => exact wk_astore_n C i d hi hn k

theorem wk_iinc {X : wk_X} {V : wd_V} {h : Hp} {pc : Nat} {lv : List (Nat × Value)} {st : List Value} {cc : ByteArray} {own : String} {nL fr lo : Nat} (C : wk_C X V cc own nL fr lo) {i : Nat} {n : Int} {x v : Int32} (d : decode cc pc = .ok (.iinc i n, 3)) (hk : lv.lookup i = some (.int x)) (hv : Int32.ofInt n = v) (hn : i < nL) (k : WW X V h (pc + 3) ((i, .int (x + v)) :: lv) st) : WW X V h pc lv st := by
  obtain ⟨p, l, e, R, s, m, args, below, meth, c, Q, nL0, cells, slots⟩ := X
  obtain ⟨hx, hb, hml, hown, hts, hK, hI, rfl, hfr, hlo, hcl, hsl⟩ := C
  subst hv
  intro H locs ls hP hS hl
  have hg := (hl.2.2 i _ hk).1
  obtain ⟨ls', e', h'⟩ := wk_store1 (v := .int (x + Int32.ofInt n)) hl hn rfl
  intro T hT Z
  obtain ⟨t, a, b⟩ := k H locs ls' hP hS h' T hT Z
  refine ⟨t, ?_, b⟩
  jvm_step Z.here [Z.here.top, ↓top_set Z.here.top, hx, hb, d, hg, e']
  exact a

theorem wk_iadd {X : wk_X} {V : wd_V} {h : Hp} {pc : Nat} {lv : List (Nat × Value)} {st : List Value} {cc : ByteArray} {own : String} {nL fr lo : Nat} (C : wk_C X V cc own nL fr lo) {x y : Int32} (d : decode cc pc = .ok (.iadd, 1))  (k : WW X V h (pc + 1) lv (.int (x + y) :: st)) : WW X V h pc lv (.int y :: .int x :: st) := by
  obtain ⟨p, l, e, R, s, m, args, below, meth, c, Q, nL0, cells, slots⟩ := X
  obtain ⟨hx, hb, hml, hown, hts, hK, hI, rfl, hfr, hlo, hcl, hsl⟩ := C
  intro H locs ls hP hS hl
  exact lv_iadd hx hb d (k H locs ls hP hS hl)

theorem wk_isub {X : wk_X} {V : wd_V} {h : Hp} {pc : Nat} {lv : List (Nat × Value)} {st : List Value} {cc : ByteArray} {own : String} {nL fr lo : Nat} (C : wk_C X V cc own nL fr lo) {x y : Int32} (d : decode cc pc = .ok (.isub, 1))  (k : WW X V h (pc + 1) lv (.int (x - y) :: st)) : WW X V h pc lv (.int y :: .int x :: st) := by
  obtain ⟨p, l, e, R, s, m, args, below, meth, c, Q, nL0, cells, slots⟩ := X
  obtain ⟨hx, hb, hml, hown, hts, hK, hI, rfl, hfr, hlo, hcl, hsl⟩ := C
  intro H locs ls hP hS hl
  exact lv_isub hx hb d (k H locs ls hP hS hl)

theorem wk_imul {X : wk_X} {V : wd_V} {h : Hp} {pc : Nat} {lv : List (Nat × Value)} {st : List Value} {cc : ByteArray} {own : String} {nL fr lo : Nat} (C : wk_C X V cc own nL fr lo) {x y : Int32} (d : decode cc pc = .ok (.imul, 1))  (k : WW X V h (pc + 1) lv (.int (x * y) :: st)) : WW X V h pc lv (.int y :: .int x :: st) := by
  obtain ⟨p, l, e, R, s, m, args, below, meth, c, Q, nL0, cells, slots⟩ := X
  obtain ⟨hx, hb, hml, hown, hts, hK, hI, rfl, hfr, hlo, hcl, hsl⟩ := C
  intro H locs ls hP hS hl
  exact lv_imul hx hb d (k H locs ls hP hS hl)

theorem wk_iand {X : wk_X} {V : wd_V} {h : Hp} {pc : Nat} {lv : List (Nat × Value)} {st : List Value} {cc : ByteArray} {own : String} {nL fr lo : Nat} (C : wk_C X V cc own nL fr lo) {x y : Int32} (d : decode cc pc = .ok (.iand, 1))  (k : WW X V h (pc + 1) lv (.int (x &&& y) :: st)) : WW X V h pc lv (.int y :: .int x :: st) := by
  obtain ⟨p, l, e, R, s, m, args, below, meth, c, Q, nL0, cells, slots⟩ := X
  obtain ⟨hx, hb, hml, hown, hts, hK, hI, rfl, hfr, hlo, hcl, hsl⟩ := C
  intro H locs ls hP hS hl
  exact lv_iand hx hb d (k H locs ls hP hS hl)

theorem wk_ior {X : wk_X} {V : wd_V} {h : Hp} {pc : Nat} {lv : List (Nat × Value)} {st : List Value} {cc : ByteArray} {own : String} {nL fr lo : Nat} (C : wk_C X V cc own nL fr lo) {x y : Int32} (d : decode cc pc = .ok (.ior, 1))  (k : WW X V h (pc + 1) lv (.int (x ||| y) :: st)) : WW X V h pc lv (.int y :: .int x :: st) := by
  obtain ⟨p, l, e, R, s, m, args, below, meth, c, Q, nL0, cells, slots⟩ := X
  obtain ⟨hx, hb, hml, hown, hts, hK, hI, rfl, hfr, hlo, hcl, hsl⟩ := C
  intro H locs ls hP hS hl
  exact lv_ior hx hb d (k H locs ls hP hS hl)

theorem wk_ixor {X : wk_X} {V : wd_V} {h : Hp} {pc : Nat} {lv : List (Nat × Value)} {st : List Value} {cc : ByteArray} {own : String} {nL fr lo : Nat} (C : wk_C X V cc own nL fr lo) {x y : Int32} (d : decode cc pc = .ok (.ixor, 1))  (k : WW X V h (pc + 1) lv (.int (x ^^^ y) :: st)) : WW X V h pc lv (.int y :: .int x :: st) := by
  obtain ⟨p, l, e, R, s, m, args, below, meth, c, Q, nL0, cells, slots⟩ := X
  obtain ⟨hx, hb, hml, hown, hts, hK, hI, rfl, hfr, hlo, hcl, hsl⟩ := C
  intro H locs ls hP hS hl
  exact lv_ixor hx hb d (k H locs ls hP hS hl)

theorem wk_ineg {X : wk_X} {V : wd_V} {h : Hp} {pc : Nat} {lv : List (Nat × Value)} {st : List Value} {cc : ByteArray} {own : String} {nL fr lo : Nat} (C : wk_C X V cc own nL fr lo) {x : Int32} (d : decode cc pc = .ok (.ineg, 1))  (k : WW X V h (pc + 1) lv (.int (-x) :: st)) : WW X V h pc lv (.int x :: st) := by
  obtain ⟨p, l, e, R, s, m, args, below, meth, c, Q, nL0, cells, slots⟩ := X
  obtain ⟨hx, hb, hml, hown, hts, hK, hI, rfl, hfr, hlo, hcl, hsl⟩ := C
  intro H locs ls hP hS hl
  exact lv_ineg hx hb d (k H locs ls hP hS hl)

theorem wk_idiv {X : wk_X} {V : wd_V} {h : Hp} {pc : Nat} {lv : List (Nat × Value)} {st : List Value} {cc : ByteArray} {own : String} {nL fr lo : Nat} (C : wk_C X V cc own nL fr lo) {x y : Int32} (d : decode cc pc = .ok (.idiv, 1)) (hne : ¬ y = 0) (k : WW X V h (pc + 1) lv (.int (x / y) :: st)) : WW X V h pc lv (.int y :: .int x :: st) := by
  obtain ⟨p, l, e, R, s, m, args, below, meth, c, Q, nL0, cells, slots⟩ := X
  obtain ⟨hx, hb, hml, hown, hts, hK, hI, rfl, hfr, hlo, hcl, hsl⟩ := C
  intro H locs ls hP hS hl
  exact lv_idiv hx hb d hne (k H locs ls hP hS hl)

theorem wk_irem {X : wk_X} {V : wd_V} {h : Hp} {pc : Nat} {lv : List (Nat × Value)} {st : List Value} {cc : ByteArray} {own : String} {nL fr lo : Nat} (C : wk_C X V cc own nL fr lo) {x y : Int32} (d : decode cc pc = .ok (.irem, 1)) (hne : ¬ y = 0) (k : WW X V h (pc + 1) lv (.int (x - x / y * y) :: st)) : WW X V h pc lv (.int y :: .int x :: st) := by
  obtain ⟨p, l, e, R, s, m, args, below, meth, c, Q, nL0, cells, slots⟩ := X
  obtain ⟨hx, hb, hml, hown, hts, hK, hI, rfl, hfr, hlo, hcl, hsl⟩ := C
  intro H locs ls hP hS hl
  exact lv_irem hx hb d hne (k H locs ls hP hS hl)

theorem wk_ishl {X : wk_X} {V : wd_V} {h : Hp} {pc : Nat} {lv : List (Nat × Value)} {st : List Value} {cc : ByteArray} {own : String} {nL fr lo : Nat} (C : wk_C X V cc own nL fr lo) {x y : Int32} (d : decode cc pc = .ok (.ishl, 1))  (k : WW X V h (pc + 1) lv (.int (x <<< (y &&& 31)) :: st)) : WW X V h pc lv (.int y :: .int x :: st) := by
  obtain ⟨p, l, e, R, s, m, args, below, meth, c, Q, nL0, cells, slots⟩ := X
  obtain ⟨hx, hb, hml, hown, hts, hK, hI, rfl, hfr, hlo, hcl, hsl⟩ := C
  intro H locs ls hP hS hl
  exact lv_ishl hx hb d (k H locs ls hP hS hl)

theorem wk_ishr {X : wk_X} {V : wd_V} {h : Hp} {pc : Nat} {lv : List (Nat × Value)} {st : List Value} {cc : ByteArray} {own : String} {nL fr lo : Nat} (C : wk_C X V cc own nL fr lo) {x y : Int32} (d : decode cc pc = .ok (.ishr, 1))  (k : WW X V h (pc + 1) lv (.int (x >>> (y &&& 31)) :: st)) : WW X V h pc lv (.int y :: .int x :: st) := by
  obtain ⟨p, l, e, R, s, m, args, below, meth, c, Q, nL0, cells, slots⟩ := X
  obtain ⟨hx, hb, hml, hown, hts, hK, hI, rfl, hfr, hlo, hcl, hsl⟩ := C
  intro H locs ls hP hS hl
  exact lv_ishr hx hb d (k H locs ls hP hS hl)

theorem wk_iushr {X : wk_X} {V : wd_V} {h : Hp} {pc : Nat} {lv : List (Nat × Value)} {st : List Value} {cc : ByteArray} {own : String} {nL fr lo : Nat} (C : wk_C X V cc own nL fr lo) {x y : Int32} (d : decode cc pc = .ok (.iushr, 1))  (k : WW X V h (pc + 1) lv (.int ((x.toUInt32 >>> (y.toUInt32 &&& Int32.toUInt32 31)).toInt32) :: st)) : WW X V h pc lv (.int y :: .int x :: st) := by
  obtain ⟨p, l, e, R, s, m, args, below, meth, c, Q, nL0, cells, slots⟩ := X
  obtain ⟨hx, hb, hml, hown, hts, hK, hI, rfl, hfr, hlo, hcl, hsl⟩ := C
  intro H locs ls hP hS hl
  exact lv_iushr hx hb d rfl (k H locs ls hP hS hl)

theorem wk_i2b {X : wk_X} {V : wd_V} {h : Hp} {pc : Nat} {lv : List (Nat × Value)} {st : List Value} {cc : ByteArray} {own : String} {nL fr lo : Nat} (C : wk_C X V cc own nL fr lo) {x : Int32} (d : decode cc pc = .ok (.i2b, 1))  (k : WW X V h (pc + 1) lv (.int (x.toInt8.toInt32) :: st)) : WW X V h pc lv (.int x :: st) := by
  obtain ⟨p, l, e, R, s, m, args, below, meth, c, Q, nL0, cells, slots⟩ := X
  obtain ⟨hx, hb, hml, hown, hts, hK, hI, rfl, hfr, hlo, hcl, hsl⟩ := C
  intro H locs ls hP hS hl
  exact lv_i2b hx hb d rfl (k H locs ls hP hS hl)

theorem wk_i2l {X : wk_X} {V : wd_V} {h : Hp} {pc : Nat} {lv : List (Nat × Value)} {st : List Value} {cc : ByteArray} {own : String} {nL fr lo : Nat} (C : wk_C X V cc own nL fr lo) {x : Int32} (d : decode cc pc = .ok (.i2l, 1))  (k : WW X V h (pc + 1) lv (.long (x.toInt64) :: st)) : WW X V h pc lv (.int x :: st) := by
  obtain ⟨p, l, e, R, s, m, args, below, meth, c, Q, nL0, cells, slots⟩ := X
  obtain ⟨hx, hb, hml, hown, hts, hK, hI, rfl, hfr, hlo, hcl, hsl⟩ := C
  intro H locs ls hP hS hl
  exact lv_i2l hx hb d rfl (k H locs ls hP hS hl)

theorem wk_l2i {X : wk_X} {V : wd_V} {h : Hp} {pc : Nat} {lv : List (Nat × Value)} {st : List Value} {cc : ByteArray} {own : String} {nL fr lo : Nat} (C : wk_C X V cc own nL fr lo) {x : Int64} (d : decode cc pc = .ok (.l2i, 1))  (k : WW X V h (pc + 1) lv (.int (x.toInt32) :: st)) : WW X V h pc lv (.long x :: st) := by
  obtain ⟨p, l, e, R, s, m, args, below, meth, c, Q, nL0, cells, slots⟩ := X
  obtain ⟨hx, hb, hml, hown, hts, hK, hI, rfl, hfr, hlo, hcl, hsl⟩ := C
  intro H locs ls hP hS hl
  exact lv_l2i hx hb d rfl (k H locs ls hP hS hl)

theorem wk_ladd {X : wk_X} {V : wd_V} {h : Hp} {pc : Nat} {lv : List (Nat × Value)} {st : List Value} {cc : ByteArray} {own : String} {nL fr lo : Nat} (C : wk_C X V cc own nL fr lo) {x y : Int64} (d : decode cc pc = .ok (.ladd, 1))  (k : WW X V h (pc + 1) lv (.long (x + y) :: st)) : WW X V h pc lv (.long y :: .long x :: st) := by
  obtain ⟨p, l, e, R, s, m, args, below, meth, c, Q, nL0, cells, slots⟩ := X
  obtain ⟨hx, hb, hml, hown, hts, hK, hI, rfl, hfr, hlo, hcl, hsl⟩ := C
  intro H locs ls hP hS hl
  exact lv_ladd hx hb d (k H locs ls hP hS hl)

theorem wk_lsub {X : wk_X} {V : wd_V} {h : Hp} {pc : Nat} {lv : List (Nat × Value)} {st : List Value} {cc : ByteArray} {own : String} {nL fr lo : Nat} (C : wk_C X V cc own nL fr lo) {x y : Int64} (d : decode cc pc = .ok (.lsub, 1))  (k : WW X V h (pc + 1) lv (.long (x - y) :: st)) : WW X V h pc lv (.long y :: .long x :: st) := by
  obtain ⟨p, l, e, R, s, m, args, below, meth, c, Q, nL0, cells, slots⟩ := X
  obtain ⟨hx, hb, hml, hown, hts, hK, hI, rfl, hfr, hlo, hcl, hsl⟩ := C
  intro H locs ls hP hS hl
  exact lv_lsub hx hb d (k H locs ls hP hS hl)

theorem wk_lmul {X : wk_X} {V : wd_V} {h : Hp} {pc : Nat} {lv : List (Nat × Value)} {st : List Value} {cc : ByteArray} {own : String} {nL fr lo : Nat} (C : wk_C X V cc own nL fr lo) {x y : Int64} (d : decode cc pc = .ok (.lmul, 1))  (k : WW X V h (pc + 1) lv (.long (x * y) :: st)) : WW X V h pc lv (.long y :: .long x :: st) := by
  obtain ⟨p, l, e, R, s, m, args, below, meth, c, Q, nL0, cells, slots⟩ := X
  obtain ⟨hx, hb, hml, hown, hts, hK, hI, rfl, hfr, hlo, hcl, hsl⟩ := C
  intro H locs ls hP hS hl
  exact lv_lmul hx hb d (k H locs ls hP hS hl)

theorem wk_lcmp {X : wk_X} {V : wd_V} {h : Hp} {pc : Nat} {lv : List (Nat × Value)} {st : List Value} {cc : ByteArray} {own : String} {nL fr lo : Nat} (C : wk_C X V cc own nL fr lo) {x y : Int64} (d : decode cc pc = .ok (.lcmp, 1))  (k : WW X V h (pc + 1) lv (.int (lg_cmp x y) :: st)) : WW X V h pc lv (.long y :: .long x :: st) := by
  obtain ⟨p, l, e, R, s, m, args, below, meth, c, Q, nL0, cells, slots⟩ := X
  obtain ⟨hx, hb, hml, hown, hts, hK, hI, rfl, hfr, hlo, hcl, hsl⟩ := C
  intro H locs ls hP hS hl
  exact W.lcmp hx hb d (k H locs ls hP hS hl)

theorem wk_dup {X : wk_X} {V : wd_V} {h : Hp} {pc : Nat} {lv : List (Nat × Value)} {st : List Value} {cc : ByteArray} {own : String} {nL fr lo : Nat} (C : wk_C X V cc own nL fr lo) {va : Value} (d : decode cc pc = .ok (.dup, 1)) (hva : va.category = 1) (k : WW X V h (pc + 1) lv (va :: va :: st)) : WW X V h pc lv (va :: st) := by
  obtain ⟨p, l, e, R, s, m, args, below, meth, c, Q, nL0, cells, slots⟩ := X
  obtain ⟨hx, hb, hml, hown, hts, hK, hI, rfl, hfr, hlo, hcl, hsl⟩ := C
  intro H locs ls hP hS hl
  exact lv_dup hx hb d hva (k H locs ls hP hS hl)

theorem wk_pop {X : wk_X} {V : wd_V} {h : Hp} {pc : Nat} {lv : List (Nat × Value)} {st : List Value} {cc : ByteArray} {own : String} {nL fr lo : Nat} (C : wk_C X V cc own nL fr lo) {va : Value} (d : decode cc pc = .ok (.pop, 1)) (hva : va.category = 1) (k : WW X V h (pc + 1) lv (st)) : WW X V h pc lv (va :: st) := by
  obtain ⟨p, l, e, R, s, m, args, below, meth, c, Q, nL0, cells, slots⟩ := X
  obtain ⟨hx, hb, hml, hown, hts, hK, hI, rfl, hfr, hlo, hcl, hsl⟩ := C
  intro H locs ls hP hS hl
  exact lv_pop hx hb d hva (k H locs ls hP hS hl)

theorem wk_dup2 {X : wk_X} {V : wd_V} {h : Hp} {pc : Nat} {lv : List (Nat × Value)} {st : List Value} {cc : ByteArray} {own : String} {nL fr lo : Nat} (C : wk_C X V cc own nL fr lo) {va vb : Value} (d : decode cc pc = .ok (.dup2, 1)) (hva : va.category = 1) (hvb : vb.category = 1) (k : WW X V h (pc + 1) lv (va :: vb :: va :: vb :: st)) : WW X V h pc lv (va :: vb :: st) := by
  obtain ⟨p, l, e, R, s, m, args, below, meth, c, Q, nL0, cells, slots⟩ := X
  obtain ⟨hx, hb, hml, hown, hts, hK, hI, rfl, hfr, hlo, hcl, hsl⟩ := C
  intro H locs ls hP hS hl
  exact lv_dup2_11 hx hb d hva hvb (k H locs ls hP hS hl)

theorem wk_null {X : wk_X} {V : wd_V} {h : Hp} {pc : Nat} {lv : List (Nat × Value)} {st : List Value} {cc : ByteArray} {own : String} {nL fr lo : Nat} (C : wk_C X V cc own nL fr lo)  (d : decode cc pc = .ok (.aconst_null, 1))  (k : WW X V h (pc + 1) lv (.null :: st)) : WW X V h pc lv (st) := by
  obtain ⟨p, l, e, R, s, m, args, below, meth, c, Q, nL0, cells, slots⟩ := X
  obtain ⟨hx, hb, hml, hown, hts, hK, hI, rfl, hfr, hlo, hcl, hsl⟩ := C
  intro H locs ls hP hS hl
  exact lv_null hx hb d (k H locs ls hP hS hl)

theorem wk_if_eq {X : wk_X} {V : wd_V} {h : Hp} {pc : Nat} {lv : List (Nat × Value)} {st : List Value} {cc : ByteArray} {own : String} {nL fr lo : Nat} (C : wk_C X V cc own nL fr lo) {β : Type} {a b : Option β} {r : β} {x : Int32} {off : Int} {tgt : Nat} (d : decode cc pc = .ok (.ifCond .eq off, 3)) (ht : (pc : Int) + off = (tgt : Int)) (hf : (if x = 0 then a else b) = some r) (kt : x = 0 → a = some r → WW X V h tgt lv st) (kf : ¬ x = 0 → b = some r → WW X V h (pc + 3) lv st) : WW X V h pc lv (.int x :: st) := by
  obtain ⟨p, l, e, R, s, m, args, below, meth, c, Q, nL0, cells, slots⟩ := X
  obtain ⟨hx, hb, hml, hown, hts, hK, hI, rfl, hfr, hlo, hcl, hsl⟩ := C
  intro H locs ls hP hS hl
  exact lv_if_eq hx hb d ht (fun z => kt z ((if_pos z).symm.trans hf) H locs ls hP hS hl) (fun z => kf z ((if_neg z).symm.trans hf) H locs ls hP hS hl)

theorem wk_icmp_eq {X : wk_X} {V : wd_V} {h : Hp} {pc : Nat} {lv : List (Nat × Value)} {st : List Value} {cc : ByteArray} {own : String} {nL fr lo : Nat} (C : wk_C X V cc own nL fr lo) {β : Type} {a b : Option β} {r : β} {x y : Int32} {off : Int} {tgt : Nat} (d : decode cc pc = .ok (.if_icmp .eq off, 3)) (ht : (pc : Int) + off = (tgt : Int)) (hf : (if x = y then a else b) = some r) (kt : x = y → a = some r → WW X V h tgt lv st) (kf : ¬ x = y → b = some r → WW X V h (pc + 3) lv st) : WW X V h pc lv (.int y :: .int x :: st) := by
  obtain ⟨p, l, e, R, s, m, args, below, meth, c, Q, nL0, cells, slots⟩ := X
  obtain ⟨hx, hb, hml, hown, hts, hK, hI, rfl, hfr, hlo, hcl, hsl⟩ := C
  intro H locs ls hP hS hl
  exact lv_icmp_eq hx hb d ht (fun z => kt z ((if_pos z).symm.trans hf) H locs ls hP hS hl) (fun z => kf z ((if_neg z).symm.trans hf) H locs ls hP hS hl)

theorem wk_if_ne {X : wk_X} {V : wd_V} {h : Hp} {pc : Nat} {lv : List (Nat × Value)} {st : List Value} {cc : ByteArray} {own : String} {nL fr lo : Nat} (C : wk_C X V cc own nL fr lo) {β : Type} {a b : Option β} {r : β} {x : Int32} {off : Int} {tgt : Nat} (d : decode cc pc = .ok (.ifCond .ne off, 3)) (ht : (pc : Int) + off = (tgt : Int)) (hf : (if x = 0 then a else b) = some r) (kt : ¬ x = 0 → b = some r → WW X V h tgt lv st) (kf : x = 0 → a = some r → WW X V h (pc + 3) lv st) : WW X V h pc lv (.int x :: st) := by
  obtain ⟨p, l, e, R, s, m, args, below, meth, c, Q, nL0, cells, slots⟩ := X
  obtain ⟨hx, hb, hml, hown, hts, hK, hI, rfl, hfr, hlo, hcl, hsl⟩ := C
  intro H locs ls hP hS hl
  exact lv_if_ne hx hb d ht (fun z => kt z ((if_neg z).symm.trans hf) H locs ls hP hS hl) (fun z => kf z ((if_pos z).symm.trans hf) H locs ls hP hS hl)

theorem wk_icmp_ne {X : wk_X} {V : wd_V} {h : Hp} {pc : Nat} {lv : List (Nat × Value)} {st : List Value} {cc : ByteArray} {own : String} {nL fr lo : Nat} (C : wk_C X V cc own nL fr lo) {β : Type} {a b : Option β} {r : β} {x y : Int32} {off : Int} {tgt : Nat} (d : decode cc pc = .ok (.if_icmp .ne off, 3)) (ht : (pc : Int) + off = (tgt : Int)) (hf : (if x = y then a else b) = some r) (kt : ¬ x = y → b = some r → WW X V h tgt lv st) (kf : x = y → a = some r → WW X V h (pc + 3) lv st) : WW X V h pc lv (.int y :: .int x :: st) := by
  obtain ⟨p, l, e, R, s, m, args, below, meth, c, Q, nL0, cells, slots⟩ := X
  obtain ⟨hx, hb, hml, hown, hts, hK, hI, rfl, hfr, hlo, hcl, hsl⟩ := C
  intro H locs ls hP hS hl
  exact lv_icmp_ne hx hb d ht (fun z => kt z ((if_neg z).symm.trans hf) H locs ls hP hS hl) (fun z => kf z ((if_pos z).symm.trans hf) H locs ls hP hS hl)

theorem wk_if_lt {X : wk_X} {V : wd_V} {h : Hp} {pc : Nat} {lv : List (Nat × Value)} {st : List Value} {cc : ByteArray} {own : String} {nL fr lo : Nat} (C : wk_C X V cc own nL fr lo) {β : Type} {a b : Option β} {r : β} {x : Int32} {off : Int} {tgt : Nat} (d : decode cc pc = .ok (.ifCond .lt off, 3)) (ht : (pc : Int) + off = (tgt : Int)) (hf : (if x < 0 then a else b) = some r) (kt : x < 0 → a = some r → WW X V h tgt lv st) (kf : ¬ x < 0 → b = some r → WW X V h (pc + 3) lv st) : WW X V h pc lv (.int x :: st) := by
  obtain ⟨p, l, e, R, s, m, args, below, meth, c, Q, nL0, cells, slots⟩ := X
  obtain ⟨hx, hb, hml, hown, hts, hK, hI, rfl, hfr, hlo, hcl, hsl⟩ := C
  intro H locs ls hP hS hl
  exact lv_if_lt hx hb d ht (fun z => kt z ((if_pos z).symm.trans hf) H locs ls hP hS hl) (fun z => kf z ((if_neg z).symm.trans hf) H locs ls hP hS hl)

theorem wk_icmp_lt {X : wk_X} {V : wd_V} {h : Hp} {pc : Nat} {lv : List (Nat × Value)} {st : List Value} {cc : ByteArray} {own : String} {nL fr lo : Nat} (C : wk_C X V cc own nL fr lo) {β : Type} {a b : Option β} {r : β} {x y : Int32} {off : Int} {tgt : Nat} (d : decode cc pc = .ok (.if_icmp .lt off, 3)) (ht : (pc : Int) + off = (tgt : Int)) (hf : (if x < y then a else b) = some r) (kt : x < y → a = some r → WW X V h tgt lv st) (kf : ¬ x < y → b = some r → WW X V h (pc + 3) lv st) : WW X V h pc lv (.int y :: .int x :: st) := by
  obtain ⟨p, l, e, R, s, m, args, below, meth, c, Q, nL0, cells, slots⟩ := X
  obtain ⟨hx, hb, hml, hown, hts, hK, hI, rfl, hfr, hlo, hcl, hsl⟩ := C
  intro H locs ls hP hS hl
  exact lv_icmp_lt hx hb d ht (fun z => kt z ((if_pos z).symm.trans hf) H locs ls hP hS hl) (fun z => kf z ((if_neg z).symm.trans hf) H locs ls hP hS hl)

theorem wk_if_ge {X : wk_X} {V : wd_V} {h : Hp} {pc : Nat} {lv : List (Nat × Value)} {st : List Value} {cc : ByteArray} {own : String} {nL fr lo : Nat} (C : wk_C X V cc own nL fr lo) {β : Type} {a b : Option β} {r : β} {x : Int32} {off : Int} {tgt : Nat} (d : decode cc pc = .ok (.ifCond .ge off, 3)) (ht : (pc : Int) + off = (tgt : Int)) (hf : (if 0 ≤ x then a else b) = some r) (kt : 0 ≤ x → a = some r → WW X V h tgt lv st) (kf : ¬ 0 ≤ x → b = some r → WW X V h (pc + 3) lv st) : WW X V h pc lv (.int x :: st) := by
  obtain ⟨p, l, e, R, s, m, args, below, meth, c, Q, nL0, cells, slots⟩ := X
  obtain ⟨hx, hb, hml, hown, hts, hK, hI, rfl, hfr, hlo, hcl, hsl⟩ := C
  intro H locs ls hP hS hl
  exact lv_if_ge hx hb d ht (fun z => kt z ((if_pos z).symm.trans hf) H locs ls hP hS hl) (fun z => kf z ((if_neg z).symm.trans hf) H locs ls hP hS hl)

theorem wk_icmp_ge {X : wk_X} {V : wd_V} {h : Hp} {pc : Nat} {lv : List (Nat × Value)} {st : List Value} {cc : ByteArray} {own : String} {nL fr lo : Nat} (C : wk_C X V cc own nL fr lo) {β : Type} {a b : Option β} {r : β} {x y : Int32} {off : Int} {tgt : Nat} (d : decode cc pc = .ok (.if_icmp .ge off, 3)) (ht : (pc : Int) + off = (tgt : Int)) (hf : (if y ≤ x then a else b) = some r) (kt : y ≤ x → a = some r → WW X V h tgt lv st) (kf : ¬ y ≤ x → b = some r → WW X V h (pc + 3) lv st) : WW X V h pc lv (.int y :: .int x :: st) := by
  obtain ⟨p, l, e, R, s, m, args, below, meth, c, Q, nL0, cells, slots⟩ := X
  obtain ⟨hx, hb, hml, hown, hts, hK, hI, rfl, hfr, hlo, hcl, hsl⟩ := C
  intro H locs ls hP hS hl
  exact lv_icmp_ge hx hb d ht (fun z => kt z ((if_pos z).symm.trans hf) H locs ls hP hS hl) (fun z => kf z ((if_neg z).symm.trans hf) H locs ls hP hS hl)

theorem wk_if_gt {X : wk_X} {V : wd_V} {h : Hp} {pc : Nat} {lv : List (Nat × Value)} {st : List Value} {cc : ByteArray} {own : String} {nL fr lo : Nat} (C : wk_C X V cc own nL fr lo) {β : Type} {a b : Option β} {r : β} {x : Int32} {off : Int} {tgt : Nat} (d : decode cc pc = .ok (.ifCond .gt off, 3)) (ht : (pc : Int) + off = (tgt : Int)) (hf : (if 0 < x then a else b) = some r) (kt : 0 < x → a = some r → WW X V h tgt lv st) (kf : ¬ 0 < x → b = some r → WW X V h (pc + 3) lv st) : WW X V h pc lv (.int x :: st) := by
  obtain ⟨p, l, e, R, s, m, args, below, meth, c, Q, nL0, cells, slots⟩ := X
  obtain ⟨hx, hb, hml, hown, hts, hK, hI, rfl, hfr, hlo, hcl, hsl⟩ := C
  intro H locs ls hP hS hl
  exact lv_if_gt hx hb d ht (fun z => kt z ((if_pos z).symm.trans hf) H locs ls hP hS hl) (fun z => kf z ((if_neg z).symm.trans hf) H locs ls hP hS hl)

theorem wk_icmp_gt {X : wk_X} {V : wd_V} {h : Hp} {pc : Nat} {lv : List (Nat × Value)} {st : List Value} {cc : ByteArray} {own : String} {nL fr lo : Nat} (C : wk_C X V cc own nL fr lo) {β : Type} {a b : Option β} {r : β} {x y : Int32} {off : Int} {tgt : Nat} (d : decode cc pc = .ok (.if_icmp .gt off, 3)) (ht : (pc : Int) + off = (tgt : Int)) (hf : (if y < x then a else b) = some r) (kt : y < x → a = some r → WW X V h tgt lv st) (kf : ¬ y < x → b = some r → WW X V h (pc + 3) lv st) : WW X V h pc lv (.int y :: .int x :: st) := by
  obtain ⟨p, l, e, R, s, m, args, below, meth, c, Q, nL0, cells, slots⟩ := X
  obtain ⟨hx, hb, hml, hown, hts, hK, hI, rfl, hfr, hlo, hcl, hsl⟩ := C
  intro H locs ls hP hS hl
  exact lv_icmp_gt hx hb d ht (fun z => kt z ((if_pos z).symm.trans hf) H locs ls hP hS hl) (fun z => kf z ((if_neg z).symm.trans hf) H locs ls hP hS hl)

theorem wk_if_le {X : wk_X} {V : wd_V} {h : Hp} {pc : Nat} {lv : List (Nat × Value)} {st : List Value} {cc : ByteArray} {own : String} {nL fr lo : Nat} (C : wk_C X V cc own nL fr lo) {β : Type} {a b : Option β} {r : β} {x : Int32} {off : Int} {tgt : Nat} (d : decode cc pc = .ok (.ifCond .le off, 3)) (ht : (pc : Int) + off = (tgt : Int)) (hf : (if x ≤ 0 then a else b) = some r) (kt : x ≤ 0 → a = some r → WW X V h tgt lv st) (kf : ¬ x ≤ 0 → b = some r → WW X V h (pc + 3) lv st) : WW X V h pc lv (.int x :: st) := by
  obtain ⟨p, l, e, R, s, m, args, below, meth, c, Q, nL0, cells, slots⟩ := X
  obtain ⟨hx, hb, hml, hown, hts, hK, hI, rfl, hfr, hlo, hcl, hsl⟩ := C
  intro H locs ls hP hS hl
  exact lv_if_le hx hb d ht (fun z => kt z ((if_pos z).symm.trans hf) H locs ls hP hS hl) (fun z => kf z ((if_neg z).symm.trans hf) H locs ls hP hS hl)

theorem wk_icmp_le {X : wk_X} {V : wd_V} {h : Hp} {pc : Nat} {lv : List (Nat × Value)} {st : List Value} {cc : ByteArray} {own : String} {nL fr lo : Nat} (C : wk_C X V cc own nL fr lo) {β : Type} {a b : Option β} {r : β} {x y : Int32} {off : Int} {tgt : Nat} (d : decode cc pc = .ok (.if_icmp .le off, 3)) (ht : (pc : Int) + off = (tgt : Int)) (hf : (if x ≤ y then a else b) = some r) (kt : x ≤ y → a = some r → WW X V h tgt lv st) (kf : ¬ x ≤ y → b = some r → WW X V h (pc + 3) lv st) : WW X V h pc lv (.int y :: .int x :: st) := by
  obtain ⟨p, l, e, R, s, m, args, below, meth, c, Q, nL0, cells, slots⟩ := X
  obtain ⟨hx, hb, hml, hown, hts, hK, hI, rfl, hfr, hlo, hcl, hsl⟩ := C
  intro H locs ls hP hS hl
  exact lv_icmp_le hx hb d ht (fun z => kt z ((if_pos z).symm.trans hf) H locs ls hP hS hl) (fun z => kf z ((if_neg z).symm.trans hf) H locs ls hP hS hl)

theorem wk_goto {X : wk_X} {V : wd_V} {h : Hp} {pc : Nat} {lv : List (Nat × Value)} {st : List Value} {cc : ByteArray} {own : String} {nL fr lo : Nat} (C : wk_C X V cc own nL fr lo) {off : Int} {tgt : Nat} (d : decode cc pc = .ok (.goto off, 3)) (ht : (pc : Int) + off = (tgt : Int)) (k : WW X V h tgt lv st) : WW X V h pc lv st := by
  obtain ⟨p, l, e, R, s, m, args, below, meth, c, Q, nL0, cells, slots⟩ := X
  obtain ⟨hx, hb, hml, hown, hts, hK, hI, rfl, hfr, hlo, hcl, hsl⟩ := C
  intro H locs ls hP hS hl
  exact lv_goto hx hb d ht (k H locs ls hP hS hl)

theorem wk_tableIn {X : wk_X} {V : wd_V} {h : Hp} {pc : Nat} {lv : List (Nat × Value)} {st : List Value} {cc : ByteArray} {own : String} {nL fr lo : Nat} (C : wk_C X V cc own nL fr lo) {dflt lo1 hi1 : Int} {offs : Array Int} {len : Nat} {x : Int32} {z off : Int} {tgt : Nat} (d : decode cc pc = .ok (.tableswitch dflt lo1 hi1 offs, len)) (hz : x.toInt = z) (h1 : ¬ z < lo1) (h2 : ¬ hi1 < z) (ho : offs[(z - lo1).toNat]? = some off) (ht : (pc : Int) + off = (tgt : Int)) (k : WW X V h tgt lv st) : WW X V h pc lv (.int x :: st) := by
  obtain ⟨p, l, e, R, s, m, args, below, meth, c, Q, nL0, cells, slots⟩ := X
  obtain ⟨hx, hb, hml, hown, hts, hK, hI, rfl, hfr, hlo, hcl, hsl⟩ := C
  intro H locs ls hP hS hl
  subst hz
  exact lv_tableIn hx hb d h1 h2 ho ht (k H locs ls hP hS hl)

theorem wk_tableOut {X : wk_X} {V : wd_V} {h : Hp} {pc : Nat} {lv : List (Nat × Value)} {st : List Value} {cc : ByteArray} {own : String} {nL fr lo : Nat} (C : wk_C X V cc own nL fr lo) {dflt lo1 hi1 : Int} {offs : Array Int} {len : Nat} {x : Int32} {tgt : Nat} (d : decode cc pc = .ok (.tableswitch dflt lo1 hi1 offs, len)) (h1 : x.toInt < lo1 ∨ hi1 < x.toInt) (ht : (pc : Int) + dflt = (tgt : Int)) (k : WW X V h tgt lv st) : WW X V h pc lv (.int x :: st) := by
  obtain ⟨p, l, e, R, s, m, args, below, meth, c, Q, nL0, cells, slots⟩ := X
  obtain ⟨hx, hb, hml, hown, hts, hK, hI, rfl, hfr, hlo, hcl, hsl⟩ := C
  intro H locs ls hP hS hl
  exact lv_tableOut hx hb d h1 ht (k H locs ls hP hS hl)

theorem wk_out6 {x : Int32} (c0 : ¬ x = 0) (c1 : ¬ x = 1) (c2 : ¬ x = 2) (c3 : ¬ x = 3) (c4 : ¬ x = 4) (c5 : ¬ x = 5) : x.toInt < 0 ∨ 5 < x.toInt := by
  apply Classical.byContradiction
  intro hc
  have hh : x.toInt = 0 ∨ x.toInt = 1 ∨ x.toInt = 2 ∨ x.toInt = 3 ∨ x.toInt = 4 ∨ x.toInt = 5 := by omega
  rcases hh with h | h | h | h | h | h
  · exact c0 (Int32.toInt_inj.mp h)
  · exact c1 (Int32.toInt_inj.mp h)
  · exact c2 (Int32.toInt_inj.mp h)
  · exact c3 (Int32.toInt_inj.mp h)
  · exact c4 (Int32.toInt_inj.mp h)
  · exact c5 (Int32.toInt_inj.mp h)
theorem wk_out16 {x : Int32} (c0 : ¬ x = 0) (c1 : ¬ x = 1) (c2 : ¬ x = 2) (c3 : ¬ x = 3) (c4 : ¬ x = 4) (c5 : ¬ x = 5) (c6 : ¬ x = 6) (c7 : ¬ x = 7) (c8 : ¬ x = 8) (c9 : ¬ x = 9) (c10 : ¬ x = 10) (c11 : ¬ x = 11) (c12 : ¬ x = 12) (c13 : ¬ x = 13) (c14 : ¬ x = 14) (c15 : ¬ x = 15) : x.toInt < 0 ∨ 15 < x.toInt := by
  apply Classical.byContradiction
  intro hc
  have hh : x.toInt = 0 ∨ x.toInt = 1 ∨ x.toInt = 2 ∨ x.toInt = 3 ∨ x.toInt = 4 ∨ x.toInt = 5 ∨ x.toInt = 6 ∨ x.toInt = 7 ∨ x.toInt = 8 ∨ x.toInt = 9 ∨ x.toInt = 10 ∨ x.toInt = 11 ∨ x.toInt = 12 ∨ x.toInt = 13 ∨ x.toInt = 14 ∨ x.toInt = 15 := by omega
  rcases hh with h | h | h | h | h | h | h | h | h | h | h | h | h | h | h | h
  · exact c0 (Int32.toInt_inj.mp h)
  · exact c1 (Int32.toInt_inj.mp h)
  · exact c2 (Int32.toInt_inj.mp h)
  · exact c3 (Int32.toInt_inj.mp h)
  · exact c4 (Int32.toInt_inj.mp h)
  · exact c5 (Int32.toInt_inj.mp h)
  · exact c6 (Int32.toInt_inj.mp h)
  · exact c7 (Int32.toInt_inj.mp h)
  · exact c8 (Int32.toInt_inj.mp h)
  · exact c9 (Int32.toInt_inj.mp h)
  · exact c10 (Int32.toInt_inj.mp h)
  · exact c11 (Int32.toInt_inj.mp h)
  · exact c12 (Int32.toInt_inj.mp h)
  · exact c13 (Int32.toInt_inj.mp h)
  · exact c14 (Int32.toInt_inj.mp h)
  · exact c15 (Int32.toInt_inj.mp h)
theorem wk_cat1 {av : List Value} (h : av.all (fun v => v.category == 1) = true) : ∀ i v, (lv_args 0 av).lookup i = some v → v.category = 1 := by
  have key : ∀ (l : List Value) (n : Nat), l.all (fun v => v.category == 1) = true → ∀ i v, (lv_args n l).lookup i = some v → v.category = 1 := by
    intro l
    induction l with
    | nil => intro n _ i v q; cases q
    | cons a l ih =>
      intro n hl i v q
      rw [List.all_cons, Bool.and_eq_true] at hl
      rw [lv_args, List.lookup_cons] at q
      by_cases hb : (i == n) = true
      · rw [hb] at q
        cases q
        simpa using hl.1
      · rw [Bool.not_eq_true] at hb
        rw [hb] at q
        exact ih _ hl.2 i v q
  exact key av 0 h

/-- an answer that may be none: what the rest is, by both cases -/
def oq {β : Type} (o : Option Nat) (a : Option β) (b : Nat → Option β) : Option β := match o with
  | none => a
  | some j => b j
theorem wk_ifnullq {X : wk_X} {V : wd_V} {h : Hp} {pc : Nat} {lv : List (Nat × Value)} {st : List Value} {cc : ByteArray} {own : String} {nL fr lo : Nat} (C : wk_C X V cc own nL fr lo) {β : Type} {o : Option Nat} {a : Option β} {b : Nat → Option β} {r : β} {g : Nat → Nat} {off : Int} {tgt : Nat} (d : decode cc pc = .ok (.ifnull off, 3)) (ht : (pc : Int) + off = (tgt : Int)) (hf : oq o a b = some r) (kt : o = none → a = some r → WW X V h tgt lv st) (kf : ∀ j, o = some j → b j = some r → WW X V h (pc + 3) lv st) : WW X V h pc lv (va_rf (o.map g) :: st) := by
  obtain ⟨p, l, e, R, s, m, args, below, meth, c, Q, nL0, cells, slots⟩ := X
  obtain ⟨hx, hb, hml, hown, hts, hK, hI, rfl, hfr, hlo, hcl, hsl⟩ := C
  intro H locs ls hP hS hl
  cases o with
  | none => exact lv_ifnullN hx hb d ht (kt rfl hf H locs ls hP hS hl)
  | some j => exact lv_ifnull hx hb d (kf j rfl hf H locs ls hP hS hl)
theorem wk_ifnonnullq {X : wk_X} {V : wd_V} {h : Hp} {pc : Nat} {lv : List (Nat × Value)} {st : List Value} {cc : ByteArray} {own : String} {nL fr lo : Nat} (C : wk_C X V cc own nL fr lo) {β : Type} {o : Option Nat} {a : Option β} {b : Nat → Option β} {r : β} {g : Nat → Nat} {off : Int} {tgt : Nat} (d : decode cc pc = .ok (.ifnonnull off, 3)) (ht : (pc : Int) + off = (tgt : Int)) (hf : oq o a b = some r) (kt : ∀ j, o = some j → b j = some r → WW X V h tgt lv st) (kf : o = none → a = some r → WW X V h (pc + 3) lv st) : WW X V h pc lv (va_rf (o.map g) :: st) := by
  obtain ⟨p, l, e, R, s, m, args, below, meth, c, Q, nL0, cells, slots⟩ := X
  obtain ⟨hx, hb, hml, hown, hts, hK, hI, rfl, hfr, hlo, hcl, hsl⟩ := C
  intro H locs ls hP hS hl
  cases o with
  | none => exact lv_ifnonnullN hx hb d (kf rfl hf H locs ls hP hS hl)
  | some j => exact lv_ifnonnull hx hb d ht (kt j rfl hf H locs ls hP hS hl)
/-- a check that the rest hangs on; a call whose answer the rest takes -/
def chk {β : Type} (c : Prop) [Decidable c] (k : Option β) : Option β := if c then k else none
theorem chk_some {β : Type} {c : Prop} [Decidable c] {k : Option β} {r : β} (hf : chk c k = some r) : c ∧ k = some r := by
  unfold chk at hf
  split at hf
  · exact ⟨by assumption, hf⟩
  · cases hf
theorem chk_t {β : Type} {c : Prop} [Decidable c] {k : Option β} (hc : c) : chk c k = k := by simp [chk, hc]
def bd {α β : Type} (o : Option (α × Hp)) (k : α → Hp → Option β) : Option β := match o with
  | none => none
  | some q => k q.1 q.2
theorem bd_some {α β : Type} {o : Option (α × Hp)} {k : α → Hp → Option β} {r : β} (hf : bd o k = some r) : ∃ a h, o = some (a, h) ∧ k a h = some r := by
  cases o with
  | none => cases hf
  | some q => exact ⟨q.1, q.2, rfl, hf⟩
theorem bd_t {α β : Type} {o : Option (α × Hp)} {k : α → Hp → Option β} {a : α} {h : Hp} (e : o = some (a, h)) : bd o k = k a h := by subst e; rfl
abbrev inR (i : Int32) (n : Nat) : Prop := ¬ i < 0 ∧ i.toNatClampNeg < n
theorem inR_vp {i : Int32} {n : Nat} (h : inR i n) : vp_in i n := fun q => by
  rcases q with q | q
  · exact h.1 q
  · exact absurd h.2 (Nat.not_lt.mpr q)
/-- how many turns a loop may take here: more than any takes -/
def fuel : Nat := 1000000
/-- a class's words, and one field of it as another class names it -/
def wk_Fd (V : wd_V) (own : String) (index : Nat) (ref CC : String) (T : u_T) (Nf ci k : Nat) : Prop := (∀ w ∈ u_ws CC T Nf, w ∈ lw_g) ∧ (wd_cl V)[ci]? = some (CC, T, Nf) ∧ k < Nf ∧ Cond.fieldLink own index ref (T k).2.1 (T k).2.2.1 ∈ lw_g ∧ (T k).1 = ref

theorem wk_get {X : wk_X} {V : wd_V} {h : Hp} {pc : Nat} {lv : List (Nat × Value)} {st : List Value} {cc : ByteArray} {own : String} {nL fr lo : Nat} (C : wk_C X V cc own nL fr lo) {i k ci index Nf : Nat} {ref CC : String} {T : u_T} {fs : List Value} {v : Value} (g : wk_Fd V own index ref CC T Nf ci k) (hi : i < wd_N V) (he : wd_E V i (h i) = .inr (ci, fs)) (hv : fs[k]? = some v) (d : decode cc pc = .ok (.getfield index, 3)) (kk : WW X V h (pc + 3) lv (v :: st)) : WW X V h pc lv (.ref (wd_ad V i) :: st) := by
  obtain ⟨p, l, e, R, s, m, args, below, meth, c, Q, nL0, cells, slots⟩ := X
  obtain ⟨hx, hb, hml, hown, hts, hK, hI, rfl, hfr, hlo, hcl, hsl⟩ := C
  intro H locs ls hP hS hl
  obtain ⟨g1, g2, g3, g4, g5⟩ := g
  exact va_get hx hb hts g1 hown hK hP i (by rw [wd_at hi, he]) g2 k g3 (hts _ g4) (fun x q => by rw [← g5]; exact q) hv d (kk H locs ls hP hS hl)

theorem wk_put {X : wk_X} {V : wd_V} {h : Hp} {pc : Nat} {lv : List (Nat × Value)} {st : List Value} {cc : ByteArray} {own : String} {nL fr lo : Nat} (C : wk_C X V cc own nL fr lo) {i k ci index Nf : Nat} {ref CC : String} {T : u_T} {ty0 : Nat → FieldType} {fs : List Value} {v : Int32} (g : wk_Fd V own index ref CC T Nf ci k) (hty : ∀ k, k < Nf → parseFieldDescriptor (T k).2.2.1 = some (ty0 k)) (hnm : ∀ a, a < Nf → ∀ b, b < Nf → a ≠ b → (T a).2.1 ≠ (T b).2.1) (hfin : (T k).2.2.2 = false) (hd : parseFieldDescriptor (T k).2.2.1 = some .int) (hi : i < wd_N V) (he : wd_E V i (h i) = .inr (ci, fs)) (hl0 : k < fs.length) (he2 : wd_E V i (upd (h i) k v) = .inr (ci, fs.set k (.int v))) (d : decode cc pc = .ok (.putfield index, 3)) (kk : WW X V (up2 h i k v) (pc + 3) lv st) : WW X V h pc lv (.int v :: .ref (wd_ad V i) :: st) := by
  obtain ⟨p, l, e, R, s, m, args, below, meth, c, Q, nL0, cells, slots⟩ := X
  obtain ⟨hx, hb, hml, hown, hts, hK, hI, rfl, hfr, hlo, hcl, hsl⟩ := C
  intro H locs ls hP hS hl
  obtain ⟨g1, g2, g3, g4, g5⟩ := g
  refine va_put hx hb hts g1 ty0 hty hnm hown hK hP (wd_Dof hI h) hS i (by rw [wd_at hi, he]) g2 k g3 (hts _ g4) (fun x q => by rw [← g5]; exact q) hfin hd rfl rfl hl0 d (fun H1 locs1 hP1 hD1 hS1 => ?_)
  rw [← he2, wd_set hi] at hP1
  exact kk H1 locs1 ls hP1 hS1 hl

theorem wk_iald {X : wk_X} {V : wd_V} {h : Hp} {pc : Nat} {lv : List (Nat × Value)} {st : List Value} {cc : ByteArray} {own : String} {nL fr lo : Nat} (C : wk_C X V cc own nL fr lo) {j n t0 : Nat} {cA : ClassId} {i : Int32} (hi : j < wd_N V) (he : wd_E V j (h j) = .inl (cA, n, .inl (h j))) (ht : (wd_ty V)[t0]? = some (cA, .int)) (hin : inR i n) (d : decode cc pc = .ok (.iaload, 1)) (kk : WW X V h (pc + 1) lv (.int (h j i.toNatClampNeg) :: st)) : WW X V h pc lv (.int i :: .ref (wd_ad V j) :: st) := by
  obtain ⟨p, l, e, R, s, m, args, below, meth, c, Q, nL0, cells, slots⟩ := X
  obtain ⟨hx, hb, hml, hown, hts, hK, hI, rfl, hfr, hlo, hcl, hsl⟩ := C
  intro H locs ls hP hS hl
  exact va_iald hx hb hK hP j t0 (by rw [wd_at hi, he]) ht (inR_vp hin) d (kk H locs ls hP hS hl)

theorem wk_bald {X : wk_X} {V : wd_V} {h : Hp} {pc : Nat} {lv : List (Nat × Value)} {st : List Value} {cc : ByteArray} {own : String} {nL fr lo : Nat} (C : wk_C X V cc own nL fr lo) {j n t0 : Nat} {cA : ClassId} {i : Int32} (hi : j < wd_N V) (he : wd_E V j (h j) = .inl (cA, n, .inl (h j))) (ht : (wd_ty V)[t0]? = some (cA, .byte)) (hin : inR i n) (d : decode cc pc = .ok (.baload, 1)) (kk : WW X V h (pc + 1) lv (.int (h j i.toNatClampNeg) :: st)) : WW X V h pc lv (.int i :: .ref (wd_ad V j) :: st) := by
  obtain ⟨p, l, e, R, s, m, args, below, meth, c, Q, nL0, cells, slots⟩ := X
  obtain ⟨hx, hb, hml, hown, hts, hK, hI, rfl, hfr, hlo, hcl, hsl⟩ := C
  intro H locs ls hP hS hl
  exact va_bald hx hb hK hP j t0 (by rw [wd_at hi, he]) ht (inR_vp hin) d (kk H locs ls hP hS hl)

theorem wk_iast {X : wk_X} {V : wd_V} {h : Hp} {pc : Nat} {lv : List (Nat × Value)} {st : List Value} {cc : ByteArray} {own : String} {nL fr lo : Nat} (C : wk_C X V cc own nL fr lo) {j n t0 : Nat} {cA : ClassId} {i x : Int32} (hi : j < wd_N V) (he : ∀ f, wd_E V j f = .inl (cA, n, .inl f)) (ht : (wd_ty V)[t0]? = some (cA, .int)) (hin : inR i n) (d : decode cc pc = .ok (.iastore, 1)) (kk : WW X V (up2 h j i.toNatClampNeg (x)) (pc + 1) lv st) : WW X V h pc lv (.int x :: .int i :: .ref (wd_ad V j) :: st) := by
  obtain ⟨p, l, e, R, s, m, args, below, meth, c, Q, nL0, cells, slots⟩ := X
  obtain ⟨hx, hb, hml, hown, hts, hK, hI, rfl, hfr, hlo, hcl, hsl⟩ := C
  intro H locs ls hP hS hl
  refine va_iast hx hb hK hP (wd_Dof hI h) hS j t0 (by rw [wd_at hi, he]) ht (inR_vp hin) d (fun H1 locs1 hP1 hD1 hS1 => ?_)
  rw [← he, wd_set hi] at hP1
  exact kk H1 locs1 ls hP1 hS1 hl

theorem wk_bast {X : wk_X} {V : wd_V} {h : Hp} {pc : Nat} {lv : List (Nat × Value)} {st : List Value} {cc : ByteArray} {own : String} {nL fr lo : Nat} (C : wk_C X V cc own nL fr lo) {j n t0 : Nat} {cA : ClassId} {i x : Int32} (hi : j < wd_N V) (he : ∀ f, wd_E V j f = .inl (cA, n, .inl f)) (ht : (wd_ty V)[t0]? = some (cA, .byte)) (hin : inR i n) (d : decode cc pc = .ok (.bastore, 1)) (kk : WW X V (up2 h j i.toNatClampNeg (vp_nar .byte x)) (pc + 1) lv st) : WW X V h pc lv (.int x :: .int i :: .ref (wd_ad V j) :: st) := by
  obtain ⟨p, l, e, R, s, m, args, below, meth, c, Q, nL0, cells, slots⟩ := X
  obtain ⟨hx, hb, hml, hown, hts, hK, hI, rfl, hfr, hlo, hcl, hsl⟩ := C
  intro H locs ls hP hS hl
  refine va_bast hx hb hK hP (wd_Dof hI h) hS j t0 (by rw [wd_at hi, he]) ht (inR_vp hin) d (fun H1 locs1 hP1 hD1 hS1 => ?_)
  rw [← he, wd_set hi] at hP1
  exact kk H1 locs1 ls hP1 hS1 hl

theorem wk_alen {X : wk_X} {V : wd_V} {h : Hp} {pc : Nat} {lv : List (Nat × Value)} {st : List Value} {cc : ByteArray} {own : String} {nL fr lo : Nat} (C : wk_C X V cc own nL fr lo) {j n t0 : Nat} {cA : ClassId} {x : vp_A} {ty : FieldType} {v : Int32} (hi : j < wd_N V) (he : wd_E V j (h j) = .inl (cA, x)) (ht : (wd_ty V)[t0]? = some (cA, ty)) (hv : Int32.ofNat x.1 = v) (d : decode cc pc = .ok (.arraylength, 1)) (kk : WW X V h (pc + 1) lv (.int v :: st)) : WW X V h pc lv (.ref (wd_ad V j) :: st) := by
  obtain ⟨p, l, e, R, s, m, args, below, meth, c, Q, nL0, cells, slots⟩ := X
  obtain ⟨hx, hb, hml, hown, hts, hK, hI, rfl, hfr, hlo, hcl, hsl⟩ := C
  intro H locs ls hP hS hl
  exact va_alen hx hb hK hP j t0 (by rw [wd_at hi, he]) ht hv d (kk H locs ls hP hS hl)

theorem wk_aald {X : wk_X} {V : wd_V} {h : Hp} {pc : Nat} {lv : List (Nat × Value)} {st : List Value} {cc : ByteArray} {own : String} {nL fr lo : Nat} (C : wk_C X V cc own nL fr lo) {j n t0 : Nat} {cA : ClassId} {CC : String} {f : Nat → Option Nat} {i : Int32} (hi : j < wd_N V) (he : wd_E V j (h j) = .inl (cA, n, .inr (.inr (.inr (.inr f))))) (ht : (wd_ty V)[t0]? = some (cA, .object CC)) (hin : inR i n) (d : decode cc pc = .ok (.aaload, 1)) (kk : WW X V h (pc + 1) lv (va_rf (f i.toNatClampNeg) :: st)) : WW X V h pc lv (.int i :: .ref (wd_ad V j) :: st) := by
  obtain ⟨p, l, e, R, s, m, args, below, meth, c, Q, nL0, cells, slots⟩ := X
  obtain ⟨hx, hb, hml, hown, hts, hK, hI, rfl, hfr, hlo, hcl, hsl⟩ := C
  intro H locs ls hP hS hl
  exact va_aldq hx hb hK hP j t0 (by rw [wd_at hi, he]) ht (inR_vp hin) d (kk H locs ls hP hS hl)

/-- a method's contract over the world: from h it ends with rv and h' -/
def wk_Pc (V : wd_V) (av : List Value) (h : Hp) : Array Value → State → Prop := va_Pc av (fun U => wd_P V h U.heap ∧ va_K (wd_D V) (wd_cl V) (wd_ty V) U)
def wk_Qc (V : wd_V) (rv : Option Value) (h' : Hp) : Array Value → State → Outcome → State → Prop := fun _ st oc t => oc = .returned rv ∧ wd_P V h' t.heap ∧ va_F (wd_A V) st t
def wk_M (l : Launch) (V : wd_V) (y : MethodName) (cc : ByteArray) (maxL : Nat) (ret : Option FieldType) (fr lo : Nat) (av : List Value) (h : Hp) (rv : Option Value) (h' : Hp) : Prop :=
  Met l y (Cond.code y cc maxL ret :: lw_g) ({ frames := fr, cells := 0, slots := 0, locals := lo }) (wk_Pc V av h) (wk_Qc V rv h') 0 0 (wd_A V)
def wk_Q (X : wk_X) (V : wd_V) (rv : Option Value) (h' : Hp) (ret : Option FieldType) : Prop :=
  match X with
  | (p, l, e, R, s, m, args, below, meth, c, Q, nL, cells, slots) => Q = MQ below (wk_Qc V rv h') args s cells slots (wd_A V) ∧ meth.sig.returnType = ret ∧ meth.locks = false
theorem wk_ireturn {X : wk_X} {V : wd_V} {h : Hp} {pc : Nat} {lv : List (Nat × Value)} {cc : ByteArray} {own : String} {nL fr lo : Nat} (C : wk_C X V cc own nL fr lo) {v : Int32} (q : wk_Q X V (some (.int v)) h (some .int)) (d : decode cc pc = .ok (.ireturn, 1)) : WW X V h pc lv [.int v] := by
  obtain ⟨p, l, e, R, s, m, args, below, meth, c, Q, nL0, cells, slots⟩ := X
  obtain ⟨hx, hb, hml, hown, hts, hK, hI, rfl, hfr, hlo, hcl, hsl⟩ := C
  intro H locs ls hP hS hl
  obtain ⟨rfl, hr, hlocks⟩ := q
  exact W.iret hx hb hr (fun t ht hW => ⟨rfl, by rw [ht]; exact hP, hS.F ht⟩) hS.2.2 d
theorem wk_zreturn {X : wk_X} {V : wd_V} {h : Hp} {pc : Nat} {lv : List (Nat × Value)} {cc : ByteArray} {own : String} {nL fr lo : Nat} (C : wk_C X V cc own nL fr lo) {v : Int32} (q : wk_Q X V (some (.int v)) h (some .boolean)) (hn : narrow .boolean (.int v) = .int v) (d : decode cc pc = .ok (.ireturn, 1)) : WW X V h pc lv [.int v] := by
  obtain ⟨p, l, e, R, s, m, args, below, meth, c, Q, nL0, cells, slots⟩ := X
  obtain ⟨hx, hb, hml, hown, hts, hK, hI, rfl, hfr, hlo, hcl, hsl⟩ := C
  intro H locs ls hP hS hl
  obtain ⟨rfl, hr, hlocks⟩ := q
  exact W.zret hx hb hr hn (fun t ht hW => ⟨rfl, by rw [ht]; exact hP, hS.F ht⟩) hS.2.2 d
theorem wk_return {X : wk_X} {V : wd_V} {h : Hp} {pc : Nat} {lv : List (Nat × Value)} {cc : ByteArray} {own : String} {nL fr lo : Nat} (C : wk_C X V cc own nL fr lo) (q : wk_Q X V none h none) (d : decode cc pc = .ok (.return_, 1)) : WW X V h pc lv [] := by
  obtain ⟨p, l, e, R, s, m, args, below, meth, c, Q, nL0, cells, slots⟩ := X
  obtain ⟨hx, hb, hml, hown, hts, hK, hI, rfl, hfr, hlo, hcl, hsl⟩ := C
  intro H locs ls hP hS hl
  obtain ⟨rfl, hr, hlocks⟩ := q
  exact W.vret hx hb hr (fun t ht hW => ⟨rfl, by rw [ht]; exact hP, hS.F ht⟩) hS.2.2 d
theorem wk_areturn {X : wk_X} {V : wd_V} {h : Hp} {pc : Nat} {lv : List (Nat × Value)} {cc : ByteArray} {own : String} {nL fr lo : Nat} (C : wk_C X V cc own nL fr lo) {o : Option Nat} {rt : String} (q : wk_Q X V (some (va_rf o)) h (some (.object rt))) (d : decode cc pc = .ok (.areturn, 1)) : WW X V h pc lv [va_rf o] := by
  obtain ⟨p, l, e, R, s, m, args, below, meth, c, Q, nL0, cells, slots⟩ := X
  obtain ⟨hx, hb, hml, hown, hts, hK, hI, rfl, hfr, hlo, hcl, hsl⟩ := C
  intro H locs ls hP hS hl
  obtain ⟨rfl, hr, hlocks⟩ := q
  exact W.aret hx hb hr (Or.inl ⟨_, rfl⟩) (by cases o with
    | none => exact Or.inl rfl
    | some a => exact Or.inr ⟨a, rfl⟩) (fun t ht hW => ⟨rfl, by rw [ht]; exact hP, hS.F ht⟩) hS.2.2 d

/-- Met.ofW for a method of a class some of whose methods are run by entries: this one isn't -/
theorem wk_ofW {l : Launch} {y : MethodName} {ws ws' : List Cond} {rm : Room} {Pc : Array Value → State → Prop} {Qc : Array Value → State → Outcome → State → Prop} {mc ms : Nat} {free : Addr → Prop} {cc : ByteArray} {maxL : Nat} {ret : Option FieldType}
    (hy : plainFor y = true) (hw : ws = Cond.code y cc maxL ret :: ws')
    (body : ∀ p e s m args below meth c s₁, BodyLoose p l y (headSpec ws rm) cc maxL ret e s m args below meth c s₁ → c.maxLocals = maxL → Pc args s →
      W p l e (headSpec ws rm).room s m args below meth c s.heap [] 0 0 (MQ below Qc args s mc ms free) (entryFrame m args maxL)) : Met l y ws rm Pc Qc mc ms free := by
  refine MetFree.of_bodySF (code := cc) (maxLocals := maxL) (ret := ret) hy ?_ ?_
  · intro args s m h hn
    obtain ⟨meth, c, h1, h2, h3, h4, h5, h6, -, -⟩ := Cond.code_spec hn (atoms_spec (ws := ws) h _ (by rw [hw]; exact List.mem_cons_self))
    exact ⟨meth, c, h1, h2, h3, h4, h5, h6⟩
  · intro p e s m args below meth c s₁ B hml hP _
    have hh0 : s₁.heap = s.heap := by rw [B.state]; rfl
    obtain ⟨t, a1, o, b1, b2, b3⟩ := body p e s m args below meth c s₁ B hml hP s₁ hh0 (Stand.of_body B)
    exact ⟨t, o, a1, b1, b2, ⟨b3.1, b3.2⟩⟩

/-- a body's walk gives its contract -/
theorem wk_met {l : Launch} {V : wd_V} {y : MethodName} {cc : ByteArray} {maxL fr lo : Nat} {ret : Option FieldType} {own : String} {av : List Value} {h h' : Hp} {rv : Option Value} (hI : wd_inj V) (hy : plainName y.cls = true) (ho : y.cls = own) (hlen : (lg_sl av).length ≤ maxL) (hcat : ∀ i v, (lv_args 0 av).lookup i = some v → v.category = 1)
    (body : ∀ X, X.2.1 = l → wk_C X V cc own maxL fr lo → wk_Q X V rv h' ret → WW X V h 0 (lv_args 0 av) []) : wk_M l V y cc maxL ret fr lo av h rv h' := by
  refine Met.ofW (cc := cc) (maxL := maxL) (ret := ret) hy rfl ?_
  intro p e s m args below meth c s₁ B hml hv
  obtain ⟨rfl, hP, hK⟩ := hv
  have hts0 := atoms_spec (ws := Cond.code y cc maxL ret :: lw_g) B.pre
  have hown : s.vm.findClass own = some m.cls := by rw [← ho]; exact findClass_of_methodNamed B.named
  have hl := lv_entry av hlen
  rw [lg_entry_eq]
  refine body (p, l, e, (headSpec (Cond.code y cc maxL ret :: lw_g) { frames := fr, cells := 0, slots := 0, locals := lo }).room, s, m, av.toArray, below, meth, c, _, maxL, 0, 0) rfl ⟨B.exec, B.bytes, hml, hown, fun w hw => hts0 w (List.mem_cons_of_mem _ hw), hK, hI, rfl, Nat.le_refl _, Nat.le_refl _, Nat.zero_le _, Nat.zero_le _⟩ ⟨rfl, B.returns, B.notSynchronized⟩ s.heap [] _ hP va_S.rf ⟨hl.1, hl.2.1, fun i v hv => ⟨?_, hcat i v hv⟩⟩
  have : ∀ (L : List (Nat × Value)), L.lookup i = some v → (i, v) ∈ L := by
    intro L
    induction L with
    | nil => intro q; cases q
    | cons a L ih =>
      intro q
      rw [List.lookup_cons] at q
      by_cases hb : (i == a.1) = true
      · rw [hb] at q
        have e1 : i = a.1 := by simpa using hb
        cases q
        rw [e1]
        exact List.mem_cons_self
      · rw [Bool.not_eq_true] at hb
        rw [hb] at q
        exact List.mem_cons_of_mem _ (ih q)
  exact hl.2.2 (i, v) (this _ hv)

/-- a body's walk gives its contract -/
theorem wk_metF {l : Launch} {V : wd_V} {y : MethodName} {cc : ByteArray} {maxL fr lo : Nat} {ret : Option FieldType} {own : String} {av : List Value} {h h' : Hp} {rv : Option Value} (hI : wd_inj V) (hy : plainFor y = true) (ho : y.cls = own) (hlen : (lg_sl av).length ≤ maxL) (hcat : ∀ i v, (lv_args 0 av).lookup i = some v → v.category = 1)
    (body : ∀ X, X.2.1 = l → wk_C X V cc own maxL fr lo → wk_Q X V rv h' ret → WW X V h 0 (lv_args 0 av) []) : wk_M l V y cc maxL ret fr lo av h rv h' := by
  refine wk_ofW (cc := cc) (maxL := maxL) (ret := ret) hy rfl ?_
  intro p e s m args below meth c s₁ B hml hv
  obtain ⟨rfl, hP, hK⟩ := hv
  have hts0 := atoms_spec (ws := Cond.code y cc maxL ret :: lw_g) B.pre
  have hown : s.vm.findClass own = some m.cls := by rw [← ho]; exact findClass_of_methodNamed B.named
  have hl := lv_entry av hlen
  rw [lg_entry_eq]
  refine body (p, l, e, (headSpec (Cond.code y cc maxL ret :: lw_g) { frames := fr, cells := 0, slots := 0, locals := lo }).room, s, m, av.toArray, below, meth, c, _, maxL, 0, 0) rfl ⟨B.exec, B.bytes, hml, hown, fun w hw => hts0 w (List.mem_cons_of_mem _ hw), hK, hI, rfl, Nat.le_refl _, Nat.le_refl _, Nat.zero_le _, Nat.zero_le _⟩ ⟨rfl, B.returns, B.notSynchronized⟩ s.heap [] _ hP va_S.rf ⟨hl.1, hl.2.1, fun i v hv => ⟨?_, hcat i v hv⟩⟩
  have : ∀ (L : List (Nat × Value)), L.lookup i = some v → (i, v) ∈ L := by
    intro L
    induction L with
    | nil => intro q; cases q
    | cons a L ih =>
      intro q
      rw [List.lookup_cons] at q
      by_cases hb : (i == a.1) = true
      · rw [hb] at q
        have e1 : i = a.1 := by simpa using hb
        cases q
        rw [e1]
        exact List.mem_cons_self
      · rw [Bool.not_eq_true] at hb
        rw [hb] at q
        exact List.mem_cons_of_mem _ (ih q)
  exact hl.2.2 (i, v) (this _ hv)

/-- the words of a call of y by place idx of class own -/
def wk_cw (own : String) (idx : Nat) (y : MethodName) (cc : ByteArray) (maxL : Nat) (ret : Option FieldType) (n : Nat) : Prop :=
  Cond.methodLink own idx y ∈ lw_g ∧ Cond.initialized y.cls ∈ lw_g ∧ Cond.code y cc maxL ret ∈ lw_g ∧ goodWord (Cond.code y cc maxL ret) = true ∧ y.cls ≠ "java/lang/invoke/MethodHandle" ∧ y.cls ≠ "java/lang/invoke/VarHandle" ∧ (parseMethodDescriptor y.desc).map (fun d => d.parameters.length) = some n
theorem wk_blind (V : wd_V) (av : List Value) (h : Hp) : FrameBlind (wk_Pc V av h) := by
  intro a U g mk q
  obtain ⟨q0, q1, q2⟩ := q
  exact ⟨q0, q1, va_K.moved (u := U) (U := U.calling g mk a) (Vm.Alike.refl U.vm) q2⟩
def wk_allgood : Prop := ∀ w ∈ lw_g, (w.onTables && w.keeps) = true ∨ ∃ ty, w = .arrayClass ty
theorem wk_goodIn {y : MethodName} {cc : ByteArray} {maxL n idx : Nat} {own : String} {ret : Option FieldType} (w : wk_cw own idx y cc maxL ret n) (hg : wk_allgood) : GoodIn lw_g (Cond.code y cc maxL ret :: lw_g) := by
  intro q hq
  rcases List.mem_cons.mp hq with rfl | h
  · exact ⟨w.2.2.1, good_of_word w.2.2.2.1⟩
  · exact ⟨h, hg q h⟩
theorem wk_after {p : Program} {l : Launch} {e : Env} {R : Room} {s : State} {m : MethodId} {args : Array Value} {below : List Frame} {meth : Method} {c : Code} {H : Heap} {locs : List Loc} {ls : Array Slot} {pc : Nat} {stk rest : List Value} {Q : State → Prop} {V : wd_V} {rv : Option Value} {h1 : Hp} {a : Array Value} {cells slots : Nat} (run : va_Run p l e R s m args below meth c H locs cells slots 0 0 (F0 m pc ls stk) rest (wk_Qc V rv h1 a) (wd_A V)) (hS : va_S (wd_A V) s.heap H locs)
    (k : ∀ (H1 : Heap) (locs1 : List Loc), wd_P V h1 H1 → va_S (wd_A V) s.heap H1 locs1 → W p l e R s m args below meth c H1 locs1 cells slots Q (F0 m (pc + 3) ls (rv.toList ++ rest))) : W p l e R s m args below meth c H locs cells slots Q (F0 m pc ls stk) := by
  intro T hT Z
  obtain ⟨v, st₀, t, T', L, h0, Z', hL, e1, e2, ⟨hv, hb1, hz, hk⟩, st⟩ := run T hT Z
  cases hv
  rw [h0] at hz hk
  obtain ⟨t2, a1, b1⟩ := k T'.heap (locs ++ L) (by rw [e1]; exact hb1) ⟨Nat.le_trans hS.1 (by rw [e1]; exact hz), fun q h1 h2 => by rw [e1, hk q (Nat.lt_of_lt_of_le h1 hS.1) h2]; exact hS.2.1 q h1 h2, fun q hq => by
      rcases List.mem_append.mp hq with h | h
      · exact hS.2.2 q h
      · exact hL q h⟩ T' rfl Z'
  exact ⟨t2, st t2 a1, b1⟩
theorem wk_callV {X : wk_X} {V : wd_V} {h : Hp} {pc : Nat} {lv : List (Nat × Value)} {cc : ByteArray} {own : String} {nL fr lo : Nat} (C : wk_C X V cc own nL fr lo) {i ci idx n maxL fr1 lo1 : Nat} {y : MethodName} {bytes : ByteArray} {ret : Option FieldType} {r : vw_C} {fs As rest stk : List Value} {h1 : Hp} {rv : Option Value} (hg : wk_allgood) (w : wk_cw own idx y bytes maxL ret n) (w2 : Cond.instanceMethod y ∈ lw_g ∧ Cond.selects r.1 y y ∈ lw_g) (hM : wk_M X.2.1 V y bytes maxL ret fr1 lo1 (.ref (wd_ad V i) :: As) h rv h1) (hi : i < wd_N V) (he : wd_E V i (h i) = .inr (ci, fs)) (hc : (wd_cl V)[ci]? = some r) (hn : As.length = n) (hst : stk = As.reverse ++ .ref (wd_ad V i) :: rest) (hroom : (rest.map fun v => v.category).sum ≤ 8) (hR : fr1 + 1 ≤ fr ∧ 8 + (maxL + 11) + lo1 ≤ lo) (d : decode cc pc = .ok (.invokevirtual idx, 3)) (k : WW X V h1 (pc + 3) lv (rv.toList ++ rest)) : WW X V h pc lv stk := by
  obtain ⟨p, l, e, R, s, m, args, below, meth, c, Q, nL0, cells, slots⟩ := X
  obtain ⟨hx, hb, hml, hown, hts, hK, hI, rfl, hfr, hlo, hcl, hsl⟩ := C
  intro H locs ls hP hS hl
  subst hst
  have run := va_runV (g := F0 m pc ls (As.reverse ++ .ref (wd_ad V i) :: rest)) (As := As) (rest := rest) (locs := locs) (cells := cells) (slots := slots) (below := below) (meth := meth) (e := e) ⟨hx, hb, hml, hown, hts⟩ hM ⟨callB_of (R := R) n hts (wk_goodIn w hg) rfl rfl rfl (hts _ w.2.1) (hts _ w.1) w.2.2.2.2 ⟨Nat.le_trans hR.1 hfr, Nat.le_trans hR.2 hlo⟩, hts _ w2.1, hts _ w2.2⟩ ⟨wk_blind V _ h, va_recv hK hP hc (q0 := i) (by rw [wd_at hi, he]), fun U hU hW => ⟨rfl, by rw [hU]; exact hP, va_K.moved hW.alike hK⟩⟩ rfl hn hl.1 rfl (lv_room hroom) d ⟨hcl, hsl⟩
  exact wk_after run hS (fun H1 locs1 hP1 hS1 => k H1 locs1 ls hP1 hS1 hl)
theorem wk_callS {X : wk_X} {V : wd_V} {h : Hp} {pc : Nat} {lv : List (Nat × Value)} {cc : ByteArray} {own : String} {nL fr lo : Nat} (C : wk_C X V cc own nL fr lo) {idx n maxL fr1 lo1 : Nat} {y : MethodName} {bytes : ByteArray} {ret : Option FieldType} {As rest stk : List Value} {h1 : Hp} {rv : Option Value} (hg : wk_allgood) (w : wk_cw own idx y bytes maxL ret n) (w2 : Cond.static y ∈ lw_g) (hM : wk_M X.2.1 V y bytes maxL ret fr1 lo1 As h rv h1) (hn : As.length = n) (hst : stk = As.reverse ++ rest) (hroom : (rest.map fun v => v.category).sum ≤ 8) (hR : fr1 + 1 ≤ fr ∧ 8 + (maxL + 11) + lo1 ≤ lo) (d : decode cc pc = .ok (.invokestatic idx, 3)) (k : WW X V h1 (pc + 3) lv (rv.toList ++ rest)) : WW X V h pc lv stk := by
  obtain ⟨p, l, e, R, s, m, args, below, meth, c, Q, nL0, cells, slots⟩ := X
  obtain ⟨hx, hb, hml, hown, hts, hK, hI, rfl, hfr, hlo, hcl, hsl⟩ := C
  intro H locs ls hP hS hl
  subst hst
  have run := va_runS (g := F0 m pc ls (As.reverse ++ rest)) (As := As) (rest := rest) (locs := locs) (cells := cells) (slots := slots) (below := below) (meth := meth) (e := e) ⟨hx, hb, hml, hown, hts⟩ hM ⟨callB_of (R := R) n hts (wk_goodIn w hg) rfl rfl rfl (hts _ w.2.1) (hts _ w.1) w.2.2.2.2 ⟨Nat.le_trans hR.1 hfr, Nat.le_trans hR.2 hlo⟩, hts _ w2⟩ ⟨wk_blind V _ h, fun U hU hW => ⟨rfl, by rw [hU]; exact hP, va_K.moved hW.alike hK⟩⟩ rfl hn hl.1 rfl (lv_room hroom) d ⟨hcl, hsl⟩
  exact wk_after run hS (fun H1 locs1 hP1 hS1 => k H1 locs1 ls hP1 hS1 hl)
def wk_mw (own : String) (idx : Nat) (y : MethodName) (code : ByteArray) (n : Nat) : Prop := Cond.methodLink own idx y ∈ lw_g ∧ Cond.static y ∈ lw_g ∧ Cond.initialized "java/lang/Math" ∈ lw_g ∧ Cond.code y code n (some .int) ∈ lw_g
theorem wk_mmax {X : wk_X} {V : wd_V} {h : Hp} {pc : Nat} {lv : List (Nat × Value)} {st : List Value} {cc : ByteArray} {own : String} {nL fr lo : Nat} (C : wk_C X V cc own nL fr lo) {idx : Nat} {x y : Int32} (w : wk_mw own idx Lib.Math.max.name Lib.Math.max.code 2) (hR : 1 ≤ fr ∧ (st.map fun v => v.category).sum + 13 ≤ lo) (d : decode cc pc = .ok (.invokestatic idx, 3)) (k : WW X V h (pc + 3) lv (.int (if x < y then y else x) :: st)) : WW X V h pc lv (.int y :: .int x :: st) := by
  obtain ⟨p, l, e, R, s, m, args, below, meth, c, Q, nL0, cells, slots⟩ := X
  obtain ⟨hx, hb, hml, hown, hts, hK, hI, rfl, hfr, hlo, hcl, hsl⟩ := C
  intro H locs ls hP hS hl
  exact va_mmax hx hb (hml.trans hl.1.symm) hown (hts _ w.1) (hts _ w.2.1) (hts _ w.2.2.1) (hts _ w.2.2.2) (Nat.le_trans hR.1 hfr) (Nat.le_trans hR.2 hlo) hcl hsl d (k H locs ls hP hS hl)
theorem wk_mmin {X : wk_X} {V : wd_V} {h : Hp} {pc : Nat} {lv : List (Nat × Value)} {st : List Value} {cc : ByteArray} {own : String} {nL fr lo : Nat} (C : wk_C X V cc own nL fr lo) {idx : Nat} {x y : Int32} (w : wk_mw own idx Lib.Math.min.name Lib.Math.min.code 2) (hR : 1 ≤ fr ∧ (st.map fun v => v.category).sum + 13 ≤ lo) (d : decode cc pc = .ok (.invokestatic idx, 3)) (k : WW X V h (pc + 3) lv (.int (if y < x then y else x) :: st)) : WW X V h pc lv (.int y :: .int x :: st) := by
  obtain ⟨p, l, e, R, s, m, args, below, meth, c, Q, nL0, cells, slots⟩ := X
  obtain ⟨hx, hb, hml, hown, hts, hK, hI, rfl, hfr, hlo, hcl, hsl⟩ := C
  intro H locs ls hP hS hl
  exact va_mmin hx hb (hml.trans hl.1.symm) hown (hts _ w.1) (hts _ w.2.1) (hts _ w.2.2.1) (hts _ w.2.2.2) (Nat.le_trans hR.1 hfr) (Nat.le_trans hR.2 hlo) hcl hsl d (k H locs ls hP hS hl)
theorem wk_mabs {X : wk_X} {V : wd_V} {h : Hp} {pc : Nat} {lv : List (Nat × Value)} {st : List Value} {cc : ByteArray} {own : String} {nL fr lo : Nat} (C : wk_C X V cc own nL fr lo) {idx : Nat} {x : Int32} (w : wk_mw own idx Lib.Math.abs.name Lib.Math.abs.code 1) (hR : 1 ≤ fr ∧ (st.map fun v => v.category).sum + 13 ≤ lo) (d : decode cc pc = .ok (.invokestatic idx, 3)) (k : WW X V h (pc + 3) lv (.int (if 0 ≤ x then x else 0 - x) :: st)) : WW X V h pc lv (.int x :: st) := by
  obtain ⟨p, l, e, R, s, m, args, below, meth, c, Q, nL0, cells, slots⟩ := X
  obtain ⟨hx, hb, hml, hown, hts, hK, hI, rfl, hfr, hlo, hcl, hsl⟩ := C
  intro H locs ls hP hS hl
  exact va_mabs hx hb (hml.trans hl.1.symm) hown (hts _ w.1) (hts _ w.2.1) (hts _ w.2.2.1) (hts _ w.2.2.2) (Nat.le_trans hR.1 hfr) (Nat.le_trans hR.2 hlo) hcl hsl d (k H locs ls hP hS hl)
/-- a long put aside and taken up again at once -/
theorem wk_lstload {X : wk_X} {V : wd_V} {h : Hp} {pc : Nat} {lv : List (Nat × Value)} {st : List Value} {cc : ByteArray} {own : String} {nL fr lo : Nat} (C : wk_C X V cc own nL fr lo) {i : Nat} {x : Int64} (d : decode cc pc = .ok (.lstore i, 2)) (d2 : decode cc (pc + 2) = .ok (.lload i, 2)) (hn : i + 1 < nL) (h0 : lv.lookup i = none) (h1 : lv.lookup (i + 1) = none) (k : WW X V h (pc + 4) lv (.long x :: st)) : WW X V h pc lv (.long x :: st) := by
  obtain ⟨p, l, e, R, s, m, args, below, meth, c, Q, nL0, cells, slots⟩ := X
  obtain ⟨hx, hb, hml, hown, hts, hK, hI, rfl, hfr, hlo, hcl, hsl⟩ := C
  intro H locs ls hP hS hl
  obtain ⟨hs, hw, hv⟩ := hl
  obtain ⟨ls', e', h'⟩ := lv_store2 (v := .long x) (l := []) ⟨hs, hw, fun q hq => by cases hq⟩ hn rfl
  have hl' : wk_lv ls' nL0 lv := by
    refine ⟨h'.1, h'.2.1, fun j w hj => ?_⟩
    obtain ⟨a, b⟩ := hv j w hj
    have n0 : j ≠ i := fun q => by rw [q, h0] at hj; cases hj
    have n1 : j ≠ i + 1 := fun q => by rw [q, h1] at hj; cases hj
    obtain ⟨ls2, e2, g2⟩ := lv_store2 (v := .long x) (l := [(j, w)]) ⟨hs, hw, fun q hq => by
      rw [List.mem_singleton] at hq
      subst hq
      exact a⟩ hn rfl
    rw [e'] at e2
    cases e2
    refine ⟨g2.2.2 (j, w) (List.mem_cons_of_mem _ ?_), b⟩
    simp [n0, n1, b]
  intro T hT Z
  obtain ⟨t, a, b⟩ := lv_lload (pc := pc + 2) hx hb d2 (h'.2.2 (i, .long x) List.mem_cons_self) (k H locs ls' hP hS hl') T hT Z
  refine ⟨t, ?_, b⟩
  jvm_step Z.here [Z.here.top, ↓top_set Z.here.top, hx, hb, d, e']
  exact a

/-- the script: an int array that no cell of the world is -/
def wk_S (X : wk_X) (V : wd_V) (b L : Nat) (xs : Nat → Int32) : Prop :=
  match X with
  | (p, l, e, R, s, m, args, below, meth, c, Q, nL, cells, slots) => va_X b L xs s s.heap ∧ b < s.heap.size ∧ ¬ wd_A V b
theorem wk_sld {X : wk_X} {V : wd_V} {h : Hp} {pc : Nat} {lv : List (Nat × Value)} {st : List Value} {cc : ByteArray} {own : String} {nL fr lo : Nat} (C : wk_C X V cc own nL fr lo) {b L : Nat} {xs : Nat → Int32} {i : Int32} (hs : wk_S X V b L xs) (hin : inR i L) (d : decode cc pc = .ok (.iaload, 1)) (k : WW X V h (pc + 1) lv (.int (xs i.toNatClampNeg) :: st)) : WW X V h pc lv (.int i :: .ref b :: st) := by
  obtain ⟨p, l, e, R, s, m, args, below, meth, c, Q, nL0, cells, slots⟩ := X
  obtain ⟨hx, hb, hml, hown, hts, hK, hI, rfl, hfr, hlo, hcl, hsl⟩ := C
  obtain ⟨s1, s2, s3⟩ := hs
  intro H locs ls hP hS hl
  exact va_sld hx hb s1 s2 s3 hS (inR_vp hin) d (k H locs ls hP hS hl)
theorem wk_slen {X : wk_X} {V : wd_V} {h : Hp} {pc : Nat} {lv : List (Nat × Value)} {st : List Value} {cc : ByteArray} {own : String} {nL fr lo : Nat} (C : wk_C X V cc own nL fr lo) {b L : Nat} {xs : Nat → Int32} (hs : wk_S X V b L xs) (d : decode cc pc = .ok (.arraylength, 1)) (k : WW X V h (pc + 1) lv (.int (Int32.ofNat L) :: st)) : WW X V h pc lv (.ref b :: st) := by
  obtain ⟨p, l, e, R, s, m, args, below, meth, c, Q, nL0, cells, slots⟩ := X
  obtain ⟨hx, hb, hml, hown, hts, hK, hI, rfl, hfr, hlo, hcl, hsl⟩ := C
  obtain ⟨s1, s2, s3⟩ := hs
  intro H locs ls hP hS hl
  exact va_slen hx hb s1 s2 s3 hS d (k H locs ls hP hS hl)
end
section
def RL : String := "NumberDesk$Line"
def RN : String := "NumberDesk$Num"
def RR : String := "NumberDesk$Reader"
def RK : String := "NumberDesk$Reckoner"
def RT : String := "NumberDesk$Writer"
def RD : String := "NumberDesk"
def RM : String := "NumberDeskModel"
def RA : String := "java/lang/Math"
def RW : String := "NumberDeskLaw"
def TL : u_T := fun k => match k with
  | 0 => ("NumberDesk$Line", "row", "[B", true)
  | _ => ("NumberDesk$Line", "length", "I", false)
def tyL : Nat → FieldType := fun k => match k with
  | 0 => .array .byte
  | _ => .int
theorem nmL : ∀ a, a < 2 → ∀ b, b < 2 → a ≠ b → (TL a).2.1 ≠ (TL b).2.1 := by decide +kernel
theorem tyL_ok : ∀ k, k < 2 → parseFieldDescriptor (TL k).2.2.1 = some (tyL k) := by decide +kernel
theorem iwL : ∀ w ∈ u_ws RL TL 2, w ∈ lw_g := by decide +kernel
def TN : u_T := fun k => match k with
  | 0 => ("NumberDesk$Num", "row", "[I", true)
  | 1 => ("NumberDesk$Num", "count", "I", false)
  | 2 => ("NumberDesk$Num", "exponent", "I", false)
  | _ => ("NumberDesk$Num", "sign", "I", false)
def tyN : Nat → FieldType := fun k => match k with
  | 0 => .array .int
  | 1 => .int
  | 2 => .int
  | _ => .int
theorem nmN : ∀ a, a < 4 → ∀ b, b < 4 → a ≠ b → (TN a).2.1 ≠ (TN b).2.1 := by decide +kernel
theorem tyN_ok : ∀ k, k < 4 → parseFieldDescriptor (TN k).2.2.1 = some (tyN k) := by decide +kernel
theorem iwN : ∀ w ∈ u_ws RN TN 4, w ∈ lw_g := by decide +kernel
def TR : u_T := fun k => match k with
  | _ => ("NumberDesk$Reader", "next", "I", false)
def tyR : Nat → FieldType := fun k => match k with
  | _ => .int
theorem nmR : ∀ a, a < 1 → ∀ b, b < 1 → a ≠ b → (TR a).2.1 ≠ (TR b).2.1 := by decide +kernel
theorem tyR_ok : ∀ k, k < 1 → parseFieldDescriptor (TR k).2.2.1 = some (tyR k) := by decide +kernel
theorem iwR : ∀ w ∈ u_ws RR TR 1, w ∈ lw_g := by decide +kernel
def TK : u_T := fun k => match k with
  | 0 => ("NumberDesk$Reckoner", "cells", "[I", true)
  | 1 => ("NumberDesk$Reckoner", "divisor", "[I", true)
  | 2 => ("NumberDesk$Reckoner", "left", "[I", true)
  | 3 => ("NumberDesk$Reckoner", "speck", "LNumberDesk$Num;", true)
  | 4 => ("NumberDesk$Reckoner", "part", "LNumberDesk$Num;", true)
  | 5 => ("NumberDesk$Reckoner", "step", "LNumberDesk$Num;", true)
  | _ => ("NumberDesk$Reckoner", "one", "LNumberDesk$Num;", true)
def tyK : Nat → FieldType := fun k => match k with
  | 0 => .array .int
  | 1 => .array .int
  | 2 => .array .int
  | 3 => .object "NumberDesk$Num"
  | 4 => .object "NumberDesk$Num"
  | 5 => .object "NumberDesk$Num"
  | _ => .object "NumberDesk$Num"
theorem nmK : ∀ a, a < 7 → ∀ b, b < 7 → a ≠ b → (TK a).2.1 ≠ (TK b).2.1 := by decide +kernel
theorem tyK_ok : ∀ k, k < 7 → parseFieldDescriptor (TK k).2.2.1 = some (tyK k) := by decide +kernel
theorem iwK : ∀ w ∈ u_ws RK TK 7, w ∈ lw_g := by decide +kernel
def TT : u_T := fun k => match k with
  | _ => ("", "", "", false)
def tyT : Nat → FieldType := fun k => match k with
  | _ => .int
theorem nmT : ∀ a, a < 0 → ∀ b, b < 0 → a ≠ b → (TT a).2.1 ≠ (TT b).2.1 := by decide +kernel
theorem tyT_ok : ∀ k, k < 0 → parseFieldDescriptor (TT k).2.2.1 = some (tyT k) := by decide +kernel
theorem iwT : ∀ w ∈ u_ws RT TT 0, w ∈ lw_g := by decide +kernel
def TD : u_T := fun k => match k with
  | 0 => ("NumberDesk", "tape", "LNumberDesk$Line;", true)
  | 1 => ("NumberDesk", "registers", "[LNumberDesk$Line;", true)
  | 2 => ("NumberDesk", "page", "LNumberDesk$Line;", true)
  | 3 => ("NumberDesk", "reader", "LNumberDesk$Reader;", true)
  | 4 => ("NumberDesk", "writer", "LNumberDesk$Writer;", true)
  | 5 => ("NumberDesk", "reckoner", "LNumberDesk$Reckoner;", true)
  | 6 => ("NumberDesk", "first", "LNumberDesk$Num;", true)
  | 7 => ("NumberDesk", "second", "LNumberDesk$Num;", true)
  | 8 => ("NumberDesk", "result", "LNumberDesk$Num;", true)
  | 9 => ("NumberDesk", "digits", "I", false)
  | 10 => ("NumberDesk", "fuzz", "I", false)
  | _ => ("NumberDesk", "form", "I", false)
def tyD : Nat → FieldType := fun k => match k with
  | 0 => .object "NumberDesk$Line"
  | 1 => .array (.object "NumberDesk$Line")
  | 2 => .object "NumberDesk$Line"
  | 3 => .object "NumberDesk$Reader"
  | 4 => .object "NumberDesk$Writer"
  | 5 => .object "NumberDesk$Reckoner"
  | 6 => .object "NumberDesk$Num"
  | 7 => .object "NumberDesk$Num"
  | 8 => .object "NumberDesk$Num"
  | 9 => .int
  | 10 => .int
  | _ => .int
theorem nmD : ∀ a, a < 12 → ∀ b, b < 12 → a ≠ b → (TD a).2.1 ≠ (TD b).2.1 := by decide +kernel
theorem tyD_ok : ∀ k, k < 12 → parseFieldDescriptor (TD k).2.2.1 = some (tyD k) := by decide +kernel
theorem iwD : ∀ w ∈ u_ws RD TD 12, w ∈ lw_g := by decide +kernel
def TM : u_T := fun k => match k with
  | 0 => ("NumberDeskModel", "tape", "[I", true)
  | 1 => ("NumberDeskModel", "taped", "I", false)
  | 2 => ("NumberDeskModel", "bytes", "[I", true)
  | 3 => ("NumberDeskModel", "sizes", "[I", true)
  | 4 => ("NumberDeskModel", "digits", "I", false)
  | 5 => ("NumberDeskModel", "fuzz", "I", false)
  | 6 => ("NumberDeskModel", "form", "I", false)
  | 7 => ("NumberDeskModel", "d", "[I", true)
  | 8 => ("NumberDeskModel", "many", "[I", true)
  | 9 => ("NumberDeskModel", "power", "[I", true)
  | 10 => ("NumberDeskModel", "sign", "[I", true)
  | 11 => ("NumberDeskModel", "rest", "[I", true)
  | 12 => ("NumberDeskModel", "text", "[I", true)
  | _ => ("NumberDeskModel", "written", "I", false)
def tyM : Nat → FieldType := fun k => match k with
  | 0 => .array .int
  | 1 => .int
  | 2 => .array .int
  | 3 => .array .int
  | 4 => .int
  | 5 => .int
  | 6 => .int
  | 7 => .array .int
  | 8 => .array .int
  | 9 => .array .int
  | 10 => .array .int
  | 11 => .array .int
  | 12 => .array .int
  | _ => .int
theorem nmM : ∀ a, a < 14 → ∀ b, b < 14 → a ≠ b → (TM a).2.1 ≠ (TM b).2.1 := by decide +kernel
theorem tyM_ok : ∀ k, k < 14 → parseFieldDescriptor (TM k).2.2.1 = some (tyM k) := by decide +kernel
theorem iwM : ∀ w ∈ u_ws RM TM 14, w ∈ lw_g := by decide +kernel
abbrev classes : List vw_C := [(RL, TL, 2), (RN, TN, 4), (RR, TR, 1), (RK, TK, 7), (RT, TT, 0), (RD, TD, 12), (RM, TM, 14)]
abbrev cD_init : ByteArray := prog_1_method_1_code
def yD_init : MethodName := ⟨RD, "<init>", "()V"⟩
abbrev cL_init : ByteArray := prog_2_method_1_code
def yL_init : MethodName := ⟨RL, "<init>", "(I)V"⟩
abbrev cA_max : ByteArray := prog_9_method_65_code
def yA_max : MethodName := ⟨RA, "max", "(II)I"⟩
abbrev cR_init : ByteArray := prog_4_method_1_code
def yR_init : MethodName := ⟨RR, "<init>", "()V"⟩
abbrev cT_init : ByteArray := prog_6_method_1_code
def yT_init : MethodName := ⟨RT, "<init>", "()V"⟩
abbrev cK_init : ByteArray := prog_5_method_1_code
def yK_init : MethodName := ⟨RK, "<init>", "()V"⟩
abbrev cN_init : ByteArray := prog_3_method_1_code
def yN_init : MethodName := ⟨RN, "<init>", "(I)V"⟩
abbrev cD_feed : ByteArray := prog_1_method_2_code
def yD_feed : MethodName := ⟨RD, "feed", "(IIIII)I"⟩
abbrev cL_addInt : ByteArray := prog_2_method_3_code
def yL_addInt : MethodName := ⟨RL, "addInt", "(I)V"⟩
abbrev cL_add : ByteArray := prog_2_method_2_code
def yL_add : MethodName := ⟨RL, "add", "(I)V"⟩
abbrev cD_end : ByteArray := prog_1_method_3_code
def yD_end : MethodName := ⟨RD, "end", "(I)I"⟩
abbrev cD_put : ByteArray := prog_1_method_4_code
def yD_put : MethodName := ⟨RD, "put", "(I)I"⟩
abbrev cD_find : ByteArray := prog_1_method_18_code
def yD_find : MethodName := ⟨RD, "find", "(I)LNumberDesk$Line;"⟩
abbrev cL_copy : ByteArray := prog_2_method_4_code
def yL_copy : MethodName := ⟨RL, "copy", "(LNumberDesk$Line;)V"⟩
abbrev cL_byteAt : ByteArray := prog_2_method_5_code
def yL_byteAt : MethodName := ⟨RL, "byteAt", "(I)I"⟩
abbrev cD_size : ByteArray := prog_1_method_5_code
def yD_size : MethodName := ⟨RD, "size", "(I)I"⟩
abbrev cD_at : ByteArray := prog_1_method_6_code
def yD_at : MethodName := ⟨RD, "at", "(II)I"⟩
abbrev cD_digits : ByteArray := prog_1_method_7_code
def yD_digits : MethodName := ⟨RD, "digits", "(I)I"⟩
abbrev cD_fuzz : ByteArray := prog_1_method_8_code
def yD_fuzz : MethodName := ⟨RD, "fuzz", "(I)I"⟩
abbrev cD_form : ByteArray := prog_1_method_9_code
def yD_form : MethodName := ⟨RD, "form", "(I)I"⟩
abbrev cD_work : ByteArray := prog_1_method_10_code
def yD_work : MethodName := ⟨RD, "work", "(IIII)I"⟩
abbrev cD_loadBoth : ByteArray := prog_1_method_20_code
def yD_loadBoth : MethodName := ⟨RD, "loadBoth", "(LNumberDesk$Line;LNumberDesk$Line;I)Z"⟩
abbrev cD_load : ByteArray := prog_1_method_19_code
def yD_load : MethodName := ⟨RD, "load", "(LNumberDesk$Line;LNumberDesk$Num;I)Z"⟩
abbrev cR_read : ByteArray := prog_4_method_2_code
def yR_read : MethodName := ⟨RR, "read", "(LNumberDesk$Line;LNumberDesk$Num;)Z"⟩
abbrev cN_clear : ByteArray := prog_3_method_2_code
def yN_clear : MethodName := ⟨RN, "clear", "()V"⟩
abbrev cR_skipBlanks : ByteArray := prog_4_method_3_code
def yR_skipBlanks : MethodName := ⟨RR, "skipBlanks", "(LNumberDesk$Line;)V"⟩
abbrev cR_readSign : ByteArray := prog_4_method_4_code
def yR_readSign : MethodName := ⟨RR, "readSign", "(LNumberDesk$Line;)I"⟩
abbrev cR_readDigits : ByteArray := prog_4_method_5_code
def yR_readDigits : MethodName := ⟨RR, "readDigits", "(LNumberDesk$Line;LNumberDesk$Num;)Z"⟩
abbrev cR_isDigit : ByteArray := prog_4_method_7_code
def yR_isDigit : MethodName := ⟨RR, "isDigit", "(I)Z"⟩
abbrev cN_push : ByteArray := prog_3_method_5_code
def yN_push : MethodName := ⟨RN, "push", "(I)V"⟩
abbrev cR_readExponent : ByteArray := prog_4_method_6_code
def yR_readExponent : MethodName := ⟨RR, "readExponent", "(LNumberDesk$Line;LNumberDesk$Num;)Z"⟩
abbrev cN_settle : ByteArray := prog_3_method_6_code
def yN_settle : MethodName := ⟨RN, "settle", "(II)V"⟩
abbrev cN_roundTo : ByteArray := prog_3_method_12_code
def yN_roundTo : MethodName := ⟨RN, "roundTo", "(I)V"⟩
abbrev cN_digit : ByteArray := prog_3_method_7_code
def yN_digit : MethodName := ⟨RN, "digit", "(I)I"⟩
abbrev cN_countUp : ByteArray := prog_3_method_14_code
def yN_countUp : MethodName := ⟨RN, "countUp", "()V"⟩
abbrev cA_min : ByteArray := prog_9_method_69_code
def yA_min : MethodName := ⟨RA, "min", "(II)I"⟩
abbrev cK_reckon : ByteArray := prog_5_method_2_code
def yK_reckon : MethodName := ⟨RK, "reckon", "(ILNumberDesk$Num;LNumberDesk$Num;ILNumberDesk$Num;)I"⟩
abbrev cK_sum : ByteArray := prog_5_method_3_code
def yK_sum : MethodName := ⟨RK, "sum", "(LNumberDesk$Num;LNumberDesk$Num;ZLNumberDesk$Num;)V"⟩
abbrev cN_copy : ByteArray := prog_3_method_4_code
def yN_copy : MethodName := ⟨RN, "copy", "(LNumberDesk$Num;)V"⟩
abbrev cK_nearTo : ByteArray := prog_5_method_4_code
def yK_nearTo : MethodName := ⟨RK, "nearTo", "(LNumberDesk$Num;LNumberDesk$Num;)LNumberDesk$Num;"⟩
abbrev cN_ahead : ByteArray := prog_3_method_9_code
def yN_ahead : MethodName := ⟨RN, "ahead", "()I"⟩
abbrev cN_becomeUnit : ByteArray := prog_3_method_3_code
def yN_becomeUnit : MethodName := ⟨RN, "becomeUnit", "(I)V"⟩
abbrev cK_fillCells : ByteArray := prog_5_method_6_code
def yK_fillCells : MethodName := ⟨RK, "fillCells", "(LNumberDesk$Num;LNumberDesk$Num;III)V"⟩
abbrev cN_digitAtPower : ByteArray := prog_3_method_8_code
def yN_digitAtPower : MethodName := ⟨RN, "digitAtPower", "(I)I"⟩
abbrev cK_takeCells : ByteArray := prog_5_method_7_code
def yK_takeCells : MethodName := ⟨RK, "takeCells", "(IIILNumberDesk$Num;)V"⟩
abbrev cK_isBelow : ByteArray := prog_5_method_5_code
def yK_isBelow : MethodName := ⟨RK, "isBelow", "(LNumberDesk$Num;LNumberDesk$Num;)Z"⟩
abbrev cK_product : ByteArray := prog_5_method_8_code
def yK_product : MethodName := ⟨RK, "product", "(LNumberDesk$Num;LNumberDesk$Num;LNumberDesk$Num;)V"⟩
abbrev cK_crossSum : ByteArray := prog_5_method_9_code
def yK_crossSum : MethodName := ⟨RK, "crossSum", "(LNumberDesk$Num;LNumberDesk$Num;I)I"⟩
abbrev cK_quotient : ByteArray := prog_5_method_10_code
def yK_quotient : MethodName := ⟨RK, "quotient", "(LNumberDesk$Num;LNumberDesk$Num;ILNumberDesk$Num;)V"⟩
abbrev cK_divide : ByteArray := prog_5_method_15_code
def yK_divide : MethodName := ⟨RK, "divide", "(LNumberDesk$Num;LNumberDesk$Num;IILNumberDesk$Num;)I"⟩
abbrev cK_bringDown : ByteArray := prog_5_method_16_code
def yK_bringDown : MethodName := ⟨RK, "bringDown", "(II)V"⟩
abbrev cK_takeAwayAll : ByteArray := prog_5_method_17_code
def yK_takeAwayAll : MethodName := ⟨RK, "takeAwayAll", "(I)I"⟩
abbrev cK_holdsDivisor : ByteArray := prog_5_method_18_code
def yK_holdsDivisor : MethodName := ⟨RK, "holdsDivisor", "(I)Z"⟩
abbrev cK_takeAwayOnce : ByteArray := prog_5_method_19_code
def yK_takeAwayOnce : MethodName := ⟨RK, "takeAwayOnce", "(I)V"⟩
abbrev cN_dropEndZeros : ByteArray := prog_3_method_15_code
def yN_dropEndZeros : MethodName := ⟨RN, "dropEndZeros", "()V"⟩
abbrev cK_partOf : ByteArray := prog_5_method_11_code
def yK_partOf : MethodName := ⟨RK, "partOf", "(LNumberDesk$Num;LNumberDesk$Num;ILNumberDesk$Num;)I"⟩
abbrev cK_restOf : ByteArray := prog_5_method_12_code
def yK_restOf : MethodName := ⟨RK, "restOf", "(LNumberDesk$Num;LNumberDesk$Num;ILNumberDesk$Num;)I"⟩
abbrev cN_wholeValue : ByteArray := prog_3_method_16_code
def yN_wholeValue : MethodName := ⟨RN, "wholeValue", "()I"⟩
abbrev cK_powerOf : ByteArray := prog_5_method_13_code
def yK_powerOf : MethodName := ⟨RK, "powerOf", "(LNumberDesk$Num;IILNumberDesk$Num;)I"⟩
abbrev cA_abs : ByteArray := prog_9_method_59_code
def yA_abs : MethodName := ⟨RA, "abs", "(I)I"⟩
abbrev cK_multiplyInto : ByteArray := prog_5_method_14_code
def yK_multiplyInto : MethodName := ⟨RK, "multiplyInto", "(LNumberDesk$Num;LNumberDesk$Num;I)V"⟩
abbrev cD_write : ByteArray := prog_1_method_21_code
def yD_write : MethodName := ⟨RD, "write", "(LNumberDesk$Num;LNumberDesk$Line;)I"⟩
abbrev cT_write : ByteArray := prog_6_method_2_code
def yT_write : MethodName := ⟨RT, "write", "(LNumberDesk$Num;IILNumberDesk$Line;)I"⟩
abbrev cN_firstPower : ByteArray := prog_3_method_11_code
def yN_firstPower : MethodName := ⟨RN, "firstPower", "()I"⟩
abbrev cN_places : ByteArray := prog_3_method_10_code
def yN_places : MethodName := ⟨RN, "places", "()I"⟩
abbrev cT_addPlain : ByteArray := prog_6_method_3_code
def yT_addPlain : MethodName := ⟨RT, "addPlain", "(LNumberDesk$Num;ILNumberDesk$Line;)V"⟩
abbrev cT_addSign : ByteArray := prog_6_method_6_code
def yT_addSign : MethodName := ⟨RT, "addSign", "(LNumberDesk$Num;LNumberDesk$Line;)V"⟩
abbrev cT_addWithExponent : ByteArray := prog_6_method_4_code
def yT_addWithExponent : MethodName := ⟨RT, "addWithExponent", "(LNumberDesk$Num;ILNumberDesk$Line;)V"⟩
abbrev cA_floorMod : ByteArray := prog_9_method_50_code
def yA_floorMod : MethodName := ⟨RA, "floorMod", "(II)I"⟩
abbrev cT_addExponent : ByteArray := prog_6_method_5_code
def yT_addExponent : MethodName := ⟨RT, "addExponent", "(ILNumberDesk$Line;)V"⟩
abbrev cD_keepPage : ByteArray := prog_1_method_23_code
def yD_keepPage : MethodName := ⟨RD, "keepPage", "(LNumberDesk$Line;)I"⟩
abbrev cD_turn : ByteArray := prog_1_method_11_code
def yD_turn : MethodName := ⟨RD, "turn", "(III)I"⟩
abbrev cD_most : ByteArray := prog_1_method_12_code
def yD_most : MethodName := ⟨RD, "most", "(IIIZ)I"⟩
abbrev cD_cut : ByteArray := prog_1_method_13_code
def yD_cut : MethodName := ⟨RD, "cut", "(III)I"⟩
abbrev cD_placesAhead : ByteArray := prog_1_method_24_code
def yD_placesAhead : MethodName := ⟨RD, "placesAhead", "(LNumberDesk$Num;)I"⟩
abbrev cD_layOut : ByteArray := prog_1_method_22_code
def yD_layOut : MethodName := ⟨RD, "layOut", "(LNumberDesk$Num;IILNumberDesk$Line;)I"⟩
abbrev cD_column : ByteArray := prog_1_method_14_code
def yD_column : MethodName := ⟨RD, "column", "(IIII)I"⟩
abbrev cN_roundToPlaces : ByteArray := prog_3_method_13_code
def yN_roundToPlaces : MethodName := ⟨RN, "roundToPlaces", "(I)V"⟩
abbrev cD_compare : ByteArray := prog_1_method_15_code
def yD_compare : MethodName := ⟨RD, "compare", "(IIZ)I"⟩
abbrev cD_standing : ByteArray := prog_1_method_25_code
def yD_standing : MethodName := ⟨RD, "standing", "(I)I"⟩
abbrev cD_strictOrder : ByteArray := prog_1_method_26_code
def yD_strictOrder : MethodName := ⟨RD, "strictOrder", "(LNumberDesk$Line;LNumberDesk$Line;)I"⟩
abbrev cD_looseOrder : ByteArray := prog_1_method_27_code
def yD_looseOrder : MethodName := ⟨RD, "looseOrder", "(LNumberDesk$Line;LNumberDesk$Line;)I"⟩
abbrev cL_firstInk : ByteArray := prog_2_method_7_code
def yL_firstInk : MethodName := ⟨RL, "firstInk", "()I"⟩
abbrev cL_byteOrBlank : ByteArray := prog_2_method_6_code
def yL_byteOrBlank : MethodName := ⟨RL, "byteOrBlank", "(I)I"⟩
abbrev cD_whole : ByteArray := prog_1_method_16_code
def yD_whole : MethodName := ⟨RD, "whole", "(I)I"⟩
abbrev cD_about : ByteArray := prog_1_method_17_code
def yD_about : MethodName := ⟨RD, "about", "(II)I"⟩
abbrev cM_init : ByteArray := prog_8_method_1_code
def yM_init : MethodName := ⟨RM, "<init>", "()V"⟩
abbrev cM_feed : ByteArray := prog_8_method_3_code
def yM_feed : MethodName := ⟨RM, "feed", "(IIIII)I"⟩
abbrev cM_four : ByteArray := prog_8_method_2_code
def yM_four : MethodName := ⟨RM, "four", "(I)V"⟩
abbrev cM_end : ByteArray := prog_8_method_4_code
def yM_end : MethodName := ⟨RM, "end", "(I)I"⟩
abbrev cM_put : ByteArray := prog_8_method_6_code
def yM_put : MethodName := ⟨RM, "put", "(I)I"⟩
abbrev cM_isRegister : ByteArray := prog_8_method_5_code
def yM_isRegister : MethodName := ⟨RM, "isRegister", "(I)Z"⟩
abbrev cM_size : ByteArray := prog_8_method_7_code
def yM_size : MethodName := ⟨RM, "size", "(I)I"⟩
abbrev cM_at : ByteArray := prog_8_method_8_code
def yM_at : MethodName := ⟨RM, "at", "(II)I"⟩
abbrev cM_digits : ByteArray := prog_8_method_9_code
def yM_digits : MethodName := ⟨RM, "digits", "(I)I"⟩
abbrev cM_fuzz : ByteArray := prog_8_method_10_code
def yM_fuzz : MethodName := ⟨RM, "fuzz", "(I)I"⟩
abbrev cM_form : ByteArray := prog_8_method_11_code
def yM_form : MethodName := ⟨RM, "form", "(I)I"⟩
abbrev cM_work : ByteArray := prog_8_method_35_code
def yM_work : MethodName := ⟨RM, "work", "(IIII)I"⟩
abbrev cM_read : ByteArray := prog_8_method_16_code
def yM_read : MethodName := ⟨RM, "read", "(II)Z"⟩
abbrev cM_isDigit : ByteArray := prog_8_method_15_code
def yM_isDigit : MethodName := ⟨RM, "isDigit", "(I)Z"⟩
abbrev cM_settle : ByteArray := prog_8_method_14_code
def yM_settle : MethodName := ⟨RM, "settle", "(I)V"⟩
abbrev cM_zero : ByteArray := prog_8_method_12_code
def yM_zero : MethodName := ⟨RM, "zero", "(I)V"⟩
abbrev cM_isWhole : ByteArray := prog_8_method_31_code
def yM_isWhole : MethodName := ⟨RM, "isWhole", "(I)Z"⟩
abbrev cM_round : ByteArray := prog_8_method_19_code
def yM_round : MethodName := ⟨RM, "round", "(II)V"⟩
abbrev cM_high : ByteArray := prog_8_method_17_code
def yM_high : MethodName := ⟨RM, "high", "(I)I"⟩
abbrev cM_digit : ByteArray := prog_8_method_18_code
def yM_digit : MethodName := ⟨RM, "digit", "(II)I"⟩
abbrev cM_valueOf : ByteArray := prog_8_method_32_code
def yM_valueOf : MethodName := ⟨RM, "valueOf", "(I)I"⟩
abbrev cM_worked : ByteArray := prog_8_method_34_code
def yM_worked : MethodName := ⟨RM, "worked", "(II)I"⟩
abbrev cM_add : ByteArray := prog_8_method_21_code
def yM_add : MethodName := ⟨RM, "add", "(IIZI)V"⟩
abbrev cM_copy : ByteArray := prog_8_method_13_code
def yM_copy : MethodName := ⟨RM, "copy", "(II)V"⟩
abbrev cM_multiply : ByteArray := prog_8_method_22_code
def yM_multiply : MethodName := ⟨RM, "multiply", "(III)V"⟩
abbrev cM_divide : ByteArray := prog_8_method_24_code
def yM_divide : MethodName := ⟨RM, "divide", "(IIII)V"⟩
abbrev cM_isEnough : ByteArray := prog_8_method_23_code
def yM_isEnough : MethodName := ⟨RM, "isEnough", "(I)Z"⟩
abbrev cM_noZeros : ByteArray := prog_8_method_20_code
def yM_noZeros : MethodName := ⟨RM, "noZeros", "(I)V"⟩
abbrev cM_part : ByteArray := prog_8_method_25_code
def yM_part : MethodName := ⟨RM, "part", "(III)Z"⟩
abbrev cM_raise : ByteArray := prog_8_method_33_code
def yM_raise : MethodName := ⟨RM, "raise", "(I)I"⟩
abbrev cM_answer : ByteArray := prog_8_method_30_code
def yM_answer : MethodName := ⟨RM, "answer", "(II)I"⟩
abbrev cM_write : ByteArray := prog_8_method_28_code
def yM_write : MethodName := ⟨RM, "write", "(I)I"⟩
abbrev cM_letter : ByteArray := prog_8_method_26_code
def yM_letter : MethodName := ⟨RM, "letter", "(I)V"⟩
abbrev cM_plain : ByteArray := prog_8_method_27_code
def yM_plain : MethodName := ⟨RM, "plain", "(III)V"⟩
abbrev cM_keep : ByteArray := prog_8_method_29_code
def yM_keep : MethodName := ⟨RM, "keep", "(I)I"⟩
abbrev cM_turn : ByteArray := prog_8_method_36_code
def yM_turn : MethodName := ⟨RM, "turn", "(III)I"⟩
abbrev cM_most : ByteArray := prog_8_method_37_code
def yM_most : MethodName := ⟨RM, "most", "(IIIZ)I"⟩
abbrev cM_cut : ByteArray := prog_8_method_38_code
def yM_cut : MethodName := ⟨RM, "cut", "(III)I"⟩
abbrev cM_column : ByteArray := prog_8_method_39_code
def yM_column : MethodName := ⟨RM, "column", "(IIII)I"⟩
abbrev cM_compare : ByteArray := prog_8_method_43_code
def yM_compare : MethodName := ⟨RM, "compare", "(IIZ)I"⟩
abbrev cM_strictly : ByteArray := prog_8_method_41_code
def yM_strictly : MethodName := ⟨RM, "strictly", "(II)I"⟩
abbrev cM_told : ByteArray := prog_8_method_40_code
def yM_told : MethodName := ⟨RM, "told", "(I)I"⟩
abbrev cM_loosely : ByteArray := prog_8_method_42_code
def yM_loosely : MethodName := ⟨RM, "loosely", "(II)I"⟩
abbrev cM_whole : ByteArray := prog_8_method_44_code
def yM_whole : MethodName := ⟨RM, "whole", "(I)I"⟩
abbrev cM_about : ByteArray := prog_8_method_45_code
def yM_about : MethodName := ⟨RM, "about", "(II)I"⟩
abbrev cW_law : ByteArray := code
end
section
/-! ints as numbers: iI z; sums and products go through without a bound, comparisons within -2^31 .. 2^31 -/
def iI (z : Int) : Int32 := Int32.ofInt z
abbrev bI (z : Int) : Prop := -2147483648 ≤ z ∧ z < 2147483648
theorem iI_toInt {z : Int} (h : bI z) : (iI z).toInt = z := Int32.toInt_ofInt_of_le (by have := h.1; omega) (by have := h.2; omega)
theorem iI_of (x : Int32) : x = iI x.toInt := (Int32.ofInt_toInt x).symm
theorem iI_nat (n : Nat) : nI n = iI (n : Int) := Int32.ofInt_eq_ofNat.symm
theorem iI_ofNat (n : Nat) : Int32.ofNat n = iI (n : Int) := Int32.ofInt_eq_ofNat.symm
theorem iI_add (a b : Int) : iI a + iI b = iI (a + b) := by
  apply Int32.toInt_inj.mp
  simp [iI]
theorem iI_sub (a b : Int) : iI a - iI b = iI (a - b) := by
  apply Int32.toInt_inj.mp
  simp [iI]
theorem iI_mul (a b : Int) : iI a * iI b = iI (a * b) := by
  apply Int32.toInt_inj.mp
  simp [iI]
theorem iI_neg (a : Int) : -iI a = iI (-a) := by
  apply Int32.toInt_inj.mp
  simp [iI]
theorem iI_lt {a b : Int} (ha : bI a) (hb : bI b) : iI a < iI b ↔ a < b := by
  rw [Int32.lt_iff_toInt_lt, iI_toInt ha, iI_toInt hb]
theorem iI_le {a b : Int} (ha : bI a) (hb : bI b) : iI a ≤ iI b ↔ a ≤ b := by
  rw [Int32.le_iff_toInt_le, iI_toInt ha, iI_toInt hb]
theorem iI_eq {a b : Int} (ha : bI a) (hb : bI b) : iI a = iI b ↔ a = b := by
  rw [← Int32.toInt_inj, iI_toInt ha, iI_toInt hb]
theorem iI_cl {a : Int} (h0 : 0 ≤ a) (h1 : a < 2147483648) : (iI a).toNatClampNeg = a.toNat := by
  rw [show (iI a).toNatClampNeg = (iI a).toInt.toNat from rfl, iI_toInt ⟨by omega, h1⟩]
theorem iI_inR {a : Int} {n : Nat} (h0 : 0 ≤ a) (h1 : a < (n : Int)) (hn : n < 2147483648) : inR (iI a) n := by
  refine ⟨?_, ?_⟩
  · rw [show (0 : Int32) = iI 0 from rfl, iI_lt ⟨by omega, by omega⟩ ⟨by omega, by omega⟩]
    omega
  · rw [iI_cl h0 (by omega)]
    omega
theorem iI_div {a b : Int} (ha : 0 ≤ a) (ha2 : a < 2147483648) (hb : 0 < b) (hb2 : b < 2147483648) : iI a / iI b = iI (a / b) := by
  apply Int32.toInt_inj.mp
  rw [Int32.toInt_div_of_ne_right _ _ (fun q => by
    have := congrArg Int32.toInt q
    rw [iI_toInt ⟨by omega, by omega⟩] at this
    have h2 : (-1 : Int32).toInt = -1 := by decide
    omega), iI_toInt ⟨by omega, by omega⟩, iI_toInt ⟨by omega, by omega⟩, iI_toInt, Int.tdiv_eq_ediv_of_nonneg ha]
  have h1 := Int.ediv_nonneg ha (by omega : 0 ≤ b)
  have h2 := Int.ediv_le_self b ha
  exact ⟨by omega, by omega⟩
end
section
/-! numbers by digits: dv the highest first, le the lowest first -/
def dv (d : Nat → Nat) : Nat → Nat
  | 0 => 0
  | n + 1 => dv d n * 10 + d n
def le (c : Nat → Nat) : Nat → Nat
  | 0 => 0
  | n + 1 => le c n + c n * 10 ^ n
theorem dv_0 (d : Nat → Nat) : dv d 0 = 0 := rfl
theorem dv_s (d : Nat → Nat) (n : Nat) : dv d (n + 1) = dv d n * 10 + d n := rfl
theorem le_s (c : Nat → Nat) (n : Nat) : le c (n + 1) = le c n + c n * 10 ^ n := rfl
theorem dv_congr {d d' : Nat → Nat} : ∀ {n : Nat}, (∀ k, k < n → d k = d' k) → dv d n = dv d' n
  | 0, _ => rfl
  | n + 1, h => by rw [dv_s, dv_s, dv_congr (fun k hk => h k (by omega)), h n (by omega)]
theorem le_congr {d d' : Nat → Nat} : ∀ {n : Nat}, (∀ k, k < n → d k = d' k) → le d n = le d' n
  | 0, _ => rfl
  | n + 1, h => by rw [le_s, le_s, le_congr (fun k hk => h k (by omega)), h n (by omega)]
theorem p10 (n : Nat) : 0 < 10 ^ n := Nat.pow_pos (by decide)
theorem dv_lt {d : Nat → Nat} : ∀ {n : Nat}, (∀ k, k < n → d k < 10) → dv d n < 10 ^ n
  | 0, _ => Nat.one_pos
  | n + 1, h => by
    have h1 := dv_lt (d := d) (n := n) (fun k hk => h k (by omega))
    have h2 := h n (by omega)
    rw [dv_s, Nat.pow_succ]
    omega
theorem dv_add (d : Nat → Nat) (a : Nat) : ∀ b : Nat, dv d (a + b) = dv d a * 10 ^ b + dv (fun k => d (a + k)) b
  | 0 => by simp [dv_0]
  | b + 1 => by
    rw [← Nat.add_assoc, dv_s, dv_add d a b, dv_s, Nat.pow_succ, Nat.add_mul, Nat.mul_assoc, Nat.add_assoc]
theorem dv_trunc {d : Nat → Nat} {m n : Nat} (h : m ≤ n) (hd : ∀ k, k < n → d k < 10) : dv d m = dv d n / 10 ^ (n - m) := by
  obtain ⟨b, rfl⟩ : ∃ b, n = m + b := ⟨n - m, by omega⟩
  rw [dv_add, Nat.add_sub_cancel_left]
  have h1 : dv (fun k => d (m + k)) b < 10 ^ b := dv_lt (fun k hk => hd (m + k) (by omega))
  rw [Nat.mul_comm, Nat.mul_add_div (p10 b), Nat.div_eq_of_lt h1]
  rfl
theorem dv_pos {d : Nat → Nat} {n : Nat} (hn : 0 < n) (h0 : d 0 ≠ 0) : 10 ^ (n - 1) ≤ dv d n := by
  obtain ⟨b, rfl⟩ : ∃ b, n = 1 + b := ⟨n - 1, by omega⟩
  rw [dv_add, Nat.add_sub_cancel_left]
  have h1 : dv d 1 = d 0 := by simp [dv]
  rw [h1]
  have : 1 * 10 ^ b ≤ d 0 * 10 ^ b := Nat.mul_le_mul_right _ (by omega)
  omega
theorem dv_z {d : Nat → Nat} : ∀ {n : Nat}, (∀ k, k < n → d k = 0) → dv d n = 0
  | 0, _ => rfl
  | n + 1, h => by rw [dv_s, dv_z (fun k hk => h k (by omega)), h n (by omega)]
theorem le_lt {c : Nat → Nat} : ∀ {n : Nat}, (∀ k, k < n → c k < 10) → le c n < 10 ^ n
  | 0, _ => Nat.one_pos
  | n + 1, h => by
    have h1 := le_lt (c := c) (n := n) (fun k hk => h k (by omega))
    have h2 : c n * 10 ^ n ≤ 9 * 10 ^ n := Nat.mul_le_mul_right _ (by have := h n (by omega); omega)
    rw [le_s, Nat.pow_succ]
    omega
/-- lowest first is highest first read backwards -/
theorem le_dv (c : Nat → Nat) : ∀ n : Nat, le c n = dv (fun k => c (n - 1 - k)) n
  | 0 => rfl
  | n + 1 => by
    have e : n + 1 = 1 + n := by omega
    rw [le_s, le_dv c n, show dv (fun k => c (n + 1 - 1 - k)) (n + 1) = dv (fun k => c (n + 1 - 1 - k)) (1 + n) by rw [e], dv_add]
    have h1 : dv (fun k => c (n + 1 - 1 - k)) 1 = c n := by simp [dv]
    rw [h1, Nat.add_comm]
    congr 1
    apply dv_congr
    intro k hk
    show c (n - 1 - k) = c (n + 1 - 1 - (1 + k))
    congr 1
    omega
/-- sizes tell how many digits -/
theorem pow_size {a b c : Nat} (h1 : 10 ^ (a - 1) ≤ c) (h2 : c < 10 ^ b) (ha : 0 < a) : a ≤ b := by
  rcases Nat.lt_or_ge b a with h | h
  · exfalso
    have : 10 ^ b ≤ 10 ^ (a - 1) := Nat.pow_le_pow_right (by decide) (by omega)
    omega
  · exact h
end
section
theorem lw_good : wk_allgood := fun w hw => good_of_word (List.mem_filter.mp hw).2
abbrev cLine (j : Nat) : Prop := j = 1 ∨ (4 ≤ j ∧ j ≤ 24 ∧ j % 2 = 0)
abbrev cNum (j : Nat) : Prop := j = 29 ∨ j = 31 ∨ j = 33 ∨ j = 38 ∨ j = 40 ∨ j = 42 ∨ j = 44
def bl (j : Nat) : Nat := if j = 2 then 240 else 200
def il (j : Nat) : Nat := if j = 30 ∨ j = 32 then 200 else if j = 47 then 240 else if j = 48 then 2000 else if j = 49 then 10 else if j = 50 then 13000 else if j = 51 ∨ j = 52 ∨ j = 53 then 5 else if j = 54 then 300 else if j = 55 then 1600 else 100
abbrev cGt : Type := va_G × (Nat → Nat) × ClassId × ClassId × ClassId
abbrev cad (G : cGt) (i : Nat) : Nat := G.2.1 i
def eC (G : cGt) (j : Nat) (f : Nat → Int32) : va_E :=
  if cLine j then .inr (0, [.ref (cad G (j + 1)), .int (f 1)])
  else if cNum j then .inr (1, [.ref (cad G (j + 1)), .int (f 1), .int (f 2), .int (f 3)])
  else if j = 0 then .inr (5, [.ref (cad G 1), .ref (cad G 3), .ref (cad G 24), .ref (cad G 26), .ref (cad G 27), .ref (cad G 28), .ref (cad G 29), .ref (cad G 31), .ref (cad G 33), .int (f 9), .int (f 10), .int (f 11)])
  else if j = 3 then .inl (G.2.2.2.2, 10, .inr (.inr (.inr (.inr (fun k => some (cad G (4 + 2 * k)))))))
  else if j = 26 then .inr (2, [.int (f 0)])
  else if j = 27 then .inr (4, [])
  else if j = 28 then .inr (3, [.ref (cad G 35), .ref (cad G 36), .ref (cad G 37), .ref (cad G 38), .ref (cad G 40), .ref (cad G 42), .ref (cad G 44)])
  else if j = 46 then .inr (6, [.ref (cad G 47), .int (f 1), .ref (cad G 48), .ref (cad G 49), .int (f 4), .int (f 5), .int (f 6), .ref (cad G 50), .ref (cad G 51), .ref (cad G 52), .ref (cad G 53), .ref (cad G 54), .ref (cad G 55), .int (f 13)])
  else if j ≤ 25 then .inl (G.2.2.1, bl j, .inl f)
  else .inl (G.2.2.2.1, il j, .inl f)
def vC (G : cGt) : wd_V := (G.1, classes, [(G.2.2.2.1, .int), (G.2.2.1, .byte), (G.2.2.2.2, .object "NumberDesk$Line")], (fun i => cad G i), eC G, 56)
theorem he_cLine {G : cGt} {j : Nat} {f : Nat → Int32} (hj : cLine j) : eC G j f = .inr (0, [.ref (cad G (j + 1)), .int (f 1)]) := if_pos hj
theorem he_cNum {G : cGt} {j : Nat} {f : Nat → Int32} (hj : cNum j) : eC G j f = .inr (1, [.ref (cad G (j + 1)), .int (f 1), .int (f 2), .int (f 3)]) := by
  unfold eC
  rw [if_neg (by omega), if_pos hj]
theorem lz_cLine {j : Nat} (hj : cLine j) : j < 56 := by omega
theorem lz_cNum {j : Nat} (hj : cNum j) : j < 56 := by omega
theorem he_bl {G : cGt} {j : Nat} (hj : cLine j) (f : Nat → Int32) : eC G (j + 1) f = .inl (G.2.2.1, bl (j + 1), .inl f) := by
  unfold eC
  rw [if_neg (by omega), if_neg (by omega), if_neg (by omega), if_neg (by omega), if_neg (by omega), if_neg (by omega), if_neg (by omega), if_neg (by omega), if_pos (by omega)]
theorem he_il {G : cGt} {j : Nat} (hj : cNum j) (f : Nat → Int32) : eC G (j + 1) f = .inl (G.2.2.2.1, il (j + 1), .inl f) := by
  unfold eC
  rw [if_neg (by omega), if_neg (by omega), if_neg (by omega), if_neg (by omega), if_neg (by omega), if_neg (by omega), if_neg (by omega), if_neg (by omega), if_neg (by omega)]
theorem kd_reg {i : Int32} (hi : inR i 10) : cLine (4 + 2 * i.toNatClampNeg) := by
  have := hi.2
  omega
theorem kd_1 : cLine 1 := by decide
theorem kd_24 : cLine 24 := by decide
theorem kd_29 : cNum 29 := by decide
theorem kd_31 : cNum 31 := by decide
theorem kd_33 : cNum 33 := by decide
theorem kd_38 : cNum 38 := by decide
theorem kd_40 : cNum 40 := by decide
theorem kd_42 : cNum 42 := by decide
theorem kd_44 : cNum 44 := by decide
theorem lz_0 : 0 < 56 := by decide
theorem he_0 (G : cGt) (f : Nat → Int32) : eC G 0 f = .inr (5, [.ref (cad G 1), .ref (cad G 3), .ref (cad G 24), .ref (cad G 26), .ref (cad G 27), .ref (cad G 28), .ref (cad G 29), .ref (cad G 31), .ref (cad G 33), .int (f 9), .int (f 10), .int (f 11)]) := rfl
theorem lz_26 : 26 < 56 := by decide
theorem he_26 (G : cGt) (f : Nat → Int32) : eC G 26 f = .inr (2, [.int (f 0)]) := rfl
theorem lz_27 : 27 < 56 := by decide
theorem he_27 (G : cGt) (f : Nat → Int32) : eC G 27 f = .inr (4, []) := rfl
theorem lz_28 : 28 < 56 := by decide
theorem he_28 (G : cGt) (f : Nat → Int32) : eC G 28 f = .inr (3, [.ref (cad G 35), .ref (cad G 36), .ref (cad G 37), .ref (cad G 38), .ref (cad G 40), .ref (cad G 42), .ref (cad G 44)]) := rfl
theorem lz_46 : 46 < 56 := by decide
theorem he_46 (G : cGt) (f : Nat → Int32) : eC G 46 f = .inr (6, [.ref (cad G 47), .int (f 1), .ref (cad G 48), .ref (cad G 49), .int (f 4), .int (f 5), .int (f 6), .ref (cad G 50), .ref (cad G 51), .ref (cad G 52), .ref (cad G 53), .ref (cad G 54), .ref (cad G 55), .int (f 13)]) := rfl
theorem lz_35 : 35 < 56 := by decide
theorem he_35 (G : cGt) (f : Nat → Int32) : eC G 35 f = .inl (G.2.2.2.1, 100, .inl f) := rfl
theorem lz_36 : 36 < 56 := by decide
theorem he_36 (G : cGt) (f : Nat → Int32) : eC G 36 f = .inl (G.2.2.2.1, 100, .inl f) := rfl
theorem lz_37 : 37 < 56 := by decide
theorem he_37 (G : cGt) (f : Nat → Int32) : eC G 37 f = .inl (G.2.2.2.1, 100, .inl f) := rfl
theorem lz_47 : 47 < 56 := by decide
theorem he_47 (G : cGt) (f : Nat → Int32) : eC G 47 f = .inl (G.2.2.2.1, 240, .inl f) := rfl
theorem lz_48 : 48 < 56 := by decide
theorem he_48 (G : cGt) (f : Nat → Int32) : eC G 48 f = .inl (G.2.2.2.1, 2000, .inl f) := rfl
theorem lz_49 : 49 < 56 := by decide
theorem he_49 (G : cGt) (f : Nat → Int32) : eC G 49 f = .inl (G.2.2.2.1, 10, .inl f) := rfl
theorem lz_50 : 50 < 56 := by decide
theorem he_50 (G : cGt) (f : Nat → Int32) : eC G 50 f = .inl (G.2.2.2.1, 13000, .inl f) := rfl
theorem lz_51 : 51 < 56 := by decide
theorem he_51 (G : cGt) (f : Nat → Int32) : eC G 51 f = .inl (G.2.2.2.1, 5, .inl f) := rfl
theorem lz_52 : 52 < 56 := by decide
theorem he_52 (G : cGt) (f : Nat → Int32) : eC G 52 f = .inl (G.2.2.2.1, 5, .inl f) := rfl
theorem lz_53 : 53 < 56 := by decide
theorem he_53 (G : cGt) (f : Nat → Int32) : eC G 53 f = .inl (G.2.2.2.1, 5, .inl f) := rfl
theorem lz_54 : 54 < 56 := by decide
theorem he_54 (G : cGt) (f : Nat → Int32) : eC G 54 f = .inl (G.2.2.2.1, 300, .inl f) := rfl
theorem lz_55 : 55 < 56 := by decide
theorem he_55 (G : cGt) (f : Nat → Int32) : eC G 55 f = .inl (G.2.2.2.1, 1600, .inl f) := rfl
theorem he_3 (G : cGt) (f : Nat → Int32) : eC G 3 f = .inl (G.2.2.2.2, 10, .inr (.inr (.inr (.inr (fun k => some (cad G (4 + 2 * k))))))) := rfl
theorem fd_D_14 (G : cGt) : wk_Fd (vC G) RD 14 RD RD TD 12 5 0 := ⟨iwD, rfl, by decide, (lw_gm 167 (by decide +kernel) rfl), rfl⟩
theorem fd_D_18 (G : cGt) : wk_Fd (vC G) RD 18 RD RD TD 12 5 1 := ⟨iwD, rfl, by decide, (lw_gm 168 (by decide +kernel) rfl), rfl⟩
theorem fd_D_22 (G : cGt) : wk_Fd (vC G) RD 22 RD RD TD 12 5 2 := ⟨iwD, rfl, by decide, (lw_gm 169 (by decide +kernel) rfl), rfl⟩
theorem fd_D_28 (G : cGt) : wk_Fd (vC G) RD 28 RD RD TD 12 5 3 := ⟨iwD, rfl, by decide, (lw_gm 170 (by decide +kernel) rfl), rfl⟩
theorem fd_D_35 (G : cGt) : wk_Fd (vC G) RD 35 RD RD TD 12 5 4 := ⟨iwD, rfl, by decide, (lw_gm 171 (by decide +kernel) rfl), rfl⟩
theorem fd_D_42 (G : cGt) : wk_Fd (vC G) RD 42 RD RD TD 12 5 5 := ⟨iwD, rfl, by decide, (lw_gm 172 (by decide +kernel) rfl), rfl⟩
theorem fd_D_49 (G : cGt) : wk_Fd (vC G) RD 49 RD RD TD 12 5 6 := ⟨iwD, rfl, by decide, (lw_gm 173 (by decide +kernel) rfl), rfl⟩
theorem fd_D_53 (G : cGt) : wk_Fd (vC G) RD 53 RD RD TD 12 5 7 := ⟨iwD, rfl, by decide, (lw_gm 174 (by decide +kernel) rfl), rfl⟩
theorem fd_D_56 (G : cGt) : wk_Fd (vC G) RD 56 RD RD TD 12 5 8 := ⟨iwD, rfl, by decide, (lw_gm 175 (by decide +kernel) rfl), rfl⟩
theorem fd_D_59 (G : cGt) : wk_Fd (vC G) RD 59 RD RD TD 12 5 9 := ⟨iwD, rfl, by decide, (lw_gm 176 (by decide +kernel) rfl), rfl⟩
theorem fd_D_63 (G : cGt) : wk_Fd (vC G) RD 63 RD RD TD 12 5 10 := ⟨iwD, rfl, by decide, (lw_gm 177 (by decide +kernel) rfl), rfl⟩
theorem fd_D_66 (G : cGt) : wk_Fd (vC G) RD 66 RD RD TD 12 5 11 := ⟨iwD, rfl, by decide, (lw_gm 178 (by decide +kernel) rfl), rfl⟩
theorem fd_D_69 (G : cGt) : wk_Fd (vC G) RD 69 RL RL TL 2 0 1 := ⟨iwL, rfl, by decide, (lw_gm 81 (by decide +kernel) rfl), rfl⟩
theorem fd_D_103 (G : cGt) : wk_Fd (vC G) RD 103 RN RN TN 4 1 3 := ⟨iwN, rfl, by decide, (lw_gm 132 (by decide +kernel) rfl), rfl⟩
theorem fd_D_158 (G : cGt) : wk_Fd (vC G) RD 158 RN RN TN 4 1 1 := ⟨iwN, rfl, by decide, (lw_gm 125 (by decide +kernel) rfl), rfl⟩
theorem fd_L_9 (G : cGt) : wk_Fd (vC G) RL 9 RL RL TL 2 0 1 := ⟨iwL, rfl, by decide, (lw_gm 80 (by decide +kernel) rfl), rfl⟩
theorem fd_L_21 (G : cGt) : wk_Fd (vC G) RL 21 RL RL TL 2 0 0 := ⟨iwL, rfl, by decide, (lw_gm 79 (by decide +kernel) rfl), rfl⟩
theorem fd_N_9 (G : cGt) : wk_Fd (vC G) RN 9 RN RN TN 4 1 1 := ⟨iwN, rfl, by decide, (lw_gm 122 (by decide +kernel) rfl), rfl⟩
theorem fd_N_15 (G : cGt) : wk_Fd (vC G) RN 15 RN RN TN 4 1 2 := ⟨iwN, rfl, by decide, (lw_gm 126 (by decide +kernel) rfl), rfl⟩
theorem fd_N_18 (G : cGt) : wk_Fd (vC G) RN 18 RN RN TN 4 1 3 := ⟨iwN, rfl, by decide, (lw_gm 129 (by decide +kernel) rfl), rfl⟩
theorem fd_N_27 (G : cGt) : wk_Fd (vC G) RN 27 RN RN TN 4 1 0 := ⟨iwN, rfl, by decide, (lw_gm 121 (by decide +kernel) rfl), rfl⟩
theorem fd_R_9 (G : cGt) : wk_Fd (vC G) RR 9 RR RR TR 1 2 0 := ⟨iwR, rfl, by decide, (lw_gm 97 (by decide +kernel) rfl), rfl⟩
theorem fd_R_35 (G : cGt) : wk_Fd (vC G) RR 35 RN RN TN 4 1 2 := ⟨iwN, rfl, by decide, (lw_gm 127 (by decide +kernel) rfl), rfl⟩
theorem fd_R_42 (G : cGt) : wk_Fd (vC G) RR 42 RL RL TL 2 0 1 := ⟨iwL, rfl, by decide, (lw_gm 83 (by decide +kernel) rfl), rfl⟩
theorem fd_K_9 (G : cGt) : wk_Fd (vC G) RK 9 RK RK TK 7 3 0 := ⟨iwK, rfl, by decide, (lw_gm 143 (by decide +kernel) rfl), rfl⟩
theorem fd_K_15 (G : cGt) : wk_Fd (vC G) RK 15 RK RK TK 7 3 1 := ⟨iwK, rfl, by decide, (lw_gm 144 (by decide +kernel) rfl), rfl⟩
theorem fd_K_18 (G : cGt) : wk_Fd (vC G) RK 18 RK RK TK 7 3 2 := ⟨iwK, rfl, by decide, (lw_gm 145 (by decide +kernel) rfl), rfl⟩
theorem fd_K_26 (G : cGt) : wk_Fd (vC G) RK 26 RK RK TK 7 3 3 := ⟨iwK, rfl, by decide, (lw_gm 146 (by decide +kernel) rfl), rfl⟩
theorem fd_K_30 (G : cGt) : wk_Fd (vC G) RK 30 RK RK TK 7 3 4 := ⟨iwK, rfl, by decide, (lw_gm 147 (by decide +kernel) rfl), rfl⟩
theorem fd_K_33 (G : cGt) : wk_Fd (vC G) RK 33 RK RK TK 7 3 5 := ⟨iwK, rfl, by decide, (lw_gm 148 (by decide +kernel) rfl), rfl⟩
theorem fd_K_36 (G : cGt) : wk_Fd (vC G) RK 36 RK RK TK 7 3 6 := ⟨iwK, rfl, by decide, (lw_gm 149 (by decide +kernel) rfl), rfl⟩
theorem fd_K_39 (G : cGt) : wk_Fd (vC G) RK 39 RN RN TN 4 1 3 := ⟨iwN, rfl, by decide, (lw_gm 130 (by decide +kernel) rfl), rfl⟩
theorem fd_K_81 (G : cGt) : wk_Fd (vC G) RK 81 RN RN TN 4 1 2 := ⟨iwN, rfl, by decide, (lw_gm 128 (by decide +kernel) rfl), rfl⟩
theorem fd_K_111 (G : cGt) : wk_Fd (vC G) RK 111 RN RN TN 4 1 1 := ⟨iwN, rfl, by decide, (lw_gm 124 (by decide +kernel) rfl), rfl⟩
theorem fd_T_15 (G : cGt) : wk_Fd (vC G) RT 15 RL RL TL 2 0 1 := ⟨iwL, rfl, by decide, (lw_gm 82 (by decide +kernel) rfl), rfl⟩
theorem fd_T_60 (G : cGt) : wk_Fd (vC G) RT 60 RN RN TN 4 1 1 := ⟨iwN, rfl, by decide, (lw_gm 123 (by decide +kernel) rfl), rfl⟩
theorem fd_T_70 (G : cGt) : wk_Fd (vC G) RT 70 RN RN TN 4 1 3 := ⟨iwN, rfl, by decide, (lw_gm 131 (by decide +kernel) rfl), rfl⟩
theorem fd_M_7 (G : cGt) : wk_Fd (vC G) RM 7 RM RM TM 14 6 0 := ⟨iwM, rfl, by decide, (lw_gm 553 (by decide +kernel) rfl), rfl⟩
theorem fd_M_13 (G : cGt) : wk_Fd (vC G) RM 13 RM RM TM 14 6 2 := ⟨iwM, rfl, by decide, (lw_gm 555 (by decide +kernel) rfl), rfl⟩
theorem fd_M_16 (G : cGt) : wk_Fd (vC G) RM 16 RM RM TM 14 6 3 := ⟨iwM, rfl, by decide, (lw_gm 556 (by decide +kernel) rfl), rfl⟩
theorem fd_M_19 (G : cGt) : wk_Fd (vC G) RM 19 RM RM TM 14 6 4 := ⟨iwM, rfl, by decide, (lw_gm 557 (by decide +kernel) rfl), rfl⟩
theorem fd_M_23 (G : cGt) : wk_Fd (vC G) RM 23 RM RM TM 14 6 7 := ⟨iwM, rfl, by decide, (lw_gm 560 (by decide +kernel) rfl), rfl⟩
theorem fd_M_26 (G : cGt) : wk_Fd (vC G) RM 26 RM RM TM 14 6 8 := ⟨iwM, rfl, by decide, (lw_gm 561 (by decide +kernel) rfl), rfl⟩
theorem fd_M_29 (G : cGt) : wk_Fd (vC G) RM 29 RM RM TM 14 6 9 := ⟨iwM, rfl, by decide, (lw_gm 562 (by decide +kernel) rfl), rfl⟩
theorem fd_M_32 (G : cGt) : wk_Fd (vC G) RM 32 RM RM TM 14 6 10 := ⟨iwM, rfl, by decide, (lw_gm 563 (by decide +kernel) rfl), rfl⟩
theorem fd_M_35 (G : cGt) : wk_Fd (vC G) RM 35 RM RM TM 14 6 11 := ⟨iwM, rfl, by decide, (lw_gm 564 (by decide +kernel) rfl), rfl⟩
theorem fd_M_38 (G : cGt) : wk_Fd (vC G) RM 38 RM RM TM 14 6 12 := ⟨iwM, rfl, by decide, (lw_gm 565 (by decide +kernel) rfl), rfl⟩
theorem fd_M_41 (G : cGt) : wk_Fd (vC G) RM 41 RM RM TM 14 6 1 := ⟨iwM, rfl, by decide, (lw_gm 554 (by decide +kernel) rfl), rfl⟩
theorem fd_M_52 (G : cGt) : wk_Fd (vC G) RM 52 RM RM TM 14 6 5 := ⟨iwM, rfl, by decide, (lw_gm 558 (by decide +kernel) rfl), rfl⟩
theorem fd_M_55 (G : cGt) : wk_Fd (vC G) RM 55 RM RM TM 14 6 6 := ⟨iwM, rfl, by decide, (lw_gm 559 (by decide +kernel) rfl), rfl⟩
theorem fd_M_86 (G : cGt) : wk_Fd (vC G) RM 86 RM RM TM 14 6 13 := ⟨iwM, rfl, by decide, (lw_gm 566 (by decide +kernel) rfl), rfl⟩
theorem gf_D_14 {X : wk_X} {G : cGt} {h : Hp} {pc : Nat} {lv : List (Nat × Value)} {st : List Value} {cc : ByteArray} {nL fr lo : Nat} (C : wk_C X (vC G) cc RD nL fr lo) (d : decode cc pc = .ok (.getfield 14, 3)) (k : WW X (vC G) h (pc + 3) lv (.ref (cad G 1) :: st)) : WW X (vC G) h pc lv (.ref (cad G 0) :: st) := wk_get C (i := 0) (fd_D_14 G) lz_0 (he_0 G (h 0)) rfl d k
theorem gf_D_18 {X : wk_X} {G : cGt} {h : Hp} {pc : Nat} {lv : List (Nat × Value)} {st : List Value} {cc : ByteArray} {nL fr lo : Nat} (C : wk_C X (vC G) cc RD nL fr lo) (d : decode cc pc = .ok (.getfield 18, 3)) (k : WW X (vC G) h (pc + 3) lv (.ref (cad G 3) :: st)) : WW X (vC G) h pc lv (.ref (cad G 0) :: st) := wk_get C (i := 0) (fd_D_18 G) lz_0 (he_0 G (h 0)) rfl d k
theorem gf_D_22 {X : wk_X} {G : cGt} {h : Hp} {pc : Nat} {lv : List (Nat × Value)} {st : List Value} {cc : ByteArray} {nL fr lo : Nat} (C : wk_C X (vC G) cc RD nL fr lo) (d : decode cc pc = .ok (.getfield 22, 3)) (k : WW X (vC G) h (pc + 3) lv (.ref (cad G 24) :: st)) : WW X (vC G) h pc lv (.ref (cad G 0) :: st) := wk_get C (i := 0) (fd_D_22 G) lz_0 (he_0 G (h 0)) rfl d k
theorem gf_D_28 {X : wk_X} {G : cGt} {h : Hp} {pc : Nat} {lv : List (Nat × Value)} {st : List Value} {cc : ByteArray} {nL fr lo : Nat} (C : wk_C X (vC G) cc RD nL fr lo) (d : decode cc pc = .ok (.getfield 28, 3)) (k : WW X (vC G) h (pc + 3) lv (.ref (cad G 26) :: st)) : WW X (vC G) h pc lv (.ref (cad G 0) :: st) := wk_get C (i := 0) (fd_D_28 G) lz_0 (he_0 G (h 0)) rfl d k
theorem gf_D_35 {X : wk_X} {G : cGt} {h : Hp} {pc : Nat} {lv : List (Nat × Value)} {st : List Value} {cc : ByteArray} {nL fr lo : Nat} (C : wk_C X (vC G) cc RD nL fr lo) (d : decode cc pc = .ok (.getfield 35, 3)) (k : WW X (vC G) h (pc + 3) lv (.ref (cad G 27) :: st)) : WW X (vC G) h pc lv (.ref (cad G 0) :: st) := wk_get C (i := 0) (fd_D_35 G) lz_0 (he_0 G (h 0)) rfl d k
theorem gf_D_42 {X : wk_X} {G : cGt} {h : Hp} {pc : Nat} {lv : List (Nat × Value)} {st : List Value} {cc : ByteArray} {nL fr lo : Nat} (C : wk_C X (vC G) cc RD nL fr lo) (d : decode cc pc = .ok (.getfield 42, 3)) (k : WW X (vC G) h (pc + 3) lv (.ref (cad G 28) :: st)) : WW X (vC G) h pc lv (.ref (cad G 0) :: st) := wk_get C (i := 0) (fd_D_42 G) lz_0 (he_0 G (h 0)) rfl d k
theorem gf_D_49 {X : wk_X} {G : cGt} {h : Hp} {pc : Nat} {lv : List (Nat × Value)} {st : List Value} {cc : ByteArray} {nL fr lo : Nat} (C : wk_C X (vC G) cc RD nL fr lo) (d : decode cc pc = .ok (.getfield 49, 3)) (k : WW X (vC G) h (pc + 3) lv (.ref (cad G 29) :: st)) : WW X (vC G) h pc lv (.ref (cad G 0) :: st) := wk_get C (i := 0) (fd_D_49 G) lz_0 (he_0 G (h 0)) rfl d k
theorem gf_D_53 {X : wk_X} {G : cGt} {h : Hp} {pc : Nat} {lv : List (Nat × Value)} {st : List Value} {cc : ByteArray} {nL fr lo : Nat} (C : wk_C X (vC G) cc RD nL fr lo) (d : decode cc pc = .ok (.getfield 53, 3)) (k : WW X (vC G) h (pc + 3) lv (.ref (cad G 31) :: st)) : WW X (vC G) h pc lv (.ref (cad G 0) :: st) := wk_get C (i := 0) (fd_D_53 G) lz_0 (he_0 G (h 0)) rfl d k
theorem gf_D_56 {X : wk_X} {G : cGt} {h : Hp} {pc : Nat} {lv : List (Nat × Value)} {st : List Value} {cc : ByteArray} {nL fr lo : Nat} (C : wk_C X (vC G) cc RD nL fr lo) (d : decode cc pc = .ok (.getfield 56, 3)) (k : WW X (vC G) h (pc + 3) lv (.ref (cad G 33) :: st)) : WW X (vC G) h pc lv (.ref (cad G 0) :: st) := wk_get C (i := 0) (fd_D_56 G) lz_0 (he_0 G (h 0)) rfl d k
theorem gf_D_59 {X : wk_X} {G : cGt} {h : Hp} {pc : Nat} {lv : List (Nat × Value)} {st : List Value} {cc : ByteArray} {nL fr lo : Nat} (C : wk_C X (vC G) cc RD nL fr lo) (d : decode cc pc = .ok (.getfield 59, 3)) (k : WW X (vC G) h (pc + 3) lv (.int (h 0 9) :: st)) : WW X (vC G) h pc lv (.ref (cad G 0) :: st) := wk_get C (i := 0) (fd_D_59 G) lz_0 (he_0 G (h 0)) rfl d k
theorem gf_D_63 {X : wk_X} {G : cGt} {h : Hp} {pc : Nat} {lv : List (Nat × Value)} {st : List Value} {cc : ByteArray} {nL fr lo : Nat} (C : wk_C X (vC G) cc RD nL fr lo) (d : decode cc pc = .ok (.getfield 63, 3)) (k : WW X (vC G) h (pc + 3) lv (.int (h 0 10) :: st)) : WW X (vC G) h pc lv (.ref (cad G 0) :: st) := wk_get C (i := 0) (fd_D_63 G) lz_0 (he_0 G (h 0)) rfl d k
theorem gf_D_66 {X : wk_X} {G : cGt} {h : Hp} {pc : Nat} {lv : List (Nat × Value)} {st : List Value} {cc : ByteArray} {nL fr lo : Nat} (C : wk_C X (vC G) cc RD nL fr lo) (d : decode cc pc = .ok (.getfield 66, 3)) (k : WW X (vC G) h (pc + 3) lv (.int (h 0 11) :: st)) : WW X (vC G) h pc lv (.ref (cad G 0) :: st) := wk_get C (i := 0) (fd_D_66 G) lz_0 (he_0 G (h 0)) rfl d k
theorem gf_D_69 {X : wk_X} {G : cGt} {h : Hp} {pc : Nat} {lv : List (Nat × Value)} {st : List Value} {cc : ByteArray} {nL fr lo : Nat} (C : wk_C X (vC G) cc RD nL fr lo) {i : Nat} (hi : cLine i) (d : decode cc pc = .ok (.getfield 69, 3)) (k : WW X (vC G) h (pc + 3) lv (.int (h i 1) :: st)) : WW X (vC G) h pc lv (.ref (cad G i) :: st) := wk_get C (i := i) (fd_D_69 G) (lz_cLine hi) (he_cLine hi) rfl d k
theorem gf_D_103 {X : wk_X} {G : cGt} {h : Hp} {pc : Nat} {lv : List (Nat × Value)} {st : List Value} {cc : ByteArray} {nL fr lo : Nat} (C : wk_C X (vC G) cc RD nL fr lo) {i : Nat} (hi : cNum i) (d : decode cc pc = .ok (.getfield 103, 3)) (k : WW X (vC G) h (pc + 3) lv (.int (h i 3) :: st)) : WW X (vC G) h pc lv (.ref (cad G i) :: st) := wk_get C (i := i) (fd_D_103 G) (lz_cNum hi) (he_cNum hi) rfl d k
theorem gf_D_158 {X : wk_X} {G : cGt} {h : Hp} {pc : Nat} {lv : List (Nat × Value)} {st : List Value} {cc : ByteArray} {nL fr lo : Nat} (C : wk_C X (vC G) cc RD nL fr lo) {i : Nat} (hi : cNum i) (d : decode cc pc = .ok (.getfield 158, 3)) (k : WW X (vC G) h (pc + 3) lv (.int (h i 1) :: st)) : WW X (vC G) h pc lv (.ref (cad G i) :: st) := wk_get C (i := i) (fd_D_158 G) (lz_cNum hi) (he_cNum hi) rfl d k
theorem gf_L_9 {X : wk_X} {G : cGt} {h : Hp} {pc : Nat} {lv : List (Nat × Value)} {st : List Value} {cc : ByteArray} {nL fr lo : Nat} (C : wk_C X (vC G) cc RL nL fr lo) {i : Nat} (hi : cLine i) (d : decode cc pc = .ok (.getfield 9, 3)) (k : WW X (vC G) h (pc + 3) lv (.int (h i 1) :: st)) : WW X (vC G) h pc lv (.ref (cad G i) :: st) := wk_get C (i := i) (fd_L_9 G) (lz_cLine hi) (he_cLine hi) rfl d k
theorem gf_L_21 {X : wk_X} {G : cGt} {h : Hp} {pc : Nat} {lv : List (Nat × Value)} {st : List Value} {cc : ByteArray} {nL fr lo : Nat} (C : wk_C X (vC G) cc RL nL fr lo) {i : Nat} (hi : cLine i) (d : decode cc pc = .ok (.getfield 21, 3)) (k : WW X (vC G) h (pc + 3) lv (.ref (cad G (i + 1)) :: st)) : WW X (vC G) h pc lv (.ref (cad G i) :: st) := wk_get C (i := i) (fd_L_21 G) (lz_cLine hi) (he_cLine hi) rfl d k
theorem gf_N_9 {X : wk_X} {G : cGt} {h : Hp} {pc : Nat} {lv : List (Nat × Value)} {st : List Value} {cc : ByteArray} {nL fr lo : Nat} (C : wk_C X (vC G) cc RN nL fr lo) {i : Nat} (hi : cNum i) (d : decode cc pc = .ok (.getfield 9, 3)) (k : WW X (vC G) h (pc + 3) lv (.int (h i 1) :: st)) : WW X (vC G) h pc lv (.ref (cad G i) :: st) := wk_get C (i := i) (fd_N_9 G) (lz_cNum hi) (he_cNum hi) rfl d k
theorem gf_N_15 {X : wk_X} {G : cGt} {h : Hp} {pc : Nat} {lv : List (Nat × Value)} {st : List Value} {cc : ByteArray} {nL fr lo : Nat} (C : wk_C X (vC G) cc RN nL fr lo) {i : Nat} (hi : cNum i) (d : decode cc pc = .ok (.getfield 15, 3)) (k : WW X (vC G) h (pc + 3) lv (.int (h i 2) :: st)) : WW X (vC G) h pc lv (.ref (cad G i) :: st) := wk_get C (i := i) (fd_N_15 G) (lz_cNum hi) (he_cNum hi) rfl d k
theorem gf_N_18 {X : wk_X} {G : cGt} {h : Hp} {pc : Nat} {lv : List (Nat × Value)} {st : List Value} {cc : ByteArray} {nL fr lo : Nat} (C : wk_C X (vC G) cc RN nL fr lo) {i : Nat} (hi : cNum i) (d : decode cc pc = .ok (.getfield 18, 3)) (k : WW X (vC G) h (pc + 3) lv (.int (h i 3) :: st)) : WW X (vC G) h pc lv (.ref (cad G i) :: st) := wk_get C (i := i) (fd_N_18 G) (lz_cNum hi) (he_cNum hi) rfl d k
theorem gf_N_27 {X : wk_X} {G : cGt} {h : Hp} {pc : Nat} {lv : List (Nat × Value)} {st : List Value} {cc : ByteArray} {nL fr lo : Nat} (C : wk_C X (vC G) cc RN nL fr lo) {i : Nat} (hi : cNum i) (d : decode cc pc = .ok (.getfield 27, 3)) (k : WW X (vC G) h (pc + 3) lv (.ref (cad G (i + 1)) :: st)) : WW X (vC G) h pc lv (.ref (cad G i) :: st) := wk_get C (i := i) (fd_N_27 G) (lz_cNum hi) (he_cNum hi) rfl d k
theorem gf_R_9 {X : wk_X} {G : cGt} {h : Hp} {pc : Nat} {lv : List (Nat × Value)} {st : List Value} {cc : ByteArray} {nL fr lo : Nat} (C : wk_C X (vC G) cc RR nL fr lo) (d : decode cc pc = .ok (.getfield 9, 3)) (k : WW X (vC G) h (pc + 3) lv (.int (h 26 0) :: st)) : WW X (vC G) h pc lv (.ref (cad G 26) :: st) := wk_get C (i := 26) (fd_R_9 G) lz_26 (he_26 G (h 26)) rfl d k
theorem gf_R_35 {X : wk_X} {G : cGt} {h : Hp} {pc : Nat} {lv : List (Nat × Value)} {st : List Value} {cc : ByteArray} {nL fr lo : Nat} (C : wk_C X (vC G) cc RR nL fr lo) {i : Nat} (hi : cNum i) (d : decode cc pc = .ok (.getfield 35, 3)) (k : WW X (vC G) h (pc + 3) lv (.int (h i 2) :: st)) : WW X (vC G) h pc lv (.ref (cad G i) :: st) := wk_get C (i := i) (fd_R_35 G) (lz_cNum hi) (he_cNum hi) rfl d k
theorem gf_R_42 {X : wk_X} {G : cGt} {h : Hp} {pc : Nat} {lv : List (Nat × Value)} {st : List Value} {cc : ByteArray} {nL fr lo : Nat} (C : wk_C X (vC G) cc RR nL fr lo) {i : Nat} (hi : cLine i) (d : decode cc pc = .ok (.getfield 42, 3)) (k : WW X (vC G) h (pc + 3) lv (.int (h i 1) :: st)) : WW X (vC G) h pc lv (.ref (cad G i) :: st) := wk_get C (i := i) (fd_R_42 G) (lz_cLine hi) (he_cLine hi) rfl d k
theorem gf_K_9 {X : wk_X} {G : cGt} {h : Hp} {pc : Nat} {lv : List (Nat × Value)} {st : List Value} {cc : ByteArray} {nL fr lo : Nat} (C : wk_C X (vC G) cc RK nL fr lo) (d : decode cc pc = .ok (.getfield 9, 3)) (k : WW X (vC G) h (pc + 3) lv (.ref (cad G 35) :: st)) : WW X (vC G) h pc lv (.ref (cad G 28) :: st) := wk_get C (i := 28) (fd_K_9 G) lz_28 (he_28 G (h 28)) rfl d k
theorem gf_K_15 {X : wk_X} {G : cGt} {h : Hp} {pc : Nat} {lv : List (Nat × Value)} {st : List Value} {cc : ByteArray} {nL fr lo : Nat} (C : wk_C X (vC G) cc RK nL fr lo) (d : decode cc pc = .ok (.getfield 15, 3)) (k : WW X (vC G) h (pc + 3) lv (.ref (cad G 36) :: st)) : WW X (vC G) h pc lv (.ref (cad G 28) :: st) := wk_get C (i := 28) (fd_K_15 G) lz_28 (he_28 G (h 28)) rfl d k
theorem gf_K_18 {X : wk_X} {G : cGt} {h : Hp} {pc : Nat} {lv : List (Nat × Value)} {st : List Value} {cc : ByteArray} {nL fr lo : Nat} (C : wk_C X (vC G) cc RK nL fr lo) (d : decode cc pc = .ok (.getfield 18, 3)) (k : WW X (vC G) h (pc + 3) lv (.ref (cad G 37) :: st)) : WW X (vC G) h pc lv (.ref (cad G 28) :: st) := wk_get C (i := 28) (fd_K_18 G) lz_28 (he_28 G (h 28)) rfl d k
theorem gf_K_26 {X : wk_X} {G : cGt} {h : Hp} {pc : Nat} {lv : List (Nat × Value)} {st : List Value} {cc : ByteArray} {nL fr lo : Nat} (C : wk_C X (vC G) cc RK nL fr lo) (d : decode cc pc = .ok (.getfield 26, 3)) (k : WW X (vC G) h (pc + 3) lv (.ref (cad G 38) :: st)) : WW X (vC G) h pc lv (.ref (cad G 28) :: st) := wk_get C (i := 28) (fd_K_26 G) lz_28 (he_28 G (h 28)) rfl d k
theorem gf_K_30 {X : wk_X} {G : cGt} {h : Hp} {pc : Nat} {lv : List (Nat × Value)} {st : List Value} {cc : ByteArray} {nL fr lo : Nat} (C : wk_C X (vC G) cc RK nL fr lo) (d : decode cc pc = .ok (.getfield 30, 3)) (k : WW X (vC G) h (pc + 3) lv (.ref (cad G 40) :: st)) : WW X (vC G) h pc lv (.ref (cad G 28) :: st) := wk_get C (i := 28) (fd_K_30 G) lz_28 (he_28 G (h 28)) rfl d k
theorem gf_K_33 {X : wk_X} {G : cGt} {h : Hp} {pc : Nat} {lv : List (Nat × Value)} {st : List Value} {cc : ByteArray} {nL fr lo : Nat} (C : wk_C X (vC G) cc RK nL fr lo) (d : decode cc pc = .ok (.getfield 33, 3)) (k : WW X (vC G) h (pc + 3) lv (.ref (cad G 42) :: st)) : WW X (vC G) h pc lv (.ref (cad G 28) :: st) := wk_get C (i := 28) (fd_K_33 G) lz_28 (he_28 G (h 28)) rfl d k
theorem gf_K_36 {X : wk_X} {G : cGt} {h : Hp} {pc : Nat} {lv : List (Nat × Value)} {st : List Value} {cc : ByteArray} {nL fr lo : Nat} (C : wk_C X (vC G) cc RK nL fr lo) (d : decode cc pc = .ok (.getfield 36, 3)) (k : WW X (vC G) h (pc + 3) lv (.ref (cad G 44) :: st)) : WW X (vC G) h pc lv (.ref (cad G 28) :: st) := wk_get C (i := 28) (fd_K_36 G) lz_28 (he_28 G (h 28)) rfl d k
theorem gf_K_39 {X : wk_X} {G : cGt} {h : Hp} {pc : Nat} {lv : List (Nat × Value)} {st : List Value} {cc : ByteArray} {nL fr lo : Nat} (C : wk_C X (vC G) cc RK nL fr lo) {i : Nat} (hi : cNum i) (d : decode cc pc = .ok (.getfield 39, 3)) (k : WW X (vC G) h (pc + 3) lv (.int (h i 3) :: st)) : WW X (vC G) h pc lv (.ref (cad G i) :: st) := wk_get C (i := i) (fd_K_39 G) (lz_cNum hi) (he_cNum hi) rfl d k
theorem gf_K_81 {X : wk_X} {G : cGt} {h : Hp} {pc : Nat} {lv : List (Nat × Value)} {st : List Value} {cc : ByteArray} {nL fr lo : Nat} (C : wk_C X (vC G) cc RK nL fr lo) {i : Nat} (hi : cNum i) (d : decode cc pc = .ok (.getfield 81, 3)) (k : WW X (vC G) h (pc + 3) lv (.int (h i 2) :: st)) : WW X (vC G) h pc lv (.ref (cad G i) :: st) := wk_get C (i := i) (fd_K_81 G) (lz_cNum hi) (he_cNum hi) rfl d k
theorem gf_K_111 {X : wk_X} {G : cGt} {h : Hp} {pc : Nat} {lv : List (Nat × Value)} {st : List Value} {cc : ByteArray} {nL fr lo : Nat} (C : wk_C X (vC G) cc RK nL fr lo) {i : Nat} (hi : cNum i) (d : decode cc pc = .ok (.getfield 111, 3)) (k : WW X (vC G) h (pc + 3) lv (.int (h i 1) :: st)) : WW X (vC G) h pc lv (.ref (cad G i) :: st) := wk_get C (i := i) (fd_K_111 G) (lz_cNum hi) (he_cNum hi) rfl d k
theorem gf_T_60 {X : wk_X} {G : cGt} {h : Hp} {pc : Nat} {lv : List (Nat × Value)} {st : List Value} {cc : ByteArray} {nL fr lo : Nat} (C : wk_C X (vC G) cc RT nL fr lo) {i : Nat} (hi : cNum i) (d : decode cc pc = .ok (.getfield 60, 3)) (k : WW X (vC G) h (pc + 3) lv (.int (h i 1) :: st)) : WW X (vC G) h pc lv (.ref (cad G i) :: st) := wk_get C (i := i) (fd_T_60 G) (lz_cNum hi) (he_cNum hi) rfl d k
theorem gf_T_70 {X : wk_X} {G : cGt} {h : Hp} {pc : Nat} {lv : List (Nat × Value)} {st : List Value} {cc : ByteArray} {nL fr lo : Nat} (C : wk_C X (vC G) cc RT nL fr lo) {i : Nat} (hi : cNum i) (d : decode cc pc = .ok (.getfield 70, 3)) (k : WW X (vC G) h (pc + 3) lv (.int (h i 3) :: st)) : WW X (vC G) h pc lv (.ref (cad G i) :: st) := wk_get C (i := i) (fd_T_70 G) (lz_cNum hi) (he_cNum hi) rfl d k
theorem gf_M_7 {X : wk_X} {G : cGt} {h : Hp} {pc : Nat} {lv : List (Nat × Value)} {st : List Value} {cc : ByteArray} {nL fr lo : Nat} (C : wk_C X (vC G) cc RM nL fr lo) (d : decode cc pc = .ok (.getfield 7, 3)) (k : WW X (vC G) h (pc + 3) lv (.ref (cad G 47) :: st)) : WW X (vC G) h pc lv (.ref (cad G 46) :: st) := wk_get C (i := 46) (fd_M_7 G) lz_46 (he_46 G (h 46)) rfl d k
theorem gf_M_13 {X : wk_X} {G : cGt} {h : Hp} {pc : Nat} {lv : List (Nat × Value)} {st : List Value} {cc : ByteArray} {nL fr lo : Nat} (C : wk_C X (vC G) cc RM nL fr lo) (d : decode cc pc = .ok (.getfield 13, 3)) (k : WW X (vC G) h (pc + 3) lv (.ref (cad G 48) :: st)) : WW X (vC G) h pc lv (.ref (cad G 46) :: st) := wk_get C (i := 46) (fd_M_13 G) lz_46 (he_46 G (h 46)) rfl d k
theorem gf_M_16 {X : wk_X} {G : cGt} {h : Hp} {pc : Nat} {lv : List (Nat × Value)} {st : List Value} {cc : ByteArray} {nL fr lo : Nat} (C : wk_C X (vC G) cc RM nL fr lo) (d : decode cc pc = .ok (.getfield 16, 3)) (k : WW X (vC G) h (pc + 3) lv (.ref (cad G 49) :: st)) : WW X (vC G) h pc lv (.ref (cad G 46) :: st) := wk_get C (i := 46) (fd_M_16 G) lz_46 (he_46 G (h 46)) rfl d k
theorem gf_M_19 {X : wk_X} {G : cGt} {h : Hp} {pc : Nat} {lv : List (Nat × Value)} {st : List Value} {cc : ByteArray} {nL fr lo : Nat} (C : wk_C X (vC G) cc RM nL fr lo) (d : decode cc pc = .ok (.getfield 19, 3)) (k : WW X (vC G) h (pc + 3) lv (.int (h 46 4) :: st)) : WW X (vC G) h pc lv (.ref (cad G 46) :: st) := wk_get C (i := 46) (fd_M_19 G) lz_46 (he_46 G (h 46)) rfl d k
theorem gf_M_23 {X : wk_X} {G : cGt} {h : Hp} {pc : Nat} {lv : List (Nat × Value)} {st : List Value} {cc : ByteArray} {nL fr lo : Nat} (C : wk_C X (vC G) cc RM nL fr lo) (d : decode cc pc = .ok (.getfield 23, 3)) (k : WW X (vC G) h (pc + 3) lv (.ref (cad G 50) :: st)) : WW X (vC G) h pc lv (.ref (cad G 46) :: st) := wk_get C (i := 46) (fd_M_23 G) lz_46 (he_46 G (h 46)) rfl d k
theorem gf_M_26 {X : wk_X} {G : cGt} {h : Hp} {pc : Nat} {lv : List (Nat × Value)} {st : List Value} {cc : ByteArray} {nL fr lo : Nat} (C : wk_C X (vC G) cc RM nL fr lo) (d : decode cc pc = .ok (.getfield 26, 3)) (k : WW X (vC G) h (pc + 3) lv (.ref (cad G 51) :: st)) : WW X (vC G) h pc lv (.ref (cad G 46) :: st) := wk_get C (i := 46) (fd_M_26 G) lz_46 (he_46 G (h 46)) rfl d k
theorem gf_M_29 {X : wk_X} {G : cGt} {h : Hp} {pc : Nat} {lv : List (Nat × Value)} {st : List Value} {cc : ByteArray} {nL fr lo : Nat} (C : wk_C X (vC G) cc RM nL fr lo) (d : decode cc pc = .ok (.getfield 29, 3)) (k : WW X (vC G) h (pc + 3) lv (.ref (cad G 52) :: st)) : WW X (vC G) h pc lv (.ref (cad G 46) :: st) := wk_get C (i := 46) (fd_M_29 G) lz_46 (he_46 G (h 46)) rfl d k
theorem gf_M_32 {X : wk_X} {G : cGt} {h : Hp} {pc : Nat} {lv : List (Nat × Value)} {st : List Value} {cc : ByteArray} {nL fr lo : Nat} (C : wk_C X (vC G) cc RM nL fr lo) (d : decode cc pc = .ok (.getfield 32, 3)) (k : WW X (vC G) h (pc + 3) lv (.ref (cad G 53) :: st)) : WW X (vC G) h pc lv (.ref (cad G 46) :: st) := wk_get C (i := 46) (fd_M_32 G) lz_46 (he_46 G (h 46)) rfl d k
theorem gf_M_35 {X : wk_X} {G : cGt} {h : Hp} {pc : Nat} {lv : List (Nat × Value)} {st : List Value} {cc : ByteArray} {nL fr lo : Nat} (C : wk_C X (vC G) cc RM nL fr lo) (d : decode cc pc = .ok (.getfield 35, 3)) (k : WW X (vC G) h (pc + 3) lv (.ref (cad G 54) :: st)) : WW X (vC G) h pc lv (.ref (cad G 46) :: st) := wk_get C (i := 46) (fd_M_35 G) lz_46 (he_46 G (h 46)) rfl d k
theorem gf_M_38 {X : wk_X} {G : cGt} {h : Hp} {pc : Nat} {lv : List (Nat × Value)} {st : List Value} {cc : ByteArray} {nL fr lo : Nat} (C : wk_C X (vC G) cc RM nL fr lo) (d : decode cc pc = .ok (.getfield 38, 3)) (k : WW X (vC G) h (pc + 3) lv (.ref (cad G 55) :: st)) : WW X (vC G) h pc lv (.ref (cad G 46) :: st) := wk_get C (i := 46) (fd_M_38 G) lz_46 (he_46 G (h 46)) rfl d k
theorem gf_M_41 {X : wk_X} {G : cGt} {h : Hp} {pc : Nat} {lv : List (Nat × Value)} {st : List Value} {cc : ByteArray} {nL fr lo : Nat} (C : wk_C X (vC G) cc RM nL fr lo) (d : decode cc pc = .ok (.getfield 41, 3)) (k : WW X (vC G) h (pc + 3) lv (.int (h 46 1) :: st)) : WW X (vC G) h pc lv (.ref (cad G 46) :: st) := wk_get C (i := 46) (fd_M_41 G) lz_46 (he_46 G (h 46)) rfl d k
theorem gf_M_52 {X : wk_X} {G : cGt} {h : Hp} {pc : Nat} {lv : List (Nat × Value)} {st : List Value} {cc : ByteArray} {nL fr lo : Nat} (C : wk_C X (vC G) cc RM nL fr lo) (d : decode cc pc = .ok (.getfield 52, 3)) (k : WW X (vC G) h (pc + 3) lv (.int (h 46 5) :: st)) : WW X (vC G) h pc lv (.ref (cad G 46) :: st) := wk_get C (i := 46) (fd_M_52 G) lz_46 (he_46 G (h 46)) rfl d k
theorem gf_M_55 {X : wk_X} {G : cGt} {h : Hp} {pc : Nat} {lv : List (Nat × Value)} {st : List Value} {cc : ByteArray} {nL fr lo : Nat} (C : wk_C X (vC G) cc RM nL fr lo) (d : decode cc pc = .ok (.getfield 55, 3)) (k : WW X (vC G) h (pc + 3) lv (.int (h 46 6) :: st)) : WW X (vC G) h pc lv (.ref (cad G 46) :: st) := wk_get C (i := 46) (fd_M_55 G) lz_46 (he_46 G (h 46)) rfl d k
theorem gf_M_86 {X : wk_X} {G : cGt} {h : Hp} {pc : Nat} {lv : List (Nat × Value)} {st : List Value} {cc : ByteArray} {nL fr lo : Nat} (C : wk_C X (vC G) cc RM nL fr lo) (d : decode cc pc = .ok (.getfield 86, 3)) (k : WW X (vC G) h (pc + 3) lv (.int (h 46 13) :: st)) : WW X (vC G) h pc lv (.ref (cad G 46) :: st) := wk_get C (i := 46) (fd_M_86 G) lz_46 (he_46 G (h 46)) rfl d k
theorem pf_D_59 {X : wk_X} {G : cGt} {h : Hp} {pc : Nat} {lv : List (Nat × Value)} {st : List Value} {cc : ByteArray} {nL fr lo : Nat} (C : wk_C X (vC G) cc RD nL fr lo) {v : Int32} (d : decode cc pc = .ok (.putfield 59, 3)) (k : WW X (vC G) (up2 h 0 9 v) (pc + 3) lv st) : WW X (vC G) h pc lv (.int v :: .ref (cad G 0) :: st) := wk_put C (i := 0) (k := 9) (fd_D_59 G) tyD_ok nmD rfl (by decide +kernel) lz_0 (he_0 G (h 0)) (Nat.le_of_ble_eq_true rfl) ((he_0 G (upd (h 0) 9 v)).trans (by simp [upd])) d k
theorem pf_D_63 {X : wk_X} {G : cGt} {h : Hp} {pc : Nat} {lv : List (Nat × Value)} {st : List Value} {cc : ByteArray} {nL fr lo : Nat} (C : wk_C X (vC G) cc RD nL fr lo) {v : Int32} (d : decode cc pc = .ok (.putfield 63, 3)) (k : WW X (vC G) (up2 h 0 10 v) (pc + 3) lv st) : WW X (vC G) h pc lv (.int v :: .ref (cad G 0) :: st) := wk_put C (i := 0) (k := 10) (fd_D_63 G) tyD_ok nmD rfl (by decide +kernel) lz_0 (he_0 G (h 0)) (Nat.le_of_ble_eq_true rfl) ((he_0 G (upd (h 0) 10 v)).trans (by simp [upd])) d k
theorem pf_D_66 {X : wk_X} {G : cGt} {h : Hp} {pc : Nat} {lv : List (Nat × Value)} {st : List Value} {cc : ByteArray} {nL fr lo : Nat} (C : wk_C X (vC G) cc RD nL fr lo) {v : Int32} (d : decode cc pc = .ok (.putfield 66, 3)) (k : WW X (vC G) (up2 h 0 11 v) (pc + 3) lv st) : WW X (vC G) h pc lv (.int v :: .ref (cad G 0) :: st) := wk_put C (i := 0) (k := 11) (fd_D_66 G) tyD_ok nmD rfl (by decide +kernel) lz_0 (he_0 G (h 0)) (Nat.le_of_ble_eq_true rfl) ((he_0 G (upd (h 0) 11 v)).trans (by simp [upd])) d k
theorem pf_D_69 {X : wk_X} {G : cGt} {h : Hp} {pc : Nat} {lv : List (Nat × Value)} {st : List Value} {cc : ByteArray} {nL fr lo : Nat} (C : wk_C X (vC G) cc RD nL fr lo) {i : Nat} (hi : cLine i) {v : Int32} (d : decode cc pc = .ok (.putfield 69, 3)) (k : WW X (vC G) (up2 h i 1 v) (pc + 3) lv st) : WW X (vC G) h pc lv (.int v :: .ref (cad G i) :: st) := wk_put C (i := i) (k := 1) (fd_D_69 G) tyL_ok nmL rfl (by decide +kernel) (lz_cLine hi) (he_cLine hi) (Nat.le_of_ble_eq_true rfl) ((he_cLine hi).trans (by simp [upd])) d k
theorem pf_D_103 {X : wk_X} {G : cGt} {h : Hp} {pc : Nat} {lv : List (Nat × Value)} {st : List Value} {cc : ByteArray} {nL fr lo : Nat} (C : wk_C X (vC G) cc RD nL fr lo) {i : Nat} (hi : cNum i) {v : Int32} (d : decode cc pc = .ok (.putfield 103, 3)) (k : WW X (vC G) (up2 h i 3 v) (pc + 3) lv st) : WW X (vC G) h pc lv (.int v :: .ref (cad G i) :: st) := wk_put C (i := i) (k := 3) (fd_D_103 G) tyN_ok nmN rfl (by decide +kernel) (lz_cNum hi) (he_cNum hi) (Nat.le_of_ble_eq_true rfl) ((he_cNum hi).trans (by simp [upd])) d k
theorem pf_L_9 {X : wk_X} {G : cGt} {h : Hp} {pc : Nat} {lv : List (Nat × Value)} {st : List Value} {cc : ByteArray} {nL fr lo : Nat} (C : wk_C X (vC G) cc RL nL fr lo) {i : Nat} (hi : cLine i) {v : Int32} (d : decode cc pc = .ok (.putfield 9, 3)) (k : WW X (vC G) (up2 h i 1 v) (pc + 3) lv st) : WW X (vC G) h pc lv (.int v :: .ref (cad G i) :: st) := wk_put C (i := i) (k := 1) (fd_L_9 G) tyL_ok nmL rfl (by decide +kernel) (lz_cLine hi) (he_cLine hi) (Nat.le_of_ble_eq_true rfl) ((he_cLine hi).trans (by simp [upd])) d k
theorem pf_N_9 {X : wk_X} {G : cGt} {h : Hp} {pc : Nat} {lv : List (Nat × Value)} {st : List Value} {cc : ByteArray} {nL fr lo : Nat} (C : wk_C X (vC G) cc RN nL fr lo) {i : Nat} (hi : cNum i) {v : Int32} (d : decode cc pc = .ok (.putfield 9, 3)) (k : WW X (vC G) (up2 h i 1 v) (pc + 3) lv st) : WW X (vC G) h pc lv (.int v :: .ref (cad G i) :: st) := wk_put C (i := i) (k := 1) (fd_N_9 G) tyN_ok nmN rfl (by decide +kernel) (lz_cNum hi) (he_cNum hi) (Nat.le_of_ble_eq_true rfl) ((he_cNum hi).trans (by simp [upd])) d k
theorem pf_N_15 {X : wk_X} {G : cGt} {h : Hp} {pc : Nat} {lv : List (Nat × Value)} {st : List Value} {cc : ByteArray} {nL fr lo : Nat} (C : wk_C X (vC G) cc RN nL fr lo) {i : Nat} (hi : cNum i) {v : Int32} (d : decode cc pc = .ok (.putfield 15, 3)) (k : WW X (vC G) (up2 h i 2 v) (pc + 3) lv st) : WW X (vC G) h pc lv (.int v :: .ref (cad G i) :: st) := wk_put C (i := i) (k := 2) (fd_N_15 G) tyN_ok nmN rfl (by decide +kernel) (lz_cNum hi) (he_cNum hi) (Nat.le_of_ble_eq_true rfl) ((he_cNum hi).trans (by simp [upd])) d k
theorem pf_N_18 {X : wk_X} {G : cGt} {h : Hp} {pc : Nat} {lv : List (Nat × Value)} {st : List Value} {cc : ByteArray} {nL fr lo : Nat} (C : wk_C X (vC G) cc RN nL fr lo) {i : Nat} (hi : cNum i) {v : Int32} (d : decode cc pc = .ok (.putfield 18, 3)) (k : WW X (vC G) (up2 h i 3 v) (pc + 3) lv st) : WW X (vC G) h pc lv (.int v :: .ref (cad G i) :: st) := wk_put C (i := i) (k := 3) (fd_N_18 G) tyN_ok nmN rfl (by decide +kernel) (lz_cNum hi) (he_cNum hi) (Nat.le_of_ble_eq_true rfl) ((he_cNum hi).trans (by simp [upd])) d k
theorem pf_R_9 {X : wk_X} {G : cGt} {h : Hp} {pc : Nat} {lv : List (Nat × Value)} {st : List Value} {cc : ByteArray} {nL fr lo : Nat} (C : wk_C X (vC G) cc RR nL fr lo) {v : Int32} (d : decode cc pc = .ok (.putfield 9, 3)) (k : WW X (vC G) (up2 h 26 0 v) (pc + 3) lv st) : WW X (vC G) h pc lv (.int v :: .ref (cad G 26) :: st) := wk_put C (i := 26) (k := 0) (fd_R_9 G) tyR_ok nmR rfl (by decide +kernel) lz_26 (he_26 G (h 26)) (Nat.le_of_ble_eq_true rfl) ((he_26 G (upd (h 26) 0 v)).trans (by simp [upd])) d k
theorem pf_R_35 {X : wk_X} {G : cGt} {h : Hp} {pc : Nat} {lv : List (Nat × Value)} {st : List Value} {cc : ByteArray} {nL fr lo : Nat} (C : wk_C X (vC G) cc RR nL fr lo) {i : Nat} (hi : cNum i) {v : Int32} (d : decode cc pc = .ok (.putfield 35, 3)) (k : WW X (vC G) (up2 h i 2 v) (pc + 3) lv st) : WW X (vC G) h pc lv (.int v :: .ref (cad G i) :: st) := wk_put C (i := i) (k := 2) (fd_R_35 G) tyN_ok nmN rfl (by decide +kernel) (lz_cNum hi) (he_cNum hi) (Nat.le_of_ble_eq_true rfl) ((he_cNum hi).trans (by simp [upd])) d k
theorem pf_K_39 {X : wk_X} {G : cGt} {h : Hp} {pc : Nat} {lv : List (Nat × Value)} {st : List Value} {cc : ByteArray} {nL fr lo : Nat} (C : wk_C X (vC G) cc RK nL fr lo) {i : Nat} (hi : cNum i) {v : Int32} (d : decode cc pc = .ok (.putfield 39, 3)) (k : WW X (vC G) (up2 h i 3 v) (pc + 3) lv st) : WW X (vC G) h pc lv (.int v :: .ref (cad G i) :: st) := wk_put C (i := i) (k := 3) (fd_K_39 G) tyN_ok nmN rfl (by decide +kernel) (lz_cNum hi) (he_cNum hi) (Nat.le_of_ble_eq_true rfl) ((he_cNum hi).trans (by simp [upd])) d k
theorem pf_K_81 {X : wk_X} {G : cGt} {h : Hp} {pc : Nat} {lv : List (Nat × Value)} {st : List Value} {cc : ByteArray} {nL fr lo : Nat} (C : wk_C X (vC G) cc RK nL fr lo) {i : Nat} (hi : cNum i) {v : Int32} (d : decode cc pc = .ok (.putfield 81, 3)) (k : WW X (vC G) (up2 h i 2 v) (pc + 3) lv st) : WW X (vC G) h pc lv (.int v :: .ref (cad G i) :: st) := wk_put C (i := i) (k := 2) (fd_K_81 G) tyN_ok nmN rfl (by decide +kernel) (lz_cNum hi) (he_cNum hi) (Nat.le_of_ble_eq_true rfl) ((he_cNum hi).trans (by simp [upd])) d k
theorem pf_T_15 {X : wk_X} {G : cGt} {h : Hp} {pc : Nat} {lv : List (Nat × Value)} {st : List Value} {cc : ByteArray} {nL fr lo : Nat} (C : wk_C X (vC G) cc RT nL fr lo) {i : Nat} (hi : cLine i) {v : Int32} (d : decode cc pc = .ok (.putfield 15, 3)) (k : WW X (vC G) (up2 h i 1 v) (pc + 3) lv st) : WW X (vC G) h pc lv (.int v :: .ref (cad G i) :: st) := wk_put C (i := i) (k := 1) (fd_T_15 G) tyL_ok nmL rfl (by decide +kernel) (lz_cLine hi) (he_cLine hi) (Nat.le_of_ble_eq_true rfl) ((he_cLine hi).trans (by simp [upd])) d k
theorem pf_M_19 {X : wk_X} {G : cGt} {h : Hp} {pc : Nat} {lv : List (Nat × Value)} {st : List Value} {cc : ByteArray} {nL fr lo : Nat} (C : wk_C X (vC G) cc RM nL fr lo) {v : Int32} (d : decode cc pc = .ok (.putfield 19, 3)) (k : WW X (vC G) (up2 h 46 4 v) (pc + 3) lv st) : WW X (vC G) h pc lv (.int v :: .ref (cad G 46) :: st) := wk_put C (i := 46) (k := 4) (fd_M_19 G) tyM_ok nmM rfl (by decide +kernel) lz_46 (he_46 G (h 46)) (Nat.le_of_ble_eq_true rfl) ((he_46 G (upd (h 46) 4 v)).trans (by simp [upd])) d k
theorem pf_M_41 {X : wk_X} {G : cGt} {h : Hp} {pc : Nat} {lv : List (Nat × Value)} {st : List Value} {cc : ByteArray} {nL fr lo : Nat} (C : wk_C X (vC G) cc RM nL fr lo) {v : Int32} (d : decode cc pc = .ok (.putfield 41, 3)) (k : WW X (vC G) (up2 h 46 1 v) (pc + 3) lv st) : WW X (vC G) h pc lv (.int v :: .ref (cad G 46) :: st) := wk_put C (i := 46) (k := 1) (fd_M_41 G) tyM_ok nmM rfl (by decide +kernel) lz_46 (he_46 G (h 46)) (Nat.le_of_ble_eq_true rfl) ((he_46 G (upd (h 46) 1 v)).trans (by simp [upd])) d k
theorem pf_M_52 {X : wk_X} {G : cGt} {h : Hp} {pc : Nat} {lv : List (Nat × Value)} {st : List Value} {cc : ByteArray} {nL fr lo : Nat} (C : wk_C X (vC G) cc RM nL fr lo) {v : Int32} (d : decode cc pc = .ok (.putfield 52, 3)) (k : WW X (vC G) (up2 h 46 5 v) (pc + 3) lv st) : WW X (vC G) h pc lv (.int v :: .ref (cad G 46) :: st) := wk_put C (i := 46) (k := 5) (fd_M_52 G) tyM_ok nmM rfl (by decide +kernel) lz_46 (he_46 G (h 46)) (Nat.le_of_ble_eq_true rfl) ((he_46 G (upd (h 46) 5 v)).trans (by simp [upd])) d k
theorem pf_M_55 {X : wk_X} {G : cGt} {h : Hp} {pc : Nat} {lv : List (Nat × Value)} {st : List Value} {cc : ByteArray} {nL fr lo : Nat} (C : wk_C X (vC G) cc RM nL fr lo) {v : Int32} (d : decode cc pc = .ok (.putfield 55, 3)) (k : WW X (vC G) (up2 h 46 6 v) (pc + 3) lv st) : WW X (vC G) h pc lv (.int v :: .ref (cad G 46) :: st) := wk_put C (i := 46) (k := 6) (fd_M_55 G) tyM_ok nmM rfl (by decide +kernel) lz_46 (he_46 G (h 46)) (Nat.le_of_ble_eq_true rfl) ((he_46 G (upd (h 46) 6 v)).trans (by simp [upd])) d k
theorem pf_M_86 {X : wk_X} {G : cGt} {h : Hp} {pc : Nat} {lv : List (Nat × Value)} {st : List Value} {cc : ByteArray} {nL fr lo : Nat} (C : wk_C X (vC G) cc RM nL fr lo) {v : Int32} (d : decode cc pc = .ok (.putfield 86, 3)) (k : WW X (vC G) (up2 h 46 13 v) (pc + 3) lv st) : WW X (vC G) h pc lv (.int v :: .ref (cad G 46) :: st) := wk_put C (i := 46) (k := 13) (fd_M_86 G) tyM_ok nmM rfl (by decide +kernel) lz_46 (he_46 G (h 46)) (Nat.le_of_ble_eq_true rfl) ((he_46 G (upd (h 46) 13 v)).trans (by simp [upd])) d k
theorem al_L {X : wk_X} {G : cGt} {h : Hp} {pc : Nat} {lv : List (Nat × Value)} {st : List Value} {cc : ByteArray} {own : String} {nL fr lo : Nat} (C : wk_C X (vC G) cc own nL fr lo) {i : Nat} (hi : cLine i) {x : Int32} (hin : inR x (bl (i + 1))) (d : decode cc pc = .ok (.baload, 1)) (k : WW X (vC G) h (pc + 1) lv (.int (h (i + 1) x.toNatClampNeg) :: st)) : WW X (vC G) h pc lv (.int x :: .ref (cad G (i + 1)) :: st) := wk_bald C (j := i + 1) (t0 := 1) (show i + 1 < 56 by omega) (he_bl hi _) rfl hin d k
theorem as_L {X : wk_X} {G : cGt} {h : Hp} {pc : Nat} {lv : List (Nat × Value)} {st : List Value} {cc : ByteArray} {own : String} {nL fr lo : Nat} (C : wk_C X (vC G) cc own nL fr lo) {i : Nat} (hi : cLine i) {x v : Int32} (hin : inR x (bl (i + 1))) (d : decode cc pc = .ok (.bastore, 1)) (k : WW X (vC G) (up2 h (i + 1) x.toNatClampNeg (vp_nar .byte v)) (pc + 1) lv st) : WW X (vC G) h pc lv (.int v :: .int x :: .ref (cad G (i + 1)) :: st) := wk_bast C (j := i + 1) (t0 := 1) (show i + 1 < 56 by omega) (he_bl hi) rfl hin d k
theorem an_L {X : wk_X} {G : cGt} {h : Hp} {pc : Nat} {lv : List (Nat × Value)} {st : List Value} {cc : ByteArray} {own : String} {nL fr lo : Nat} (C : wk_C X (vC G) cc own nL fr lo) {i : Nat} (hi : cLine i) (d : decode cc pc = .ok (.arraylength, 1)) (k : WW X (vC G) h (pc + 1) lv (.int (Int32.ofNat (bl (i + 1))) :: st)) : WW X (vC G) h pc lv (.ref (cad G (i + 1)) :: st) := wk_alen C (j := i + 1) (n := 0) (t0 := 1) (show i + 1 < 56 by omega) (he_bl hi _) rfl rfl d k
theorem al_N {X : wk_X} {G : cGt} {h : Hp} {pc : Nat} {lv : List (Nat × Value)} {st : List Value} {cc : ByteArray} {own : String} {nL fr lo : Nat} (C : wk_C X (vC G) cc own nL fr lo) {i : Nat} (hi : cNum i) {x : Int32} (hin : inR x (il (i + 1))) (d : decode cc pc = .ok (.iaload, 1)) (k : WW X (vC G) h (pc + 1) lv (.int (h (i + 1) x.toNatClampNeg) :: st)) : WW X (vC G) h pc lv (.int x :: .ref (cad G (i + 1)) :: st) := wk_iald C (j := (i + 1)) (t0 := 0) (show i + 1 < 56 by omega) (he_il hi (h (i + 1))) rfl hin d k
theorem as_N {X : wk_X} {G : cGt} {h : Hp} {pc : Nat} {lv : List (Nat × Value)} {st : List Value} {cc : ByteArray} {own : String} {nL fr lo : Nat} (C : wk_C X (vC G) cc own nL fr lo) {i : Nat} (hi : cNum i) {x v : Int32} (hin : inR x (il (i + 1))) (d : decode cc pc = .ok (.iastore, 1)) (k : WW X (vC G) (up2 h (i + 1) x.toNatClampNeg v) (pc + 1) lv st) : WW X (vC G) h pc lv (.int v :: .int x :: .ref (cad G (i + 1)) :: st) := wk_iast C (j := (i + 1)) (t0 := 0) (show i + 1 < 56 by omega) (he_il hi) rfl hin d k
theorem an_N {X : wk_X} {G : cGt} {h : Hp} {pc : Nat} {lv : List (Nat × Value)} {st : List Value} {cc : ByteArray} {own : String} {nL fr lo : Nat} (C : wk_C X (vC G) cc own nL fr lo) {i : Nat} (hi : cNum i) (d : decode cc pc = .ok (.arraylength, 1)) (k : WW X (vC G) h (pc + 1) lv (.int (Int32.ofNat (il (i + 1))) :: st)) : WW X (vC G) h pc lv (.ref (cad G (i + 1)) :: st) := wk_alen C (j := (i + 1)) (n := 0) (t0 := 0) (show i + 1 < 56 by omega) (he_il hi (h (i + 1))) rfl rfl d k
theorem al_35 {X : wk_X} {G : cGt} {h : Hp} {pc : Nat} {lv : List (Nat × Value)} {st : List Value} {cc : ByteArray} {own : String} {nL fr lo : Nat} (C : wk_C X (vC G) cc own nL fr lo) {x : Int32} (hin : inR x 100) (d : decode cc pc = .ok (.iaload, 1)) (k : WW X (vC G) h (pc + 1) lv (.int (h 35 x.toNatClampNeg) :: st)) : WW X (vC G) h pc lv (.int x :: .ref (cad G 35) :: st) := wk_iald C (j := 35) (t0 := 0) lz_35 (he_35 G (h 35)) rfl hin d k
theorem as_35 {X : wk_X} {G : cGt} {h : Hp} {pc : Nat} {lv : List (Nat × Value)} {st : List Value} {cc : ByteArray} {own : String} {nL fr lo : Nat} (C : wk_C X (vC G) cc own nL fr lo) {x v : Int32} (hin : inR x 100) (d : decode cc pc = .ok (.iastore, 1)) (k : WW X (vC G) (up2 h 35 x.toNatClampNeg v) (pc + 1) lv st) : WW X (vC G) h pc lv (.int v :: .int x :: .ref (cad G 35) :: st) := wk_iast C (j := 35) (t0 := 0) lz_35 (he_35 G) rfl hin d k
theorem an_35 {X : wk_X} {G : cGt} {h : Hp} {pc : Nat} {lv : List (Nat × Value)} {st : List Value} {cc : ByteArray} {own : String} {nL fr lo : Nat} (C : wk_C X (vC G) cc own nL fr lo) (d : decode cc pc = .ok (.arraylength, 1)) (k : WW X (vC G) h (pc + 1) lv (.int (Int32.ofNat 100) :: st)) : WW X (vC G) h pc lv (.ref (cad G 35) :: st) := wk_alen C (j := 35) (n := 0) (t0 := 0) lz_35 (he_35 G (h 35)) rfl rfl d k
theorem al_36 {X : wk_X} {G : cGt} {h : Hp} {pc : Nat} {lv : List (Nat × Value)} {st : List Value} {cc : ByteArray} {own : String} {nL fr lo : Nat} (C : wk_C X (vC G) cc own nL fr lo) {x : Int32} (hin : inR x 100) (d : decode cc pc = .ok (.iaload, 1)) (k : WW X (vC G) h (pc + 1) lv (.int (h 36 x.toNatClampNeg) :: st)) : WW X (vC G) h pc lv (.int x :: .ref (cad G 36) :: st) := wk_iald C (j := 36) (t0 := 0) lz_36 (he_36 G (h 36)) rfl hin d k
theorem as_36 {X : wk_X} {G : cGt} {h : Hp} {pc : Nat} {lv : List (Nat × Value)} {st : List Value} {cc : ByteArray} {own : String} {nL fr lo : Nat} (C : wk_C X (vC G) cc own nL fr lo) {x v : Int32} (hin : inR x 100) (d : decode cc pc = .ok (.iastore, 1)) (k : WW X (vC G) (up2 h 36 x.toNatClampNeg v) (pc + 1) lv st) : WW X (vC G) h pc lv (.int v :: .int x :: .ref (cad G 36) :: st) := wk_iast C (j := 36) (t0 := 0) lz_36 (he_36 G) rfl hin d k
theorem an_36 {X : wk_X} {G : cGt} {h : Hp} {pc : Nat} {lv : List (Nat × Value)} {st : List Value} {cc : ByteArray} {own : String} {nL fr lo : Nat} (C : wk_C X (vC G) cc own nL fr lo) (d : decode cc pc = .ok (.arraylength, 1)) (k : WW X (vC G) h (pc + 1) lv (.int (Int32.ofNat 100) :: st)) : WW X (vC G) h pc lv (.ref (cad G 36) :: st) := wk_alen C (j := 36) (n := 0) (t0 := 0) lz_36 (he_36 G (h 36)) rfl rfl d k
theorem al_37 {X : wk_X} {G : cGt} {h : Hp} {pc : Nat} {lv : List (Nat × Value)} {st : List Value} {cc : ByteArray} {own : String} {nL fr lo : Nat} (C : wk_C X (vC G) cc own nL fr lo) {x : Int32} (hin : inR x 100) (d : decode cc pc = .ok (.iaload, 1)) (k : WW X (vC G) h (pc + 1) lv (.int (h 37 x.toNatClampNeg) :: st)) : WW X (vC G) h pc lv (.int x :: .ref (cad G 37) :: st) := wk_iald C (j := 37) (t0 := 0) lz_37 (he_37 G (h 37)) rfl hin d k
theorem as_37 {X : wk_X} {G : cGt} {h : Hp} {pc : Nat} {lv : List (Nat × Value)} {st : List Value} {cc : ByteArray} {own : String} {nL fr lo : Nat} (C : wk_C X (vC G) cc own nL fr lo) {x v : Int32} (hin : inR x 100) (d : decode cc pc = .ok (.iastore, 1)) (k : WW X (vC G) (up2 h 37 x.toNatClampNeg v) (pc + 1) lv st) : WW X (vC G) h pc lv (.int v :: .int x :: .ref (cad G 37) :: st) := wk_iast C (j := 37) (t0 := 0) lz_37 (he_37 G) rfl hin d k
theorem an_37 {X : wk_X} {G : cGt} {h : Hp} {pc : Nat} {lv : List (Nat × Value)} {st : List Value} {cc : ByteArray} {own : String} {nL fr lo : Nat} (C : wk_C X (vC G) cc own nL fr lo) (d : decode cc pc = .ok (.arraylength, 1)) (k : WW X (vC G) h (pc + 1) lv (.int (Int32.ofNat 100) :: st)) : WW X (vC G) h pc lv (.ref (cad G 37) :: st) := wk_alen C (j := 37) (n := 0) (t0 := 0) lz_37 (he_37 G (h 37)) rfl rfl d k
theorem al_47 {X : wk_X} {G : cGt} {h : Hp} {pc : Nat} {lv : List (Nat × Value)} {st : List Value} {cc : ByteArray} {own : String} {nL fr lo : Nat} (C : wk_C X (vC G) cc own nL fr lo) {x : Int32} (hin : inR x 240) (d : decode cc pc = .ok (.iaload, 1)) (k : WW X (vC G) h (pc + 1) lv (.int (h 47 x.toNatClampNeg) :: st)) : WW X (vC G) h pc lv (.int x :: .ref (cad G 47) :: st) := wk_iald C (j := 47) (t0 := 0) lz_47 (he_47 G (h 47)) rfl hin d k
theorem as_47 {X : wk_X} {G : cGt} {h : Hp} {pc : Nat} {lv : List (Nat × Value)} {st : List Value} {cc : ByteArray} {own : String} {nL fr lo : Nat} (C : wk_C X (vC G) cc own nL fr lo) {x v : Int32} (hin : inR x 240) (d : decode cc pc = .ok (.iastore, 1)) (k : WW X (vC G) (up2 h 47 x.toNatClampNeg v) (pc + 1) lv st) : WW X (vC G) h pc lv (.int v :: .int x :: .ref (cad G 47) :: st) := wk_iast C (j := 47) (t0 := 0) lz_47 (he_47 G) rfl hin d k
theorem an_47 {X : wk_X} {G : cGt} {h : Hp} {pc : Nat} {lv : List (Nat × Value)} {st : List Value} {cc : ByteArray} {own : String} {nL fr lo : Nat} (C : wk_C X (vC G) cc own nL fr lo) (d : decode cc pc = .ok (.arraylength, 1)) (k : WW X (vC G) h (pc + 1) lv (.int (Int32.ofNat 240) :: st)) : WW X (vC G) h pc lv (.ref (cad G 47) :: st) := wk_alen C (j := 47) (n := 0) (t0 := 0) lz_47 (he_47 G (h 47)) rfl rfl d k
theorem al_48 {X : wk_X} {G : cGt} {h : Hp} {pc : Nat} {lv : List (Nat × Value)} {st : List Value} {cc : ByteArray} {own : String} {nL fr lo : Nat} (C : wk_C X (vC G) cc own nL fr lo) {x : Int32} (hin : inR x 2000) (d : decode cc pc = .ok (.iaload, 1)) (k : WW X (vC G) h (pc + 1) lv (.int (h 48 x.toNatClampNeg) :: st)) : WW X (vC G) h pc lv (.int x :: .ref (cad G 48) :: st) := wk_iald C (j := 48) (t0 := 0) lz_48 (he_48 G (h 48)) rfl hin d k
theorem as_48 {X : wk_X} {G : cGt} {h : Hp} {pc : Nat} {lv : List (Nat × Value)} {st : List Value} {cc : ByteArray} {own : String} {nL fr lo : Nat} (C : wk_C X (vC G) cc own nL fr lo) {x v : Int32} (hin : inR x 2000) (d : decode cc pc = .ok (.iastore, 1)) (k : WW X (vC G) (up2 h 48 x.toNatClampNeg v) (pc + 1) lv st) : WW X (vC G) h pc lv (.int v :: .int x :: .ref (cad G 48) :: st) := wk_iast C (j := 48) (t0 := 0) lz_48 (he_48 G) rfl hin d k
theorem an_48 {X : wk_X} {G : cGt} {h : Hp} {pc : Nat} {lv : List (Nat × Value)} {st : List Value} {cc : ByteArray} {own : String} {nL fr lo : Nat} (C : wk_C X (vC G) cc own nL fr lo) (d : decode cc pc = .ok (.arraylength, 1)) (k : WW X (vC G) h (pc + 1) lv (.int (Int32.ofNat 2000) :: st)) : WW X (vC G) h pc lv (.ref (cad G 48) :: st) := wk_alen C (j := 48) (n := 0) (t0 := 0) lz_48 (he_48 G (h 48)) rfl rfl d k
theorem al_49 {X : wk_X} {G : cGt} {h : Hp} {pc : Nat} {lv : List (Nat × Value)} {st : List Value} {cc : ByteArray} {own : String} {nL fr lo : Nat} (C : wk_C X (vC G) cc own nL fr lo) {x : Int32} (hin : inR x 10) (d : decode cc pc = .ok (.iaload, 1)) (k : WW X (vC G) h (pc + 1) lv (.int (h 49 x.toNatClampNeg) :: st)) : WW X (vC G) h pc lv (.int x :: .ref (cad G 49) :: st) := wk_iald C (j := 49) (t0 := 0) lz_49 (he_49 G (h 49)) rfl hin d k
theorem as_49 {X : wk_X} {G : cGt} {h : Hp} {pc : Nat} {lv : List (Nat × Value)} {st : List Value} {cc : ByteArray} {own : String} {nL fr lo : Nat} (C : wk_C X (vC G) cc own nL fr lo) {x v : Int32} (hin : inR x 10) (d : decode cc pc = .ok (.iastore, 1)) (k : WW X (vC G) (up2 h 49 x.toNatClampNeg v) (pc + 1) lv st) : WW X (vC G) h pc lv (.int v :: .int x :: .ref (cad G 49) :: st) := wk_iast C (j := 49) (t0 := 0) lz_49 (he_49 G) rfl hin d k
theorem an_49 {X : wk_X} {G : cGt} {h : Hp} {pc : Nat} {lv : List (Nat × Value)} {st : List Value} {cc : ByteArray} {own : String} {nL fr lo : Nat} (C : wk_C X (vC G) cc own nL fr lo) (d : decode cc pc = .ok (.arraylength, 1)) (k : WW X (vC G) h (pc + 1) lv (.int (Int32.ofNat 10) :: st)) : WW X (vC G) h pc lv (.ref (cad G 49) :: st) := wk_alen C (j := 49) (n := 0) (t0 := 0) lz_49 (he_49 G (h 49)) rfl rfl d k
theorem al_50 {X : wk_X} {G : cGt} {h : Hp} {pc : Nat} {lv : List (Nat × Value)} {st : List Value} {cc : ByteArray} {own : String} {nL fr lo : Nat} (C : wk_C X (vC G) cc own nL fr lo) {x : Int32} (hin : inR x 13000) (d : decode cc pc = .ok (.iaload, 1)) (k : WW X (vC G) h (pc + 1) lv (.int (h 50 x.toNatClampNeg) :: st)) : WW X (vC G) h pc lv (.int x :: .ref (cad G 50) :: st) := wk_iald C (j := 50) (t0 := 0) lz_50 (he_50 G (h 50)) rfl hin d k
theorem as_50 {X : wk_X} {G : cGt} {h : Hp} {pc : Nat} {lv : List (Nat × Value)} {st : List Value} {cc : ByteArray} {own : String} {nL fr lo : Nat} (C : wk_C X (vC G) cc own nL fr lo) {x v : Int32} (hin : inR x 13000) (d : decode cc pc = .ok (.iastore, 1)) (k : WW X (vC G) (up2 h 50 x.toNatClampNeg v) (pc + 1) lv st) : WW X (vC G) h pc lv (.int v :: .int x :: .ref (cad G 50) :: st) := wk_iast C (j := 50) (t0 := 0) lz_50 (he_50 G) rfl hin d k
theorem an_50 {X : wk_X} {G : cGt} {h : Hp} {pc : Nat} {lv : List (Nat × Value)} {st : List Value} {cc : ByteArray} {own : String} {nL fr lo : Nat} (C : wk_C X (vC G) cc own nL fr lo) (d : decode cc pc = .ok (.arraylength, 1)) (k : WW X (vC G) h (pc + 1) lv (.int (Int32.ofNat 13000) :: st)) : WW X (vC G) h pc lv (.ref (cad G 50) :: st) := wk_alen C (j := 50) (n := 0) (t0 := 0) lz_50 (he_50 G (h 50)) rfl rfl d k
theorem al_51 {X : wk_X} {G : cGt} {h : Hp} {pc : Nat} {lv : List (Nat × Value)} {st : List Value} {cc : ByteArray} {own : String} {nL fr lo : Nat} (C : wk_C X (vC G) cc own nL fr lo) {x : Int32} (hin : inR x 5) (d : decode cc pc = .ok (.iaload, 1)) (k : WW X (vC G) h (pc + 1) lv (.int (h 51 x.toNatClampNeg) :: st)) : WW X (vC G) h pc lv (.int x :: .ref (cad G 51) :: st) := wk_iald C (j := 51) (t0 := 0) lz_51 (he_51 G (h 51)) rfl hin d k
theorem as_51 {X : wk_X} {G : cGt} {h : Hp} {pc : Nat} {lv : List (Nat × Value)} {st : List Value} {cc : ByteArray} {own : String} {nL fr lo : Nat} (C : wk_C X (vC G) cc own nL fr lo) {x v : Int32} (hin : inR x 5) (d : decode cc pc = .ok (.iastore, 1)) (k : WW X (vC G) (up2 h 51 x.toNatClampNeg v) (pc + 1) lv st) : WW X (vC G) h pc lv (.int v :: .int x :: .ref (cad G 51) :: st) := wk_iast C (j := 51) (t0 := 0) lz_51 (he_51 G) rfl hin d k
theorem an_51 {X : wk_X} {G : cGt} {h : Hp} {pc : Nat} {lv : List (Nat × Value)} {st : List Value} {cc : ByteArray} {own : String} {nL fr lo : Nat} (C : wk_C X (vC G) cc own nL fr lo) (d : decode cc pc = .ok (.arraylength, 1)) (k : WW X (vC G) h (pc + 1) lv (.int (Int32.ofNat 5) :: st)) : WW X (vC G) h pc lv (.ref (cad G 51) :: st) := wk_alen C (j := 51) (n := 0) (t0 := 0) lz_51 (he_51 G (h 51)) rfl rfl d k
theorem al_52 {X : wk_X} {G : cGt} {h : Hp} {pc : Nat} {lv : List (Nat × Value)} {st : List Value} {cc : ByteArray} {own : String} {nL fr lo : Nat} (C : wk_C X (vC G) cc own nL fr lo) {x : Int32} (hin : inR x 5) (d : decode cc pc = .ok (.iaload, 1)) (k : WW X (vC G) h (pc + 1) lv (.int (h 52 x.toNatClampNeg) :: st)) : WW X (vC G) h pc lv (.int x :: .ref (cad G 52) :: st) := wk_iald C (j := 52) (t0 := 0) lz_52 (he_52 G (h 52)) rfl hin d k
theorem as_52 {X : wk_X} {G : cGt} {h : Hp} {pc : Nat} {lv : List (Nat × Value)} {st : List Value} {cc : ByteArray} {own : String} {nL fr lo : Nat} (C : wk_C X (vC G) cc own nL fr lo) {x v : Int32} (hin : inR x 5) (d : decode cc pc = .ok (.iastore, 1)) (k : WW X (vC G) (up2 h 52 x.toNatClampNeg v) (pc + 1) lv st) : WW X (vC G) h pc lv (.int v :: .int x :: .ref (cad G 52) :: st) := wk_iast C (j := 52) (t0 := 0) lz_52 (he_52 G) rfl hin d k
theorem an_52 {X : wk_X} {G : cGt} {h : Hp} {pc : Nat} {lv : List (Nat × Value)} {st : List Value} {cc : ByteArray} {own : String} {nL fr lo : Nat} (C : wk_C X (vC G) cc own nL fr lo) (d : decode cc pc = .ok (.arraylength, 1)) (k : WW X (vC G) h (pc + 1) lv (.int (Int32.ofNat 5) :: st)) : WW X (vC G) h pc lv (.ref (cad G 52) :: st) := wk_alen C (j := 52) (n := 0) (t0 := 0) lz_52 (he_52 G (h 52)) rfl rfl d k
theorem al_53 {X : wk_X} {G : cGt} {h : Hp} {pc : Nat} {lv : List (Nat × Value)} {st : List Value} {cc : ByteArray} {own : String} {nL fr lo : Nat} (C : wk_C X (vC G) cc own nL fr lo) {x : Int32} (hin : inR x 5) (d : decode cc pc = .ok (.iaload, 1)) (k : WW X (vC G) h (pc + 1) lv (.int (h 53 x.toNatClampNeg) :: st)) : WW X (vC G) h pc lv (.int x :: .ref (cad G 53) :: st) := wk_iald C (j := 53) (t0 := 0) lz_53 (he_53 G (h 53)) rfl hin d k
theorem as_53 {X : wk_X} {G : cGt} {h : Hp} {pc : Nat} {lv : List (Nat × Value)} {st : List Value} {cc : ByteArray} {own : String} {nL fr lo : Nat} (C : wk_C X (vC G) cc own nL fr lo) {x v : Int32} (hin : inR x 5) (d : decode cc pc = .ok (.iastore, 1)) (k : WW X (vC G) (up2 h 53 x.toNatClampNeg v) (pc + 1) lv st) : WW X (vC G) h pc lv (.int v :: .int x :: .ref (cad G 53) :: st) := wk_iast C (j := 53) (t0 := 0) lz_53 (he_53 G) rfl hin d k
theorem an_53 {X : wk_X} {G : cGt} {h : Hp} {pc : Nat} {lv : List (Nat × Value)} {st : List Value} {cc : ByteArray} {own : String} {nL fr lo : Nat} (C : wk_C X (vC G) cc own nL fr lo) (d : decode cc pc = .ok (.arraylength, 1)) (k : WW X (vC G) h (pc + 1) lv (.int (Int32.ofNat 5) :: st)) : WW X (vC G) h pc lv (.ref (cad G 53) :: st) := wk_alen C (j := 53) (n := 0) (t0 := 0) lz_53 (he_53 G (h 53)) rfl rfl d k
theorem al_54 {X : wk_X} {G : cGt} {h : Hp} {pc : Nat} {lv : List (Nat × Value)} {st : List Value} {cc : ByteArray} {own : String} {nL fr lo : Nat} (C : wk_C X (vC G) cc own nL fr lo) {x : Int32} (hin : inR x 300) (d : decode cc pc = .ok (.iaload, 1)) (k : WW X (vC G) h (pc + 1) lv (.int (h 54 x.toNatClampNeg) :: st)) : WW X (vC G) h pc lv (.int x :: .ref (cad G 54) :: st) := wk_iald C (j := 54) (t0 := 0) lz_54 (he_54 G (h 54)) rfl hin d k
theorem as_54 {X : wk_X} {G : cGt} {h : Hp} {pc : Nat} {lv : List (Nat × Value)} {st : List Value} {cc : ByteArray} {own : String} {nL fr lo : Nat} (C : wk_C X (vC G) cc own nL fr lo) {x v : Int32} (hin : inR x 300) (d : decode cc pc = .ok (.iastore, 1)) (k : WW X (vC G) (up2 h 54 x.toNatClampNeg v) (pc + 1) lv st) : WW X (vC G) h pc lv (.int v :: .int x :: .ref (cad G 54) :: st) := wk_iast C (j := 54) (t0 := 0) lz_54 (he_54 G) rfl hin d k
theorem an_54 {X : wk_X} {G : cGt} {h : Hp} {pc : Nat} {lv : List (Nat × Value)} {st : List Value} {cc : ByteArray} {own : String} {nL fr lo : Nat} (C : wk_C X (vC G) cc own nL fr lo) (d : decode cc pc = .ok (.arraylength, 1)) (k : WW X (vC G) h (pc + 1) lv (.int (Int32.ofNat 300) :: st)) : WW X (vC G) h pc lv (.ref (cad G 54) :: st) := wk_alen C (j := 54) (n := 0) (t0 := 0) lz_54 (he_54 G (h 54)) rfl rfl d k
theorem al_55 {X : wk_X} {G : cGt} {h : Hp} {pc : Nat} {lv : List (Nat × Value)} {st : List Value} {cc : ByteArray} {own : String} {nL fr lo : Nat} (C : wk_C X (vC G) cc own nL fr lo) {x : Int32} (hin : inR x 1600) (d : decode cc pc = .ok (.iaload, 1)) (k : WW X (vC G) h (pc + 1) lv (.int (h 55 x.toNatClampNeg) :: st)) : WW X (vC G) h pc lv (.int x :: .ref (cad G 55) :: st) := wk_iald C (j := 55) (t0 := 0) lz_55 (he_55 G (h 55)) rfl hin d k
theorem as_55 {X : wk_X} {G : cGt} {h : Hp} {pc : Nat} {lv : List (Nat × Value)} {st : List Value} {cc : ByteArray} {own : String} {nL fr lo : Nat} (C : wk_C X (vC G) cc own nL fr lo) {x v : Int32} (hin : inR x 1600) (d : decode cc pc = .ok (.iastore, 1)) (k : WW X (vC G) (up2 h 55 x.toNatClampNeg v) (pc + 1) lv st) : WW X (vC G) h pc lv (.int v :: .int x :: .ref (cad G 55) :: st) := wk_iast C (j := 55) (t0 := 0) lz_55 (he_55 G) rfl hin d k
theorem an_55 {X : wk_X} {G : cGt} {h : Hp} {pc : Nat} {lv : List (Nat × Value)} {st : List Value} {cc : ByteArray} {own : String} {nL fr lo : Nat} (C : wk_C X (vC G) cc own nL fr lo) (d : decode cc pc = .ok (.arraylength, 1)) (k : WW X (vC G) h (pc + 1) lv (.int (Int32.ofNat 1600) :: st)) : WW X (vC G) h pc lv (.ref (cad G 55) :: st) := wk_alen C (j := 55) (n := 0) (t0 := 0) lz_55 (he_55 G (h 55)) rfl rfl d k
theorem aa_regs {X : wk_X} {G : cGt} {h : Hp} {pc : Nat} {lv : List (Nat × Value)} {st : List Value} {cc : ByteArray} {own : String} {nL fr lo : Nat} (C : wk_C X (vC G) cc own nL fr lo) {x : Int32} (hin : inR x 10) (d : decode cc pc = .ok (.aaload, 1)) (k : WW X (vC G) h (pc + 1) lv (.ref (cad G (4 + 2 * x.toNatClampNeg)) :: st)) : WW X (vC G) h pc lv (.int x :: .ref (cad G 3) :: st) := wk_aald C (j := 3) (t0 := 2) (show 3 < 56 by decide) (he_3 G (h 3)) rfl hin d k
theorem wc_D_149 : Cond.constant RD 149 (-2000000001 : Int32) ∈ lw_g := (lw_gm 539 (by decide +kernel) rfl)
theorem wc_D_153 : Cond.constant RD 153 (-2000000000 : Int32) ∈ lw_g := (lw_gm 541 (by decide +kernel) rfl)
theorem wc_N_65 : Cond.constant RN 65 (-2000000000 : Int32) ∈ lw_g := (lw_gm 417 (by decide +kernel) rfl)
theorem wc_M_147 : Cond.constant RM 147 (-2000000001 : Int32) ∈ lw_g := (lw_gm 765 (by decide +kernel) rfl)
theorem wc_M_148 : Cond.constant RM 148 (-2000000000 : Int32) ∈ lw_g := (lw_gm 766 (by decide +kernel) rfl)
theorem wc_D_173 : Cond.constantLong RD 173 (200 : Int64) ∈ lw_g := (lw_gm 499 (by decide +kernel) rfl)
set_option maxRecDepth 100000 in
theorem mw_D_106 : wk_mw RD 106 Lib.Math.abs.name Lib.Math.abs.code 1 := ⟨(lw_gm 478 (by decide +kernel) rfl), (lw_gm 423 (by decide +kernel) rfl), (lw_gm 56 (by decide +kernel) rfl), (lw_gm 424 rfl rfl)⟩
set_option maxRecDepth 100000 in
theorem mw_D_182 : wk_mw RD 182 Lib.Math.max.name Lib.Math.max.code 2 := ⟨(lw_gm 494 (by decide +kernel) rfl), (lw_gm 77 (by decide +kernel) rfl), (lw_gm 56 (by decide +kernel) rfl), (lw_gm 78 rfl rfl)⟩
set_option maxRecDepth 100000 in
theorem mw_L_15 : wk_mw RL 15 Lib.Math.max.name Lib.Math.max.code 2 := ⟨(lw_gm 76 (by decide +kernel) rfl), (lw_gm 77 (by decide +kernel) rfl), (lw_gm 56 (by decide +kernel) rfl), (lw_gm 78 rfl rfl)⟩
set_option maxRecDepth 100000 in
theorem mw_N_21 : wk_mw RN 21 Lib.Math.max.name Lib.Math.max.code 2 := ⟨(lw_gm 120 (by decide +kernel) rfl), (lw_gm 77 (by decide +kernel) rfl), (lw_gm 56 (by decide +kernel) rfl), (lw_gm 78 rfl rfl)⟩
set_option maxRecDepth 100000 in
theorem mw_N_62 : wk_mw RN 62 Lib.Math.min.name Lib.Math.min.code 2 := ⟨(lw_gm 317 (by decide +kernel) rfl), (lw_gm 318 (by decide +kernel) rfl), (lw_gm 56 (by decide +kernel) rfl), (lw_gm 319 rfl rfl)⟩
set_option maxRecDepth 100000 in
theorem mw_K_84 : wk_mw RK 84 Lib.Math.min.name Lib.Math.min.code 2 := ⟨(lw_gm 347 (by decide +kernel) rfl), (lw_gm 318 (by decide +kernel) rfl), (lw_gm 56 (by decide +kernel) rfl), (lw_gm 319 rfl rfl)⟩
set_option maxRecDepth 100000 in
theorem mw_K_93 : wk_mw RK 93 Lib.Math.max.name Lib.Math.max.code 2 := ⟨(lw_gm 348 (by decide +kernel) rfl), (lw_gm 77 (by decide +kernel) rfl), (lw_gm 56 (by decide +kernel) rfl), (lw_gm 78 rfl rfl)⟩
set_option maxRecDepth 100000 in
theorem mw_K_142 : wk_mw RK 142 Lib.Math.abs.name Lib.Math.abs.code 1 := ⟨(lw_gm 422 (by decide +kernel) rfl), (lw_gm 423 (by decide +kernel) rfl), (lw_gm 56 (by decide +kernel) rfl), (lw_gm 424 rfl rfl)⟩
set_option maxRecDepth 100000 in
theorem mw_T_40 : wk_mw RT 40 Lib.Math.max.name Lib.Math.max.code 2 := ⟨(lw_gm 455 (by decide +kernel) rfl), (lw_gm 77 (by decide +kernel) rfl), (lw_gm 56 (by decide +kernel) rfl), (lw_gm 78 rfl rfl)⟩
set_option maxRecDepth 100000 in
theorem mw_T_67 : wk_mw RT 67 Lib.Math.abs.name Lib.Math.abs.code 1 := ⟨(lw_gm 469 (by decide +kernel) rfl), (lw_gm 423 (by decide +kernel) rfl), (lw_gm 56 (by decide +kernel) rfl), (lw_gm 424 rfl rfl)⟩
set_option maxRecDepth 100000 in
theorem wd_yL_addInt : Cond.code yL_addInt cL_addInt 3 none ∈ lw_g := (lw_gm 211 rfl rfl)
theorem cw_D_72 : wk_cw RD 72 yL_addInt cL_addInt 3 none 1 := ⟨(lw_gm 208 (by decide +kernel) rfl), (lw_gm 55 (by decide +kernel) rfl), wd_yL_addInt, rfl, by decide +kernel, by decide +kernel, by decide +kernel⟩
set_option maxRecDepth 100000 in
theorem wd_yD_find : Cond.code yD_find cD_find 2 (some (.object "NumberDesk$Line")) ∈ lw_g := (lw_gm 227 rfl rfl)
theorem cw_D_75 : wk_cw RD 75 yD_find cD_find 2 (some (.object "NumberDesk$Line")) 1 := ⟨(lw_gm 224 (by decide +kernel) rfl), (lw_gm 54 (by decide +kernel) rfl), wd_yD_find, rfl, by decide +kernel, by decide +kernel, by decide +kernel⟩
set_option maxRecDepth 100000 in
theorem wd_yL_copy : Cond.code yL_copy cL_copy 3 none ∈ lw_g := (lw_gm 231 rfl rfl)
theorem cw_D_79 : wk_cw RD 79 yL_copy cL_copy 3 none 1 := ⟨(lw_gm 228 (by decide +kernel) rfl), (lw_gm 55 (by decide +kernel) rfl), wd_yL_copy, rfl, by decide +kernel, by decide +kernel, by decide +kernel⟩
set_option maxRecDepth 100000 in
theorem wd_yL_byteAt : Cond.code yL_byteAt cL_byteAt 2 (some .int) ∈ lw_g := (lw_gm 235 rfl rfl)
theorem cw_D_83 : wk_cw RD 83 yL_byteAt cL_byteAt 2 (some .int) 1 := ⟨(lw_gm 244 (by decide +kernel) rfl), (lw_gm 55 (by decide +kernel) rfl), wd_yL_byteAt, rfl, by decide +kernel, by decide +kernel, by decide +kernel⟩
set_option maxRecDepth 100000 in
theorem wd_yD_loadBoth : Cond.code yD_loadBoth cD_loadBoth 4 (some .boolean) ∈ lw_g := (lw_gm 264 rfl rfl)
theorem cw_D_87 : wk_cw RD 87 yD_loadBoth cD_loadBoth 4 (some .boolean) 3 := ⟨(lw_gm 261 (by decide +kernel) rfl), (lw_gm 54 (by decide +kernel) rfl), wd_yD_loadBoth, rfl, by decide +kernel, by decide +kernel, by decide +kernel⟩
set_option maxRecDepth 100000 in
theorem wd_yK_reckon : Cond.code yK_reckon cK_reckon 7 (some .int) ∈ lw_g := (lw_gm 323 rfl rfl)
theorem cw_D_91 : wk_cw RD 91 yK_reckon cK_reckon 7 (some .int) 5 := ⟨(lw_gm 320 (by decide +kernel) rfl), (lw_gm 59 (by decide +kernel) rfl), wd_yK_reckon, rfl, by decide +kernel, by decide +kernel, by decide +kernel⟩
set_option maxRecDepth 100000 in
theorem wd_yD_write : Cond.code yD_write cD_write 4 (some .int) ∈ lw_g := (lw_gm 432 rfl rfl)
theorem cw_D_95 : wk_cw RD 95 yD_write cD_write 4 (some .int) 2 := ⟨(lw_gm 429 (by decide +kernel) rfl), (lw_gm 54 (by decide +kernel) rfl), wd_yD_write, rfl, by decide +kernel, by decide +kernel, by decide +kernel⟩
set_option maxRecDepth 100000 in
theorem wd_yD_load : Cond.code yD_load cD_load 4 (some .boolean) ∈ lw_g := (lw_gm 268 rfl rfl)
theorem cw_D_99 : wk_cw RD 99 yD_load cD_load 4 (some .boolean) 3 := ⟨(lw_gm 265 (by decide +kernel) rfl), (lw_gm 54 (by decide +kernel) rfl), wd_yD_load, rfl, by decide +kernel, by decide +kernel, by decide +kernel⟩
set_option maxRecDepth 100000 in
theorem wd_yN_becomeUnit : Cond.code yN_becomeUnit cN_becomeUnit 2 none ∈ lw_g := (lw_gm 346 rfl rfl)
theorem cw_D_111 : wk_cw RD 111 yN_becomeUnit cN_becomeUnit 2 none 1 := ⟨(lw_gm 479 (by decide +kernel) rfl), (lw_gm 60 (by decide +kernel) rfl), wd_yN_becomeUnit, rfl, by decide +kernel, by decide +kernel, by decide +kernel⟩
set_option maxRecDepth 100000 in
theorem wd_yK_sum : Cond.code yK_sum cK_sum 10 none ∈ lw_g := (lw_gm 327 rfl rfl)
theorem cw_D_114 : wk_cw RD 114 yK_sum cK_sum 10 none 4 := ⟨(lw_gm 484 (by decide +kernel) rfl), (lw_gm 59 (by decide +kernel) rfl), wd_yK_sum, rfl, by decide +kernel, by decide +kernel, by decide +kernel⟩
set_option maxRecDepth 100000 in
theorem wd_yN_ahead : Cond.code yN_ahead cN_ahead 1 (some .int) ∈ lw_g := (lw_gm 342 rfl rfl)
theorem cw_D_118 : wk_cw RD 118 yN_ahead cN_ahead 1 (some .int) 0 := ⟨(lw_gm 489 (by decide +kernel) rfl), (lw_gm 60 (by decide +kernel) rfl), wd_yN_ahead, rfl, by decide +kernel, by decide +kernel, by decide +kernel⟩
set_option maxRecDepth 100000 in
theorem wd_yN_clear : Cond.code yN_clear cN_clear 1 none ∈ lw_g := (lw_gm 276 rfl rfl)
theorem cw_D_122 : wk_cw RD 122 yN_clear cN_clear 1 none 0 := ⟨(lw_gm 490 (by decide +kernel) rfl), (lw_gm 60 (by decide +kernel) rfl), wd_yN_clear, rfl, by decide +kernel, by decide +kernel, by decide +kernel⟩
set_option maxRecDepth 100000 in
theorem wd_yD_placesAhead : Cond.code yD_placesAhead cD_placesAhead 1 (some .int) ∈ lw_g := (lw_gm 493 rfl rfl)
theorem cw_D_125 : wk_cw RD 125 yD_placesAhead cD_placesAhead 1 (some .int) 1 := ⟨(lw_gm 491 (by decide +kernel) rfl), (lw_gm 54 (by decide +kernel) rfl), wd_yD_placesAhead, rfl, by decide +kernel, by decide +kernel, by decide +kernel⟩
set_option maxRecDepth 100000 in
theorem wd_yD_layOut : Cond.code yD_layOut cD_layOut 8 (some .int) ∈ lw_g := (lw_gm 498 rfl rfl)
theorem cw_D_129 : wk_cw RD 129 yD_layOut cD_layOut 8 (some .int) 4 := ⟨(lw_gm 495 (by decide +kernel) rfl), (lw_gm 54 (by decide +kernel) rfl), wd_yD_layOut, rfl, by decide +kernel, by decide +kernel, by decide +kernel⟩
set_option maxRecDepth 100000 in
theorem wd_yN_places : Cond.code yN_places cN_places 1 (some .int) ∈ lw_g := (lw_gm 445 rfl rfl)
theorem cw_D_133 : wk_cw RD 133 yN_places cN_places 1 (some .int) 0 := ⟨(lw_gm 506 (by decide +kernel) rfl), (lw_gm 60 (by decide +kernel) rfl), wd_yN_places, rfl, by decide +kernel, by decide +kernel, by decide +kernel⟩
set_option maxRecDepth 100000 in
theorem wd_yN_roundToPlaces : Cond.code yN_roundToPlaces cN_roundToPlaces 5 none ∈ lw_g := (lw_gm 510 rfl rfl)
theorem cw_D_136 : wk_cw RD 136 yN_roundToPlaces cN_roundToPlaces 5 none 1 := ⟨(lw_gm 507 (by decide +kernel) rfl), (lw_gm 60 (by decide +kernel) rfl), wd_yN_roundToPlaces, rfl, by decide +kernel, by decide +kernel, by decide +kernel⟩
set_option maxRecDepth 100000 in
theorem wd_yD_standing : Cond.code yD_standing cD_standing 1 (some .int) ∈ lw_g := (lw_gm 520 rfl rfl)
theorem cw_D_139 : wk_cw RD 139 yD_standing cD_standing 1 (some .int) 1 := ⟨(lw_gm 518 (by decide +kernel) rfl), (lw_gm 54 (by decide +kernel) rfl), wd_yD_standing, rfl, by decide +kernel, by decide +kernel, by decide +kernel⟩
set_option maxRecDepth 100000 in
theorem wd_yD_strictOrder : Cond.code yD_strictOrder cD_strictOrder 5 (some .int) ∈ lw_g := (lw_gm 523 rfl rfl)
theorem cw_D_142 : wk_cw RD 142 yD_strictOrder cD_strictOrder 5 (some .int) 2 := ⟨(lw_gm 521 (by decide +kernel) rfl), (lw_gm 54 (by decide +kernel) rfl), wd_yD_strictOrder, rfl, by decide +kernel, by decide +kernel, by decide +kernel⟩
set_option maxRecDepth 100000 in
theorem wd_yD_looseOrder : Cond.code yD_looseOrder cD_looseOrder 7 (some .int) ∈ lw_g := (lw_gm 526 rfl rfl)
theorem cw_D_146 : wk_cw RD 146 yD_looseOrder cD_looseOrder 7 (some .int) 2 := ⟨(lw_gm 524 (by decide +kernel) rfl), (lw_gm 54 (by decide +kernel) rfl), wd_yD_looseOrder, rfl, by decide +kernel, by decide +kernel, by decide +kernel⟩
set_option maxRecDepth 100000 in
theorem wd_yN_wholeValue : Cond.code yN_wholeValue cN_wholeValue 4 (some .int) ∈ lw_g := (lw_gm 415 rfl rfl)
theorem cw_D_150 : wk_cw RD 150 yN_wholeValue cN_wholeValue 4 (some .int) 0 := ⟨(lw_gm 540 (by decide +kernel) rfl), (lw_gm 60 (by decide +kernel) rfl), wd_yN_wholeValue, rfl, by decide +kernel, by decide +kernel, by decide +kernel⟩
set_option maxRecDepth 100000 in
theorem wd_yR_read : Cond.code yR_read cR_read 4 (some .boolean) ∈ lw_g := (lw_gm 272 rfl rfl)
theorem cw_D_154 : wk_cw RD 154 yR_read cR_read 4 (some .boolean) 2 := ⟨(lw_gm 269 (by decide +kernel) rfl), (lw_gm 57 (by decide +kernel) rfl), wd_yR_read, rfl, by decide +kernel, by decide +kernel, by decide +kernel⟩
set_option maxRecDepth 100000 in
theorem wd_yN_firstPower : Cond.code yN_firstPower cN_firstPower 1 (some .int) ∈ lw_g := (lw_gm 440 rfl rfl)
theorem cw_D_161 : wk_cw RD 161 yN_firstPower cN_firstPower 1 (some .int) 0 := ⟨(lw_gm 546 (by decide +kernel) rfl), (lw_gm 60 (by decide +kernel) rfl), wd_yN_firstPower, rfl, by decide +kernel, by decide +kernel, by decide +kernel⟩
set_option maxRecDepth 100000 in
theorem wd_yN_roundTo : Cond.code yN_roundTo cN_roundTo 3 none ∈ lw_g := (lw_gm 308 rfl rfl)
theorem cw_D_164 : wk_cw RD 164 yN_roundTo cN_roundTo 3 none 1 := ⟨(lw_gm 305 (by decide +kernel) rfl), (lw_gm 60 (by decide +kernel) rfl), wd_yN_roundTo, rfl, by decide +kernel, by decide +kernel, by decide +kernel⟩
set_option maxRecDepth 100000 in
theorem wd_yT_write : Cond.code yT_write cT_write 6 (some .int) ∈ lw_g := (lw_gm 436 rfl rfl)
theorem cw_D_167 : wk_cw RD 167 yT_write cT_write 6 (some .int) 4 := ⟨(lw_gm 433 (by decide +kernel) rfl), (lw_gm 58 (by decide +kernel) rfl), wd_yT_write, rfl, by decide +kernel, by decide +kernel, by decide +kernel⟩
set_option maxRecDepth 100000 in
theorem wd_yD_keepPage : Cond.code yD_keepPage cD_keepPage 2 (some .int) ∈ lw_g := (lw_gm 473 rfl rfl)
theorem cw_D_169 : wk_cw RD 169 yD_keepPage cD_keepPage 2 (some .int) 1 := ⟨(lw_gm 470 (by decide +kernel) rfl), (lw_gm 54 (by decide +kernel) rfl), wd_yD_keepPage, rfl, by decide +kernel, by decide +kernel, by decide +kernel⟩
set_option maxRecDepth 100000 in
theorem wd_yL_add : Cond.code yL_add cL_add 2 none ∈ lw_g := (lw_gm 215 rfl rfl)
theorem cw_D_175 : wk_cw RD 175 yL_add cL_add 2 none 1 := ⟨(lw_gm 500 (by decide +kernel) rfl), (lw_gm 55 (by decide +kernel) rfl), wd_yL_add, rfl, by decide +kernel, by decide +kernel, by decide +kernel⟩
set_option maxRecDepth 100000 in
theorem wd_yT_addPlain : Cond.code yT_addPlain cT_addPlain 5 none ∈ lw_g := (lw_gm 449 rfl rfl)
theorem cw_D_178 : wk_cw RD 178 yT_addPlain cT_addPlain 5 none 3 := ⟨(lw_gm 501 (by decide +kernel) rfl), (lw_gm 58 (by decide +kernel) rfl), wd_yT_addPlain, rfl, by decide +kernel, by decide +kernel, by decide +kernel⟩
set_option maxRecDepth 100000 in
theorem wd_yL_firstInk : Cond.code yL_firstInk cL_firstInk 2 (some .int) ∈ lw_g := (lw_gm 530 rfl rfl)
theorem cw_D_186 : wk_cw RD 186 yL_firstInk cL_firstInk 2 (some .int) 0 := ⟨(lw_gm 527 (by decide +kernel) rfl), (lw_gm 55 (by decide +kernel) rfl), wd_yL_firstInk, rfl, by decide +kernel, by decide +kernel, by decide +kernel⟩
set_option maxRecDepth 100000 in
theorem wd_yL_byteOrBlank : Cond.code yL_byteOrBlank cL_byteOrBlank 3 (some .int) ∈ lw_g := (lw_gm 534 rfl rfl)
theorem cw_D_189 : wk_cw RD 189 yL_byteOrBlank cL_byteOrBlank 3 (some .int) 1 := ⟨(lw_gm 531 (by decide +kernel) rfl), (lw_gm 55 (by decide +kernel) rfl), wd_yL_byteOrBlank, rfl, by decide +kernel, by decide +kernel, by decide +kernel⟩
theorem cw_L_25 : wk_cw RL 25 yL_add cL_add 2 none 1 := ⟨(lw_gm 212 (by decide +kernel) rfl), (lw_gm 55 (by decide +kernel) rfl), wd_yL_add, rfl, by decide +kernel, by decide +kernel, by decide +kernel⟩
theorem cw_L_29 : wk_cw RL 29 yL_byteAt cL_byteAt 2 (some .int) 1 := ⟨(lw_gm 232 (by decide +kernel) rfl), (lw_gm 55 (by decide +kernel) rfl), wd_yL_byteAt, rfl, by decide +kernel, by decide +kernel, by decide +kernel⟩
theorem cw_N_31 : wk_cw RN 31 yN_clear cN_clear 1 none 0 := ⟨(lw_gm 332 (by decide +kernel) rfl), (lw_gm 60 (by decide +kernel) rfl), wd_yN_clear, rfl, by decide +kernel, by decide +kernel, by decide +kernel⟩
set_option maxRecDepth 100000 in
theorem wd_yN_push : Cond.code yN_push cN_push 3 none ∈ lw_g := (lw_gm 296 rfl rfl)
theorem cw_N_34 : wk_cw RN 34 yN_push cN_push 3 none 1 := ⟨(lw_gm 333 (by decide +kernel) rfl), (lw_gm 60 (by decide +kernel) rfl), wd_yN_push, rfl, by decide +kernel, by decide +kernel, by decide +kernel⟩
set_option maxRecDepth 100000 in
theorem wd_yN_digit : Cond.code yN_digit cN_digit 2 (some .int) ∈ lw_g := (lw_gm 312 rfl rfl)
theorem cw_N_38 : wk_cw RN 38 yN_digit cN_digit 2 (some .int) 1 := ⟨(lw_gm 309 (by decide +kernel) rfl), (lw_gm 60 (by decide +kernel) rfl), wd_yN_digit, rfl, by decide +kernel, by decide +kernel, by decide +kernel⟩
set_option maxRecDepth 100000 in
theorem wd_yN_settle : Cond.code yN_settle cN_settle 3 none ∈ lw_g := (lw_gm 304 rfl rfl)
theorem cw_N_42 : wk_cw RN 42 yN_settle cN_settle 3 none 2 := ⟨(lw_gm 334 (by decide +kernel) rfl), (lw_gm 60 (by decide +kernel) rfl), wd_yN_settle, rfl, by decide +kernel, by decide +kernel, by decide +kernel⟩
set_option maxRecDepth 100000 in
theorem wd_yN_countUp : Cond.code yN_countUp cN_countUp 2 none ∈ lw_g := (lw_gm 316 rfl rfl)
theorem cw_N_46 : wk_cw RN 46 yN_countUp cN_countUp 2 none 0 := ⟨(lw_gm 313 (by decide +kernel) rfl), (lw_gm 60 (by decide +kernel) rfl), wd_yN_countUp, rfl, by decide +kernel, by decide +kernel, by decide +kernel⟩
theorem cw_N_49 : wk_cw RN 49 yN_places cN_places 1 (some .int) 0 := ⟨(lw_gm 511 (by decide +kernel) rfl), (lw_gm 60 (by decide +kernel) rfl), wd_yN_places, rfl, by decide +kernel, by decide +kernel, by decide +kernel⟩
theorem cw_N_53 : wk_cw RN 53 yN_ahead cN_ahead 1 (some .int) 0 := ⟨(lw_gm 416 (by decide +kernel) rfl), (lw_gm 60 (by decide +kernel) rfl), wd_yN_ahead, rfl, by decide +kernel, by decide +kernel, by decide +kernel⟩
theorem cw_N_56 : wk_cw RN 56 yN_roundTo cN_roundTo 3 none 1 := ⟨(lw_gm 512 (by decide +kernel) rfl), (lw_gm 60 (by decide +kernel) rfl), wd_yN_roundTo, rfl, by decide +kernel, by decide +kernel, by decide +kernel⟩
theorem cw_N_59 : wk_cw RN 59 yN_becomeUnit cN_becomeUnit 2 none 1 := ⟨(lw_gm 513 (by decide +kernel) rfl), (lw_gm 60 (by decide +kernel) rfl), wd_yN_becomeUnit, rfl, by decide +kernel, by decide +kernel, by decide +kernel⟩
theorem cw_R_15 : wk_cw RR 15 yN_clear cN_clear 1 none 0 := ⟨(lw_gm 273 (by decide +kernel) rfl), (lw_gm 60 (by decide +kernel) rfl), wd_yN_clear, rfl, by decide +kernel, by decide +kernel, by decide +kernel⟩
set_option maxRecDepth 100000 in
theorem wd_yR_skipBlanks : Cond.code yR_skipBlanks cR_skipBlanks 2 none ∈ lw_g := (lw_gm 280 rfl rfl)
theorem cw_R_20 : wk_cw RR 20 yR_skipBlanks cR_skipBlanks 2 none 1 := ⟨(lw_gm 277 (by decide +kernel) rfl), (lw_gm 57 (by decide +kernel) rfl), wd_yR_skipBlanks, rfl, by decide +kernel, by decide +kernel, by decide +kernel⟩
set_option maxRecDepth 100000 in
theorem wd_yR_readSign : Cond.code yR_readSign cR_readSign 3 (some .int) ∈ lw_g := (lw_gm 285 rfl rfl)
theorem cw_R_24 : wk_cw RR 24 yR_readSign cR_readSign 3 (some .int) 1 := ⟨(lw_gm 282 (by decide +kernel) rfl), (lw_gm 57 (by decide +kernel) rfl), wd_yR_readSign, rfl, by decide +kernel, by decide +kernel, by decide +kernel⟩
set_option maxRecDepth 100000 in
theorem wd_yR_readDigits : Cond.code yR_readDigits cR_readDigits 7 (some .boolean) ∈ lw_g := (lw_gm 289 rfl rfl)
theorem cw_R_28 : wk_cw RR 28 yR_readDigits cR_readDigits 7 (some .boolean) 2 := ⟨(lw_gm 286 (by decide +kernel) rfl), (lw_gm 57 (by decide +kernel) rfl), wd_yR_readDigits, rfl, by decide +kernel, by decide +kernel, by decide +kernel⟩
set_option maxRecDepth 100000 in
theorem wd_yR_readExponent : Cond.code yR_readExponent cR_readExponent 7 (some .boolean) ∈ lw_g := (lw_gm 300 rfl rfl)
theorem cw_R_32 : wk_cw RR 32 yR_readExponent cR_readExponent 7 (some .boolean) 2 := ⟨(lw_gm 297 (by decide +kernel) rfl), (lw_gm 57 (by decide +kernel) rfl), wd_yR_readExponent, rfl, by decide +kernel, by decide +kernel, by decide +kernel⟩
theorem cw_R_38 : wk_cw RR 38 yN_settle cN_settle 3 none 2 := ⟨(lw_gm 301 (by decide +kernel) rfl), (lw_gm 60 (by decide +kernel) rfl), wd_yN_settle, rfl, by decide +kernel, by decide +kernel, by decide +kernel⟩
theorem cw_R_47 : wk_cw RR 47 yL_byteAt cL_byteAt 2 (some .int) 1 := ⟨(lw_gm 281 (by decide +kernel) rfl), (lw_gm 55 (by decide +kernel) rfl), wd_yL_byteAt, rfl, by decide +kernel, by decide +kernel, by decide +kernel⟩
set_option maxRecDepth 100000 in
theorem wd_yR_isDigit : Cond.code yR_isDigit cR_isDigit 1 (some .boolean) ∈ lw_g := (lw_gm 292 rfl rfl)
theorem cw_R_51 : wk_cw RR 51 yR_isDigit cR_isDigit 1 (some .boolean) 1 := ⟨(lw_gm 290 (by decide +kernel) rfl), (lw_gm 57 (by decide +kernel) rfl), wd_yR_isDigit, rfl, by decide +kernel, by decide +kernel, by decide +kernel⟩
theorem cw_R_55 : wk_cw RR 55 yN_push cN_push 3 none 1 := ⟨(lw_gm 293 (by decide +kernel) rfl), (lw_gm 60 (by decide +kernel) rfl), wd_yN_push, rfl, by decide +kernel, by decide +kernel, by decide +kernel⟩
theorem cw_K_43 : wk_cw RK 43 yK_sum cK_sum 10 none 4 := ⟨(lw_gm 324 (by decide +kernel) rfl), (lw_gm 59 (by decide +kernel) rfl), wd_yK_sum, rfl, by decide +kernel, by decide +kernel, by decide +kernel⟩
set_option maxRecDepth 100000 in
theorem wd_yK_product : Cond.code yK_product cK_product 8 none ∈ lw_g := (lw_gm 371 rfl rfl)
theorem cw_K_47 : wk_cw RK 47 yK_product cK_product 8 none 3 := ⟨(lw_gm 368 (by decide +kernel) rfl), (lw_gm 59 (by decide +kernel) rfl), wd_yK_product, rfl, by decide +kernel, by decide +kernel, by decide +kernel⟩
set_option maxRecDepth 100000 in
theorem wd_yK_quotient : Cond.code yK_quotient cK_quotient 6 none ∈ lw_g := (lw_gm 378 rfl rfl)
theorem cw_K_51 : wk_cw RK 51 yK_quotient cK_quotient 6 none 4 := ⟨(lw_gm 375 (by decide +kernel) rfl), (lw_gm 59 (by decide +kernel) rfl), wd_yK_quotient, rfl, by decide +kernel, by decide +kernel, by decide +kernel⟩
set_option maxRecDepth 100000 in
theorem wd_yK_partOf : Cond.code yK_partOf cK_partOf 5 (some .int) ∈ lw_g := (lw_gm 407 rfl rfl)
theorem cw_K_55 : wk_cw RK 55 yK_partOf cK_partOf 5 (some .int) 4 := ⟨(lw_gm 404 (by decide +kernel) rfl), (lw_gm 59 (by decide +kernel) rfl), wd_yK_partOf, rfl, by decide +kernel, by decide +kernel, by decide +kernel⟩
set_option maxRecDepth 100000 in
theorem wd_yK_restOf : Cond.code yK_restOf cK_restOf 6 (some .int) ∈ lw_g := (lw_gm 411 rfl rfl)
theorem cw_K_59 : wk_cw RK 59 yK_restOf cK_restOf 6 (some .int) 4 := ⟨(lw_gm 408 (by decide +kernel) rfl), (lw_gm 59 (by decide +kernel) rfl), wd_yK_restOf, rfl, by decide +kernel, by decide +kernel, by decide +kernel⟩
theorem cw_K_62 : wk_cw RK 62 yN_wholeValue cN_wholeValue 4 (some .int) 0 := ⟨(lw_gm 412 (by decide +kernel) rfl), (lw_gm 60 (by decide +kernel) rfl), wd_yN_wholeValue, rfl, by decide +kernel, by decide +kernel, by decide +kernel⟩
set_option maxRecDepth 100000 in
theorem wd_yK_powerOf : Cond.code yK_powerOf cK_powerOf 9 (some .int) ∈ lw_g := (lw_gm 421 rfl rfl)
theorem cw_K_66 : wk_cw RK 66 yK_powerOf cK_powerOf 9 (some .int) 4 := ⟨(lw_gm 418 (by decide +kernel) rfl), (lw_gm 59 (by decide +kernel) rfl), wd_yK_powerOf, rfl, by decide +kernel, by decide +kernel, by decide +kernel⟩
theorem cw_K_70 : wk_cw RK 70 yN_roundTo cN_roundTo 3 none 1 := ⟨(lw_gm 399 (by decide +kernel) rfl), (lw_gm 60 (by decide +kernel) rfl), wd_yN_roundTo, rfl, by decide +kernel, by decide +kernel, by decide +kernel⟩
set_option maxRecDepth 100000 in
theorem wd_yN_copy : Cond.code yN_copy cN_copy 3 none ∈ lw_g := (lw_gm 331 rfl rfl)
theorem cw_K_73 : wk_cw RK 73 yN_copy cN_copy 3 none 1 := ⟨(lw_gm 328 (by decide +kernel) rfl), (lw_gm 60 (by decide +kernel) rfl), wd_yN_copy, rfl, by decide +kernel, by decide +kernel, by decide +kernel⟩
set_option maxRecDepth 100000 in
theorem wd_yK_nearTo : Cond.code yK_nearTo cK_nearTo 4 (some (.object "NumberDesk$Num")) ∈ lw_g := (lw_gm 338 rfl rfl)
theorem cw_K_77 : wk_cw RK 77 yK_nearTo cK_nearTo 4 (some (.object "NumberDesk$Num")) 2 := ⟨(lw_gm 335 (by decide +kernel) rfl), (lw_gm 59 (by decide +kernel) rfl), wd_yK_nearTo, rfl, by decide +kernel, by decide +kernel, by decide +kernel⟩
theorem cw_K_90 : wk_cw RK 90 yN_ahead cN_ahead 1 (some .int) 0 := ⟨(lw_gm 339 (by decide +kernel) rfl), (lw_gm 60 (by decide +kernel) rfl), wd_yN_ahead, rfl, by decide +kernel, by decide +kernel, by decide +kernel⟩
set_option maxRecDepth 100000 in
theorem wd_yK_fillCells : Cond.code yK_fillCells cK_fillCells 9 none ∈ lw_g := (lw_gm 352 rfl rfl)
theorem cw_K_96 : wk_cw RK 96 yK_fillCells cK_fillCells 9 none 5 := ⟨(lw_gm 349 (by decide +kernel) rfl), (lw_gm 59 (by decide +kernel) rfl), wd_yK_fillCells, rfl, by decide +kernel, by decide +kernel, by decide +kernel⟩
set_option maxRecDepth 100000 in
theorem wd_yK_takeCells : Cond.code yK_takeCells cK_takeCells 6 none ∈ lw_g := (lw_gm 360 rfl rfl)
theorem cw_K_100 : wk_cw RK 100 yK_takeCells cK_takeCells 6 none 4 := ⟨(lw_gm 357 (by decide +kernel) rfl), (lw_gm 59 (by decide +kernel) rfl), wd_yK_takeCells, rfl, by decide +kernel, by decide +kernel, by decide +kernel⟩
set_option maxRecDepth 100000 in
theorem wd_yK_isBelow : Cond.code yK_isBelow cK_isBelow 5 (some .boolean) ∈ lw_g := (lw_gm 366 rfl rfl)
theorem cw_K_104 : wk_cw RK 104 yK_isBelow cK_isBelow 5 (some .boolean) 2 := ⟨(lw_gm 364 (by decide +kernel) rfl), (lw_gm 59 (by decide +kernel) rfl), wd_yK_isBelow, rfl, by decide +kernel, by decide +kernel, by decide +kernel⟩
theorem cw_K_108 : wk_cw RK 108 yN_becomeUnit cN_becomeUnit 2 none 1 := ⟨(lw_gm 343 (by decide +kernel) rfl), (lw_gm 60 (by decide +kernel) rfl), wd_yN_becomeUnit, rfl, by decide +kernel, by decide +kernel, by decide +kernel⟩
theorem cw_K_114 : wk_cw RK 114 yN_digit cN_digit 2 (some .int) 1 := ⟨(lw_gm 367 (by decide +kernel) rfl), (lw_gm 60 (by decide +kernel) rfl), wd_yN_digit, rfl, by decide +kernel, by decide +kernel, by decide +kernel⟩
set_option maxRecDepth 100000 in
theorem wd_yN_digitAtPower : Cond.code yN_digitAtPower cN_digitAtPower 2 (some .int) ∈ lw_g := (lw_gm 356 rfl rfl)
theorem cw_K_118 : wk_cw RK 118 yN_digitAtPower cN_digitAtPower 2 (some .int) 1 := ⟨(lw_gm 353 (by decide +kernel) rfl), (lw_gm 60 (by decide +kernel) rfl), wd_yN_digitAtPower, rfl, by decide +kernel, by decide +kernel, by decide +kernel⟩
theorem cw_K_121 : wk_cw RK 121 yN_clear cN_clear 1 none 0 := ⟨(lw_gm 361 (by decide +kernel) rfl), (lw_gm 60 (by decide +kernel) rfl), wd_yN_clear, rfl, by decide +kernel, by decide +kernel, by decide +kernel⟩
theorem cw_K_124 : wk_cw RK 124 yN_push cN_push 3 none 1 := ⟨(lw_gm 362 (by decide +kernel) rfl), (lw_gm 60 (by decide +kernel) rfl), wd_yN_push, rfl, by decide +kernel, by decide +kernel, by decide +kernel⟩
theorem cw_K_127 : wk_cw RK 127 yN_settle cN_settle 3 none 2 := ⟨(lw_gm 363 (by decide +kernel) rfl), (lw_gm 60 (by decide +kernel) rfl), wd_yN_settle, rfl, by decide +kernel, by decide +kernel, by decide +kernel⟩
set_option maxRecDepth 100000 in
theorem wd_yK_crossSum : Cond.code yK_crossSum cK_crossSum 5 (some .int) ∈ lw_g := (lw_gm 374 rfl rfl)
theorem cw_K_131 : wk_cw RK 131 yK_crossSum cK_crossSum 5 (some .int) 3 := ⟨(lw_gm 372 (by decide +kernel) rfl), (lw_gm 59 (by decide +kernel) rfl), wd_yK_crossSum, rfl, by decide +kernel, by decide +kernel, by decide +kernel⟩
set_option maxRecDepth 100000 in
theorem wd_yK_divide : Cond.code yK_divide cK_divide 8 (some .int) ∈ lw_g := (lw_gm 382 rfl rfl)
theorem cw_K_135 : wk_cw RK 135 yK_divide cK_divide 8 (some .int) 5 := ⟨(lw_gm 379 (by decide +kernel) rfl), (lw_gm 59 (by decide +kernel) rfl), wd_yK_divide, rfl, by decide +kernel, by decide +kernel, by decide +kernel⟩
set_option maxRecDepth 100000 in
theorem wd_yN_dropEndZeros : Cond.code yN_dropEndZeros cN_dropEndZeros 1 none ∈ lw_g := (lw_gm 403 rfl rfl)
theorem cw_K_139 : wk_cw RK 139 yN_dropEndZeros cN_dropEndZeros 1 none 0 := ⟨(lw_gm 400 (by decide +kernel) rfl), (lw_gm 60 (by decide +kernel) rfl), wd_yN_dropEndZeros, rfl, by decide +kernel, by decide +kernel, by decide +kernel⟩
set_option maxRecDepth 100000 in
theorem wd_yK_multiplyInto : Cond.code yK_multiplyInto cK_multiplyInto 4 none ∈ lw_g := (lw_gm 428 rfl rfl)
theorem cw_K_145 : wk_cw RK 145 yK_multiplyInto cK_multiplyInto 4 none 3 := ⟨(lw_gm 425 (by decide +kernel) rfl), (lw_gm 59 (by decide +kernel) rfl), wd_yK_multiplyInto, rfl, by decide +kernel, by decide +kernel, by decide +kernel⟩
set_option maxRecDepth 100000 in
theorem wd_yK_bringDown : Cond.code yK_bringDown cK_bringDown 4 none ∈ lw_g := (lw_gm 386 rfl rfl)
theorem cw_K_149 : wk_cw RK 149 yK_bringDown cK_bringDown 4 none 2 := ⟨(lw_gm 383 (by decide +kernel) rfl), (lw_gm 59 (by decide +kernel) rfl), wd_yK_bringDown, rfl, by decide +kernel, by decide +kernel, by decide +kernel⟩
set_option maxRecDepth 100000 in
theorem wd_yK_takeAwayAll : Cond.code yK_takeAwayAll cK_takeAwayAll 3 (some .int) ∈ lw_g := (lw_gm 390 rfl rfl)
theorem cw_K_152 : wk_cw RK 152 yK_takeAwayAll cK_takeAwayAll 3 (some .int) 1 := ⟨(lw_gm 387 (by decide +kernel) rfl), (lw_gm 59 (by decide +kernel) rfl), wd_yK_takeAwayAll, rfl, by decide +kernel, by decide +kernel, by decide +kernel⟩
set_option maxRecDepth 100000 in
theorem wd_yK_holdsDivisor : Cond.code yK_holdsDivisor cK_holdsDivisor 4 (some .boolean) ∈ lw_g := (lw_gm 394 rfl rfl)
theorem cw_K_155 : wk_cw RK 155 yK_holdsDivisor cK_holdsDivisor 4 (some .boolean) 1 := ⟨(lw_gm 391 (by decide +kernel) rfl), (lw_gm 59 (by decide +kernel) rfl), wd_yK_holdsDivisor, rfl, by decide +kernel, by decide +kernel, by decide +kernel⟩
set_option maxRecDepth 100000 in
theorem wd_yK_takeAwayOnce : Cond.code yK_takeAwayOnce cK_takeAwayOnce 5 none ∈ lw_g := (lw_gm 398 rfl rfl)
theorem cw_K_159 : wk_cw RK 159 yK_takeAwayOnce cK_takeAwayOnce 5 none 1 := ⟨(lw_gm 395 (by decide +kernel) rfl), (lw_gm 59 (by decide +kernel) rfl), wd_yK_takeAwayOnce, rfl, by decide +kernel, by decide +kernel, by decide +kernel⟩
theorem cw_T_9 : wk_cw RT 9 yN_firstPower cN_firstPower 1 (some .int) 0 := ⟨(lw_gm 437 (by decide +kernel) rfl), (lw_gm 60 (by decide +kernel) rfl), wd_yN_firstPower, rfl, by decide +kernel, by decide +kernel, by decide +kernel⟩
theorem cw_T_21 : wk_cw RT 21 yN_ahead cN_ahead 1 (some .int) 0 := ⟨(lw_gm 441 (by decide +kernel) rfl), (lw_gm 60 (by decide +kernel) rfl), wd_yN_ahead, rfl, by decide +kernel, by decide +kernel, by decide +kernel⟩
theorem cw_T_24 : wk_cw RT 24 yN_places cN_places 1 (some .int) 0 := ⟨(lw_gm 442 (by decide +kernel) rfl), (lw_gm 60 (by decide +kernel) rfl), wd_yN_places, rfl, by decide +kernel, by decide +kernel, by decide +kernel⟩
theorem cw_T_27 : wk_cw RT 27 yT_addPlain cT_addPlain 5 none 3 := ⟨(lw_gm 446 (by decide +kernel) rfl), (lw_gm 58 (by decide +kernel) rfl), wd_yT_addPlain, rfl, by decide +kernel, by decide +kernel, by decide +kernel⟩
set_option maxRecDepth 100000 in
theorem wd_yT_addWithExponent : Cond.code yT_addWithExponent cT_addWithExponent 7 none ∈ lw_g := (lw_gm 460 rfl rfl)
theorem cw_T_33 : wk_cw RT 33 yT_addWithExponent cT_addWithExponent 7 none 3 := ⟨(lw_gm 457 (by decide +kernel) rfl), (lw_gm 58 (by decide +kernel) rfl), wd_yT_addWithExponent, rfl, by decide +kernel, by decide +kernel, by decide +kernel⟩
set_option maxRecDepth 100000 in
theorem wd_yT_addSign : Cond.code yT_addSign cT_addSign 3 none ∈ lw_g := (lw_gm 453 rfl rfl)
theorem cw_T_36 : wk_cw RT 36 yT_addSign cT_addSign 3 none 2 := ⟨(lw_gm 450 (by decide +kernel) rfl), (lw_gm 58 (by decide +kernel) rfl), wd_yT_addSign, rfl, by decide +kernel, by decide +kernel, by decide +kernel⟩
theorem cw_T_46 : wk_cw RT 46 yN_digitAtPower cN_digitAtPower 2 (some .int) 1 := ⟨(lw_gm 456 (by decide +kernel) rfl), (lw_gm 60 (by decide +kernel) rfl), wd_yN_digitAtPower, rfl, by decide +kernel, by decide +kernel, by decide +kernel⟩
theorem cw_T_50 : wk_cw RT 50 yL_add cL_add 2 none 1 := ⟨(lw_gm 454 (by decide +kernel) rfl), (lw_gm 55 (by decide +kernel) rfl), wd_yL_add, rfl, by decide +kernel, by decide +kernel, by decide +kernel⟩
set_option maxRecDepth 100000 in
theorem wd_yA_floorMod : Cond.code yA_floorMod cA_floorMod 3 (some .int) ∈ lw_g := (lw_gm 463 rfl rfl)
theorem cw_T_54 : wk_cw RT 54 yA_floorMod cA_floorMod 3 (some .int) 2 := ⟨(lw_gm 461 (by decide +kernel) rfl), (lw_gm 56 (by decide +kernel) rfl), wd_yA_floorMod, rfl, by decide +kernel, by decide +kernel, by decide +kernel⟩
theorem cw_T_57 : wk_cw RT 57 yN_digit cN_digit 2 (some .int) 1 := ⟨(lw_gm 464 (by decide +kernel) rfl), (lw_gm 60 (by decide +kernel) rfl), wd_yN_digit, rfl, by decide +kernel, by decide +kernel, by decide +kernel⟩
set_option maxRecDepth 100000 in
theorem wd_yT_addExponent : Cond.code yT_addExponent cT_addExponent 4 none ∈ lw_g := (lw_gm 468 rfl rfl)
theorem cw_T_63 : wk_cw RT 63 yT_addExponent cT_addExponent 4 none 2 := ⟨(lw_gm 465 (by decide +kernel) rfl), (lw_gm 58 (by decide +kernel) rfl), wd_yT_addExponent, rfl, by decide +kernel, by decide +kernel, by decide +kernel⟩
set_option maxRecDepth 100000 in
theorem wd_yD_feed : Cond.code yD_feed cD_feed 6 (some .int) ∈ lw_g := (lw_gm 207 rfl rfl)
theorem cw_W_13 : wk_cw RW 13 yD_feed cD_feed 6 (some .int) 5 := ⟨(lw_gm 204 (by decide +kernel) rfl), (lw_gm 54 (by decide +kernel) rfl), wd_yD_feed, rfl, by decide +kernel, by decide +kernel, by decide +kernel⟩
set_option maxRecDepth 100000 in
theorem wd_yM_feed : Cond.code yM_feed cM_feed 6 (some .int) ∈ lw_g := (lw_gm 599 rfl rfl)
theorem cw_W_17 : wk_cw RW 17 yM_feed cM_feed 6 (some .int) 5 := ⟨(lw_gm 596 (by decide +kernel) rfl), (lw_gm 61 (by decide +kernel) rfl), wd_yM_feed, rfl, by decide +kernel, by decide +kernel, by decide +kernel⟩
set_option maxRecDepth 100000 in
theorem wd_yD_end : Cond.code yD_end cD_end 2 (some .int) ∈ lw_g := (lw_gm 219 rfl rfl)
theorem cw_W_18 : wk_cw RW 18 yD_end cD_end 2 (some .int) 1 := ⟨(lw_gm 216 (by decide +kernel) rfl), (lw_gm 54 (by decide +kernel) rfl), wd_yD_end, rfl, by decide +kernel, by decide +kernel, by decide +kernel⟩
set_option maxRecDepth 100000 in
theorem wd_yM_end : Cond.code yM_end cM_end 2 (some .int) ∈ lw_g := (lw_gm 607 rfl rfl)
theorem cw_W_22 : wk_cw RW 22 yM_end cM_end 2 (some .int) 1 := ⟨(lw_gm 604 (by decide +kernel) rfl), (lw_gm 61 (by decide +kernel) rfl), wd_yM_end, rfl, by decide +kernel, by decide +kernel, by decide +kernel⟩
set_option maxRecDepth 100000 in
theorem wd_yD_put : Cond.code yD_put cD_put 3 (some .int) ∈ lw_g := (lw_gm 223 rfl rfl)
theorem cw_W_23 : wk_cw RW 23 yD_put cD_put 3 (some .int) 1 := ⟨(lw_gm 220 (by decide +kernel) rfl), (lw_gm 54 (by decide +kernel) rfl), wd_yD_put, rfl, by decide +kernel, by decide +kernel, by decide +kernel⟩
set_option maxRecDepth 100000 in
theorem wd_yM_put : Cond.code yM_put cM_put 3 (some .int) ∈ lw_g := (lw_gm 611 rfl rfl)
theorem cw_W_26 : wk_cw RW 26 yM_put cM_put 3 (some .int) 1 := ⟨(lw_gm 608 (by decide +kernel) rfl), (lw_gm 61 (by decide +kernel) rfl), wd_yM_put, rfl, by decide +kernel, by decide +kernel, by decide +kernel⟩
set_option maxRecDepth 100000 in
theorem wd_yD_size : Cond.code yD_size cD_size 3 (some .int) ∈ lw_g := (lw_gm 239 rfl rfl)
theorem cw_W_27 : wk_cw RW 27 yD_size cD_size 3 (some .int) 1 := ⟨(lw_gm 236 (by decide +kernel) rfl), (lw_gm 54 (by decide +kernel) rfl), wd_yD_size, rfl, by decide +kernel, by decide +kernel, by decide +kernel⟩
set_option maxRecDepth 100000 in
theorem wd_yM_size : Cond.code yM_size cM_size 2 (some .int) ∈ lw_g := (lw_gm 618 rfl rfl)
theorem cw_W_30 : wk_cw RW 30 yM_size cM_size 2 (some .int) 1 := ⟨(lw_gm 615 (by decide +kernel) rfl), (lw_gm 61 (by decide +kernel) rfl), wd_yM_size, rfl, by decide +kernel, by decide +kernel, by decide +kernel⟩
set_option maxRecDepth 100000 in
theorem wd_yD_at : Cond.code yD_at cD_at 4 (some .int) ∈ lw_g := (lw_gm 243 rfl rfl)
theorem cw_W_31 : wk_cw RW 31 yD_at cD_at 4 (some .int) 2 := ⟨(lw_gm 240 (by decide +kernel) rfl), (lw_gm 54 (by decide +kernel) rfl), wd_yD_at, rfl, by decide +kernel, by decide +kernel, by decide +kernel⟩
set_option maxRecDepth 100000 in
theorem wd_yM_at : Cond.code yM_at cM_at 3 (some .int) ∈ lw_g := (lw_gm 622 rfl rfl)
theorem cw_W_35 : wk_cw RW 35 yM_at cM_at 3 (some .int) 2 := ⟨(lw_gm 619 (by decide +kernel) rfl), (lw_gm 61 (by decide +kernel) rfl), wd_yM_at, rfl, by decide +kernel, by decide +kernel, by decide +kernel⟩
set_option maxRecDepth 100000 in
theorem wd_yD_digits : Cond.code yD_digits cD_digits 2 (some .int) ∈ lw_g := (lw_gm 248 rfl rfl)
theorem cw_W_36 : wk_cw RW 36 yD_digits cD_digits 2 (some .int) 1 := ⟨(lw_gm 245 (by decide +kernel) rfl), (lw_gm 54 (by decide +kernel) rfl), wd_yD_digits, rfl, by decide +kernel, by decide +kernel, by decide +kernel⟩
set_option maxRecDepth 100000 in
theorem wd_yM_digits : Cond.code yM_digits cM_digits 2 (some .int) ∈ lw_g := (lw_gm 626 rfl rfl)
theorem cw_W_39 : wk_cw RW 39 yM_digits cM_digits 2 (some .int) 1 := ⟨(lw_gm 623 (by decide +kernel) rfl), (lw_gm 61 (by decide +kernel) rfl), wd_yM_digits, rfl, by decide +kernel, by decide +kernel, by decide +kernel⟩
set_option maxRecDepth 100000 in
theorem wd_yD_fuzz : Cond.code yD_fuzz cD_fuzz 2 (some .int) ∈ lw_g := (lw_gm 252 rfl rfl)
theorem cw_W_40 : wk_cw RW 40 yD_fuzz cD_fuzz 2 (some .int) 1 := ⟨(lw_gm 249 (by decide +kernel) rfl), (lw_gm 54 (by decide +kernel) rfl), wd_yD_fuzz, rfl, by decide +kernel, by decide +kernel, by decide +kernel⟩
set_option maxRecDepth 100000 in
theorem wd_yM_fuzz : Cond.code yM_fuzz cM_fuzz 2 (some .int) ∈ lw_g := (lw_gm 630 rfl rfl)
theorem cw_W_43 : wk_cw RW 43 yM_fuzz cM_fuzz 2 (some .int) 1 := ⟨(lw_gm 627 (by decide +kernel) rfl), (lw_gm 61 (by decide +kernel) rfl), wd_yM_fuzz, rfl, by decide +kernel, by decide +kernel, by decide +kernel⟩
set_option maxRecDepth 100000 in
theorem wd_yD_form : Cond.code yD_form cD_form 2 (some .int) ∈ lw_g := (lw_gm 256 rfl rfl)
theorem cw_W_44 : wk_cw RW 44 yD_form cD_form 2 (some .int) 1 := ⟨(lw_gm 253 (by decide +kernel) rfl), (lw_gm 54 (by decide +kernel) rfl), wd_yD_form, rfl, by decide +kernel, by decide +kernel, by decide +kernel⟩
set_option maxRecDepth 100000 in
theorem wd_yM_form : Cond.code yM_form cM_form 2 (some .int) ∈ lw_g := (lw_gm 634 rfl rfl)
theorem cw_W_47 : wk_cw RW 47 yM_form cM_form 2 (some .int) 1 := ⟨(lw_gm 631 (by decide +kernel) rfl), (lw_gm 61 (by decide +kernel) rfl), wd_yM_form, rfl, by decide +kernel, by decide +kernel, by decide +kernel⟩
set_option maxRecDepth 100000 in
theorem wd_yD_work : Cond.code yD_work cD_work 9 (some .int) ∈ lw_g := (lw_gm 260 rfl rfl)
theorem cw_W_48 : wk_cw RW 48 yD_work cD_work 9 (some .int) 4 := ⟨(lw_gm 257 (by decide +kernel) rfl), (lw_gm 54 (by decide +kernel) rfl), wd_yD_work, rfl, by decide +kernel, by decide +kernel, by decide +kernel⟩
set_option maxRecDepth 100000 in
theorem wd_yM_work : Cond.code yM_work cM_work 7 (some .int) ∈ lw_g := (lw_gm 638 rfl rfl)
theorem cw_W_52 : wk_cw RW 52 yM_work cM_work 7 (some .int) 4 := ⟨(lw_gm 635 (by decide +kernel) rfl), (lw_gm 61 (by decide +kernel) rfl), wd_yM_work, rfl, by decide +kernel, by decide +kernel, by decide +kernel⟩
set_option maxRecDepth 100000 in
theorem wd_yD_turn : Cond.code yD_turn cD_turn 6 (some .int) ∈ lw_g := (lw_gm 477 rfl rfl)
theorem cw_W_53 : wk_cw RW 53 yD_turn cD_turn 6 (some .int) 3 := ⟨(lw_gm 474 (by decide +kernel) rfl), (lw_gm 54 (by decide +kernel) rfl), wd_yD_turn, rfl, by decide +kernel, by decide +kernel, by decide +kernel⟩
set_option maxRecDepth 100000 in
theorem wd_yM_turn : Cond.code yM_turn cM_turn 5 (some .int) ∈ lw_g := (lw_gm 733 rfl rfl)
theorem cw_W_57 : wk_cw RW 57 yM_turn cM_turn 5 (some .int) 3 := ⟨(lw_gm 730 (by decide +kernel) rfl), (lw_gm 61 (by decide +kernel) rfl), wd_yM_turn, rfl, by decide +kernel, by decide +kernel, by decide +kernel⟩
set_option maxRecDepth 100000 in
theorem wd_yD_most : Cond.code yD_most cD_most 9 (some .int) ∈ lw_g := (lw_gm 483 rfl rfl)
theorem cw_W_58 : wk_cw RW 58 yD_most cD_most 9 (some .int) 4 := ⟨(lw_gm 480 (by decide +kernel) rfl), (lw_gm 54 (by decide +kernel) rfl), wd_yD_most, rfl, by decide +kernel, by decide +kernel, by decide +kernel⟩
set_option maxRecDepth 100000 in
theorem wd_yM_most : Cond.code yM_most cM_most 6 (some .int) ∈ lw_g := (lw_gm 737 rfl rfl)
theorem cw_W_62 : wk_cw RW 62 yM_most cM_most 6 (some .int) 4 := ⟨(lw_gm 734 (by decide +kernel) rfl), (lw_gm 61 (by decide +kernel) rfl), wd_yM_most, rfl, by decide +kernel, by decide +kernel, by decide +kernel⟩
set_option maxRecDepth 100000 in
theorem wd_yD_cut : Cond.code yD_cut cD_cut 6 (some .int) ∈ lw_g := (lw_gm 488 rfl rfl)
theorem cw_W_63 : wk_cw RW 63 yD_cut cD_cut 6 (some .int) 3 := ⟨(lw_gm 485 (by decide +kernel) rfl), (lw_gm 54 (by decide +kernel) rfl), wd_yD_cut, rfl, by decide +kernel, by decide +kernel, by decide +kernel⟩
set_option maxRecDepth 100000 in
theorem wd_yM_cut : Cond.code yM_cut cM_cut 6 (some .int) ∈ lw_g := (lw_gm 741 rfl rfl)
theorem cw_W_66 : wk_cw RW 66 yM_cut cM_cut 6 (some .int) 3 := ⟨(lw_gm 738 (by decide +kernel) rfl), (lw_gm 61 (by decide +kernel) rfl), wd_yM_cut, rfl, by decide +kernel, by decide +kernel, by decide +kernel⟩
set_option maxRecDepth 100000 in
theorem wd_yD_column : Cond.code yD_column cD_column 10 (some .int) ∈ lw_g := (lw_gm 505 rfl rfl)
theorem cw_W_67 : wk_cw RW 67 yD_column cD_column 10 (some .int) 4 := ⟨(lw_gm 502 (by decide +kernel) rfl), (lw_gm 54 (by decide +kernel) rfl), wd_yD_column, rfl, by decide +kernel, by decide +kernel, by decide +kernel⟩
set_option maxRecDepth 100000 in
theorem wd_yM_column : Cond.code yM_column cM_column 9 (some .int) ∈ lw_g := (lw_gm 745 rfl rfl)
theorem cw_W_70 : wk_cw RW 70 yM_column cM_column 9 (some .int) 4 := ⟨(lw_gm 742 (by decide +kernel) rfl), (lw_gm 61 (by decide +kernel) rfl), wd_yM_column, rfl, by decide +kernel, by decide +kernel, by decide +kernel⟩
set_option maxRecDepth 100000 in
theorem wd_yD_compare : Cond.code yD_compare cD_compare 6 (some .int) ∈ lw_g := (lw_gm 517 rfl rfl)
theorem cw_W_71 : wk_cw RW 71 yD_compare cD_compare 6 (some .int) 3 := ⟨(lw_gm 514 (by decide +kernel) rfl), (lw_gm 54 (by decide +kernel) rfl), wd_yD_compare, rfl, by decide +kernel, by decide +kernel, by decide +kernel⟩
set_option maxRecDepth 100000 in
theorem wd_yM_compare : Cond.code yM_compare cM_compare 4 (some .int) ∈ lw_g := (lw_gm 749 rfl rfl)
theorem cw_W_75 : wk_cw RW 75 yM_compare cM_compare 4 (some .int) 3 := ⟨(lw_gm 746 (by decide +kernel) rfl), (lw_gm 61 (by decide +kernel) rfl), wd_yM_compare, rfl, by decide +kernel, by decide +kernel, by decide +kernel⟩
set_option maxRecDepth 100000 in
theorem wd_yD_whole : Cond.code yD_whole cD_whole 3 (some .int) ∈ lw_g := (lw_gm 538 rfl rfl)
theorem cw_W_76 : wk_cw RW 76 yD_whole cD_whole 3 (some .int) 1 := ⟨(lw_gm 535 (by decide +kernel) rfl), (lw_gm 54 (by decide +kernel) rfl), wd_yD_whole, rfl, by decide +kernel, by decide +kernel, by decide +kernel⟩
set_option maxRecDepth 100000 in
theorem wd_yM_whole : Cond.code yM_whole cM_whole 2 (some .int) ∈ lw_g := (lw_gm 764 rfl rfl)
theorem cw_W_79 : wk_cw RW 79 yM_whole cM_whole 2 (some .int) 1 := ⟨(lw_gm 761 (by decide +kernel) rfl), (lw_gm 61 (by decide +kernel) rfl), wd_yM_whole, rfl, by decide +kernel, by decide +kernel, by decide +kernel⟩
set_option maxRecDepth 100000 in
theorem wd_yD_about : Cond.code yD_about cD_about 4 (some .int) ∈ lw_g := (lw_gm 545 rfl rfl)
theorem cw_W_80 : wk_cw RW 80 yD_about cD_about 4 (some .int) 2 := ⟨(lw_gm 542 (by decide +kernel) rfl), (lw_gm 54 (by decide +kernel) rfl), wd_yD_about, rfl, by decide +kernel, by decide +kernel, by decide +kernel⟩
set_option maxRecDepth 100000 in
theorem wd_yM_about : Cond.code yM_about cM_about 4 (some .int) ∈ lw_g := (lw_gm 770 rfl rfl)
theorem cw_W_83 : wk_cw RW 83 yM_about cM_about 4 (some .int) 2 := ⟨(lw_gm 767 (by decide +kernel) rfl), (lw_gm 61 (by decide +kernel) rfl), wd_yM_about, rfl, by decide +kernel, by decide +kernel, by decide +kernel⟩
set_option maxRecDepth 100000 in
theorem wd_yM_four : Cond.code yM_four cM_four 3 none ∈ lw_g := (lw_gm 603 rfl rfl)
theorem cw_M_44 : wk_cw RM 44 yM_four cM_four 3 none 1 := ⟨(lw_gm 600 (by decide +kernel) rfl), (lw_gm 61 (by decide +kernel) rfl), wd_yM_four, rfl, by decide +kernel, by decide +kernel, by decide +kernel⟩
set_option maxRecDepth 100000 in
theorem wd_yM_isRegister : Cond.code yM_isRegister cM_isRegister 1 (some .boolean) ∈ lw_g := (lw_gm 614 rfl rfl)
theorem cw_M_48 : wk_cw RM 48 yM_isRegister cM_isRegister 1 (some .boolean) 1 := ⟨(lw_gm 612 (by decide +kernel) rfl), (lw_gm 61 (by decide +kernel) rfl), wd_yM_isRegister, rfl, by decide +kernel, by decide +kernel, by decide +kernel⟩
set_option maxRecDepth 100000 in
theorem wd_yM_zero : Cond.code yM_zero cM_zero 2 none ∈ lw_g := (lw_gm 653 rfl rfl)
theorem cw_M_58 : wk_cw RM 58 yM_zero cM_zero 2 none 1 := ⟨(lw_gm 650 (by decide +kernel) rfl), (lw_gm 61 (by decide +kernel) rfl), wd_yM_zero, rfl, by decide +kernel, by decide +kernel, by decide +kernel⟩
set_option maxRecDepth 100000 in
theorem wd_yM_isDigit : Cond.code yM_isDigit cM_isDigit 1 (some .boolean) ∈ lw_g := (lw_gm 645 rfl rfl)
theorem cw_M_61 : wk_cw RM 61 yM_isDigit cM_isDigit 1 (some .boolean) 1 := ⟨(lw_gm 643 (by decide +kernel) rfl), (lw_gm 61 (by decide +kernel) rfl), wd_yM_isDigit, rfl, by decide +kernel, by decide +kernel, by decide +kernel⟩
set_option maxRecDepth 100000 in
theorem wd_yM_settle : Cond.code yM_settle cM_settle 4 none ∈ lw_g := (lw_gm 649 rfl rfl)
theorem cw_M_64 : wk_cw RM 64 yM_settle cM_settle 4 none 1 := ⟨(lw_gm 646 (by decide +kernel) rfl), (lw_gm 61 (by decide +kernel) rfl), wd_yM_settle, rfl, by decide +kernel, by decide +kernel, by decide +kernel⟩
set_option maxRecDepth 100000 in
theorem wd_yM_high : Cond.code yM_high cM_high 2 (some .int) ∈ lw_g := (lw_gm 665 rfl rfl)
theorem cw_M_67 : wk_cw RM 67 yM_high cM_high 2 (some .int) 1 := ⟨(lw_gm 662 (by decide +kernel) rfl), (lw_gm 61 (by decide +kernel) rfl), wd_yM_high, rfl, by decide +kernel, by decide +kernel, by decide +kernel⟩
set_option maxRecDepth 100000 in
theorem wd_yM_copy : Cond.code yM_copy cM_copy 4 none ∈ lw_g := (lw_gm 685 rfl rfl)
theorem cw_M_71 : wk_cw RM 71 yM_copy cM_copy 4 none 2 := ⟨(lw_gm 682 (by decide +kernel) rfl), (lw_gm 61 (by decide +kernel) rfl), wd_yM_copy, rfl, by decide +kernel, by decide +kernel, by decide +kernel⟩
set_option maxRecDepth 100000 in
theorem wd_yM_digit : Cond.code yM_digit cM_digit 4 (some .int) ∈ lw_g := (lw_gm 669 rfl rfl)
theorem cw_M_75 : wk_cw RM 75 yM_digit cM_digit 4 (some .int) 2 := ⟨(lw_gm 666 (by decide +kernel) rfl), (lw_gm 61 (by decide +kernel) rfl), wd_yM_digit, rfl, by decide +kernel, by decide +kernel, by decide +kernel⟩
set_option maxRecDepth 100000 in
theorem wd_yM_isEnough : Cond.code yM_isEnough cM_isEnough 3 (some .boolean) ∈ lw_g := (lw_gm 697 rfl rfl)
theorem cw_M_79 : wk_cw RM 79 yM_isEnough cM_isEnough 3 (some .boolean) 1 := ⟨(lw_gm 694 (by decide +kernel) rfl), (lw_gm 61 (by decide +kernel) rfl), wd_yM_isEnough, rfl, by decide +kernel, by decide +kernel, by decide +kernel⟩
set_option maxRecDepth 100000 in
theorem wd_yM_divide : Cond.code yM_divide cM_divide 11 none ∈ lw_g := (lw_gm 693 rfl rfl)
theorem cw_M_82 : wk_cw RM 82 yM_divide cM_divide 11 none 4 := ⟨(lw_gm 690 (by decide +kernel) rfl), (lw_gm 61 (by decide +kernel) rfl), wd_yM_divide, rfl, by decide +kernel, by decide +kernel, by decide +kernel⟩
set_option maxRecDepth 100000 in
theorem wd_yM_letter : Cond.code yM_letter cM_letter 2 none ∈ lw_g := (lw_gm 721 rfl rfl)
theorem cw_M_89 : wk_cw RM 89 yM_letter cM_letter 2 none 1 := ⟨(lw_gm 718 (by decide +kernel) rfl), (lw_gm 61 (by decide +kernel) rfl), wd_yM_letter, rfl, by decide +kernel, by decide +kernel, by decide +kernel⟩
set_option maxRecDepth 100000 in
theorem wd_yM_plain : Cond.code yM_plain cM_plain 5 none ∈ lw_g := (lw_gm 725 rfl rfl)
theorem cw_M_92 : wk_cw RM 92 yM_plain cM_plain 5 none 3 := ⟨(lw_gm 722 (by decide +kernel) rfl), (lw_gm 61 (by decide +kernel) rfl), wd_yM_plain, rfl, by decide +kernel, by decide +kernel, by decide +kernel⟩
set_option maxRecDepth 100000 in
theorem wd_yM_write : Cond.code yM_write cM_write 6 (some .int) ∈ lw_g := (lw_gm 717 rfl rfl)
theorem cw_M_96 : wk_cw RM 96 yM_write cM_write 6 (some .int) 1 := ⟨(lw_gm 714 (by decide +kernel) rfl), (lw_gm 61 (by decide +kernel) rfl), wd_yM_write, rfl, by decide +kernel, by decide +kernel, by decide +kernel⟩
set_option maxRecDepth 100000 in
theorem wd_yM_keep : Cond.code yM_keep cM_keep 3 (some .int) ∈ lw_g := (lw_gm 729 rfl rfl)
theorem cw_M_99 : wk_cw RM 99 yM_keep cM_keep 3 (some .int) 1 := ⟨(lw_gm 726 (by decide +kernel) rfl), (lw_gm 61 (by decide +kernel) rfl), wd_yM_keep, rfl, by decide +kernel, by decide +kernel, by decide +kernel⟩
set_option maxRecDepth 100000 in
theorem wd_yM_round : Cond.code yM_round cM_round 5 none ∈ lw_g := (lw_gm 661 rfl rfl)
theorem cw_M_102 : wk_cw RM 102 yM_round cM_round 5 none 2 := ⟨(lw_gm 658 (by decide +kernel) rfl), (lw_gm 61 (by decide +kernel) rfl), wd_yM_round, rfl, by decide +kernel, by decide +kernel, by decide +kernel⟩
set_option maxRecDepth 100000 in
theorem wd_yM_multiply : Cond.code yM_multiply cM_multiply 8 none ∈ lw_g := (lw_gm 689 rfl rfl)
theorem cw_M_105 : wk_cw RM 105 yM_multiply cM_multiply 8 none 3 := ⟨(lw_gm 686 (by decide +kernel) rfl), (lw_gm 61 (by decide +kernel) rfl), wd_yM_multiply, rfl, by decide +kernel, by decide +kernel, by decide +kernel⟩
set_option maxRecDepth 100000 in
theorem wd_yM_noZeros : Cond.code yM_noZeros cM_noZeros 2 none ∈ lw_g := (lw_gm 701 rfl rfl)
theorem cw_M_108 : wk_cw RM 108 yM_noZeros cM_noZeros 2 none 1 := ⟨(lw_gm 698 (by decide +kernel) rfl), (lw_gm 61 (by decide +kernel) rfl), wd_yM_noZeros, rfl, by decide +kernel, by decide +kernel, by decide +kernel⟩
set_option maxRecDepth 100000 in
theorem wd_yM_add : Cond.code yM_add cM_add 13 none ∈ lw_g := (lw_gm 681 rfl rfl)
theorem cw_M_111 : wk_cw RM 111 yM_add cM_add 13 none 4 := ⟨(lw_gm 678 (by decide +kernel) rfl), (lw_gm 61 (by decide +kernel) rfl), wd_yM_add, rfl, by decide +kernel, by decide +kernel, by decide +kernel⟩
set_option maxRecDepth 100000 in
theorem wd_yM_part : Cond.code yM_part cM_part 9 (some .boolean) ∈ lw_g := (lw_gm 705 rfl rfl)
theorem cw_M_115 : wk_cw RM 115 yM_part cM_part 9 (some .boolean) 3 := ⟨(lw_gm 702 (by decide +kernel) rfl), (lw_gm 61 (by decide +kernel) rfl), wd_yM_part, rfl, by decide +kernel, by decide +kernel, by decide +kernel⟩
set_option maxRecDepth 100000 in
theorem wd_yM_raise : Cond.code yM_raise cM_raise 5 (some .int) ∈ lw_g := (lw_gm 709 rfl rfl)
theorem cw_M_119 : wk_cw RM 119 yM_raise cM_raise 5 (some .int) 1 := ⟨(lw_gm 706 (by decide +kernel) rfl), (lw_gm 61 (by decide +kernel) rfl), wd_yM_raise, rfl, by decide +kernel, by decide +kernel, by decide +kernel⟩
set_option maxRecDepth 100000 in
theorem wd_yM_read : Cond.code yM_read cM_read 12 (some .boolean) ∈ lw_g := (lw_gm 642 rfl rfl)
theorem cw_M_122 : wk_cw RM 122 yM_read cM_read 12 (some .boolean) 2 := ⟨(lw_gm 639 (by decide +kernel) rfl), (lw_gm 61 (by decide +kernel) rfl), wd_yM_read, rfl, by decide +kernel, by decide +kernel, by decide +kernel⟩
set_option maxRecDepth 100000 in
theorem wd_yM_isWhole : Cond.code yM_isWhole cM_isWhole 3 (some .boolean) ∈ lw_g := (lw_gm 657 rfl rfl)
theorem cw_M_126 : wk_cw RM 126 yM_isWhole cM_isWhole 3 (some .boolean) 1 := ⟨(lw_gm 654 (by decide +kernel) rfl), (lw_gm 61 (by decide +kernel) rfl), wd_yM_isWhole, rfl, by decide +kernel, by decide +kernel, by decide +kernel⟩
set_option maxRecDepth 100000 in
theorem wd_yM_valueOf : Cond.code yM_valueOf cM_valueOf 4 (some .int) ∈ lw_g := (lw_gm 673 rfl rfl)
theorem cw_M_129 : wk_cw RM 129 yM_valueOf cM_valueOf 4 (some .int) 1 := ⟨(lw_gm 670 (by decide +kernel) rfl), (lw_gm 61 (by decide +kernel) rfl), wd_yM_valueOf, rfl, by decide +kernel, by decide +kernel, by decide +kernel⟩
set_option maxRecDepth 100000 in
theorem wd_yM_worked : Cond.code yM_worked cM_worked 3 (some .int) ∈ lw_g := (lw_gm 677 rfl rfl)
theorem cw_M_132 : wk_cw RM 132 yM_worked cM_worked 3 (some .int) 2 := ⟨(lw_gm 674 (by decide +kernel) rfl), (lw_gm 61 (by decide +kernel) rfl), wd_yM_worked, rfl, by decide +kernel, by decide +kernel, by decide +kernel⟩
set_option maxRecDepth 100000 in
theorem wd_yM_answer : Cond.code yM_answer cM_answer 4 (some .int) ∈ lw_g := (lw_gm 713 rfl rfl)
theorem cw_M_135 : wk_cw RM 135 yM_answer cM_answer 4 (some .int) 2 := ⟨(lw_gm 710 (by decide +kernel) rfl), (lw_gm 61 (by decide +kernel) rfl), wd_yM_answer, rfl, by decide +kernel, by decide +kernel, by decide +kernel⟩
set_option maxRecDepth 100000 in
theorem wd_yM_strictly : Cond.code yM_strictly cM_strictly 4 (some .int) ∈ lw_g := (lw_gm 753 rfl rfl)
theorem cw_M_138 : wk_cw RM 138 yM_strictly cM_strictly 4 (some .int) 2 := ⟨(lw_gm 750 (by decide +kernel) rfl), (lw_gm 61 (by decide +kernel) rfl), wd_yM_strictly, rfl, by decide +kernel, by decide +kernel, by decide +kernel⟩
set_option maxRecDepth 100000 in
theorem wd_yM_told : Cond.code yM_told cM_told 1 (some .int) ∈ lw_g := (lw_gm 756 rfl rfl)
theorem cw_M_141 : wk_cw RM 141 yM_told cM_told 1 (some .int) 1 := ⟨(lw_gm 754 (by decide +kernel) rfl), (lw_gm 61 (by decide +kernel) rfl), wd_yM_told, rfl, by decide +kernel, by decide +kernel, by decide +kernel⟩
set_option maxRecDepth 100000 in
theorem wd_yM_loosely : Cond.code yM_loosely cM_loosely 9 (some .int) ∈ lw_g := (lw_gm 760 rfl rfl)
theorem cw_M_144 : wk_cw RM 144 yM_loosely cM_loosely 9 (some .int) 2 := ⟨(lw_gm 757 (by decide +kernel) rfl), (lw_gm 61 (by decide +kernel) rfl), wd_yM_loosely, rfl, by decide +kernel, by decide +kernel, by decide +kernel⟩
theorem ws_D_looseOrder : Cond.static yD_looseOrder ∈ lw_g := (lw_gm 525 (by decide +kernel) rfl)
theorem ws_D_placesAhead : Cond.static yD_placesAhead ∈ lw_g := (lw_gm 492 (by decide +kernel) rfl)
theorem ws_D_standing : Cond.static yD_standing ∈ lw_g := (lw_gm 519 (by decide +kernel) rfl)
theorem ws_D_strictOrder : Cond.static yD_strictOrder ∈ lw_g := (lw_gm 522 (by decide +kernel) rfl)
theorem ws_R_isDigit : Cond.static yR_isDigit ∈ lw_g := (lw_gm 291 (by decide +kernel) rfl)
theorem ws_K_crossSum : Cond.static yK_crossSum ∈ lw_g := (lw_gm 373 (by decide +kernel) rfl)
theorem ws_K_isBelow : Cond.static yK_isBelow ∈ lw_g := (lw_gm 365 (by decide +kernel) rfl)
theorem ws_M_isDigit : Cond.static yM_isDigit ∈ lw_g := (lw_gm 644 (by decide +kernel) rfl)
theorem ws_M_isRegister : Cond.static yM_isRegister ∈ lw_g := (lw_gm 613 (by decide +kernel) rfl)
theorem ws_M_told : Cond.static yM_told ∈ lw_g := (lw_gm 755 (by decide +kernel) rfl)
theorem ws_A_floorMod : Cond.static yA_floorMod ∈ lw_g := (lw_gm 462 (by decide +kernel) rfl)
theorem wi_D_about : Cond.instanceMethod yD_about ∈ lw_g ∧ Cond.selects RD yD_about yD_about ∈ lw_g := ⟨(lw_gm 543 (by decide +kernel) rfl), (lw_gm 544 (by decide +kernel) rfl)⟩
theorem wi_D_at : Cond.instanceMethod yD_at ∈ lw_g ∧ Cond.selects RD yD_at yD_at ∈ lw_g := ⟨(lw_gm 241 (by decide +kernel) rfl), (lw_gm 242 (by decide +kernel) rfl)⟩
theorem wi_D_column : Cond.instanceMethod yD_column ∈ lw_g ∧ Cond.selects RD yD_column yD_column ∈ lw_g := ⟨(lw_gm 503 (by decide +kernel) rfl), (lw_gm 504 (by decide +kernel) rfl)⟩
theorem wi_D_compare : Cond.instanceMethod yD_compare ∈ lw_g ∧ Cond.selects RD yD_compare yD_compare ∈ lw_g := ⟨(lw_gm 515 (by decide +kernel) rfl), (lw_gm 516 (by decide +kernel) rfl)⟩
theorem wi_D_cut : Cond.instanceMethod yD_cut ∈ lw_g ∧ Cond.selects RD yD_cut yD_cut ∈ lw_g := ⟨(lw_gm 486 (by decide +kernel) rfl), (lw_gm 487 (by decide +kernel) rfl)⟩
theorem wi_D_digits : Cond.instanceMethod yD_digits ∈ lw_g ∧ Cond.selects RD yD_digits yD_digits ∈ lw_g := ⟨(lw_gm 246 (by decide +kernel) rfl), (lw_gm 247 (by decide +kernel) rfl)⟩
theorem wi_D_end : Cond.instanceMethod yD_end ∈ lw_g ∧ Cond.selects RD yD_end yD_end ∈ lw_g := ⟨(lw_gm 217 (by decide +kernel) rfl), (lw_gm 218 (by decide +kernel) rfl)⟩
theorem wi_D_feed : Cond.instanceMethod yD_feed ∈ lw_g ∧ Cond.selects RD yD_feed yD_feed ∈ lw_g := ⟨(lw_gm 205 (by decide +kernel) rfl), (lw_gm 206 (by decide +kernel) rfl)⟩
theorem wi_D_find : Cond.instanceMethod yD_find ∈ lw_g ∧ Cond.selects RD yD_find yD_find ∈ lw_g := ⟨(lw_gm 226 (by decide +kernel) rfl), (lw_gm 0 (by decide +kernel) rfl)⟩
theorem wi_D_form : Cond.instanceMethod yD_form ∈ lw_g ∧ Cond.selects RD yD_form yD_form ∈ lw_g := ⟨(lw_gm 254 (by decide +kernel) rfl), (lw_gm 255 (by decide +kernel) rfl)⟩
theorem wi_D_fuzz : Cond.instanceMethod yD_fuzz ∈ lw_g ∧ Cond.selects RD yD_fuzz yD_fuzz ∈ lw_g := ⟨(lw_gm 250 (by decide +kernel) rfl), (lw_gm 251 (by decide +kernel) rfl)⟩
theorem wi_D_keepPage : Cond.instanceMethod yD_keepPage ∈ lw_g ∧ Cond.selects RD yD_keepPage yD_keepPage ∈ lw_g := ⟨(lw_gm 472 (by decide +kernel) rfl), (lw_gm 26 (by decide +kernel) rfl)⟩
theorem wi_D_layOut : Cond.instanceMethod yD_layOut ∈ lw_g ∧ Cond.selects RD yD_layOut yD_layOut ∈ lw_g := ⟨(lw_gm 497 (by decide +kernel) rfl), (lw_gm 27 (by decide +kernel) rfl)⟩
theorem wi_D_load : Cond.instanceMethod yD_load ∈ lw_g ∧ Cond.selects RD yD_load yD_load ∈ lw_g := ⟨(lw_gm 267 (by decide +kernel) rfl), (lw_gm 2 (by decide +kernel) rfl)⟩
theorem wi_D_loadBoth : Cond.instanceMethod yD_loadBoth ∈ lw_g ∧ Cond.selects RD yD_loadBoth yD_loadBoth ∈ lw_g := ⟨(lw_gm 263 (by decide +kernel) rfl), (lw_gm 1 (by decide +kernel) rfl)⟩
theorem wi_D_most : Cond.instanceMethod yD_most ∈ lw_g ∧ Cond.selects RD yD_most yD_most ∈ lw_g := ⟨(lw_gm 481 (by decide +kernel) rfl), (lw_gm 482 (by decide +kernel) rfl)⟩
theorem wi_D_put : Cond.instanceMethod yD_put ∈ lw_g ∧ Cond.selects RD yD_put yD_put ∈ lw_g := ⟨(lw_gm 221 (by decide +kernel) rfl), (lw_gm 222 (by decide +kernel) rfl)⟩
theorem wi_D_size : Cond.instanceMethod yD_size ∈ lw_g ∧ Cond.selects RD yD_size yD_size ∈ lw_g := ⟨(lw_gm 237 (by decide +kernel) rfl), (lw_gm 238 (by decide +kernel) rfl)⟩
theorem wi_D_turn : Cond.instanceMethod yD_turn ∈ lw_g ∧ Cond.selects RD yD_turn yD_turn ∈ lw_g := ⟨(lw_gm 475 (by decide +kernel) rfl), (lw_gm 476 (by decide +kernel) rfl)⟩
theorem wi_D_whole : Cond.instanceMethod yD_whole ∈ lw_g ∧ Cond.selects RD yD_whole yD_whole ∈ lw_g := ⟨(lw_gm 536 (by decide +kernel) rfl), (lw_gm 537 (by decide +kernel) rfl)⟩
theorem wi_D_work : Cond.instanceMethod yD_work ∈ lw_g ∧ Cond.selects RD yD_work yD_work ∈ lw_g := ⟨(lw_gm 258 (by decide +kernel) rfl), (lw_gm 259 (by decide +kernel) rfl)⟩
theorem wi_D_write : Cond.instanceMethod yD_write ∈ lw_g ∧ Cond.selects RD yD_write yD_write ∈ lw_g := ⟨(lw_gm 431 (by decide +kernel) rfl), (lw_gm 22 (by decide +kernel) rfl)⟩
theorem wi_L_add : Cond.instanceMethod yL_add ∈ lw_g ∧ Cond.selects RL yL_add yL_add ∈ lw_g := ⟨(lw_gm 213 (by decide +kernel) rfl), (lw_gm 214 (by decide +kernel) rfl)⟩
theorem wi_L_addInt : Cond.instanceMethod yL_addInt ∈ lw_g ∧ Cond.selects RL yL_addInt yL_addInt ∈ lw_g := ⟨(lw_gm 209 (by decide +kernel) rfl), (lw_gm 210 (by decide +kernel) rfl)⟩
theorem wi_L_byteAt : Cond.instanceMethod yL_byteAt ∈ lw_g ∧ Cond.selects RL yL_byteAt yL_byteAt ∈ lw_g := ⟨(lw_gm 233 (by decide +kernel) rfl), (lw_gm 234 (by decide +kernel) rfl)⟩
theorem wi_L_byteOrBlank : Cond.instanceMethod yL_byteOrBlank ∈ lw_g ∧ Cond.selects RL yL_byteOrBlank yL_byteOrBlank ∈ lw_g := ⟨(lw_gm 532 (by decide +kernel) rfl), (lw_gm 533 (by decide +kernel) rfl)⟩
theorem wi_L_copy : Cond.instanceMethod yL_copy ∈ lw_g ∧ Cond.selects RL yL_copy yL_copy ∈ lw_g := ⟨(lw_gm 229 (by decide +kernel) rfl), (lw_gm 230 (by decide +kernel) rfl)⟩
theorem wi_L_firstInk : Cond.instanceMethod yL_firstInk ∈ lw_g ∧ Cond.selects RL yL_firstInk yL_firstInk ∈ lw_g := ⟨(lw_gm 528 (by decide +kernel) rfl), (lw_gm 529 (by decide +kernel) rfl)⟩
theorem wi_N_ahead : Cond.instanceMethod yN_ahead ∈ lw_g ∧ Cond.selects RN yN_ahead yN_ahead ∈ lw_g := ⟨(lw_gm 340 (by decide +kernel) rfl), (lw_gm 341 (by decide +kernel) rfl)⟩
theorem wi_N_becomeUnit : Cond.instanceMethod yN_becomeUnit ∈ lw_g ∧ Cond.selects RN yN_becomeUnit yN_becomeUnit ∈ lw_g := ⟨(lw_gm 344 (by decide +kernel) rfl), (lw_gm 345 (by decide +kernel) rfl)⟩
theorem wi_N_clear : Cond.instanceMethod yN_clear ∈ lw_g ∧ Cond.selects RN yN_clear yN_clear ∈ lw_g := ⟨(lw_gm 274 (by decide +kernel) rfl), (lw_gm 275 (by decide +kernel) rfl)⟩
theorem wi_N_copy : Cond.instanceMethod yN_copy ∈ lw_g ∧ Cond.selects RN yN_copy yN_copy ∈ lw_g := ⟨(lw_gm 329 (by decide +kernel) rfl), (lw_gm 330 (by decide +kernel) rfl)⟩
theorem wi_N_countUp : Cond.instanceMethod yN_countUp ∈ lw_g ∧ Cond.selects RN yN_countUp yN_countUp ∈ lw_g := ⟨(lw_gm 315 (by decide +kernel) rfl), (lw_gm 7 (by decide +kernel) rfl)⟩
theorem wi_N_digit : Cond.instanceMethod yN_digit ∈ lw_g ∧ Cond.selects RN yN_digit yN_digit ∈ lw_g := ⟨(lw_gm 310 (by decide +kernel) rfl), (lw_gm 311 (by decide +kernel) rfl)⟩
theorem wi_N_digitAtPower : Cond.instanceMethod yN_digitAtPower ∈ lw_g ∧ Cond.selects RN yN_digitAtPower yN_digitAtPower ∈ lw_g := ⟨(lw_gm 354 (by decide +kernel) rfl), (lw_gm 355 (by decide +kernel) rfl)⟩
theorem wi_N_dropEndZeros : Cond.instanceMethod yN_dropEndZeros ∈ lw_g ∧ Cond.selects RN yN_dropEndZeros yN_dropEndZeros ∈ lw_g := ⟨(lw_gm 401 (by decide +kernel) rfl), (lw_gm 402 (by decide +kernel) rfl)⟩
theorem wi_N_firstPower : Cond.instanceMethod yN_firstPower ∈ lw_g ∧ Cond.selects RN yN_firstPower yN_firstPower ∈ lw_g := ⟨(lw_gm 438 (by decide +kernel) rfl), (lw_gm 439 (by decide +kernel) rfl)⟩
theorem wi_N_places : Cond.instanceMethod yN_places ∈ lw_g ∧ Cond.selects RN yN_places yN_places ∈ lw_g := ⟨(lw_gm 443 (by decide +kernel) rfl), (lw_gm 444 (by decide +kernel) rfl)⟩
theorem wi_N_push : Cond.instanceMethod yN_push ∈ lw_g ∧ Cond.selects RN yN_push yN_push ∈ lw_g := ⟨(lw_gm 294 (by decide +kernel) rfl), (lw_gm 295 (by decide +kernel) rfl)⟩
theorem wi_N_roundTo : Cond.instanceMethod yN_roundTo ∈ lw_g ∧ Cond.selects RN yN_roundTo yN_roundTo ∈ lw_g := ⟨(lw_gm 306 (by decide +kernel) rfl), (lw_gm 307 (by decide +kernel) rfl)⟩
theorem wi_N_roundToPlaces : Cond.instanceMethod yN_roundToPlaces ∈ lw_g ∧ Cond.selects RN yN_roundToPlaces yN_roundToPlaces ∈ lw_g := ⟨(lw_gm 508 (by decide +kernel) rfl), (lw_gm 509 (by decide +kernel) rfl)⟩
theorem wi_N_settle : Cond.instanceMethod yN_settle ∈ lw_g ∧ Cond.selects RN yN_settle yN_settle ∈ lw_g := ⟨(lw_gm 302 (by decide +kernel) rfl), (lw_gm 303 (by decide +kernel) rfl)⟩
theorem wi_N_wholeValue : Cond.instanceMethod yN_wholeValue ∈ lw_g ∧ Cond.selects RN yN_wholeValue yN_wholeValue ∈ lw_g := ⟨(lw_gm 413 (by decide +kernel) rfl), (lw_gm 414 (by decide +kernel) rfl)⟩
theorem wi_R_read : Cond.instanceMethod yR_read ∈ lw_g ∧ Cond.selects RR yR_read yR_read ∈ lw_g := ⟨(lw_gm 270 (by decide +kernel) rfl), (lw_gm 271 (by decide +kernel) rfl)⟩
theorem wi_R_readDigits : Cond.instanceMethod yR_readDigits ∈ lw_g ∧ Cond.selects RR yR_readDigits yR_readDigits ∈ lw_g := ⟨(lw_gm 288 (by decide +kernel) rfl), (lw_gm 5 (by decide +kernel) rfl)⟩
theorem wi_R_readExponent : Cond.instanceMethod yR_readExponent ∈ lw_g ∧ Cond.selects RR yR_readExponent yR_readExponent ∈ lw_g := ⟨(lw_gm 299 (by decide +kernel) rfl), (lw_gm 6 (by decide +kernel) rfl)⟩
theorem wi_R_readSign : Cond.instanceMethod yR_readSign ∈ lw_g ∧ Cond.selects RR yR_readSign yR_readSign ∈ lw_g := ⟨(lw_gm 284 (by decide +kernel) rfl), (lw_gm 4 (by decide +kernel) rfl)⟩
theorem wi_R_skipBlanks : Cond.instanceMethod yR_skipBlanks ∈ lw_g ∧ Cond.selects RR yR_skipBlanks yR_skipBlanks ∈ lw_g := ⟨(lw_gm 279 (by decide +kernel) rfl), (lw_gm 3 (by decide +kernel) rfl)⟩
theorem wi_K_bringDown : Cond.instanceMethod yK_bringDown ∈ lw_g ∧ Cond.selects RK yK_bringDown yK_bringDown ∈ lw_g := ⟨(lw_gm 385 (by decide +kernel) rfl), (lw_gm 14 (by decide +kernel) rfl)⟩
theorem wi_K_divide : Cond.instanceMethod yK_divide ∈ lw_g ∧ Cond.selects RK yK_divide yK_divide ∈ lw_g := ⟨(lw_gm 381 (by decide +kernel) rfl), (lw_gm 13 (by decide +kernel) rfl)⟩
theorem wi_K_fillCells : Cond.instanceMethod yK_fillCells ∈ lw_g ∧ Cond.selects RK yK_fillCells yK_fillCells ∈ lw_g := ⟨(lw_gm 351 (by decide +kernel) rfl), (lw_gm 9 (by decide +kernel) rfl)⟩
theorem wi_K_holdsDivisor : Cond.instanceMethod yK_holdsDivisor ∈ lw_g ∧ Cond.selects RK yK_holdsDivisor yK_holdsDivisor ∈ lw_g := ⟨(lw_gm 393 (by decide +kernel) rfl), (lw_gm 16 (by decide +kernel) rfl)⟩
theorem wi_K_multiplyInto : Cond.instanceMethod yK_multiplyInto ∈ lw_g ∧ Cond.selects RK yK_multiplyInto yK_multiplyInto ∈ lw_g := ⟨(lw_gm 427 (by decide +kernel) rfl), (lw_gm 21 (by decide +kernel) rfl)⟩
theorem wi_K_nearTo : Cond.instanceMethod yK_nearTo ∈ lw_g ∧ Cond.selects RK yK_nearTo yK_nearTo ∈ lw_g := ⟨(lw_gm 337 (by decide +kernel) rfl), (lw_gm 8 (by decide +kernel) rfl)⟩
theorem wi_K_partOf : Cond.instanceMethod yK_partOf ∈ lw_g ∧ Cond.selects RK yK_partOf yK_partOf ∈ lw_g := ⟨(lw_gm 406 (by decide +kernel) rfl), (lw_gm 18 (by decide +kernel) rfl)⟩
theorem wi_K_powerOf : Cond.instanceMethod yK_powerOf ∈ lw_g ∧ Cond.selects RK yK_powerOf yK_powerOf ∈ lw_g := ⟨(lw_gm 420 (by decide +kernel) rfl), (lw_gm 20 (by decide +kernel) rfl)⟩
theorem wi_K_product : Cond.instanceMethod yK_product ∈ lw_g ∧ Cond.selects RK yK_product yK_product ∈ lw_g := ⟨(lw_gm 370 (by decide +kernel) rfl), (lw_gm 11 (by decide +kernel) rfl)⟩
theorem wi_K_quotient : Cond.instanceMethod yK_quotient ∈ lw_g ∧ Cond.selects RK yK_quotient yK_quotient ∈ lw_g := ⟨(lw_gm 377 (by decide +kernel) rfl), (lw_gm 12 (by decide +kernel) rfl)⟩
theorem wi_K_reckon : Cond.instanceMethod yK_reckon ∈ lw_g ∧ Cond.selects RK yK_reckon yK_reckon ∈ lw_g := ⟨(lw_gm 321 (by decide +kernel) rfl), (lw_gm 322 (by decide +kernel) rfl)⟩
theorem wi_K_restOf : Cond.instanceMethod yK_restOf ∈ lw_g ∧ Cond.selects RK yK_restOf yK_restOf ∈ lw_g := ⟨(lw_gm 410 (by decide +kernel) rfl), (lw_gm 19 (by decide +kernel) rfl)⟩
theorem wi_K_sum : Cond.instanceMethod yK_sum ∈ lw_g ∧ Cond.selects RK yK_sum yK_sum ∈ lw_g := ⟨(lw_gm 325 (by decide +kernel) rfl), (lw_gm 326 (by decide +kernel) rfl)⟩
theorem wi_K_takeAwayAll : Cond.instanceMethod yK_takeAwayAll ∈ lw_g ∧ Cond.selects RK yK_takeAwayAll yK_takeAwayAll ∈ lw_g := ⟨(lw_gm 389 (by decide +kernel) rfl), (lw_gm 15 (by decide +kernel) rfl)⟩
theorem wi_K_takeAwayOnce : Cond.instanceMethod yK_takeAwayOnce ∈ lw_g ∧ Cond.selects RK yK_takeAwayOnce yK_takeAwayOnce ∈ lw_g := ⟨(lw_gm 397 (by decide +kernel) rfl), (lw_gm 17 (by decide +kernel) rfl)⟩
theorem wi_K_takeCells : Cond.instanceMethod yK_takeCells ∈ lw_g ∧ Cond.selects RK yK_takeCells yK_takeCells ∈ lw_g := ⟨(lw_gm 359 (by decide +kernel) rfl), (lw_gm 10 (by decide +kernel) rfl)⟩
theorem wi_T_addExponent : Cond.instanceMethod yT_addExponent ∈ lw_g ∧ Cond.selects RT yT_addExponent yT_addExponent ∈ lw_g := ⟨(lw_gm 467 (by decide +kernel) rfl), (lw_gm 25 (by decide +kernel) rfl)⟩
theorem wi_T_addPlain : Cond.instanceMethod yT_addPlain ∈ lw_g ∧ Cond.selects RT yT_addPlain yT_addPlain ∈ lw_g := ⟨(lw_gm 447 (by decide +kernel) rfl), (lw_gm 448 (by decide +kernel) rfl)⟩
theorem wi_T_addSign : Cond.instanceMethod yT_addSign ∈ lw_g ∧ Cond.selects RT yT_addSign yT_addSign ∈ lw_g := ⟨(lw_gm 452 (by decide +kernel) rfl), (lw_gm 23 (by decide +kernel) rfl)⟩
theorem wi_T_addWithExponent : Cond.instanceMethod yT_addWithExponent ∈ lw_g ∧ Cond.selects RT yT_addWithExponent yT_addWithExponent ∈ lw_g := ⟨(lw_gm 459 (by decide +kernel) rfl), (lw_gm 24 (by decide +kernel) rfl)⟩
theorem wi_T_write : Cond.instanceMethod yT_write ∈ lw_g ∧ Cond.selects RT yT_write yT_write ∈ lw_g := ⟨(lw_gm 434 (by decide +kernel) rfl), (lw_gm 435 (by decide +kernel) rfl)⟩
theorem wi_M_about : Cond.instanceMethod yM_about ∈ lw_g ∧ Cond.selects RM yM_about yM_about ∈ lw_g := ⟨(lw_gm 768 (by decide +kernel) rfl), (lw_gm 769 (by decide +kernel) rfl)⟩
theorem wi_M_add : Cond.instanceMethod yM_add ∈ lw_g ∧ Cond.selects RM yM_add yM_add ∈ lw_g := ⟨(lw_gm 680 (by decide +kernel) rfl), (lw_gm 38 (by decide +kernel) rfl)⟩
theorem wi_M_answer : Cond.instanceMethod yM_answer ∈ lw_g ∧ Cond.selects RM yM_answer yM_answer ∈ lw_g := ⟨(lw_gm 712 (by decide +kernel) rfl), (lw_gm 46 (by decide +kernel) rfl)⟩
theorem wi_M_at : Cond.instanceMethod yM_at ∈ lw_g ∧ Cond.selects RM yM_at yM_at ∈ lw_g := ⟨(lw_gm 620 (by decide +kernel) rfl), (lw_gm 621 (by decide +kernel) rfl)⟩
theorem wi_M_column : Cond.instanceMethod yM_column ∈ lw_g ∧ Cond.selects RM yM_column yM_column ∈ lw_g := ⟨(lw_gm 743 (by decide +kernel) rfl), (lw_gm 744 (by decide +kernel) rfl)⟩
theorem wi_M_compare : Cond.instanceMethod yM_compare ∈ lw_g ∧ Cond.selects RM yM_compare yM_compare ∈ lw_g := ⟨(lw_gm 747 (by decide +kernel) rfl), (lw_gm 748 (by decide +kernel) rfl)⟩
theorem wi_M_copy : Cond.instanceMethod yM_copy ∈ lw_g ∧ Cond.selects RM yM_copy yM_copy ∈ lw_g := ⟨(lw_gm 684 (by decide +kernel) rfl), (lw_gm 39 (by decide +kernel) rfl)⟩
theorem wi_M_cut : Cond.instanceMethod yM_cut ∈ lw_g ∧ Cond.selects RM yM_cut yM_cut ∈ lw_g := ⟨(lw_gm 739 (by decide +kernel) rfl), (lw_gm 740 (by decide +kernel) rfl)⟩
theorem wi_M_digit : Cond.instanceMethod yM_digit ∈ lw_g ∧ Cond.selects RM yM_digit yM_digit ∈ lw_g := ⟨(lw_gm 668 (by decide +kernel) rfl), (lw_gm 35 (by decide +kernel) rfl)⟩
theorem wi_M_digits : Cond.instanceMethod yM_digits ∈ lw_g ∧ Cond.selects RM yM_digits yM_digits ∈ lw_g := ⟨(lw_gm 624 (by decide +kernel) rfl), (lw_gm 625 (by decide +kernel) rfl)⟩
theorem wi_M_divide : Cond.instanceMethod yM_divide ∈ lw_g ∧ Cond.selects RM yM_divide yM_divide ∈ lw_g := ⟨(lw_gm 692 (by decide +kernel) rfl), (lw_gm 41 (by decide +kernel) rfl)⟩
theorem wi_M_end : Cond.instanceMethod yM_end ∈ lw_g ∧ Cond.selects RM yM_end yM_end ∈ lw_g := ⟨(lw_gm 605 (by decide +kernel) rfl), (lw_gm 606 (by decide +kernel) rfl)⟩
theorem wi_M_feed : Cond.instanceMethod yM_feed ∈ lw_g ∧ Cond.selects RM yM_feed yM_feed ∈ lw_g := ⟨(lw_gm 597 (by decide +kernel) rfl), (lw_gm 598 (by decide +kernel) rfl)⟩
theorem wi_M_form : Cond.instanceMethod yM_form ∈ lw_g ∧ Cond.selects RM yM_form yM_form ∈ lw_g := ⟨(lw_gm 632 (by decide +kernel) rfl), (lw_gm 633 (by decide +kernel) rfl)⟩
theorem wi_M_four : Cond.instanceMethod yM_four ∈ lw_g ∧ Cond.selects RM yM_four yM_four ∈ lw_g := ⟨(lw_gm 602 (by decide +kernel) rfl), (lw_gm 28 (by decide +kernel) rfl)⟩
theorem wi_M_fuzz : Cond.instanceMethod yM_fuzz ∈ lw_g ∧ Cond.selects RM yM_fuzz yM_fuzz ∈ lw_g := ⟨(lw_gm 628 (by decide +kernel) rfl), (lw_gm 629 (by decide +kernel) rfl)⟩
theorem wi_M_high : Cond.instanceMethod yM_high ∈ lw_g ∧ Cond.selects RM yM_high yM_high ∈ lw_g := ⟨(lw_gm 664 (by decide +kernel) rfl), (lw_gm 34 (by decide +kernel) rfl)⟩
theorem wi_M_isEnough : Cond.instanceMethod yM_isEnough ∈ lw_g ∧ Cond.selects RM yM_isEnough yM_isEnough ∈ lw_g := ⟨(lw_gm 696 (by decide +kernel) rfl), (lw_gm 42 (by decide +kernel) rfl)⟩
theorem wi_M_isWhole : Cond.instanceMethod yM_isWhole ∈ lw_g ∧ Cond.selects RM yM_isWhole yM_isWhole ∈ lw_g := ⟨(lw_gm 656 (by decide +kernel) rfl), (lw_gm 32 (by decide +kernel) rfl)⟩
theorem wi_M_keep : Cond.instanceMethod yM_keep ∈ lw_g ∧ Cond.selects RM yM_keep yM_keep ∈ lw_g := ⟨(lw_gm 728 (by decide +kernel) rfl), (lw_gm 50 (by decide +kernel) rfl)⟩
theorem wi_M_letter : Cond.instanceMethod yM_letter ∈ lw_g ∧ Cond.selects RM yM_letter yM_letter ∈ lw_g := ⟨(lw_gm 720 (by decide +kernel) rfl), (lw_gm 48 (by decide +kernel) rfl)⟩
theorem wi_M_loosely : Cond.instanceMethod yM_loosely ∈ lw_g ∧ Cond.selects RM yM_loosely yM_loosely ∈ lw_g := ⟨(lw_gm 759 (by decide +kernel) rfl), (lw_gm 52 (by decide +kernel) rfl)⟩
theorem wi_M_most : Cond.instanceMethod yM_most ∈ lw_g ∧ Cond.selects RM yM_most yM_most ∈ lw_g := ⟨(lw_gm 735 (by decide +kernel) rfl), (lw_gm 736 (by decide +kernel) rfl)⟩
theorem wi_M_multiply : Cond.instanceMethod yM_multiply ∈ lw_g ∧ Cond.selects RM yM_multiply yM_multiply ∈ lw_g := ⟨(lw_gm 688 (by decide +kernel) rfl), (lw_gm 40 (by decide +kernel) rfl)⟩
theorem wi_M_noZeros : Cond.instanceMethod yM_noZeros ∈ lw_g ∧ Cond.selects RM yM_noZeros yM_noZeros ∈ lw_g := ⟨(lw_gm 700 (by decide +kernel) rfl), (lw_gm 43 (by decide +kernel) rfl)⟩
theorem wi_M_part : Cond.instanceMethod yM_part ∈ lw_g ∧ Cond.selects RM yM_part yM_part ∈ lw_g := ⟨(lw_gm 704 (by decide +kernel) rfl), (lw_gm 44 (by decide +kernel) rfl)⟩
theorem wi_M_plain : Cond.instanceMethod yM_plain ∈ lw_g ∧ Cond.selects RM yM_plain yM_plain ∈ lw_g := ⟨(lw_gm 724 (by decide +kernel) rfl), (lw_gm 49 (by decide +kernel) rfl)⟩
theorem wi_M_put : Cond.instanceMethod yM_put ∈ lw_g ∧ Cond.selects RM yM_put yM_put ∈ lw_g := ⟨(lw_gm 609 (by decide +kernel) rfl), (lw_gm 610 (by decide +kernel) rfl)⟩
theorem wi_M_raise : Cond.instanceMethod yM_raise ∈ lw_g ∧ Cond.selects RM yM_raise yM_raise ∈ lw_g := ⟨(lw_gm 708 (by decide +kernel) rfl), (lw_gm 45 (by decide +kernel) rfl)⟩
theorem wi_M_read : Cond.instanceMethod yM_read ∈ lw_g ∧ Cond.selects RM yM_read yM_read ∈ lw_g := ⟨(lw_gm 641 (by decide +kernel) rfl), (lw_gm 29 (by decide +kernel) rfl)⟩
theorem wi_M_round : Cond.instanceMethod yM_round ∈ lw_g ∧ Cond.selects RM yM_round yM_round ∈ lw_g := ⟨(lw_gm 660 (by decide +kernel) rfl), (lw_gm 33 (by decide +kernel) rfl)⟩
theorem wi_M_settle : Cond.instanceMethod yM_settle ∈ lw_g ∧ Cond.selects RM yM_settle yM_settle ∈ lw_g := ⟨(lw_gm 648 (by decide +kernel) rfl), (lw_gm 30 (by decide +kernel) rfl)⟩
theorem wi_M_size : Cond.instanceMethod yM_size ∈ lw_g ∧ Cond.selects RM yM_size yM_size ∈ lw_g := ⟨(lw_gm 616 (by decide +kernel) rfl), (lw_gm 617 (by decide +kernel) rfl)⟩
theorem wi_M_strictly : Cond.instanceMethod yM_strictly ∈ lw_g ∧ Cond.selects RM yM_strictly yM_strictly ∈ lw_g := ⟨(lw_gm 752 (by decide +kernel) rfl), (lw_gm 51 (by decide +kernel) rfl)⟩
theorem wi_M_turn : Cond.instanceMethod yM_turn ∈ lw_g ∧ Cond.selects RM yM_turn yM_turn ∈ lw_g := ⟨(lw_gm 731 (by decide +kernel) rfl), (lw_gm 732 (by decide +kernel) rfl)⟩
theorem wi_M_valueOf : Cond.instanceMethod yM_valueOf ∈ lw_g ∧ Cond.selects RM yM_valueOf yM_valueOf ∈ lw_g := ⟨(lw_gm 672 (by decide +kernel) rfl), (lw_gm 36 (by decide +kernel) rfl)⟩
theorem wi_M_whole : Cond.instanceMethod yM_whole ∈ lw_g ∧ Cond.selects RM yM_whole yM_whole ∈ lw_g := ⟨(lw_gm 762 (by decide +kernel) rfl), (lw_gm 763 (by decide +kernel) rfl)⟩
theorem wi_M_work : Cond.instanceMethod yM_work ∈ lw_g ∧ Cond.selects RM yM_work yM_work ∈ lw_g := ⟨(lw_gm 636 (by decide +kernel) rfl), (lw_gm 637 (by decide +kernel) rfl)⟩
theorem wi_M_worked : Cond.instanceMethod yM_worked ∈ lw_g ∧ Cond.selects RM yM_worked yM_worked ∈ lw_g := ⟨(lw_gm 676 (by decide +kernel) rfl), (lw_gm 37 (by decide +kernel) rfl)⟩
theorem wi_M_write : Cond.instanceMethod yM_write ∈ lw_g ∧ Cond.selects RM yM_write yM_write ∈ lw_g := ⟨(lw_gm 716 (by decide +kernel) rfl), (lw_gm 47 (by decide +kernel) rfl)⟩
theorem wi_M_zero : Cond.instanceMethod yM_zero ∈ lw_g ∧ Cond.selects RM yM_zero yM_zero ∈ lw_g := ⟨(lw_gm 652 (by decide +kernel) rfl), (lw_gm 31 (by decide +kernel) rfl)⟩
theorem kbipush_m42 : (Int8.ofInt (-42)).toInt32 = (-42) := by decide +kernel
theorem kbipush_m41 : (Int8.ofInt (-41)).toInt32 = (-41) := by decide +kernel
theorem kbipush_m40 : (Int8.ofInt (-40)).toInt32 = (-40) := by decide +kernel
theorem kbipush_m26 : (Int8.ofInt (-26)).toInt32 = (-26) := by decide +kernel
theorem kbipush_m5 : (Int8.ofInt (-5)).toInt32 = (-5) := by decide +kernel
theorem kbipush_6 : (Int8.ofInt 6).toInt32 = 6 := by decide +kernel
theorem kbipush_8 : (Int8.ofInt 8).toInt32 = 8 := by decide +kernel
theorem kbipush_9 : (Int8.ofInt 9).toInt32 = 9 := by decide +kernel
theorem kbipush_10 : (Int8.ofInt 10).toInt32 = 10 := by decide +kernel
theorem kbipush_15 : (Int8.ofInt 15).toInt32 = 15 := by decide +kernel
theorem kbipush_20 : (Int8.ofInt 20).toInt32 = 20 := by decide +kernel
theorem kbipush_24 : (Int8.ofInt 24).toInt32 = 24 := by decide +kernel
theorem kbipush_26 : (Int8.ofInt 26).toInt32 = 26 := by decide +kernel
theorem kbipush_30 : (Int8.ofInt 30).toInt32 = 30 := by decide +kernel
theorem kbipush_32 : (Int8.ofInt 32).toInt32 = 32 := by decide +kernel
theorem kbipush_42 : (Int8.ofInt 42).toInt32 = 42 := by decide +kernel
theorem kbipush_43 : (Int8.ofInt 43).toInt32 = 43 := by decide +kernel
theorem kbipush_45 : (Int8.ofInt 45).toInt32 = 45 := by decide +kernel
theorem kbipush_46 : (Int8.ofInt 46).toInt32 = 46 := by decide +kernel
theorem kbipush_48 : (Int8.ofInt 48).toInt32 = 48 := by decide +kernel
theorem kbipush_57 : (Int8.ofInt 57).toInt32 = 57 := by decide +kernel
theorem kbipush_69 : (Int8.ofInt 69).toInt32 = 69 := by decide +kernel
theorem kbipush_99 : (Int8.ofInt 99).toInt32 = 99 := by decide +kernel
theorem kbipush_100 : (Int8.ofInt 100).toInt32 = 100 := by decide +kernel
theorem kbipush_101 : (Int8.ofInt 101).toInt32 = 101 := by decide +kernel
theorem kiconst_m8 : Int32.ofInt (-8) = (-8) := by decide +kernel
theorem kiconst_m1 : Int32.ofInt (-1) = (-1) := by decide +kernel
theorem kiconst_0 : Int32.ofInt 0 = 0 := by decide +kernel
theorem kiconst_1 : Int32.ofInt 1 = 1 := by decide +kernel
theorem kiconst_2 : Int32.ofInt 2 = 2 := by decide +kernel
theorem kiconst_3 : Int32.ofInt 3 = 3 := by decide +kernel
theorem kiconst_4 : Int32.ofInt 4 = 4 := by decide +kernel
theorem kiconst_5 : Int32.ofInt 5 = 5 := by decide +kernel
theorem kiconst_6 : Int32.ofInt 6 = 6 := by decide +kernel
theorem ksipush_m999 : (Int16.ofInt (-999)).toInt32 = (-999) := by decide +kernel
theorem ksipush_200 : (Int16.ofInt 200).toInt32 = 200 := by decide +kernel
theorem ksipush_240 : (Int16.ofInt 240).toInt32 = 240 := by decide +kernel
theorem ksipush_255 : (Int16.ofInt 255).toInt32 = 255 := by decide +kernel
theorem ksipush_300 : (Int16.ofInt 300).toInt32 = 300 := by decide +kernel
theorem ksipush_999 : (Int16.ofInt 999).toInt32 = 999 := by decide +kernel
theorem ksipush_1400 : (Int16.ofInt 1400).toInt32 = 1400 := by decide +kernel
theorem ksipush_1500 : (Int16.ofInt 1500).toInt32 = 1500 := by decide +kernel
theorem ksipush_1600 : (Int16.ofInt 1600).toInt32 = 1600 := by decide +kernel
theorem ksipush_2000 : (Int16.ofInt 2000).toInt32 = 2000 := by decide +kernel
theorem ksipush_2600 : (Int16.ofInt 2600).toInt32 = 2600 := by decide +kernel
theorem ksipush_5000 : (Int16.ofInt 5000).toInt32 = 5000 := by decide +kernel
theorem ksipush_5200 : (Int16.ofInt 5200).toInt32 = 5200 := by decide +kernel
theorem ksipush_10400 : (Int16.ofInt 10400).toInt32 = 10400 := by decide +kernel
theorem ksipush_13000 : (Int16.ofInt 13000).toInt32 = 13000 := by decide +kernel
end
section
def f_A_floorMod (v0 : Int32) (v1 : Int32) (h : Hp) : Option (Int32 × Hp) := chk (¬ v1 = 0) (if 0 ≤ (v0 ^^^ v1) then some (v0 - v0 / v1 * v1, h) else if (v0 - v0 / v1 * v1) = 0 then some (v0 - v0 / v1 * v1, h) else some ((v0 - v0 / v1 * v1) + v1, h))
def f_L_add (v0 : Nat) (v1 : Int32) (h : Hp) : Option (Unit × Hp) := if (h v0 1) < 0 then some ((), h) else if (Int32.ofNat (bl (v0 + 1))) ≤ (h v0 1) then some ((), h) else chk (inR (h v0 1) (bl (v0 + 1))) (some ((), (up2 (up2 h (v0 + 1) (Int32.toNatClampNeg (h v0 1)) (vp_nar .byte ((Int32.toInt8 v1).toInt32))) v0 1 (((up2 h (v0 + 1) (Int32.toNatClampNeg (h v0 1)) (vp_nar .byte ((Int32.toInt8 v1).toInt32))) v0 1) + 1))))
def f_L_addInt_3 : Nat → Nat → Int32 → Int32 → Hp → Option (Unit × Hp)
  | 0, _, _, _, _ => none
  | n + 1, v0, v1, v2, h => if v2 < 0 then some ((), h) else bd (f_L_add v0 ((Int32.toUInt32 v1 >>> (Int32.toUInt32 v2 &&& Int32.toUInt32 31)).toInt32) h) (fun _u11 h11 => f_L_addInt_3 n v0 v1 (v2 + (-8)) h11)
def f_L_addInt (v0 : Nat) (v1 : Int32) (h : Hp) : Option (Unit × Hp) := f_L_addInt_3 fuel v0 v1 24 h
def f_L_byteAt (v0 : Nat) (v1 : Int32) (h : Hp) : Option (Int32 × Hp) := if v1 < 0 then some ((-1), h) else if (h v0 1) ≤ v1 then some ((-1), h) else if v1 < (Int32.ofNat (bl (v0 + 1))) then chk (inR v1 (bl (v0 + 1))) (some ((h (v0 + 1) (Int32.toNatClampNeg v1)) &&& 255, h)) else some ((-1), h)
def f_L_copy_7 : Nat → Nat → Nat → Int32 → Hp → Option (Unit × Hp)
  | 0, _, _, _, _ => none
  | n + 1, v0, v1, v2, h => if (h v1 1) ≤ v2 then some ((), h) else bd (f_L_byteAt v1 v2 h) (fun r18 h18 => bd (f_L_add v0 r18 h18) (fun _u21 h21 => f_L_copy_7 n v0 v1 (v2 + 1) h21))
def f_L_copy (v0 : Nat) (v1 : Nat) (h : Hp) : Option (Unit × Hp) := f_L_copy_7 fuel v0 v1 0 (up2 h v0 1 0)
def f_L_byteOrBlank (v0 : Nat) (v1 : Int32) (h : Hp) : Option (Int32 × Hp) := bd (f_L_byteAt v0 v1 h) (fun r2 h2 => if r2 = (-1) then some (32, h2) else some (r2, h2))
def f_L_firstInk_2 : Nat → Nat → Int32 → Hp → Option (Int32 × Hp)
  | 0, _, _, _ => none
  | n + 1, v0, v1, h => if (h v0 1) ≤ v1 then some (v1, h) else bd (f_L_byteAt v0 v1 h) (fun r12 h12 => if r12 = 32 then f_L_firstInk_2 n v0 (v1 + 1) h12 else some (v1, h12))
def f_L_firstInk (v0 : Nat) (h : Hp) : Option (Int32 × Hp) := f_L_firstInk_2 fuel v0 0 h
def f_N_clear (v0 : Nat) (h : Hp) : Option (Unit × Hp) := some ((), (up2 (up2 (up2 h v0 1 0) v0 2 0) v0 3 0))
def f_N_push_16 (v0 : Nat) (v1 : Int32) (s0 : Int32) (h : Hp) : Option (Unit × Hp) := if s0 = 0 then some ((), h) else if (h v0 1) < 0 then some ((), h) else if (Int32.ofNat (il (v0 + 1))) ≤ (h v0 1) then some ((), h) else chk (inR (h v0 1) (il (v0 + 1))) (some ((), (up2 (up2 h (v0 + 1) (Int32.toNatClampNeg (h v0 1)) v1) v0 1 (((up2 h (v0 + 1) (Int32.toNatClampNeg (h v0 1)) v1) v0 1) + 1))))
def f_N_push (v0 : Nat) (v1 : Int32) (h : Hp) : Option (Unit × Hp) := if 0 < (h v0 1) then f_N_push_16 v0 v1 1 h else if v1 = 0 then f_N_push_16 v0 v1 0 h else f_N_push_16 v0 v1 1 h
def f_N_becomeUnit (v0 : Nat) (v1 : Int32) (h : Hp) : Option (Unit × Hp) := bd (f_N_clear v0 h) (fun _u1 h1 => if v1 = 0 then some ((), h1) else bd (f_N_push v0 1 h1) (fun _u10 h10 => some ((), (up2 h10 v0 3 v1))))
def f_N_settle_13 (v0 : Nat) (v2 : Int32) (s0 : Nat) (s1 : Int32) (h : Hp) : Option (Unit × Hp) := if ((up2 h s0 3 s1) v0 1) = 0 then some ((), (up2 (up2 h s0 3 s1) v0 2 0)) else some ((), (up2 (up2 h s0 3 s1) v0 2 v2))
def f_N_settle (v0 : Nat) (v1 : Int32) (v2 : Int32) (h : Hp) : Option (Unit × Hp) := if (h v0 1) = 0 then f_N_settle_13 v0 v2 v0 0 h else f_N_settle_13 v0 v2 v0 v1 h
def f_N_digit (v0 : Nat) (v1 : Int32) (h : Hp) : Option (Int32 × Hp) := if v1 < 0 then some (0, h) else if (h v0 1) ≤ v1 then some (0, h) else if v1 < (Int32.ofNat (il (v0 + 1))) then chk (inR v1 (il (v0 + 1))) (some (h (v0 + 1) (Int32.toNatClampNeg v1), h)) else some (0, h)
def f_N_copy_6 : Nat → Nat → Nat → Int32 → Hp → Option (Unit × Hp)
  | 0, _, _, _, _ => none
  | n + 1, v0, v1, v2, h => if (h v1 1) ≤ v2 then bd (f_N_settle v0 (h v1 3) (h v1 2) h) (fun _u38 h38 => some ((), h38)) else bd (f_N_digit v1 v2 h) (fun r17 h17 => bd (f_N_push v0 r17 h17) (fun _u20 h20 => f_N_copy_6 n v0 v1 (v2 + 1) h20))
def f_N_copy (v0 : Nat) (v1 : Nat) (h : Hp) : Option (Unit × Hp) := bd (f_N_clear v0 h) (fun _u1 h1 => f_N_copy_6 fuel v0 v1 0 h1)
def f_N_digitAtPower (v0 : Nat) (v1 : Int32) (h : Hp) : Option (Int32 × Hp) := bd (f_N_digit v0 (((h v0 1) - 1) - (v1 - (h v0 2))) h) (fun r14 h14 => some (r14, h14))
def f_N_ahead (v0 : Nat) (h : Hp) : Option (Int32 × Hp) := some ((h v0 1) + (h v0 2), h)
def f_N_places (v0 : Nat) (h : Hp) : Option (Int32 × Hp) := if 0 ≤ (h v0 2) then some (0, h) else some (-(h v0 2), h)
def f_N_firstPower (v0 : Nat) (h : Hp) : Option (Int32 × Hp) := if (h v0 1) = 0 then some (0, h) else some (((h v0 1) + (h v0 2)) - 1, h)
def f_N_countUp_43 (v0 : Nat) (v1 : Int32) (h : Hp) : Option (Unit × Hp) := if v1 < 0 then chk (inR 0 (il (v0 + 1))) (some ((), (up2 (up2 h (v0 + 1) (Int32.toNatClampNeg 0) 1) v0 2 (((up2 h (v0 + 1) (Int32.toNatClampNeg 0) 1) v0 2) + 1)))) else chk (inR v1 (il (v0 + 1))) (chk (inR v1 (il (v0 + 1))) (some ((), (up2 h (v0 + 1) (Int32.toNatClampNeg v1) ((h (v0 + 1) (Int32.toNatClampNeg v1)) + 1)))))
def f_N_countUp_15 : Nat → Nat → Int32 → Hp → Option (Unit × Hp)
  | 0, _, _, _ => none
  | n + 1, v0, v1, h => if v1 < 0 then f_N_countUp_43 v0 v1 h else chk (inR v1 (il (v0 + 1))) (if (h (v0 + 1) (Int32.toNatClampNeg v1)) = 9 then chk (inR v1 (il (v0 + 1))) (f_N_countUp_15 n v0 (v1 + (-1)) (up2 h (v0 + 1) (Int32.toNatClampNeg v1) 0)) else f_N_countUp_43 v0 v1 h)
def f_N_countUp (v0 : Nat) (h : Hp) : Option (Unit × Hp) := f_N_countUp_15 fuel v0 ((if (Int32.ofNat (il (v0 + 1))) < (h v0 1) then (Int32.ofNat (il (v0 + 1))) else (h v0 1)) - 1) h
def f_N_roundTo_28 (v0 : Nat) (v1 : Int32) (s0 : Int32) (h : Hp) : Option (Unit × Hp) := if s0 = 0 then some ((), (up2 (up2 h v0 2 ((h v0 2) + ((h v0 1) - v1))) v0 1 v1)) else bd (f_N_countUp v0 (up2 (up2 h v0 2 ((h v0 2) + ((h v0 1) - v1))) v0 1 v1)) (fun _u54 h54 => some ((), h54))
def f_N_roundTo (v0 : Nat) (v1 : Int32) (h : Hp) : Option (Unit × Hp) := if v1 < 1 then some ((), h) else if v1 < (h v0 1) then bd (f_N_digit v0 v1 h) (fun r16 h16 => if r16 < 5 then f_N_roundTo_28 v0 v1 0 h16 else f_N_roundTo_28 v0 v1 1 h16) else some ((), h)
def f_N_roundToPlaces_57 (v0 : Nat) (v1 : Int32) (s0 : Int32) (h : Hp) : Option (Unit × Hp) := bd (f_N_becomeUnit v0 s0 h) (fun _u62 h62 => bd (f_N_settle v0 s0 (-v1) h62) (fun _u70 h70 => some ((), h70)))
def f_N_roundToPlaces (v0 : Nat) (v1 : Int32) (h : Hp) : Option (Unit × Hp) := bd (f_N_places v0 h) (fun r2 h2 => if v1 < r2 then bd (f_N_ahead v0 h2) (fun r10 h10 => if (r10 + v1) ≤ 0 then if (r10 + v1) = 0 then bd (f_N_digit v0 0 h10) (fun r32 h32 => if r32 < 5 then if (0 : Int32) = 0 then f_N_roundToPlaces_57 v0 v1 0 h32 else f_N_roundToPlaces_57 v0 v1 (h32 v0 3) h32 else if (1 : Int32) = 0 then f_N_roundToPlaces_57 v0 v1 0 h32 else f_N_roundToPlaces_57 v0 v1 (h32 v0 3) h32) else if (0 : Int32) = 0 then f_N_roundToPlaces_57 v0 v1 0 h10 else f_N_roundToPlaces_57 v0 v1 (h10 v0 3) h10 else bd (f_N_roundTo v0 (r10 + v1) h10) (fun _u22 h22 => some ((), h22))) else some ((), h2))
def f_N_dropEndZeros_0 : Nat → Nat → Hp → Option (Unit × Hp)
  | 0, _, _ => none
  | n + 1, v0, h => if (h v0 1) ≤ 1 then some ((), h) else bd (f_N_digit v0 ((h v0 1) - 1) h) (fun r15 h15 => if r15 = 0 then f_N_dropEndZeros_0 n v0 (up2 (up2 h15 v0 1 ((h15 v0 1) - 1)) v0 2 (((up2 h15 v0 1 ((h15 v0 1) - 1)) v0 2) + 1)) else some ((), h15))
def f_N_dropEndZeros (v0 : Nat) (h : Hp) : Option (Unit × Hp) := f_N_dropEndZeros_0 fuel v0 h
def f_N_wholeValue_83 : Nat → Nat → Int32 → Int32 → Hp → Option (Int32 × Hp)
  | 0, _, _, _, _ => none
  | n + 1, v0, v1, v2, h => if v2 ≤ 0 then if 0 ≤ (h v0 3) then some (v1, h) else some (-v1, h) else f_N_wholeValue_83 n v0 (v1 * 10) (v2 + (-1)) h
def f_N_wholeValue_53 (k16 : Nat → Int32 → Int32 → Hp → Option (Int32 × Hp)) (v0 : Nat) (v1 : Int32) (v2 : Int32) (v3 : Int32) (h : Hp) : Option (Int32 × Hp) := if v3 = 0 then bd (f_N_digit v0 v2 h) (fun r67 h67 => k16 v0 ((v1 * 10) + r67) (v2 + 1) h67) else k16 v0 v1 (v2 + 1) h
def f_N_wholeValue_37 (k16 : Nat → Int32 → Int32 → Hp → Option (Int32 × Hp)) (v0 : Nat) (v1 : Int32) (v2 : Int32) (s0 : Int32) (h : Hp) : Option (Int32 × Hp) := if s0 = 0 then f_N_wholeValue_53 k16 v0 v1 v2 s0 h else bd (f_N_digit v0 v2 h) (fun r44 h44 => if r44 = 0 then f_N_wholeValue_53 k16 v0 v1 v2 s0 h44 else some ((-2000000000), h44))
def f_N_wholeValue_16 : Nat → Nat → Int32 → Int32 → Hp → Option (Int32 × Hp)
  | 0, _, _, _, _ => none
  | n + 1, v0, v1, v2, h => if (h v0 1) ≤ v2 then f_N_wholeValue_83 fuel v0 v1 (h v0 2) h else bd (f_N_ahead v0 h) (fun r26 h26 => if v2 < r26 then f_N_wholeValue_37 (fun v0 v1 v2 h => f_N_wholeValue_16 n v0 v1 v2 h) v0 v1 v2 0 h26 else f_N_wholeValue_37 (fun v0 v1 v2 h => f_N_wholeValue_16 n v0 v1 v2 h) v0 v1 v2 1 h26)
def f_N_wholeValue (v0 : Nat) (h : Hp) : Option (Int32 × Hp) := bd (f_N_ahead v0 h) (fun r1 h1 => if r1 ≤ 9 then f_N_wholeValue_16 fuel v0 0 0 h1 else some ((-2000000000), h1))
def f_R_isDigit (v0 : Int32) (h : Hp) : Option (Int32 × Hp) := if v0 < 48 then some (0, h) else if 57 < v0 then some (0, h) else some (1, h)
def f_R_skipBlanks_0 : Nat → Nat → Hp → Option (Unit × Hp)
  | 0, _, _ => none
  | n + 1, v1, h => if (h v1 1) ≤ (h 26 0) then some ((), h) else bd (f_L_byteAt v1 (h 26 0) h) (fun r16 h16 => if r16 = 32 then f_R_skipBlanks_0 n v1 (up2 h16 26 0 ((h16 26 0) + 1)) else some ((), h16))
def f_R_skipBlanks (v1 : Nat) (h : Hp) : Option (Unit × Hp) := f_R_skipBlanks_0 fuel v1 h
def f_R_readSign_21 (v2 : Int32) (h : Hp) : Option (Int32 × Hp) := if v2 = 45 then some ((-1), (up2 h 26 0 ((h 26 0) + 1))) else some (1, (up2 h 26 0 ((h 26 0) + 1)))
def f_R_readSign (v1 : Nat) (h : Hp) : Option (Int32 × Hp) := bd (f_L_byteAt v1 (h 26 0) h) (fun r5 h5 => if r5 = 43 then f_R_readSign_21 r5 h5 else if r5 = 45 then f_R_readSign_21 r5 h5 else if r5 = 45 then some ((-1), h5) else some (1, h5))
def f_R_readDigits_95 (v2 : Nat) (v3 : Int32) (v4 : Int32) (h : Hp) : Option (Int32 × Hp) := if v3 ≤ 0 then some (0, (up2 h v2 2 (-v4))) else some (1, (up2 h v2 2 (-v4)))
def f_R_readDigits_61 (k8 : Nat → Nat → Int32 → Int32 → Int32 → Hp → Option (Int32 × Hp)) (v1 : Nat) (v2 : Nat) (v3 : Int32) (v5 : Int32) (s0 : Int32) (s1 : Int32) (h : Hp) : Option (Int32 × Hp) := k8 v1 v2 v3 (s0 + s1) v5 (up2 h 26 0 ((h 26 0) + 1))
def f_R_readDigits_8 : Nat → Nat → Nat → Int32 → Int32 → Int32 → Hp → Option (Int32 × Hp)
  | 0, _, _, _, _, _, _ => none
  | n + 1, v1, v2, v3, v4, v5, h => if (h v1 1) ≤ (h 26 0) then f_R_readDigits_95 v2 v3 v4 h else bd (f_L_byteAt v1 (h 26 0) h) (fun r24 h24 => bd (f_R_isDigit r24 h24) (fun r31 h31 => if r31 = 0 then if r24 = 46 then if v5 = 0 then f_R_readDigits_8 n v1 v2 v3 v4 1 (up2 h31 26 0 ((h31 26 0) + 1)) else f_R_readDigits_95 v2 v3 v4 h31 else f_R_readDigits_95 v2 v3 v4 h31 else bd (f_N_push v2 (r24 - 48) h31) (fun _u43 h43 => if v5 = 0 then f_R_readDigits_61 (fun v1 v2 v3 v4 v5 h => f_R_readDigits_8 n v1 v2 v3 v4 v5 h) v1 v2 (v3 + 1) v5 v4 0 h43 else f_R_readDigits_61 (fun v1 v2 v3 v4 v5 h => f_R_readDigits_8 n v1 v2 v3 v4 v5 h) v1 v2 (v3 + 1) v5 v4 1 h43)))
def f_R_readDigits (v1 : Nat) (v2 : Nat) (h : Hp) : Option (Int32 × Hp) := f_R_readDigits_8 fuel v1 v2 0 0 0 h
def f_R_readExponent_101 (v2 : Nat) (v4 : Int32) (v5 : Int32) (v6 : Int32) (h : Hp) : Option (Int32 × Hp) := if v6 ≤ 0 then some (0, (up2 h v2 2 ((h v2 2) + (v4 * v5)))) else some (1, (up2 h v2 2 ((h v2 2) + (v4 * v5))))
def f_R_readExponent_46 : Nat → Nat → Nat → Int32 → Int32 → Int32 → Hp → Option (Int32 × Hp)
  | 0, _, _, _, _, _, _ => none
  | n + 1, v1, v2, v4, v5, v6, h => if 3 ≤ v6 then f_R_readExponent_101 v2 v4 v5 v6 h else bd (f_L_byteAt v1 (h 26 0) h) (fun r57 h57 => bd (f_R_isDigit r57 h57) (fun r60 h60 => if r60 = 0 then f_R_readExponent_101 v2 v4 v5 v6 h60 else bd (f_L_byteAt v1 (h60 26 0) h60) (fun r76 h76 => f_R_readExponent_46 n v1 v2 v4 (((v5 * 10) + r76) - 48) (v6 + 1) (up2 h76 26 0 ((h76 26 0) + 1)))))
def f_R_readExponent_23 (v1 : Nat) (v2 : Nat) (h : Hp) : Option (Int32 × Hp) := bd (f_R_readSign v1 (up2 h 26 0 ((h 26 0) + 1))) (fun r35 h35 => f_R_readExponent_46 fuel v1 v2 r35 0 0 h35)
def f_R_readExponent (v1 : Nat) (v2 : Nat) (h : Hp) : Option (Int32 × Hp) := bd (f_L_byteAt v1 (h 26 0) h) (fun r5 h5 => if r5 = 69 then f_R_readExponent_23 v1 v2 h5 else if r5 = 101 then f_R_readExponent_23 v1 v2 h5 else some (1, h5))
def f_R_read (v1 : Nat) (v2 : Nat) (h : Hp) : Option (Int32 × Hp) := bd (f_N_clear v2 (up2 h 26 0 0)) (fun _u6 h6 => bd (f_R_skipBlanks v1 h6) (fun _u11 h11 => bd (f_R_readSign v1 h11) (fun r16 h16 => bd (f_R_skipBlanks v1 h16) (fun _u22 h22 => bd (f_R_readDigits v1 v2 h22) (fun r28 h28 => if r28 = 0 then some (0, h28) else bd (f_R_readExponent v1 v2 h28) (fun r37 h37 => if r37 = 0 then some (0, h37) else bd (f_R_skipBlanks v1 h37) (fun _u47 h47 => bd (f_N_settle v2 r16 (h47 v2 2) h47) (fun _u56 h56 => if (h56 26 0) = (h56 v1 1) then some (1, h56) else some (0, h56)))))))))
def f_T_addSign (v1 : Nat) (v2 : Nat) (h : Hp) : Option (Unit × Hp) := if 0 ≤ (h v1 3) then some ((), h) else bd (f_L_add v2 45 h) (fun _u10 h10 => some ((), h10))
def f_T_addExponent_48 (v2 : Nat) (v3 : Int32) (h : Hp) : Option (Unit × Hp) := if v3 < 10 then bd (f_L_add v2 (48 + (v3 - v3 / 10 * 10)) h) (fun _u76 h76 => some ((), h76)) else bd (f_L_add v2 (48 + ((v3 / 10) - (v3 / 10) / 10 * 10)) h) (fun _u65 h65 => bd (f_L_add v2 (48 + (v3 - v3 / 10 * 10)) h65) (fun _u76 h76 => some ((), h76)))
def f_T_addExponent_23 (v1 : Int32) (v2 : Nat) (s0 : Nat) (s1 : Int32) (h : Hp) : Option (Unit × Hp) := bd (f_L_add s0 s1 h) (fun _u23 h23 => if (if 0 ≤ v1 then v1 else 0 - v1) < 100 then f_T_addExponent_48 v2 (if 0 ≤ v1 then v1 else 0 - v1) h23 else bd (f_L_add v2 (48 + ((if 0 ≤ v1 then v1 else 0 - v1) / 100)) h23) (fun _u45 h45 => f_T_addExponent_48 v2 (if 0 ≤ v1 then v1 else 0 - v1) h45))
def f_T_addExponent (v1 : Int32) (v2 : Nat) (h : Hp) : Option (Unit × Hp) := if v1 = 0 then some ((), h) else bd (f_L_add v2 69 h) (fun _u8 h8 => if 0 ≤ v1 then f_T_addExponent_23 v1 v2 v2 43 h8 else f_T_addExponent_23 v1 v2 v2 45 h8)
def f_T_addPlain_55 : Nat → Nat → Int32 → Nat → Int32 → Hp → Option (Unit × Hp)
  | 0, _, _, _, _, _ => none
  | n + 1, v1, v2, v3, v4, h => if v2 < v4 then some ((), h) else bd (f_N_digitAtPower v1 (-v4) h) (fun r68 h68 => bd (f_L_add v3 (48 + r68) h68) (fun _u72 h72 => f_T_addPlain_55 n v1 v2 v3 (v4 + 1) h72))
def f_T_addPlain_18 : Nat → Nat → Int32 → Nat → Int32 → Hp → Option (Unit × Hp)
  | 0, _, _, _, _, _ => none
  | n + 1, v1, v2, v3, v4, h => if v4 < 0 then if v2 ≤ 0 then f_T_addPlain_55 fuel v1 v2 v3 1 h else bd (f_L_add v3 46 h) (fun _u49 h49 => f_T_addPlain_55 fuel v1 v2 v3 1 h49) else bd (f_N_digitAtPower v1 v4 h) (fun r29 h29 => bd (f_L_add v3 (48 + r29) h29) (fun _u33 h33 => f_T_addPlain_18 n v1 v2 v3 (v4 + (-1)) h33))
def f_T_addPlain (v1 : Nat) (v2 : Int32) (v3 : Nat) (h : Hp) : Option (Unit × Hp) := bd (f_T_addSign v1 v3 h) (fun _u3 h3 => bd (f_N_ahead v1 h3) (fun r7 h7 => f_T_addPlain_18 fuel v1 v2 v3 ((if r7 < 1 then 1 else r7) - 1) h7))
def f_T_addWithExponent_79 : Nat → Nat → Nat → Int32 → Int32 → Int32 → Hp → Option (Unit × Hp)
  | 0, _, _, _, _, _, _ => none
  | n + 1, v1, v3, v4, v5, v6, h => if (h v1 1) ≤ v6 then bd (f_T_addExponent ((v4 - v5) + 1) v3 h) (fun _u116 h116 => some ((), h116)) else bd (f_N_digit v1 v6 h) (fun r94 h94 => bd (f_L_add v3 (48 + r94) h94) (fun _u98 h98 => f_T_addWithExponent_79 n v1 v3 v4 v5 (v6 + 1) h98))
def f_T_addWithExponent_34 : Nat → Nat → Nat → Int32 → Int32 → Int32 → Hp → Option (Unit × Hp)
  | 0, _, _, _, _, _, _ => none
  | n + 1, v1, v3, v4, v5, v6, h => if v5 ≤ v6 then if (h v1 1) ≤ v5 then f_T_addWithExponent_79 fuel v1 v3 v4 v5 v5 h else bd (f_L_add v3 46 h) (fun _u72 h72 => f_T_addWithExponent_79 fuel v1 v3 v4 v5 v5 h72) else bd (f_N_digit v1 v6 h) (fun r47 h47 => bd (f_L_add v3 (48 + r47) h47) (fun _u51 h51 => f_T_addWithExponent_34 n v1 v3 v4 v5 (v6 + 1) h51))
def f_T_addWithExponent (v1 : Nat) (v2 : Int32) (v3 : Nat) (h : Hp) : Option (Unit × Hp) := bd (f_N_firstPower v1 h) (fun r1 h1 => if v2 = 1 then bd (f_A_floorMod r1 3 h1) (fun r14 h14 => bd (f_T_addSign v1 v3 h14) (fun _u28 h28 => f_T_addWithExponent_34 fuel v1 v3 r1 (r14 + 1) 0 h28)) else bd (f_T_addSign v1 v3 h1) (fun _u28 h28 => f_T_addWithExponent_34 fuel v1 v3 r1 1 0 h28))
def f_T_write (v1 : Nat) (v2 : Int32) (v3 : Int32) (v4 : Nat) (h : Hp) : Option (Int32 × Hp) := bd (f_N_firstPower v1 h) (fun r1 h1 => if 999 < r1 then some (42, h1) else if (-999) ≤ r1 then bd (f_N_ahead v1 (up2 h1 v4 1 0)) (fun r32 h32 => if v2 < r32 then bd (f_T_addWithExponent v1 v3 v4 h32) (fun _u68 h68 => some (0, h68)) else bd (f_N_places v1 h32) (fun r40 h40 => if (2 * v2) < r40 then bd (f_T_addWithExponent v1 v3 v4 h40) (fun _u68 h68 => some (0, h68)) else bd (f_N_places v1 h40) (fun r52 h52 => bd (f_T_addPlain v1 r52 v4 h52) (fun _u57 h57 => some (0, h57))))) else some (42, h1))
def f_K_takeAwayOnce_37 (k6 : Int32 → Int32 → Hp → Option (Unit × Hp)) (v3 : Int32) (v4 : Int32) (s0 : Int32) (h : Hp) : Option (Unit × Hp) := chk (inR v3 100) (k6 s0 (v3 + (-1)) (up2 h 37 (Int32.toNatClampNeg v3) (v4 + (10 * s0))))
def f_K_takeAwayOnce_6 : Nat → Int32 → Int32 → Hp → Option (Unit × Hp)
  | 0, _, _, _ => none
  | n + 1, v2, v3, h => if v3 < 0 then some ((), h) else chk (inR v3 100) (chk (inR v3 100) (if 0 ≤ (((h 37 (Int32.toNatClampNeg v3)) - (h 36 (Int32.toNatClampNeg v3))) - v2) then f_K_takeAwayOnce_37 (fun v2 v3 h => f_K_takeAwayOnce_6 n v2 v3 h) v3 (((h 37 (Int32.toNatClampNeg v3)) - (h 36 (Int32.toNatClampNeg v3))) - v2) 0 h else f_K_takeAwayOnce_37 (fun v2 v3 h => f_K_takeAwayOnce_6 n v2 v3 h) v3 (((h 37 (Int32.toNatClampNeg v3)) - (h 36 (Int32.toNatClampNeg v3))) - v2) 1 h))
def f_K_takeAwayOnce (v1 : Int32) (h : Hp) : Option (Unit × Hp) := f_K_takeAwayOnce_6 fuel 0 (v1 - 1) h
def f_K_holdsDivisor_4 : Nat → Int32 → Int32 → Int32 → Hp → Option (Int32 × Hp)
  | 0, _, _, _, _ => none
  | n + 1, v1, v2, v3, h => if v1 ≤ v3 then if v2 < 0 then some (0, h) else some (1, h) else if v2 = 0 then chk (inR v3 100) (chk (inR v3 100) (f_K_holdsDivisor_4 n v1 ((h 37 (Int32.toNatClampNeg v3)) - (h 36 (Int32.toNatClampNeg v3))) (v3 + 1) h)) else if v2 < 0 then some (0, h) else some (1, h)
def f_K_holdsDivisor (v1 : Int32) (h : Hp) : Option (Int32 × Hp) := f_K_holdsDivisor_4 fuel v1 0 0 h
def f_K_takeAwayAll_2 : Nat → Int32 → Int32 → Hp → Option (Int32 × Hp)
  | 0, _, _, _ => none
  | n + 1, v1, v2, h => if 9 ≤ v2 then some (v2, h) else bd (f_K_holdsDivisor v1 h) (fun r10 h10 => if r10 = 0 then some (v2, h10) else bd (f_K_takeAwayOnce v1 h10) (fun _u18 h18 => f_K_takeAwayAll_2 n v1 (v2 + 1) h18))
def f_K_takeAwayAll (v1 : Int32) (h : Hp) : Option (Int32 × Hp) := f_K_takeAwayAll_2 fuel v1 0 h
def f_K_bringDown_2 : Nat → Int32 → Int32 → Int32 → Hp → Option (Unit × Hp)
  | 0, _, _, _, _ => none
  | n + 1, v1, v2, v3, h => if v2 ≤ v3 then if v2 ≤ 0 then some ((), h) else chk (inR (v2 - 1) 100) (some ((), (up2 h 37 (Int32.toNatClampNeg (v2 - 1)) v1))) else chk (inR v3 100) (chk (inR (v3 - 1) 100) (f_K_bringDown_2 n v1 v2 (v3 + 1) (up2 h 37 (Int32.toNatClampNeg (v3 - 1)) (h 37 (Int32.toNatClampNeg v3)))))
def f_K_bringDown (v1 : Int32) (v2 : Int32) (h : Hp) : Option (Unit × Hp) := f_K_bringDown_2 fuel v1 v2 1 h
def f_K_divide_60 : Nat → Nat → Int32 → Int32 → Nat → Int32 → Int32 → Hp → Option (Int32 × Hp)
  | 0, _, _, _, _, _, _, _ => none
  | n + 1, v1, v3, v4, v5, v6, v7, h => if v3 ≤ v7 then some (v7, h) else if v4 ≤ (h v5 1) then some (v7, h) else bd (f_N_digit v1 v7 h) (fun r80 h80 => bd (f_K_bringDown r80 v6 h80) (fun _u85 h85 => bd (f_K_takeAwayAll v6 h85) (fun r93 h93 => bd (f_N_push v5 r93 h93) (fun _u96 h96 => f_K_divide_60 n v1 v3 v4 v5 v6 (v7 + 1) h96))))
def f_K_divide_16 : Nat → Nat → Nat → Int32 → Int32 → Nat → Int32 → Int32 → Hp → Option (Int32 × Hp)
  | 0, _, _, _, _, _, _, _, _ => none
  | n + 1, v1, v2, v3, v4, v5, v6, v7, h => if v6 ≤ v7 then bd (f_N_clear v5 h) (fun _u54 h54 => f_K_divide_60 fuel v1 v3 v4 v5 v6 0 h54) else bd (f_N_digit v2 (v7 - 1) h) (fun r34 h34 => chk (inR v7 100) (chk (inR v7 100) (f_K_divide_16 n v1 v2 v3 v4 v5 v6 (v7 + 1) (up2 (up2 h34 36 (Int32.toNatClampNeg v7) r34) 37 (Int32.toNatClampNeg v7) 0))))
def f_K_divide (v1 : Nat) (v2 : Nat) (v3 : Int32) (v4 : Int32) (v5 : Nat) (h : Hp) : Option (Int32 × Hp) := f_K_divide_16 fuel v1 v2 v3 v4 v5 (if 100 < ((h v2 1) + 1) then 100 else ((h v2 1) + 1)) 0 h
def f_K_takeCells_18 : Nat → Int32 → Int32 → Nat → Int32 → Hp → Option (Unit × Hp)
  | 0, _, _, _, _, _ => none
  | n + 1, v2, v3, v4, v5, h => if v5 < 0 then bd (f_N_settle v4 v3 v2 h) (fun _u45 h45 => some ((), h45)) else chk (inR v5 100) (bd (f_N_push v4 (h 35 (Int32.toNatClampNeg v5)) h) (fun _u32 h32 => f_K_takeCells_18 n v2 v3 v4 (v5 + (-1)) h32))
def f_K_takeCells (v1 : Int32) (v2 : Int32) (v3 : Int32) (v4 : Nat) (h : Hp) : Option (Unit × Hp) := bd (f_N_clear v4 h) (fun _u2 h2 => f_K_takeCells_18 fuel v2 v3 v4 ((if (Int32.ofNat 100) < v1 then (Int32.ofNat 100) else v1) - 1) h2)
def f_K_crossSum_16 : Nat → Nat → Nat → Int32 → Int32 → Int32 → Hp → Option (Int32 × Hp)
  | 0, _, _, _, _, _, _ => none
  | n + 1, v0, v1, v2, v3, v4, h => if v2 < v4 then some (v3, h) else if (h v0 1) ≤ v4 then some (v3, h) else bd (f_N_digit v0 (((h v0 1) - 1) - v4) h) (fun r42 h42 => bd (f_N_digit v1 (((h42 v1 1) - 1) - (v2 - v4)) h42) (fun r57 h57 => f_K_crossSum_16 n v0 v1 v2 (v3 + (r42 * r57)) (v4 + 1) h57))
def f_K_crossSum (v0 : Nat) (v1 : Nat) (v2 : Int32) (h : Hp) : Option (Int32 × Hp) := f_K_crossSum_16 fuel v0 v1 v2 0 (if 0 < ((v2 - (h v1 1)) + 1) then ((v2 - (h v1 1)) + 1) else 0) h
def f_K_product_25 : Nat → Nat → Nat → Nat → Int32 → Int32 → Int32 → Hp → Option (Unit × Hp)
  | 0, _, _, _, _, _, _, _ => none
  | n + 1, v1, v2, v3, v4, v5, v6, h => if v4 ≤ v6 then bd (f_K_takeCells v4 ((h v1 2) + (h v2 2)) ((h v1 3) * (h v2 3)) v3 h) (fun _u91 h91 => some ((), h91)) else bd (f_K_crossSum v1 v2 v6 h) (fun r38 h38 => chk (inR v6 100) (f_K_product_25 n v1 v2 v3 v4 ((v5 + r38) / 10) (v6 + 1) (up2 h38 35 (Int32.toNatClampNeg v6) ((v5 + r38) - (v5 + r38) / 10 * 10))))
def f_K_product (v1 : Nat) (v2 : Nat) (v3 : Nat) (h : Hp) : Option (Unit × Hp) := f_K_product_25 fuel v1 v2 v3 (if (Int32.ofNat 100) < ((h v1 1) + (h v2 1)) then (Int32.ofNat 100) else ((h v1 1) + (h v2 1))) 0 0 h
def f_K_multiplyInto (v1 : Nat) (v2 : Nat) (v3 : Int32) (h : Hp) : Option (Unit × Hp) := bd (f_K_product v1 v2 42 h) (fun _u7 h7 => bd (f_N_roundTo 42 v3 h7) (fun _u15 h15 => bd (f_N_copy v1 42 h15) (fun _u23 h23 => some ((), h23))))
def f_K_isBelow_45 : Nat → Nat → Nat → Int32 → Int32 → Int32 → Hp → Option (Int32 × Hp)
  | 0, _, _, _, _, _, _ => none
  | n + 1, v0, v1, v2, v3, v4, h => if v2 ≤ v4 then if 0 ≤ v3 then some (0, h) else some (1, h) else if v3 = 0 then bd (f_N_digit v0 v4 h) (fun r58 h58 => bd (f_N_digit v1 v4 h58) (fun r64 h64 => f_K_isBelow_45 n v0 v1 v2 (r58 - r64) (v4 + 1) h64)) else if 0 ≤ v3 then some (0, h) else some (1, h)
def f_K_isBelow (v0 : Nat) (v1 : Nat) (h : Hp) : Option (Int32 × Hp) := bd (f_N_ahead v0 h) (fun r1 h1 => bd (f_N_ahead v1 h1) (fun r5 h5 => if r1 = r5 then f_K_isBelow_45 fuel v0 v1 (if (h5 v0 1) < (h5 v1 1) then (h5 v1 1) else (h5 v0 1)) 0 0 h5 else bd (f_N_ahead v0 h5) (fun r12 h12 => bd (f_N_ahead v1 h12) (fun r16 h16 => if r16 ≤ r12 then some (0, h16) else some (1, h16)))))
def f_K_fillCells_70 (k6 : Nat → Nat → Int32 → Int32 → Int32 → Int32 → Int32 → Hp → Option (Unit × Hp)) (v1 : Nat) (v2 : Nat) (v3 : Int32) (v4 : Int32) (v5 : Int32) (v7 : Int32) (v8 : Int32) (s0 : Int32) (h : Hp) : Option (Unit × Hp) := chk (inR v7 100) (k6 v1 v2 v3 v4 v5 s0 (v7 + 1) (up2 h 35 (Int32.toNatClampNeg v7) (v8 - (10 * s0))))
def f_K_fillCells_6 : Nat → Nat → Nat → Int32 → Int32 → Int32 → Int32 → Int32 → Hp → Option (Unit × Hp)
  | 0, _, _, _, _, _, _, _, _ => none
  | n + 1, v1, v2, v3, v4, v5, v6, v7, h => if v5 ≤ v7 then some ((), h) else if (Int32.ofNat 100) ≤ v7 then some ((), h) else bd (f_N_digitAtPower v1 (v4 + v7) h) (fun r29 h29 => bd (f_N_digitAtPower v2 (v4 + v7) h29) (fun r39 h39 => if 0 ≤ ((r29 + (v3 * r39)) + v6) then if ((r29 + (v3 * r39)) + v6) ≤ 9 then f_K_fillCells_70 (fun v1 v2 v3 v4 v5 v6 v7 h => f_K_fillCells_6 n v1 v2 v3 v4 v5 v6 v7 h) v1 v2 v3 v4 v5 v7 ((r29 + (v3 * r39)) + v6) 0 h39 else f_K_fillCells_70 (fun v1 v2 v3 v4 v5 v6 v7 h => f_K_fillCells_6 n v1 v2 v3 v4 v5 v6 v7 h) v1 v2 v3 v4 v5 v7 ((r29 + (v3 * r39)) + v6) 1 h39 else f_K_fillCells_70 (fun v1 v2 v3 v4 v5 v6 v7 h => f_K_fillCells_6 n v1 v2 v3 v4 v5 v6 v7 h) v1 v2 v3 v4 v5 v7 ((r29 + (v3 * r39)) + v6) (-1) h39))
def f_K_fillCells (v1 : Nat) (v2 : Nat) (v3 : Int32) (v4 : Int32) (v5 : Int32) (h : Hp) : Option (Unit × Hp) := f_K_fillCells_6 fuel v1 v2 v3 v4 v5 0 0 h
def f_K_nearTo (v1 : Nat) (v2 : Nat) (h : Hp) : Option (Nat × Hp) := bd (f_N_ahead v2 h) (fun r9 h9 => if r9 ≤ ((h v1 2) - 30) then bd (f_N_becomeUnit 38 1 h9) (fun _u23 h23 => some (38, (up2 h23 38 2 (((h v1 2) - 30) - 1)))) else some (v2, h9))
def f_K_sum_16 (v1 : Nat) (v2 : Nat) (v4 : Nat) (s0 : Int32) (h : Hp) : Option (Unit × Hp) := if (h v2 3) = 0 then bd (f_N_copy v4 v1 h) (fun _u28 h28 => some ((), h28)) else if (h v1 3) = 0 then bd (f_N_copy v4 v2 h) (fun _u42 h42 => some ((), (up2 h42 v4 3 s0))) else bd (f_K_nearTo v2 v1 h) (fun r56 h56 => chk (cNum r56) (bd (f_K_nearTo v1 v2 h56) (fun r64 h64 => chk (cNum r64) (bd (f_N_ahead r56 h64) (fun r86 h86 => bd (f_N_ahead r64 h86) (fun r91 h91 => if (h91 v1 3) = s0 then bd (f_K_fillCells r56 r64 1 (if (h64 r64 2) < (h64 r56 2) then (h64 r64 2) else (h64 r56 2)) (((if r86 < r91 then r91 else r86) - (if (h64 r64 2) < (h64 r56 2) then (h64 r64 2) else (h64 r56 2))) + 1) h91) (fun _u123 h123 => bd (f_K_takeCells (((if r86 < r91 then r91 else r86) - (if (h64 r64 2) < (h64 r56 2) then (h64 r64 2) else (h64 r56 2))) + 1) (if (h64 r64 2) < (h64 r56 2) then (h64 r64 2) else (h64 r56 2)) (h123 v1 3) v4 h123) (fun _u137 h137 => some ((), h137))) else bd (f_K_isBelow r56 r64 h91) (fun r147 h147 => if r147 = 0 then bd (f_K_fillCells r56 r64 (-1) (if (h64 r64 2) < (h64 r56 2) then (h64 r64 2) else (h64 r56 2)) (((if r86 < r91 then r91 else r86) - (if (h64 r64 2) < (h64 r56 2) then (h64 r64 2) else (h64 r56 2))) + 1) h147) (fun _u191 h191 => bd (f_K_takeCells (((if r86 < r91 then r91 else r86) - (if (h64 r64 2) < (h64 r56 2) then (h64 r64 2) else (h64 r56 2))) + 1) (if (h64 r64 2) < (h64 r56 2) then (h64 r64 2) else (h64 r56 2)) (h191 v1 3) v4 h191) (fun _u205 h205 => some ((), h205))) else bd (f_K_fillCells r64 r56 (-1) (if (h64 r64 2) < (h64 r56 2) then (h64 r64 2) else (h64 r56 2)) (((if r86 < r91 then r91 else r86) - (if (h64 r64 2) < (h64 r56 2) then (h64 r64 2) else (h64 r56 2))) + 1) h147) (fun _u163 h163 => bd (f_K_takeCells (((if r86 < r91 then r91 else r86) - (if (h64 r64 2) < (h64 r56 2) then (h64 r64 2) else (h64 r56 2))) + 1) (if (h64 r64 2) < (h64 r56 2) then (h64 r64 2) else (h64 r56 2)) s0 v4 h163) (fun _u175 h175 => some ((), h175))))))))))
def f_K_sum (v1 : Nat) (v2 : Nat) (v3 : Int32) (v4 : Nat) (h : Hp) : Option (Unit × Hp) := if v3 = 0 then f_K_sum_16 v1 v2 v4 (h v2 3) h else f_K_sum_16 v1 v2 v4 (-(h v2 3)) h
def f_K_quotient (v1 : Nat) (v2 : Nat) (v3 : Int32) (v4 : Nat) (h : Hp) : Option (Unit × Hp) := bd (f_K_divide v1 v2 (((h v2 1) + v3) + 2) (v3 + 1) v4 h) (fun r16 h16 => bd (f_N_ahead v1 h16) (fun r33 h33 => bd (f_N_settle v4 ((h16 v1 3) * (h16 v2 3)) ((r33 - r16) - (h33 v2 2)) h33) (fun _u44 h44 => bd (f_N_roundTo v4 v3 h44) (fun _u50 h50 => bd (f_N_dropEndZeros v4 h50) (fun _u55 h55 => some ((), h55))))))
def f_K_partOf (v1 : Nat) (v2 : Nat) (v3 : Int32) (v4 : Nat) (h : Hp) : Option (Int32 × Hp) := bd (f_N_clear v4 h) (fun _u2 h2 => if (h2 v1 3) = 0 then some (0, h2) else bd (f_N_ahead v1 h2) (fun r15 h15 => bd (f_N_ahead v2 h15) (fun r19 h19 => if (r15 - r19) ≤ v3 then bd (f_N_ahead v1 h19) (fun r34 h34 => bd (f_K_divide v1 v2 (r34 - (h34 v2 2)) (v3 + 1) v4 h34) (fun r47 h47 => bd (f_N_settle v4 ((h47 v1 3) * (h47 v2 3)) 0 h47) (fun _u63 h63 => if (h63 v4 1) ≤ v3 then some (0, h63) else some (26, h63)))) else some (26, h19))))
def f_K_restOf (v1 : Nat) (v2 : Nat) (v3 : Int32) (v4 : Nat) (h : Hp) : Option (Int32 × Hp) := bd (f_K_partOf v1 v2 v3 40 h) (fun r8 h8 => if r8 = 0 then bd (f_K_product 40 v2 42 h8) (fun _u28 h28 => bd (f_K_sum v1 42 1 v4 h28) (fun _u40 h40 => some (r8, h40))) else some (r8, h8))
def f_K_powerOf_103 (k76 : Nat → Int32 → Int32 → Nat → Int32 → Int32 → Int32 → Hp → Option (Int32 × Hp)) (v1 : Nat) (v2 : Int32) (v3 : Int32) (v4 : Nat) (v5 : Int32) (v6 : Int32) (v7 : Int32) (v8 : Int32) (h : Hp) : Option (Int32 × Hp) := if (v8 &&& 1) = 1 then bd (f_K_multiplyInto v4 v1 v6 h) (fun _u117 h117 => k76 v1 v2 v3 v4 v5 v6 (v7 + (-1)) h117) else k76 v1 v2 v3 v4 v5 v6 (v7 + (-1)) h
def f_K_powerOf_76 : Nat → Nat → Int32 → Int32 → Nat → Int32 → Int32 → Int32 → Hp → Option (Int32 × Hp)
  | 0, _, _, _, _, _, _, _, _ => none
  | n + 1, v1, v2, v3, v4, v5, v6, v7, h => if v7 < 0 then if 0 ≤ v2 then bd (f_N_roundTo v4 v3 h) (fun _u166 h166 => bd (f_N_dropEndZeros v4 h166) (fun _u171 h171 => some (0, h171))) else bd (f_N_becomeUnit 44 1 h) (fun _u135 h135 => bd (f_K_quotient 44 v4 v6 42 h135) (fun _u151 h151 => bd (f_N_copy v4 42 h151) (fun _u160 h160 => bd (f_N_roundTo v4 v3 h160) (fun _u166 h166 => bd (f_N_dropEndZeros v4 h166) (fun _u171 h171 => some (0, h171)))))) else if (v5 >>> (v7 &&& 31)) = 0 then f_K_powerOf_103 (fun v1 v2 v3 v4 v5 v6 v7 h => f_K_powerOf_76 n v1 v2 v3 v4 v5 v6 v7 h) v1 v2 v3 v4 v5 v6 v7 (v5 >>> (v7 &&& 31)) h else bd (f_K_multiplyInto v4 v4 v6 h) (fun _u100 h100 => f_K_powerOf_103 (fun v1 v2 v3 v4 v5 v6 v7 h => f_K_powerOf_76 n v1 v2 v3 v4 v5 v6 v7 h) v1 v2 v3 v4 v5 v6 v7 (v5 >>> (v7 &&& 31)) h100)
def f_K_powerOf_31 (v1 : Nat) (v2 : Int32) (v3 : Int32) (v4 : Nat) (h : Hp) : Option (Int32 × Hp) := if (if 0 ≤ v2 then v2 else 0 - v2) ≤ 99 then if (if 0 ≤ v2 then v2 else 0 - v2) ≤ 9 then bd (f_N_becomeUnit v4 1 h) (fun _u69 h69 => f_K_powerOf_76 fuel v1 v2 v3 v4 (if 0 ≤ v2 then v2 else 0 - v2) ((v3 + 1) + 1) 9 h69) else bd (f_N_becomeUnit v4 1 h) (fun _u69 h69 => f_K_powerOf_76 fuel v1 v2 v3 v4 (if 0 ≤ v2 then v2 else 0 - v2) ((v3 + 1) + 2) 9 h69) else bd (f_N_becomeUnit v4 1 h) (fun _u69 h69 => f_K_powerOf_76 fuel v1 v2 v3 v4 (if 0 ≤ v2 then v2 else 0 - v2) ((v3 + 1) + 3) 9 h69)
def f_K_powerOf (v1 : Nat) (v2 : Int32) (v3 : Int32) (v4 : Nat) (h : Hp) : Option (Int32 × Hp) := if v2 < (-999) then some (26, h) else if v2 ≤ 999 then if 0 ≤ v2 then f_K_powerOf_31 v1 v2 v3 v4 h else if (h v1 3) = 0 then some (42, h) else f_K_powerOf_31 v1 v2 v3 v4 h else some (26, h)
def f_K_reckon_20 (v1 : Int32) (v2 : Nat) (v3 : Nat) (v4 : Int32) (v5 : Nat) (h : Hp) : Option (Int32 × Hp) := if v1 = 0 then bd (f_K_sum v2 v3 0 v5 h) (fun _u70 h70 => bd (f_N_roundTo v5 v4 h70) (fun _u161 h161 => some (0, h161))) else if v1 = 1 then bd (f_K_sum v2 v3 1 v5 h) (fun _u82 h82 => bd (f_N_roundTo v5 v4 h82) (fun _u161 h161 => some (0, h161))) else if v1 = 2 then bd (f_K_product v2 v3 v5 h) (fun _u93 h93 => bd (f_N_roundTo v5 v4 h93) (fun _u161 h161 => some (0, h161))) else if v1 = 3 then bd (f_K_quotient v2 v3 v4 v5 h) (fun _u106 h106 => bd (f_N_roundTo v5 v4 h106) (fun _u161 h161 => some (0, h161))) else if v1 = 4 then bd (f_K_partOf v2 v3 v4 v5 h) (fun r119 h119 => bd (f_N_roundTo v5 v4 h119) (fun _u161 h161 => some (r119, h161))) else if v1 = 5 then bd (f_K_restOf v2 v3 v4 v5 h) (fun r134 h134 => bd (f_N_roundTo v5 v4 h134) (fun _u161 h161 => some (r134, h161))) else bd (f_N_wholeValue v3 h) (fun r145 h145 => bd (f_K_powerOf v2 r145 v4 v5 h145) (fun r152 h152 => bd (f_N_roundTo v5 v4 h152) (fun _u161 h161 => some (r152, h161))))
def f_K_reckon (v1 : Int32) (v2 : Nat) (v3 : Nat) (v4 : Int32) (v5 : Nat) (h : Hp) : Option (Int32 × Hp) := if v1 < 3 then f_K_reckon_20 v1 v2 v3 v4 v5 h else if 5 < v1 then f_K_reckon_20 v1 v2 v3 v4 v5 h else if (h v3 3) = 0 then some (42, h) else f_K_reckon_20 v1 v2 v3 v4 v5 h
def f_D_find (v1 : Int32) (h : Hp) : Option (Option Nat × Hp) := if v1 < 0 then some (none, h) else if v1 < 10 then chk (inR v1 10) (some (some (4 + 2 * Int32.toNatClampNeg v1), h)) else some (none, h)
def f_D_placesAhead (v0 : Nat) (h : Hp) : Option (Int32 × Hp) := bd (f_N_ahead v0 h) (fun r1 h1 => if 0 ≤ (h1 v0 3) then some ((if r1 < 1 then 1 else r1) + 0, h1) else some ((if r1 < 1 then 1 else r1) + 1, h1))
def f_D_standing (v0 : Int32) (h : Hp) : Option (Int32 × Hp) := if 0 ≤ v0 then if v0 ≤ 0 then some (2, h) else some (4, h) else some (1, h)
def f_D_strictOrder_17 : Nat → Nat → Nat → Int32 → Int32 → Int32 → Hp → Option (Int32 × Hp)
  | 0, _, _, _, _, _, _ => none
  | n + 1, v0, v1, v2, v3, v4, h => if v2 ≤ v4 then some (v3, h) else if v3 = 0 then bd (f_L_byteAt v0 v4 h) (fun r30 h30 => bd (f_L_byteAt v1 v4 h30) (fun r36 h36 => f_D_strictOrder_17 n v0 v1 v2 (r30 - r36) (v4 + 1) h36)) else some (v3, h)
def f_D_strictOrder (v0 : Nat) (v1 : Nat) (h : Hp) : Option (Int32 × Hp) := f_D_strictOrder_17 fuel v0 v1 (if (h v0 1) < (h v1 1) then (h v1 1) else (h v0 1)) 0 0 h
def f_D_looseOrder_33 : Nat → Nat → Nat → Int32 → Int32 → Int32 → Int32 → Int32 → Hp → Option (Int32 × Hp)
  | 0, _, _, _, _, _, _, _, _ => none
  | n + 1, v0, v1, v2, v3, v4, v5, v6, h => if v4 ≤ v6 then some (v5, h) else if v5 = 0 then bd (f_L_byteOrBlank v0 (v2 + v6) h) (fun r50 h50 => bd (f_L_byteOrBlank v1 (v3 + v6) h50) (fun r58 h58 => f_D_looseOrder_33 n v0 v1 v2 v3 v4 (r50 - r58) (v6 + 1) h58)) else some (v5, h)
def f_D_looseOrder (v0 : Nat) (v1 : Nat) (h : Hp) : Option (Int32 × Hp) := bd (f_L_firstInk v0 h) (fun r1 h1 => bd (f_L_firstInk v1 h1) (fun r6 h6 => f_D_looseOrder_33 fuel v0 v1 r1 r6 (if ((h6 v0 1) - r1) < ((h6 v1 1) - r6) then ((h6 v1 1) - r6) else ((h6 v0 1) - r1)) 0 0 h6))
def f_D_load (v1 : Nat) (v2 : Nat) (v3 : Int32) (h : Hp) : Option (Int32 × Hp) := bd (f_R_read v1 v2 h) (fun r6 h6 => if r6 = 0 then some (0, h6) else bd (f_N_roundTo v2 v3 h6) (fun _u16 h16 => some (1, h16)))
def f_D_loadBoth (v1 : Nat) (v2 : Nat) (v3 : Int32) (h : Hp) : Option (Int32 × Hp) := bd (f_D_load v1 29 v3 h) (fun r7 h7 => if r7 = 0 then some (0, h7) else bd (f_D_load v2 31 v3 h7) (fun r20 h20 => if r20 = 0 then some (0, h20) else some (1, h20)))
def f_D_keepPage (v1 : Nat) (h : Hp) : Option (Int32 × Hp) := bd (f_L_copy v1 24 h) (fun _u5 h5 => some (h5 v1 1, h5))
def f_D_write (v1 : Nat) (v2 : Nat) (h : Hp) : Option (Int32 × Hp) := bd (f_T_write v1 (h 0 9) (h 0 11) 24 h) (fun r17 h17 => if r17 = 0 then bd (f_D_keepPage v2 h17) (fun r27 h27 => some (r27, h27)) else some (-r17, h17))
def f_D_layOut_45 : Nat → Nat → Int32 → Nat → Int32 → Hp → Option (Int32 × Hp)
  | 0, _, _, _, _, _ => none
  | n + 1, v1, v3, v4, v7, h => if v7 ≤ 0 then bd (f_T_addPlain v1 v3 24 h) (fun _u75 h75 => bd (f_D_keepPage v4 h75) (fun r81 h81 => some (r81, h81))) else bd (f_L_add 24 32 h) (fun _u56 h56 => f_D_layOut_45 n v1 v3 v4 (v7 + (-1)) h56)
def f_D_layOut_14 (v1 : Nat) (v2 : Int32) (v3 : Int32) (v4 : Nat) (s0 : Int64) (s1 : Int64) (h : Hp) : Option (Int32 × Hp) := if (lg_cmp (s0 + s1) 200) ≤ 0 then bd (f_D_placesAhead v1 (up2 h 24 1 0)) (fun r39 h39 => f_D_layOut_45 fuel v1 v3 v4 (v2 - r39) h39) else some ((-5), h)
def f_D_layOut (v1 : Nat) (v2 : Int32) (v3 : Int32) (v4 : Nat) (h : Hp) : Option (Int32 × Hp) := if v3 ≤ 0 then f_D_layOut_14 v1 v2 v3 v4 (Int32.toInt64 v2) 0 h else f_D_layOut_14 v1 v2 v3 v4 (Int32.toInt64 v2) (1 + (Int32.toInt64 v3)) h
def f_D_feed (v1 : Int32) (v2 : Int32) (v3 : Int32) (v4 : Int32) (v5 : Int32) (h : Hp) : Option (Int32 × Hp) := if ((h 1 1) + 20) ≤ 240 then bd (f_L_addInt 1 v1 h) (fun _u23 h23 => bd (f_L_addInt 1 v2 h23) (fun _u31 h31 => bd (f_L_addInt 1 v3 h31) (fun _u39 h39 => bd (f_L_addInt 1 v4 h39) (fun _u48 h48 => bd (f_L_addInt 1 v5 h48) (fun _u57 h57 => some (h57 1 1, h57)))))) else some ((-1), h)
def f_D_end (v1 : Int32) (h : Hp) : Option (Int32 × Hp) := if v1 < 0 then some ((-1), h) else if v1 ≤ (h 1 1) then some (v1, (up2 h 1 1 v1)) else some ((-1), h)
def f_D_put (v1 : Int32) (h : Hp) : Option (Int32 × Hp) := bd (f_D_find v1 h) (fun r2 h2 => oq r2 (some ((-1), h2)) (fun j7 => chk (cLine j7) (if (h2 1 1) ≤ 200 then bd (f_L_copy j7 1 h2) (fun _u30 h30 => some ((up2 h30 1 1 0) j7 1, (up2 h30 1 1 0))) else some ((-1), h2))))
def f_D_size (v1 : Int32) (h : Hp) : Option (Int32 × Hp) := bd (f_D_find v1 h) (fun r2 h2 => oq r2 (some ((-1), h2)) (fun j7 => chk (cLine j7) (some (h2 j7 1, h2))))
def f_D_at (v1 : Int32) (v2 : Int32) (h : Hp) : Option (Int32 × Hp) := bd (f_D_find v1 h) (fun r2 h2 => oq r2 (some ((-1), h2)) (fun j7 => chk (cLine j7) (bd (f_L_byteAt j7 v2 h2) (fun r16 h16 => some (r16, h16)))))
def f_D_digits (v1 : Int32) (h : Hp) : Option (Int32 × Hp) := if v1 < 1 then some ((-1), h) else if 20 < v1 then some ((-1), h) else if (h 0 10) < v1 then some (1, (up2 h 0 9 v1)) else some ((-1), h)
def f_D_fuzz (v1 : Int32) (h : Hp) : Option (Int32 × Hp) := if v1 < 0 then some ((-1), h) else if v1 < (h 0 9) then some (1, (up2 h 0 10 v1)) else some ((-1), h)
def f_D_form (v1 : Int32) (h : Hp) : Option (Int32 × Hp) := if v1 = 0 then some (1, (up2 h 0 11 v1)) else if v1 = 1 then some (1, (up2 h 0 11 v1)) else some ((-1), h)
def f_D_work (v1 : Int32) (v2 : Int32) (v3 : Int32) (v4 : Int32) (h : Hp) : Option (Int32 × Hp) := bd (f_D_find v2 h) (fun r2 h2 => bd (f_D_find v3 h2) (fun r9 h9 => bd (f_D_find v4 h9) (fun r17 h17 => if v1 < 0 then some ((-1), h17) else if 6 < v1 then some ((-1), h17) else oq r2 (some ((-1), h17)) (fun j34 => chk (cLine j34) (oq r9 (some ((-1), h17)) (fun j39 => chk (cLine j39) (oq r17 (some ((-1), h17)) (fun j44 => chk (cLine j44) (bd (f_D_loadBoth j34 j39 (h17 0 9) h17) (fun r58 h58 => if r58 = 0 then some ((-41), h58) else bd (f_K_reckon v1 29 31 (h58 0 9) 33 h58) (fun r88 h88 => if r88 = 0 then bd (f_D_write 33 j44 h88) (fun r105 h105 => some (r105, h105)) else some (-r88, h88))))))))))))
def f_D_turn (v1 : Int32) (v2 : Int32) (v3 : Int32) (h : Hp) : Option (Int32 × Hp) := bd (f_D_find v2 h) (fun r2 h2 => bd (f_D_find v3 h2) (fun r9 h9 => if v1 < 0 then some ((-1), h9) else if 3 < v1 then some ((-1), h9) else oq r2 (some ((-1), h9)) (fun j25 => chk (cLine j25) (oq r9 (some ((-1), h9)) (fun j30 => chk (cLine j30) (bd (f_D_load j25 29 (h9 0 9) h9) (fun r46 h46 => if r46 = 0 then some ((-41), h46) else if v1 = 1 then bd (f_D_write 29 j30 (up2 h46 29 3 (-(h46 29 3)))) (fun r129 h129 => some (r129, h129)) else if v1 = 2 then bd (f_D_write 29 j30 (up2 h46 29 3 (if 0 ≤ (h46 29 3) then (h46 29 3) else 0 - (h46 29 3)))) (fun r129 h129 => some (r129, h129)) else if v1 = 3 then bd (f_N_becomeUnit 29 (h46 29 3) h46) (fun _u119 h119 => bd (f_D_write 29 j30 h119) (fun r129 h129 => some (r129, h129))) else bd (f_D_write 29 j30 h46) (fun r129 h129 => some (r129, h129)))))))))
def f_D_most_114 (v7 : Nat) (s0 : Int32) (h : Hp) : Option (Int32 × Hp) := if s0 = 0 then bd (f_D_write 29 v7 h) (fun r135 h135 => some (r135, h135)) else bd (f_D_write 31 v7 h) (fun r135 h135 => some (r135, h135))
def f_D_most (v1 : Int32) (v2 : Int32) (v3 : Int32) (v4 : Int32) (h : Hp) : Option (Int32 × Hp) := bd (f_D_find v1 h) (fun r2 h2 => bd (f_D_find v2 h2) (fun r9 h9 => bd (f_D_find v3 h9) (fun r16 h16 => oq r2 (some ((-1), h16)) (fun j23 => chk (cLine j23) (oq r9 (some ((-1), h16)) (fun j28 => chk (cLine j28) (oq r16 (some ((-1), h16)) (fun j33 => chk (cLine j33) (bd (f_D_loadBoth j23 j28 (h16 0 9) h16) (fun r47 h47 => if r47 = 0 then some ((-41), h47) else bd (f_K_sum 29 31 1 33 h47) (fun _u73 h73 => if v4 = 0 then if 0 ≤ (h73 33 3) then f_D_most_114 j33 0 h73 else f_D_most_114 j33 1 h73 else if (h73 33 3) ≤ 0 then f_D_most_114 j33 0 h73 else f_D_most_114 j33 1 h73)))))))))))
def f_D_cut_69 (v2 : Int32) (v5 : Nat) (h : Hp) : Option (Int32 × Hp) := bd (f_D_placesAhead 29 h) (fun r78 h78 => bd (f_D_layOut 29 r78 v2 v5 h78) (fun r84 h84 => some (r84, h84)))
def f_D_cut (v1 : Int32) (v2 : Int32) (v3 : Int32) (h : Hp) : Option (Int32 × Hp) := bd (f_D_find v1 h) (fun r2 h2 => bd (f_D_find v3 h2) (fun r9 h9 => oq r2 (some ((-1), h9)) (fun j16 => chk (cLine j16) (oq r9 (some ((-1), h9)) (fun j21 => chk (cLine j21) (if 0 ≤ v2 then bd (f_D_load j16 29 (h9 0 9) h9) (fun r41 h41 => if r41 = 0 then some ((-41), h41) else bd (f_N_ahead 29 h41) (fun r54 h54 => if (-v2) < r54 then f_D_cut_69 v2 j21 h54 else bd (f_N_clear 29 h54) (fun _u66 h66 => f_D_cut_69 v2 j21 h66))) else some ((-1), h9)))))))
def f_D_column_102 (v6 : Nat) (v7 : Int32) (v8 : Int32) (s0 : Int32) (h : Hp) : Option (Int32 × Hp) := if v8 ≤ s0 then bd (f_D_layOut 29 s0 v7 v6 h) (fun r127 h127 => some (r127, h127)) else some ((-40), h)
def f_D_column_72 (v2 : Int32) (v6 : Nat) (s0 : Int32) (h : Hp) : Option (Int32 × Hp) := bd (f_N_roundToPlaces 29 s0 h) (fun _u80 h80 => bd (f_D_placesAhead 29 h80) (fun r87 h87 => if 0 ≤ v2 then f_D_column_102 v6 s0 r87 v2 h87 else f_D_column_102 v6 s0 r87 r87 h87))
def f_D_column (v1 : Int32) (v2 : Int32) (v3 : Int32) (v4 : Int32) (h : Hp) : Option (Int32 × Hp) := bd (f_D_find v1 h) (fun r2 h2 => bd (f_D_find v4 h2) (fun r10 h10 => oq r2 (some ((-1), h10)) (fun j17 => chk (cLine j17) (oq r10 (some ((-1), h10)) (fun j22 => chk (cLine j22) (if v2 < (-1) then some ((-1), h10) else if (-1) ≤ v3 then bd (f_D_load j17 29 (h10 0 9) h10) (fun r48 h48 => if r48 = 0 then some ((-41), h48) else if 0 ≤ v3 then f_D_column_72 v2 j22 v3 h48 else bd (f_N_places 29 h48) (fun r65 h65 => f_D_column_72 v2 j22 r65 h65)) else some ((-1), h10)))))))
def f_D_compare_81 (v3 : Int32) (v4 : Nat) (v5 : Nat) (h : Hp) : Option (Int32 × Hp) := if v3 = 0 then bd (f_D_looseOrder v4 v5 h) (fun r99 h99 => bd (f_D_standing r99 h99) (fun r102 h102 => some (r102, h102))) else bd (f_D_strictOrder v4 v5 h) (fun r89 h89 => bd (f_D_standing r89 h89) (fun r102 h102 => some (r102, h102)))
def f_D_compare (v1 : Int32) (v2 : Int32) (v3 : Int32) (h : Hp) : Option (Int32 × Hp) := bd (f_D_find v1 h) (fun r2 h2 => bd (f_D_find v2 h2) (fun r9 h9 => oq r2 (some ((-1), h9)) (fun j16 => chk (cLine j16) (oq r9 (some ((-1), h9)) (fun j21 => chk (cLine j21) (if v3 = 0 then bd (f_D_loadBoth j16 j21 ((h9 0 9) - (h9 0 10)) h9) (fun r44 h44 => if r44 = 0 then f_D_compare_81 v3 j16 j21 h44 else bd (f_K_sum 29 31 1 33 h44) (fun _u67 h67 => bd (f_D_standing (h67 33 3) h67) (fun r77 h77 => some (r77, h77)))) else f_D_compare_81 v3 j16 j21 h9))))))
def f_D_whole (v1 : Int32) (h : Hp) : Option (Int32 × Hp) := bd (f_D_find v1 h) (fun r2 h2 => oq r2 (some ((-2000000001), h2)) (fun j7 => chk (cLine j7) (bd (f_D_load j7 29 (h2 0 9) h2) (fun r23 h23 => if r23 = 0 then some ((-2000000000), h23) else bd (f_N_wholeValue 29 h23) (fun r33 h33 => some (r33, h33))))))
def f_D_about (v1 : Int32) (v2 : Int32) (h : Hp) : Option (Int32 × Hp) := bd (f_D_find v1 h) (fun r2 h2 => oq r2 (some ((-1), h2)) (fun j7 => chk (cLine j7) (if v2 < 0 then some ((-1), h2) else if v2 ≤ 3 then bd (f_R_read j7 29 h2) (fun r30 h30 => if r30 = 0 then some (0, h30) else if v2 = 1 then some (h30 29 1, h30) else if v2 = 2 then bd (f_N_firstPower 29 h30) (fun r60 h60 => some (r60, h60)) else if v2 = 0 then some (1, h30) else if 0 ≤ (h30 29 3) then some (0, h30) else some (1, h30)) else some ((-1), h2))))
end
section
def f_M_four_3 : Nat → Int32 → Int32 → Hp → Option (Unit × Hp)
  | 0, _, _, _ => none
  | n + 1, v1, v2, h => if v2 < 0 then some ((), h) else chk (inR (h 46 1) 240) (f_M_four_3 n v1 (v2 + (-8)) (up2 (up2 h 47 (Int32.toNatClampNeg (h 46 1)) ((v1 >>> (v2 &&& 31)) &&& 255)) 46 1 (((up2 h 47 (Int32.toNatClampNeg (h 46 1)) ((v1 >>> (v2 &&& 31)) &&& 255)) 46 1) + 1)))
def f_M_four (v1 : Int32) (h : Hp) : Option (Unit × Hp) := f_M_four_3 fuel v1 24 h
def f_M_feed (v1 : Int32) (v2 : Int32) (v3 : Int32) (v4 : Int32) (v5 : Int32) (h : Hp) : Option (Int32 × Hp) := if ((h 46 1) + 20) ≤ 240 then bd (f_M_four v1 h) (fun _u17 h17 => bd (f_M_four v2 h17) (fun _u22 h22 => bd (f_M_four v3 h22) (fun _u27 h27 => bd (f_M_four v4 h27) (fun _u33 h33 => bd (f_M_four v5 h33) (fun _u39 h39 => some (h39 46 1, h39)))))) else some ((-1), h)
def f_M_end (v1 : Int32) (h : Hp) : Option (Int32 × Hp) := if v1 < 0 then some ((-1), h) else if v1 ≤ (h 46 1) then some (v1, (up2 h 46 1 v1)) else some ((-1), h)
def f_M_isRegister (v0 : Int32) (h : Hp) : Option (Int32 × Hp) := if v0 < 0 then some (0, h) else if 10 ≤ v0 then some (0, h) else some (1, h)
def f_M_put_21 : Nat → Int32 → Int32 → Hp → Option (Int32 × Hp)
  | 0, _, _, _ => none
  | n + 1, v1, v2, h => if (h 46 1) ≤ v2 then chk (inR v1 10) (chk (inR v1 10) (some ((up2 (up2 h 49 (Int32.toNatClampNeg v1) (h 46 1)) 46 1 0) 49 (Int32.toNatClampNeg v1), (up2 (up2 h 49 (Int32.toNatClampNeg v1) (h 46 1)) 46 1 0)))) else chk (inR v2 240) (chk (inR ((200 * v1) + v2) 2000) (f_M_put_21 n v1 (v2 + 1) (up2 h 48 (Int32.toNatClampNeg ((200 * v1) + v2)) (h 47 (Int32.toNatClampNeg v2)))))
def f_M_put (v1 : Int32) (h : Hp) : Option (Int32 × Hp) := bd (f_M_isRegister v1 h) (fun r1 h1 => if r1 = 0 then some ((-1), h1) else if (h1 46 1) ≤ 200 then f_M_put_21 fuel v1 0 h1 else some ((-1), h1))
def f_M_size (v1 : Int32) (h : Hp) : Option (Int32 × Hp) := bd (f_M_isRegister v1 h) (fun r1 h1 => if r1 = 0 then some ((-1), h1) else chk (inR v1 10) (some (h1 49 (Int32.toNatClampNeg v1), h1)))
def f_M_at (v1 : Int32) (v2 : Int32) (h : Hp) : Option (Int32 × Hp) := bd (f_M_isRegister v1 h) (fun r1 h1 => if r1 = 0 then some ((-1), h1) else if v2 < 0 then some ((-1), h1) else chk (inR v1 10) (if (h1 49 (Int32.toNatClampNeg v1)) ≤ v2 then some ((-1), h1) else chk (inR ((200 * v1) + v2) 2000) (some (h1 48 (Int32.toNatClampNeg ((200 * v1) + v2)), h1))))
def f_M_digits (v1 : Int32) (h : Hp) : Option (Int32 × Hp) := if v1 < 1 then some ((-1), h) else if 20 < v1 then some ((-1), h) else if (h 46 5) < v1 then some (1, (up2 h 46 4 v1)) else some ((-1), h)
def f_M_fuzz (v1 : Int32) (h : Hp) : Option (Int32 × Hp) := if v1 < 0 then some ((-1), h) else if v1 < (h 46 4) then some (1, (up2 h 46 5 v1)) else some ((-1), h)
def f_M_form (v1 : Int32) (h : Hp) : Option (Int32 × Hp) := if v1 = 0 then some (1, (up2 h 46 6 v1)) else if v1 = 1 then some (1, (up2 h 46 6 v1)) else some ((-1), h)
def f_M_zero (v1 : Int32) (h : Hp) : Option (Unit × Hp) := chk (inR v1 5) (chk (inR v1 5) (chk (inR v1 5) (chk (inR (2600 * v1) 13000) (some ((), (up2 (up2 (up2 (up2 h 53 (Int32.toNatClampNeg v1) 0) 51 (Int32.toNatClampNeg v1) 1) 52 (Int32.toNatClampNeg v1) 0) 50 (Int32.toNatClampNeg (2600 * v1)) 0))))))
def f_M_copy_38 : Nat → Int32 → Int32 → Int32 → Hp → Option (Unit × Hp)
  | 0, _, _, _, _ => none
  | n + 1, v1, v2, v3, h => chk (inR v1 5) (if (h 51 (Int32.toNatClampNeg v1)) ≤ v3 then some ((), h) else chk (inR ((2600 * v1) + v3) 13000) (chk (inR ((2600 * v2) + v3) 13000) (f_M_copy_38 n v1 v2 (v3 + 1) (up2 h 50 (Int32.toNatClampNeg ((2600 * v2) + v3)) (h 50 (Int32.toNatClampNeg ((2600 * v1) + v3)))))))
def f_M_copy (v1 : Int32) (v2 : Int32) (h : Hp) : Option (Unit × Hp) := chk (inR v1 5) (chk (inR v2 5) (chk (inR v1 5) (chk (inR v2 5) (chk (inR v1 5) (chk (inR v2 5) (f_M_copy_38 fuel v1 v2 0 (up2 (up2 (up2 h 53 (Int32.toNatClampNeg v2) (h 53 (Int32.toNatClampNeg v1))) 51 (Int32.toNatClampNeg v2) ((up2 h 53 (Int32.toNatClampNeg v2) (h 53 (Int32.toNatClampNeg v1))) 51 (Int32.toNatClampNeg v1))) 52 (Int32.toNatClampNeg v2) ((up2 (up2 h 53 (Int32.toNatClampNeg v2) (h 53 (Int32.toNatClampNeg v1))) 51 (Int32.toNatClampNeg v2) ((up2 h 53 (Int32.toNatClampNeg v2) (h 53 (Int32.toNatClampNeg v1))) 51 (Int32.toNatClampNeg v1))) 52 (Int32.toNatClampNeg v1)))))))))
def f_M_settle_61 : Nat → Int32 → Int32 → Int32 → Hp → Option (Unit × Hp)
  | 0, _, _, _, _ => none
  | n + 1, v1, v2, v3, h => chk (inR v1 5) (if (h 51 (Int32.toNatClampNeg v1)) ≤ v3 then some ((), h) else if v2 ≤ 0 then some ((), h) else chk (inR (((2600 * v1) + v3) + v2) 13000) (chk (inR ((2600 * v1) + v3) 13000) (f_M_settle_61 n v1 v2 (v3 + 1) (up2 h 50 (Int32.toNatClampNeg ((2600 * v1) + v3)) (h 50 (Int32.toNatClampNeg (((2600 * v1) + v3) + v2)))))))
def f_M_settle_33 (v1 : Int32) (v2 : Int32) (h : Hp) : Option (Unit × Hp) := chk (inR v1 5) (if v2 = (h 51 (Int32.toNatClampNeg v1)) then bd (f_M_zero v1 h) (fun _u45 h45 => some ((), h45)) else chk (inR v1 5) (chk (inR v1 5) (f_M_settle_61 fuel v1 v2 0 (up2 h 51 (Int32.toNatClampNeg v1) ((h 51 (Int32.toNatClampNeg v1)) - v2)))))
def f_M_settle_2 : Nat → Int32 → Int32 → Hp → Option (Unit × Hp)
  | 0, _, _, _ => none
  | n + 1, v1, v2, h => chk (inR v1 5) (if (h 51 (Int32.toNatClampNeg v1)) ≤ v2 then f_M_settle_33 v1 v2 h else chk (inR ((2600 * v1) + v2) 13000) (if (h 50 (Int32.toNatClampNeg ((2600 * v1) + v2))) = 0 then f_M_settle_2 n v1 (v2 + 1) h else f_M_settle_33 v1 v2 h))
def f_M_settle (v1 : Int32) (h : Hp) : Option (Unit × Hp) := f_M_settle_2 fuel v1 0 h
def f_M_isDigit (v0 : Int32) (h : Hp) : Option (Int32 × Hp) := if v0 < 48 then some (0, h) else if 57 < v0 then some (0, h) else some (1, h)
def f_M_read_440 (v2 : Int32) (v3 : Int32) (v4 : Int32) (v6 : Int32) (v7 : Int32) (v9 : Int32) (s1 : Int32) (s2 : Int32) (h : Hp) : Option (Int32 × Hp) := chk (inR s1 5) (chk (inR v2 5) (chk (inR v2 5) (bd (f_M_settle v2 (up2 (up2 (up2 h 53 (Int32.toNatClampNeg s1) s2) 51 (Int32.toNatClampNeg v2) v6) 52 (Int32.toNatClampNeg v2) (v9 - v7))) (fun _u462 h462 => if v3 = v4 then some (1, h462) else some (0, h462)))))
def f_M_read_423 (v2 : Int32) (v3 : Int32) (v4 : Int32) (v5 : Int32) (v6 : Int32) (v7 : Int32) (s0 : Int32) (h : Hp) : Option (Int32 × Hp) := if v5 = 0 then f_M_read_440 v2 v3 v4 v6 v7 s0 v2 1 h else f_M_read_440 v2 v3 v4 v6 v7 s0 v2 (-1) h
def f_M_read_402 (v2 : Int32) (v3 : Int32) (v4 : Int32) (v5 : Int32) (v6 : Int32) (v7 : Int32) (v9 : Int32) (v10 : Int32) (v11 : Int32) (h : Hp) : Option (Int32 × Hp) := if v3 = v11 then some (0, h) else if v10 = 0 then f_M_read_423 v2 v3 v4 v5 v6 v7 v9 h else f_M_read_423 v2 v3 v4 v5 v6 v7 (-v9) h
def f_M_read_353 : Nat → Int32 → Int32 → Int32 → Int32 → Int32 → Int32 → Int32 → Int32 → Int32 → Hp → Option (Int32 × Hp)
  | 0, _, _, _, _, _, _, _, _, _, _ => none
  | n + 1, v2, v3, v4, v5, v6, v7, v9, v10, v11, h => if v4 ≤ v3 then f_M_read_402 v2 v3 v4 v5 v6 v7 v9 v10 v11 h else chk (inR v3 2000) (bd (f_M_isDigit (h 48 (Int32.toNatClampNeg v3)) h) (fun r365 h365 => if r365 = 0 then f_M_read_402 v2 v3 v4 v5 v6 v7 v9 v10 v11 h365 else if 3 ≤ (v3 - v11) then f_M_read_402 v2 v3 v4 v5 v6 v7 v9 v10 v11 h365 else chk (inR v3 2000) (f_M_read_353 n v2 (v3 + 1) v4 v5 v6 v7 (((10 * v9) + (h365 48 (Int32.toNatClampNeg v3))) - 48) v10 v11 h365)))
def f_M_read_312 (v2 : Int32) (v3 : Int32) (v4 : Int32) (v5 : Int32) (v6 : Int32) (v7 : Int32) (v9 : Int32) (s0 : Int32) (h : Hp) : Option (Int32 × Hp) := if v4 ≤ v3 then f_M_read_353 fuel v2 (v3 + 0) v4 v5 v6 v7 v9 s0 (v3 + 0) h else chk (inR v3 2000) (if (h 48 (Int32.toNatClampNeg v3)) = 43 then f_M_read_353 fuel v2 (v3 + 1) v4 v5 v6 v7 v9 s0 (v3 + 1) h else chk (inR v3 2000) (if (h 48 (Int32.toNatClampNeg v3)) = 45 then f_M_read_353 fuel v2 (v3 + 1) v4 v5 v6 v7 v9 s0 (v3 + 1) h else f_M_read_353 fuel v2 (v3 + 0) v4 v5 v6 v7 v9 s0 (v3 + 0) h))
def f_M_read_287 (v2 : Int32) (v3 : Int32) (v4 : Int32) (v5 : Int32) (v6 : Int32) (v7 : Int32) (v9 : Int32) (h : Hp) : Option (Int32 × Hp) := if v4 ≤ (v3 + 1) then f_M_read_312 v2 (v3 + 1) v4 v5 v6 v7 v9 0 h else chk (inR (v3 + 1) 2000) (if (h 48 (Int32.toNatClampNeg (v3 + 1))) = 45 then f_M_read_312 v2 (v3 + 1) v4 v5 v6 v7 v9 1 h else f_M_read_312 v2 (v3 + 1) v4 v5 v6 v7 v9 0 h)
def f_M_read_249 (v2 : Int32) (v3 : Int32) (v4 : Int32) (v5 : Int32) (v6 : Int32) (v7 : Int32) (h : Hp) : Option (Int32 × Hp) := if v6 = 0 then some (0, h) else if v4 ≤ v3 then if v5 = 0 then f_M_read_440 v2 v3 v4 v6 v7 0 v2 1 h else f_M_read_440 v2 v3 v4 v6 v7 0 v2 (-1) h else chk (inR v3 2000) (if (h 48 (Int32.toNatClampNeg v3)) = 69 then f_M_read_287 v2 v3 v4 v5 v6 v7 0 h else chk (inR v3 2000) (if (h 48 (Int32.toNatClampNeg v3)) = 101 then f_M_read_287 v2 v3 v4 v5 v6 v7 0 h else if v5 = 0 then f_M_read_440 v2 v3 v4 v6 v7 0 v2 1 h else f_M_read_440 v2 v3 v4 v6 v7 0 v2 (-1) h))
def f_M_read_186 (k152 : Int32 → Int32 → Int32 → Int32 → Int32 → Int32 → Int32 → Hp → Option (Int32 × Hp)) (v2 : Int32) (v3 : Int32) (v4 : Int32) (v5 : Int32) (v6 : Int32) (v7 : Int32) (v8 : Int32) (h : Hp) : Option (Int32 × Hp) := chk (inR v3 2000) (if (h 48 (Int32.toNatClampNeg v3)) = 46 then k152 v2 (v3 + 1) v4 v5 v6 v7 1 h else chk (inR v3 2000) (chk (inR ((2600 * v2) + v6) 13000) (if v8 = 0 then k152 v2 (v3 + 1) v4 v5 (v6 + 1) (v7 + 0) v8 (up2 h 50 (Int32.toNatClampNeg ((2600 * v2) + v6)) ((h 48 (Int32.toNatClampNeg v3)) - 48)) else k152 v2 (v3 + 1) v4 v5 (v6 + 1) (v7 + 1) v8 (up2 h 50 (Int32.toNatClampNeg ((2600 * v2) + v6)) ((h 48 (Int32.toNatClampNeg v3)) - 48)))))
def f_M_read_152 : Nat → Int32 → Int32 → Int32 → Int32 → Int32 → Int32 → Int32 → Hp → Option (Int32 × Hp)
  | 0, _, _, _, _, _, _, _, _ => none
  | n + 1, v2, v3, v4, v5, v6, v7, v8, h => if v4 ≤ v3 then f_M_read_249 v2 v3 v4 v5 v6 v7 h else chk (inR v3 2000) (bd (f_M_isDigit (h 48 (Int32.toNatClampNeg v3)) h) (fun r164 h164 => if r164 = 0 then chk (inR v3 2000) (if (h164 48 (Int32.toNatClampNeg v3)) = 46 then if v8 = 0 then f_M_read_186 (fun v2 v3 v4 v5 v6 v7 v8 h => f_M_read_152 n v2 v3 v4 v5 v6 v7 v8 h) v2 v3 v4 v5 v6 v7 v8 h164 else f_M_read_249 v2 v3 v4 v5 v6 v7 h164 else f_M_read_249 v2 v3 v4 v5 v6 v7 h164) else f_M_read_186 (fun v2 v3 v4 v5 v6 v7 v8 h => f_M_read_152 n v2 v3 v4 v5 v6 v7 v8 h) v2 v3 v4 v5 v6 v7 v8 h164))
def f_M_read_120 : Nat → Int32 → Int32 → Int32 → Int32 → Hp → Option (Int32 × Hp)
  | 0, _, _, _, _, _ => none
  | n + 1, v2, v3, v4, v5, h => if v4 ≤ v3 then f_M_read_152 fuel v2 v3 v4 v5 0 0 0 h else chk (inR v3 2000) (if (h 48 (Int32.toNatClampNeg v3)) = 32 then f_M_read_120 n v2 (v3 + 1) v4 v5 h else f_M_read_152 fuel v2 v3 v4 v5 0 0 0 h)
def f_M_read_87 (v2 : Int32) (v3 : Int32) (v4 : Int32) (s0 : Int32) (h : Hp) : Option (Int32 × Hp) := if v4 ≤ v3 then f_M_read_152 fuel v2 v3 v4 s0 0 0 0 h else chk (inR v3 2000) (if (h 48 (Int32.toNatClampNeg v3)) = 43 then f_M_read_120 fuel v2 (v3 + 1) v4 s0 h else chk (inR v3 2000) (if (h 48 (Int32.toNatClampNeg v3)) = 45 then f_M_read_120 fuel v2 (v3 + 1) v4 s0 h else f_M_read_152 fuel v2 v3 v4 s0 0 0 0 h))
def f_M_read_65 (v2 : Int32) (v3 : Int32) (v4 : Int32) (h : Hp) : Option (Int32 × Hp) := if v4 ≤ v3 then f_M_read_87 v2 v3 v4 0 h else chk (inR v3 2000) (if (h 48 (Int32.toNatClampNeg v3)) = 45 then f_M_read_87 v2 v3 v4 1 h else f_M_read_87 v2 v3 v4 0 h)
def f_M_read_39 : Nat → Int32 → Int32 → Int32 → Hp → Option (Int32 × Hp)
  | 0, _, _, _, _ => none
  | n + 1, v2, v3, v4, h => if v4 ≤ v3 then f_M_read_65 v2 v3 v4 h else chk (inR (v4 - 1) 2000) (if (h 48 (Int32.toNatClampNeg (v4 - 1))) = 32 then f_M_read_39 n v2 v3 (v4 + (-1)) h else f_M_read_65 v2 v3 v4 h)
def f_M_read_16 : Nat → Int32 → Int32 → Int32 → Hp → Option (Int32 × Hp)
  | 0, _, _, _, _ => none
  | n + 1, v2, v3, v4, h => if v4 ≤ v3 then f_M_read_39 fuel v2 v3 v4 h else chk (inR v3 2000) (if (h 48 (Int32.toNatClampNeg v3)) = 32 then f_M_read_16 n v2 (v3 + 1) v4 h else f_M_read_39 fuel v2 v3 v4 h)
def f_M_read (v1 : Int32) (v2 : Int32) (h : Hp) : Option (Int32 × Hp) := chk (inR v1 10) (f_M_read_16 fuel v2 (200 * v1) ((200 * v1) + (h 49 (Int32.toNatClampNeg v1))) h)
def f_M_high (v1 : Int32) (h : Hp) : Option (Int32 × Hp) := chk (inR v1 5) (chk (inR v1 5) (some (((h 51 (Int32.toNatClampNeg v1)) - 1) + (h 52 (Int32.toNatClampNeg v1)), h)))
def f_M_digit (v1 : Int32) (v2 : Int32) (h : Hp) : Option (Int32 × Hp) := bd (f_M_high v1 h) (fun r2 h2 => if (r2 - v2) < 0 then some (0, h2) else chk (inR v1 5) (if (h2 51 (Int32.toNatClampNeg v1)) ≤ (r2 - v2) then some (0, h2) else chk (inR ((2600 * v1) + (r2 - v2)) 13000) (some (h2 50 (Int32.toNatClampNeg ((2600 * v1) + (r2 - v2))), h2))))
def f_M_round_137 (v1 : Int32) (v3 : Int32) (h : Hp) : Option (Unit × Hp) := if v3 = 0 then some ((), h) else chk (inR (2600 * v1) 13000) (chk (inR v1 5) (chk (inR v1 5) (some ((), (up2 (up2 h 50 (Int32.toNatClampNeg (2600 * v1)) 1) 52 (Int32.toNatClampNeg v1) (((up2 h 50 (Int32.toNatClampNeg (2600 * v1)) 1) 52 (Int32.toNatClampNeg v1)) + 1))))))
def f_M_round_94 (k62 : Int32 → Int32 → Int32 → Hp → Option (Unit × Hp)) (v1 : Int32) (v4 : Int32) (s0 : Int32) (h : Hp) : Option (Unit × Hp) := if s0 = 0 then chk (inR ((2600 * v1) + v4) 13000) (chk (inR ((2600 * v1) + v4) 13000) (k62 v1 s0 (v4 + (-1)) (up2 h 50 (Int32.toNatClampNeg ((2600 * v1) + v4)) ((h 50 (Int32.toNatClampNeg ((2600 * v1) + v4))) + 1)))) else chk (inR ((2600 * v1) + v4) 13000) (k62 v1 s0 (v4 + (-1)) (up2 h 50 (Int32.toNatClampNeg ((2600 * v1) + v4)) 0))
def f_M_round_62 : Nat → Int32 → Int32 → Int32 → Hp → Option (Unit × Hp)
  | 0, _, _, _, _ => none
  | n + 1, v1, v3, v4, h => if v4 < 0 then f_M_round_137 v1 v3 h else if v3 = 0 then f_M_round_137 v1 v3 h else chk (inR ((2600 * v1) + v4) 13000) (if (h 50 (Int32.toNatClampNeg ((2600 * v1) + v4))) = 9 then f_M_round_94 (fun v1 v3 v4 h => f_M_round_62 n v1 v3 v4 h) v1 v4 1 h else f_M_round_94 (fun v1 v3 v4 h => f_M_round_62 n v1 v3 v4 h) v1 v4 0 h)
def f_M_round_32 (v1 : Int32) (v2 : Int32) (s0 : Int32) (h : Hp) : Option (Unit × Hp) := chk (inR v1 5) (chk (inR v1 5) (chk (inR v1 5) (chk (inR v1 5) (f_M_round_62 fuel v1 s0 (v2 - 1) (up2 (up2 h 52 (Int32.toNatClampNeg v1) ((h 52 (Int32.toNatClampNeg v1)) + ((h 51 (Int32.toNatClampNeg v1)) - v2))) 51 (Int32.toNatClampNeg v1) v2)))))
def f_M_round (v1 : Int32) (v2 : Int32) (h : Hp) : Option (Unit × Hp) := chk (inR v1 5) (if v2 < (h 51 (Int32.toNatClampNeg v1)) then chk (inR ((2600 * v1) + v2) 13000) (if (h 50 (Int32.toNatClampNeg ((2600 * v1) + v2))) < 5 then f_M_round_32 v1 v2 0 h else f_M_round_32 v1 v2 1 h) else some ((), h))
def f_M_noZeros_0 : Nat → Int32 → Hp → Option (Unit × Hp)
  | 0, _, _ => none
  | n + 1, v1, h => chk (inR v1 5) (if (h 51 (Int32.toNatClampNeg v1)) ≤ 1 then some ((), h) else chk (inR v1 5) (chk (inR (((2600 * v1) + (h 51 (Int32.toNatClampNeg v1))) - 1) 13000) (if (h 50 (Int32.toNatClampNeg (((2600 * v1) + (h 51 (Int32.toNatClampNeg v1))) - 1))) = 0 then chk (inR v1 5) (chk (inR v1 5) (chk (inR v1 5) (chk (inR v1 5) (f_M_noZeros_0 n v1 (up2 (up2 h 51 (Int32.toNatClampNeg v1) ((h 51 (Int32.toNatClampNeg v1)) - 1)) 52 (Int32.toNatClampNeg v1) (((up2 h 51 (Int32.toNatClampNeg v1) ((h 51 (Int32.toNatClampNeg v1)) - 1)) 52 (Int32.toNatClampNeg v1)) + 1)))))) else some ((), h))))
def f_M_noZeros (v1 : Int32) (h : Hp) : Option (Unit × Hp) := f_M_noZeros_0 fuel v1 h
def f_M_add_351 (v4 : Int32) (v6 : Int32) (v7 : Int32) (s1 : Int32) (s2 : Int32) (h : Hp) : Option (Unit × Hp) := chk (inR s1 5) (chk (inR v4 5) (chk (inR v4 5) (bd (f_M_settle v4 (up2 (up2 (up2 h 53 (Int32.toNatClampNeg s1) s2) 51 (Int32.toNatClampNeg v4) ((v7 - v6) + 1)) 52 (Int32.toNatClampNeg v4) v6)) (fun _u378 h378 => some ((), h378)))))
def f_M_add_281 (k194 : Int32 → Int32 → Int32 → Int32 → Int32 → Int32 → Int32 → Int32 → Int32 → Int32 → Hp → Option (Unit × Hp)) (v1 : Int32) (v2 : Int32) (v4 : Int32) (v5 : Int32) (v6 : Int32) (v7 : Int32) (v8 : Int32) (v9 : Int32) (v11 : Int32) (v12 : Int32) (s0 : Int32) (h : Hp) : Option (Unit × Hp) := if 0 ≤ v12 then chk (inR (((2600 * v4) + v7) - v11) 13000) (k194 v1 v2 v4 v5 v6 v7 v8 v9 s0 (v11 + 1) (up2 h 50 (Int32.toNatClampNeg (((2600 * v4) + v7) - v11)) (v12 - v12 / 10 * 10))) else chk (inR (((2600 * v4) + v7) - v11) 13000) (k194 v1 v2 v4 v5 v6 v7 v8 v9 s0 (v11 + 1) (up2 h 50 (Int32.toNatClampNeg (((2600 * v4) + v7) - v11)) (v12 + 10)))
def f_M_add_264 (k194 : Int32 → Int32 → Int32 → Int32 → Int32 → Int32 → Int32 → Int32 → Int32 → Int32 → Hp → Option (Unit × Hp)) (v1 : Int32) (v2 : Int32) (v4 : Int32) (v5 : Int32) (v6 : Int32) (v7 : Int32) (v8 : Int32) (v9 : Int32) (v11 : Int32) (s0 : Int32) (s1 : Int32) (h : Hp) : Option (Unit × Hp) := if 0 ≤ (s0 + s1) then f_M_add_281 k194 v1 v2 v4 v5 v6 v7 v8 v9 v11 (s0 + s1) ((s0 + s1) / 10) h else f_M_add_281 k194 v1 v2 v4 v5 v6 v7 v8 v9 v11 (s0 + s1) (-1) h
def f_M_add_194 : Nat → Int32 → Int32 → Int32 → Int32 → Int32 → Int32 → Int32 → Int32 → Int32 → Int32 → Hp → Option (Unit × Hp)
  | 0, _, _, _, _, _, _, _, _, _, _, _ => none
  | n + 1, v1, v2, v4, v5, v6, v7, v8, v9, v10, v11, h => if v7 < v11 then if v9 = 0 then if v8 < 0 then f_M_add_351 v4 v6 v7 v4 v5 h else chk (inR v1 5) (f_M_add_351 v4 v6 v7 v4 (h 53 (Int32.toNatClampNeg v1)) h) else chk (inR v1 5) (f_M_add_351 v4 v6 v7 v4 (h 53 (Int32.toNatClampNeg v1)) h) else if v9 = 0 then if v8 < 0 then bd (f_M_digit v2 v11 h) (fun r253 h253 => bd (f_M_digit v1 v11 h253) (fun r260 h260 => f_M_add_264 (fun v1 v2 v4 v5 v6 v7 v8 v9 v10 v11 h => f_M_add_194 n v1 v2 v4 v5 v6 v7 v8 v9 v10 v11 h) v1 v2 v4 v5 v6 v7 v8 v9 v11 v10 (r253 - r260) h260)) else bd (f_M_digit v1 v11 h) (fun r235 h235 => bd (f_M_digit v2 v11 h235) (fun r242 h242 => f_M_add_264 (fun v1 v2 v4 v5 v6 v7 v8 v9 v10 v11 h => f_M_add_194 n v1 v2 v4 v5 v6 v7 v8 v9 v10 v11 h) v1 v2 v4 v5 v6 v7 v8 v9 v11 v10 (r235 - r242) h242)) else bd (f_M_digit v1 v11 h) (fun r212 h212 => bd (f_M_digit v2 v11 h212) (fun r219 h219 => f_M_add_264 (fun v1 v2 v4 v5 v6 v7 v8 v9 v10 v11 h => f_M_add_194 n v1 v2 v4 v5 v6 v7 v8 v9 v10 v11 h) v1 v2 v4 v5 v6 v7 v8 v9 v11 v10 (r212 + r219) h219))
def f_M_add_169 (v1 : Int32) (v2 : Int32) (v4 : Int32) (v5 : Int32) (v6 : Int32) (v7 : Int32) (v8 : Int32) (h : Hp) : Option (Unit × Hp) := chk (inR v1 5) (if (h 53 (Int32.toNatClampNeg v1)) = v5 then f_M_add_194 fuel v1 v2 v4 v5 v6 v7 v8 1 0 v6 h else f_M_add_194 fuel v1 v2 v4 v5 v6 v7 v8 0 0 v6 h)
def f_M_add_134 : Nat → Int32 → Int32 → Int32 → Int32 → Int32 → Int32 → Int32 → Int32 → Hp → Option (Unit × Hp)
  | 0, _, _, _, _, _, _, _, _, _ => none
  | n + 1, v1, v2, v4, v5, v6, v7, v8, v9, h => if v9 < v6 then f_M_add_169 v1 v2 v4 v5 v6 v7 v8 h else if v8 = 0 then bd (f_M_digit v1 v9 h) (fun r150 h150 => bd (f_M_digit v2 v9 h150) (fun r157 h157 => f_M_add_134 n v1 v2 v4 v5 v6 v7 (r150 - r157) (v9 + (-1)) h157)) else f_M_add_169 v1 v2 v4 v5 v6 v7 v8 h
def f_M_add_95 (v1 : Int32) (v2 : Int32) (v4 : Int32) (v5 : Int32) (s0 : Int32) (h : Hp) : Option (Unit × Hp) := bd (f_M_high v1 h) (fun r99 h99 => bd (f_M_high v2 h99) (fun r104 h104 => if r99 ≤ r104 then bd (f_M_high v2 h104) (fun r120 h120 => f_M_add_134 fuel v1 v2 v4 v5 s0 (r120 + 1) 0 (r120 + 1) h120) else bd (f_M_high v1 h104) (fun r112 h112 => f_M_add_134 fuel v1 v2 v4 v5 s0 (r112 + 1) 0 (r112 + 1) h112)))
def f_M_add_20 (v1 : Int32) (v2 : Int32) (v4 : Int32) (s0 : Int32) (h : Hp) : Option (Unit × Hp) := chk (inR v2 5) (if (h 53 (Int32.toNatClampNeg v2)) = 0 then bd (f_M_copy v1 v4 h) (fun _u35 h35 => some ((), h35)) else chk (inR v1 5) (if (h 53 (Int32.toNatClampNeg v1)) = 0 then bd (f_M_copy v2 v4 h) (fun _u52 h52 => chk (inR v4 5) (some ((), (up2 h52 53 (Int32.toNatClampNeg v4) s0)))) else chk (inR v1 5) (chk (inR v2 5) (if (h 52 (Int32.toNatClampNeg v2)) ≤ (h 52 (Int32.toNatClampNeg v1)) then chk (inR v2 5) (f_M_add_95 v1 v2 v4 s0 (h 52 (Int32.toNatClampNeg v2)) h) else chk (inR v1 5) (f_M_add_95 v1 v2 v4 s0 (h 52 (Int32.toNatClampNeg v1)) h)))))
def f_M_add (v1 : Int32) (v2 : Int32) (v3 : Int32) (v4 : Int32) (h : Hp) : Option (Unit × Hp) := if v3 = 0 then chk (inR v2 5) (f_M_add_20 v1 v2 v4 (h 53 (Int32.toNatClampNeg v2)) h) else chk (inR v2 5) (f_M_add_20 v1 v2 v4 (-(h 53 (Int32.toNatClampNeg v2))) h)
def f_M_multiply_92 (k77 : Int32 → Int32 → Int32 → Int32 → Int32 → Hp → Option (Unit × Hp)) : Nat → Int32 → Int32 → Int32 → Int32 → Int32 → Int32 → Hp → Option (Unit × Hp)
  | 0, _, _, _, _, _, _, _ => none
  | n + 1, v1, v2, v3, v4, v5, v6, h => if v6 < 0 then k77 v1 v2 v3 v4 (v5 + (-1)) h else chk (inR ((((2600 * v3) + v5) + v6) + 1) 13000) (chk (inR ((2600 * v1) + v5) 13000) (chk (inR ((2600 * v2) + v6) 13000) (chk (inR ((((2600 * v3) + v5) + v6) + 1) 13000) (chk (inR (((2600 * v3) + v5) + v6) 13000) (chk (inR (((2600 * v3) + v5) + v6) 13000) (f_M_multiply_92 k77 n v1 v2 v3 v4 v5 (v6 + (-1)) (up2 (up2 h 50 (Int32.toNatClampNeg ((((2600 * v3) + v5) + v6) + 1)) (((h 50 (Int32.toNatClampNeg ((((2600 * v3) + v5) + v6) + 1))) + ((h 50 (Int32.toNatClampNeg ((2600 * v1) + v5))) * (h 50 (Int32.toNatClampNeg ((2600 * v2) + v6))))) - ((h 50 (Int32.toNatClampNeg ((((2600 * v3) + v5) + v6) + 1))) + ((h 50 (Int32.toNatClampNeg ((2600 * v1) + v5))) * (h 50 (Int32.toNatClampNeg ((2600 * v2) + v6))))) / 10 * 10)) 50 (Int32.toNatClampNeg (((2600 * v3) + v5) + v6)) (((up2 h 50 (Int32.toNatClampNeg ((((2600 * v3) + v5) + v6) + 1)) (((h 50 (Int32.toNatClampNeg ((((2600 * v3) + v5) + v6) + 1))) + ((h 50 (Int32.toNatClampNeg ((2600 * v1) + v5))) * (h 50 (Int32.toNatClampNeg ((2600 * v2) + v6))))) - ((h 50 (Int32.toNatClampNeg ((((2600 * v3) + v5) + v6) + 1))) + ((h 50 (Int32.toNatClampNeg ((2600 * v1) + v5))) * (h 50 (Int32.toNatClampNeg ((2600 * v2) + v6))))) / 10 * 10)) 50 (Int32.toNatClampNeg (((2600 * v3) + v5) + v6))) + (((h 50 (Int32.toNatClampNeg ((((2600 * v3) + v5) + v6) + 1))) + ((h 50 (Int32.toNatClampNeg ((2600 * v1) + v5))) * (h 50 (Int32.toNatClampNeg ((2600 * v2) + v6))))) / 10)))))))))
def f_M_multiply_77 : Nat → Int32 → Int32 → Int32 → Int32 → Int32 → Hp → Option (Unit × Hp)
  | 0, _, _, _, _, _, _ => none
  | n + 1, v1, v2, v3, v4, v5, h => if v5 < 0 then chk (inR v1 5) (chk (inR v2 5) (chk (inR v3 5) (chk (inR v3 5) (chk (inR v1 5) (chk (inR v2 5) (chk (inR v3 5) (bd (f_M_settle v3 (up2 (up2 (up2 h 53 (Int32.toNatClampNeg v3) ((h 53 (Int32.toNatClampNeg v1)) * (h 53 (Int32.toNatClampNeg v2)))) 51 (Int32.toNatClampNeg v3) v4) 52 (Int32.toNatClampNeg v3) (((up2 (up2 h 53 (Int32.toNatClampNeg v3) ((h 53 (Int32.toNatClampNeg v1)) * (h 53 (Int32.toNatClampNeg v2)))) 51 (Int32.toNatClampNeg v3) v4) 52 (Int32.toNatClampNeg v1)) + ((up2 (up2 h 53 (Int32.toNatClampNeg v3) ((h 53 (Int32.toNatClampNeg v1)) * (h 53 (Int32.toNatClampNeg v2)))) 51 (Int32.toNatClampNeg v3) v4) 52 (Int32.toNatClampNeg v2))))) (fun _u252 h252 => some ((), h252))))))))) else chk (inR v2 5) (f_M_multiply_92 (fun v1 v2 v3 v4 v5 h => f_M_multiply_77 n v1 v2 v3 v4 v5 h) fuel v1 v2 v3 v4 v5 ((h 51 (Int32.toNatClampNeg v2)) - 1) h)
def f_M_multiply_40 : Nat → Int32 → Int32 → Int32 → Int32 → Int32 → Hp → Option (Unit × Hp)
  | 0, _, _, _, _, _, _ => none
  | n + 1, v1, v2, v3, v4, v5, h => if v4 ≤ v5 then chk (inR v1 5) (f_M_multiply_77 fuel v1 v2 v3 v4 ((h 51 (Int32.toNatClampNeg v1)) - 1) h) else chk (inR ((2600 * v3) + v5) 13000) (f_M_multiply_40 n v1 v2 v3 v4 (v5 + 1) (up2 h 50 (Int32.toNatClampNeg ((2600 * v3) + v5)) 0))
def f_M_multiply (v1 : Int32) (v2 : Int32) (v3 : Int32) (h : Hp) : Option (Unit × Hp) := chk (inR v1 5) (chk (inR v2 5) (if ((h 53 (Int32.toNatClampNeg v1)) * (h 53 (Int32.toNatClampNeg v2))) = 0 then bd (f_M_zero v3 h) (fun _u18 h18 => some ((), h18)) else chk (inR v1 5) (chk (inR v2 5) (f_M_multiply_40 fuel v1 v2 v3 ((h 51 (Int32.toNatClampNeg v1)) + (h 51 (Int32.toNatClampNeg v2))) 0 h))))
def f_M_isEnough_13 : Nat → Int32 → Int32 → Hp → Option (Int32 × Hp)
  | 0, _, _, _ => none
  | n + 1, v1, v2, h => chk (inR v1 5) (if (h 51 (Int32.toNatClampNeg v1)) ≤ v2 then some (1, h) else chk (inR (v2 + 1) 300) (chk (inR ((2600 * v1) + v2) 13000) (if (h 54 (Int32.toNatClampNeg (v2 + 1))) = (h 50 (Int32.toNatClampNeg ((2600 * v1) + v2))) then f_M_isEnough_13 n v1 (v2 + 1) h else chk (inR (v2 + 1) 300) (chk (inR ((2600 * v1) + v2) 13000) (if (h 54 (Int32.toNatClampNeg (v2 + 1))) ≤ (h 50 (Int32.toNatClampNeg ((2600 * v1) + v2))) then some (0, h) else some (1, h))))))
def f_M_isEnough (v1 : Int32) (h : Hp) : Option (Int32 × Hp) := chk (inR 0 300) (if (h 54 (Int32.toNatClampNeg 0)) ≤ 0 then f_M_isEnough_13 fuel v1 0 h else some (1, h))
def f_M_divide_257 (k50 : Int32 → Int32 → Int32 → Int32 → Int32 → Int32 → Hp → Option (Unit × Hp)) (v1 : Int32) (v2 : Int32) (v3 : Int32) (v4 : Int32) (v5 : Int32) (v6 : Int32) (v7 : Int32) (h : Hp) : Option (Unit × Hp) := chk (inR ((2600 * v4) + v5) 13000) (k50 v1 v2 v3 v4 (v5 + 1) v6 (up2 h 50 (Int32.toNatClampNeg ((2600 * v4) + v5)) v7))
def f_M_divide_208 (k156 : Int32 → Int32 → Int32 → Int32 → Int32 → Int32 → Int32 → Int32 → Int32 → Hp → Option (Unit × Hp)) (v1 : Int32) (v2 : Int32) (v3 : Int32) (v4 : Int32) (v5 : Int32) (v6 : Int32) (v7 : Int32) (v9 : Int32) (v10 : Int32) (s0 : Int32) (h : Hp) : Option (Unit × Hp) := if 0 ≤ v10 then chk (inR v9 300) (k156 v1 v2 v3 v4 v5 v6 v7 s0 (v9 + (-1)) (up2 h 54 (Int32.toNatClampNeg v9) v10)) else chk (inR v9 300) (k156 v1 v2 v3 v4 v5 v6 v7 s0 (v9 + (-1)) (up2 h 54 (Int32.toNatClampNeg v9) (v10 + 10)))
def f_M_divide_156 (k137 : Int32 → Int32 → Int32 → Int32 → Int32 → Int32 → Int32 → Hp → Option (Unit × Hp)) : Nat → Int32 → Int32 → Int32 → Int32 → Int32 → Int32 → Int32 → Int32 → Int32 → Hp → Option (Unit × Hp)
  | 0, _, _, _, _, _, _, _, _, _, _ => none
  | n + 1, v1, v2, v3, v4, v5, v6, v7, v8, v9, h => if v9 < 0 then k137 v1 v2 v3 v4 v5 v6 (v7 + 1) h else chk (inR v9 300) (if v9 ≤ 0 then if 0 ≤ (((h 54 (Int32.toNatClampNeg v9)) + v8) - 0) then f_M_divide_208 (fun v1 v2 v3 v4 v5 v6 v7 v8 v9 h => f_M_divide_156 k137 n v1 v2 v3 v4 v5 v6 v7 v8 v9 h) v1 v2 v3 v4 v5 v6 v7 v9 (((h 54 (Int32.toNatClampNeg v9)) + v8) - 0) 0 h else f_M_divide_208 (fun v1 v2 v3 v4 v5 v6 v7 v8 v9 h => f_M_divide_156 k137 n v1 v2 v3 v4 v5 v6 v7 v8 v9 h) v1 v2 v3 v4 v5 v6 v7 v9 (((h 54 (Int32.toNatClampNeg v9)) + v8) - 0) (-1) h else chk (inR (((2600 * v2) + v9) - 1) 13000) (if 0 ≤ (((h 54 (Int32.toNatClampNeg v9)) + v8) - (h 50 (Int32.toNatClampNeg (((2600 * v2) + v9) - 1)))) then f_M_divide_208 (fun v1 v2 v3 v4 v5 v6 v7 v8 v9 h => f_M_divide_156 k137 n v1 v2 v3 v4 v5 v6 v7 v8 v9 h) v1 v2 v3 v4 v5 v6 v7 v9 (((h 54 (Int32.toNatClampNeg v9)) + v8) - (h 50 (Int32.toNatClampNeg (((2600 * v2) + v9) - 1)))) 0 h else f_M_divide_208 (fun v1 v2 v3 v4 v5 v6 v7 v8 v9 h => f_M_divide_156 k137 n v1 v2 v3 v4 v5 v6 v7 v8 v9 h) v1 v2 v3 v4 v5 v6 v7 v9 (((h 54 (Int32.toNatClampNeg v9)) + v8) - (h 50 (Int32.toNatClampNeg (((2600 * v2) + v9) - 1)))) (-1) h))
def f_M_divide_137 (k50 : Int32 → Int32 → Int32 → Int32 → Int32 → Int32 → Hp → Option (Unit × Hp)) : Nat → Int32 → Int32 → Int32 → Int32 → Int32 → Int32 → Int32 → Hp → Option (Unit × Hp)
  | 0, _, _, _, _, _, _, _, _ => none
  | n + 1, v1, v2, v3, v4, v5, v6, v7, h => bd (f_M_isEnough v2 h) (fun r139 h139 => if r139 = 0 then if v5 = 0 then if v7 = 0 then k50 v1 v2 v3 v4 v5 v6 h139 else f_M_divide_257 k50 v1 v2 v3 v4 v5 v6 v7 h139 else f_M_divide_257 k50 v1 v2 v3 v4 v5 v6 v7 h139 else chk (inR v2 5) (f_M_divide_156 (fun v1 v2 v3 v4 v5 v6 v7 h => f_M_divide_137 k50 n v1 v2 v3 v4 v5 v6 v7 h) fuel v1 v2 v3 v4 v5 v6 v7 0 (h139 51 (Int32.toNatClampNeg v2)) h139))
def f_M_divide_59 (k50 : Int32 → Int32 → Int32 → Int32 → Int32 → Int32 → Hp → Option (Unit × Hp)) : Nat → Int32 → Int32 → Int32 → Int32 → Int32 → Int32 → Int32 → Hp → Option (Unit × Hp)
  | 0, _, _, _, _, _, _, _, _ => none
  | n + 1, v1, v2, v3, v4, v5, v6, v7, h => chk (inR v2 5) (if (h 51 (Int32.toNatClampNeg v2)) ≤ v7 then chk (inR v2 5) (chk (inR v1 5) (if (h 51 (Int32.toNatClampNeg v1)) ≤ v6 then chk (inR (h 51 (Int32.toNatClampNeg v2)) 300) (f_M_divide_137 k50 fuel v1 v2 v3 v4 v5 (v6 + 1) 0 (up2 h 54 (Int32.toNatClampNeg (h 51 (Int32.toNatClampNeg v2))) 0)) else chk (inR ((2600 * v1) + v6) 13000) (chk (inR (h 51 (Int32.toNatClampNeg v2)) 300) (f_M_divide_137 k50 fuel v1 v2 v3 v4 v5 (v6 + 1) 0 (up2 h 54 (Int32.toNatClampNeg (h 51 (Int32.toNatClampNeg v2))) (h 50 (Int32.toNatClampNeg ((2600 * v1) + v6)))))))) else chk (inR (v7 + 1) 300) (chk (inR v7 300) (f_M_divide_59 k50 n v1 v2 v3 v4 v5 v6 (v7 + 1) (up2 h 54 (Int32.toNatClampNeg v7) (h 54 (Int32.toNatClampNeg (v7 + 1)))))))
def f_M_divide_50 : Nat → Int32 → Int32 → Int32 → Int32 → Int32 → Int32 → Hp → Option (Unit × Hp)
  | 0, _, _, _, _, _, _, _ => none
  | n + 1, v1, v2, v3, v4, v5, v6, h => if v3 < v5 then chk (inR v1 5) (chk (inR v2 5) (chk (inR v4 5) (chk (inR v4 5) (chk (inR v1 5) (chk (inR v2 5) (chk (inR v1 5) (chk (inR v4 5) (some ((), (up2 (up2 (up2 h 53 (Int32.toNatClampNeg v4) ((h 53 (Int32.toNatClampNeg v1)) * (h 53 (Int32.toNatClampNeg v2)))) 51 (Int32.toNatClampNeg v4) v5) 52 (Int32.toNatClampNeg v4) (((((up2 (up2 h 53 (Int32.toNatClampNeg v4) ((h 53 (Int32.toNatClampNeg v1)) * (h 53 (Int32.toNatClampNeg v2)))) 51 (Int32.toNatClampNeg v4) v5) 52 (Int32.toNatClampNeg v1)) - ((up2 (up2 h 53 (Int32.toNatClampNeg v4) ((h 53 (Int32.toNatClampNeg v1)) * (h 53 (Int32.toNatClampNeg v2)))) 51 (Int32.toNatClampNeg v4) v5) 52 (Int32.toNatClampNeg v2))) + ((up2 (up2 h 53 (Int32.toNatClampNeg v4) ((h 53 (Int32.toNatClampNeg v1)) * (h 53 (Int32.toNatClampNeg v2)))) 51 (Int32.toNatClampNeg v4) v5) 51 (Int32.toNatClampNeg v1))) - v6))))))))))) else f_M_divide_59 (fun v1 v2 v3 v4 v5 v6 h => f_M_divide_50 n v1 v2 v3 v4 v5 v6 h) fuel v1 v2 v3 v4 v5 v6 0 h
def f_M_divide_19 : Nat → Int32 → Int32 → Int32 → Int32 → Int32 → Hp → Option (Unit × Hp)
  | 0, _, _, _, _, _, _ => none
  | n + 1, v1, v2, v3, v4, v5, h => chk (inR v2 5) (if (h 51 (Int32.toNatClampNeg v2)) < v5 then f_M_divide_50 fuel v1 v2 v3 v4 0 0 h else chk (inR v5 300) (f_M_divide_19 n v1 v2 v3 v4 (v5 + 1) (up2 h 54 (Int32.toNatClampNeg v5) 0)))
def f_M_divide (v1 : Int32) (v2 : Int32) (v3 : Int32) (v4 : Int32) (h : Hp) : Option (Unit × Hp) := chk (inR v1 5) (if (h 53 (Int32.toNatClampNeg v1)) = 0 then bd (f_M_zero v4 h) (fun _u12 h12 => some ((), h12)) else f_M_divide_19 fuel v1 v2 v3 v4 0 h)
def f_M_part_102 (v1 : Int32) (v2 : Int32) (v3 : Int32) (v4 : Int32) (h : Hp) : Option (Int32 × Hp) := chk (inR v1 5) (if (h 53 (Int32.toNatClampNeg v1)) = 0 then bd (f_M_zero v3 h) (fun _u118 h118 => some (1, h118)) else if 0 ≤ v4 then bd (f_M_high v1 h) (fun r125 h125 => bd (f_M_high v2 h125) (fun r130 h130 => if ((r125 - r130) + 1) ≤ ((h130 46 4) + 1) then bd (f_M_divide v1 v2 (((r125 - r130) + 1) + 1) v3 h130) (fun _u159 h159 => chk (inR v3 5) (chk (inR v3 5) (if ((h159 51 (Int32.toNatClampNeg v3)) + (h159 52 (Int32.toNatClampNeg v3))) ≤ (h159 46 4) then chk (inR v3 5) (chk (inR v3 5) (if 0 < ((h159 51 (Int32.toNatClampNeg v3)) + (h159 52 (Int32.toNatClampNeg v3))) then some (1, (up2 (up2 h159 51 (Int32.toNatClampNeg v3) ((h159 51 (Int32.toNatClampNeg v3)) + (h159 52 (Int32.toNatClampNeg v3)))) 52 (Int32.toNatClampNeg v3) 0)) else bd (f_M_zero v3 (up2 (up2 h159 51 (Int32.toNatClampNeg v3) ((h159 51 (Int32.toNatClampNeg v3)) + (h159 52 (Int32.toNatClampNeg v3)))) 52 (Int32.toNatClampNeg v3) 0)) (fun _u210 h210 => some (1, h210)))) else some (0, h159)))) else some (0, h130))) else bd (f_M_zero v3 h) (fun _u118 h118 => some (1, h118)))
def f_M_part_67 : Nat → Int32 → Int32 → Int32 → Int32 → Int32 → Int32 → Hp → Option (Int32 × Hp)
  | 0, _, _, _, _, _, _, _ => none
  | n + 1, v1, v2, v3, v4, v6, v7, h => if v7 < v6 then f_M_part_102 v1 v2 v3 v4 h else if v4 = 0 then bd (f_M_digit v1 v7 h) (fun r83 h83 => bd (f_M_digit v2 v7 h83) (fun r90 h90 => f_M_part_67 n v1 v2 v3 (r83 - r90) v6 (v7 + (-1)) h90)) else f_M_part_102 v1 v2 v3 v4 h
def f_M_part_29 (v1 : Int32) (v2 : Int32) (v3 : Int32) (v4 : Int32) (s0 : Int32) (h : Hp) : Option (Int32 × Hp) := chk (inR v1 5) (chk (inR v2 5) (if (h 52 (Int32.toNatClampNeg v2)) ≤ (h 52 (Int32.toNatClampNeg v1)) then chk (inR v2 5) (f_M_part_67 fuel v1 v2 v3 v4 (h 52 (Int32.toNatClampNeg v2)) s0 h) else chk (inR v1 5) (f_M_part_67 fuel v1 v2 v3 v4 (h 52 (Int32.toNatClampNeg v1)) s0 h)))
def f_M_part (v1 : Int32) (v2 : Int32) (v3 : Int32) (h : Hp) : Option (Int32 × Hp) := bd (f_M_high v1 h) (fun r5 h5 => bd (f_M_high v2 h5) (fun r10 h10 => if r5 ≤ r10 then bd (f_M_high v2 h10) (fun r26 h26 => f_M_part_29 v1 v2 v3 0 r26 h26) else bd (f_M_high v1 h10) (fun r18 h18 => f_M_part_29 v1 v2 v3 0 r18 h18)))
def f_M_letter (v1 : Int32) (h : Hp) : Option (Unit × Hp) := if 1600 ≤ (h 46 13) then some ((), (up2 h 46 13 ((h 46 13) + 1))) else chk (inR (h 46 13) 1600) (some ((), (up2 (up2 h 55 (Int32.toNatClampNeg (h 46 13)) v1) 46 13 (((up2 h 55 (Int32.toNatClampNeg (h 46 13)) v1) 46 13) + 1))))
def f_M_plain_31 (k3 : Int32 → Int32 → Int32 → Hp → Option (Unit × Hp)) (v1 : Int32) (v3 : Int32) (v4 : Int32) (h : Hp) : Option (Unit × Hp) := bd (f_M_digit v1 v4 h) (fun r38 h38 => bd (f_M_letter (48 + r38) h38) (fun _u42 h42 => k3 v1 v3 (v4 + (-1)) h42))
def f_M_plain_3 : Nat → Int32 → Int32 → Int32 → Hp → Option (Unit × Hp)
  | 0, _, _, _, _ => none
  | n + 1, v1, v3, v4, h => if v4 < v3 then some ((), h) else if 1600 ≤ (h 46 13) then some ((), h) else if v4 = (-1) then bd (f_M_letter 46 h) (fun _u28 h28 => f_M_plain_31 (fun v1 v3 v4 h => f_M_plain_3 n v1 v3 v4 h) v1 v3 v4 h28) else f_M_plain_31 (fun v1 v3 v4 h => f_M_plain_3 n v1 v3 v4 h) v1 v3 v4 h
def f_M_plain (v1 : Int32) (v2 : Int32) (v3 : Int32) (h : Hp) : Option (Unit × Hp) := f_M_plain_3 fuel v1 v3 v2 h
def f_M_write_338 (v5 : Int32) (h : Hp) : Option (Int32 × Hp) := bd (f_M_letter (48 + (v5 - v5 / 10 * 10)) h) (fun _u347 h347 => some (0, h347))
def f_M_write_316 (v5 : Int32) (h : Hp) : Option (Int32 × Hp) := if v5 ≤ 9 then f_M_write_338 v5 h else bd (f_M_letter (48 + ((v5 / 10) - (v5 / 10) / 10 * 10)) h) (fun _u335 h335 => f_M_write_338 v5 h335)
def f_M_write_295 (s0 : Int32) (h : Hp) : Option (Int32 × Hp) := if s0 ≤ 99 then f_M_write_316 s0 h else bd (f_M_letter (48 + (s0 / 100)) h) (fun _u313 h313 => f_M_write_316 s0 h313)
def f_M_write_210 : Nat → Int32 → Int32 → Int32 → Int32 → Hp → Option (Int32 × Hp)
  | 0, _, _, _, _, _ => none
  | n + 1, v1, v3, v4, v5, h => chk (inR v1 5) (if (h 51 (Int32.toNatClampNeg v1)) ≤ v5 then if (v3 - v4) = 0 then some (0, h) else bd (f_M_letter 69 h) (fun _u263 h263 => if 0 ≤ (v3 - v4) then bd (f_M_letter 43 h263) (fun _u279 h279 => if 0 ≤ (v3 - v4) then f_M_write_295 (v3 - v4) h279 else f_M_write_295 (-(v3 - v4)) h279) else bd (f_M_letter 45 h263) (fun _u279 h279 => if 0 ≤ (v3 - v4) then f_M_write_295 (v3 - v4) h279 else f_M_write_295 (-(v3 - v4)) h279)) else chk (inR ((2600 * v1) + v5) 13000) (bd (f_M_letter (48 + (h 50 (Int32.toNatClampNeg ((2600 * v1) + v5)))) h) (fun _u238 h238 => f_M_write_210 n v1 v3 v4 (v5 + 1) h238)))
def f_M_write_136 : Nat → Int32 → Int32 → Int32 → Int32 → Hp → Option (Int32 × Hp)
  | 0, _, _, _, _, _ => none
  | n + 1, v1, v3, v4, v5, h => if v4 < v5 then chk (inR v1 5) (if (h 51 (Int32.toNatClampNeg v1)) ≤ (v4 + 1) then f_M_write_210 fuel v1 v3 v4 (v4 + 1) h else bd (f_M_letter 46 h) (fun _u201 h201 => f_M_write_210 fuel v1 v3 v4 (v4 + 1) h201)) else chk (inR v1 5) (if (h 51 (Int32.toNatClampNeg v1)) ≤ v5 then bd (f_M_letter 48 h) (fun _u176 h176 => f_M_write_136 n v1 v3 v4 (v5 + 1) h176) else chk (inR ((2600 * v1) + v5) 13000) (bd (f_M_letter (48 + (h 50 (Int32.toNatClampNeg ((2600 * v1) + v5)))) h) (fun _u176 h176 => f_M_write_136 n v1 v3 v4 (v5 + 1) h176)))
def f_M_write_89 (v1 : Int32) (h : Hp) : Option (Int32 × Hp) := bd (f_M_high v1 h) (fun r91 h91 => if 999 < r91 then some (42, h91) else if (-999) ≤ r91 then if (h91 46 6) = 1 then f_M_write_136 fuel v1 r91 (((r91 - r91 / 3 * 3) + 3) - ((r91 - r91 / 3 * 3) + 3) / 3 * 3) 0 h91 else f_M_write_136 fuel v1 r91 0 0 h91 else some (42, h91))
def f_M_write_65 (v1 : Int32) (s1 : Int32) (s2 : Int32) (h : Hp) : Option (Int32 × Hp) := chk (inR v1 5) (if 0 ≤ (h 52 (Int32.toNatClampNeg v1)) then bd (f_M_plain s1 s2 0 h) (fun _u84 h84 => some (0, h84)) else chk (inR v1 5) (bd (f_M_plain s1 s2 (h 52 (Int32.toNatClampNeg v1)) h) (fun _u84 h84 => some (0, h84))))
def f_M_write_20 (v1 : Int32) (h : Hp) : Option (Int32 × Hp) := bd (f_M_high v1 h) (fun r22 h22 => if (h22 46 4) < (r22 + 1) then f_M_write_89 v1 h22 else chk (inR v1 5) (if (2 * (h22 46 4)) < (-(h22 52 (Int32.toNatClampNeg v1))) then f_M_write_89 v1 h22 else if (r22 + 1) ≤ 0 then f_M_write_65 v1 v1 0 h22 else f_M_write_65 v1 v1 ((r22 + 1) - 1) h22))
def f_M_write (v1 : Int32) (h : Hp) : Option (Int32 × Hp) := chk (inR v1 5) (if 0 ≤ ((up2 h 46 13 0) 53 (Int32.toNatClampNeg v1)) then f_M_write_20 v1 (up2 h 46 13 0) else bd (f_M_letter 45 (up2 h 46 13 0)) (fun _u17 h17 => f_M_write_20 v1 h17))
def f_M_keep_12 : Nat → Int32 → Int32 → Hp → Option (Int32 × Hp)
  | 0, _, _, _ => none
  | n + 1, v1, v2, h => if (h 46 13) ≤ v2 then some (h 46 13, h) else chk (inR v2 1600) (chk (inR ((200 * v1) + v2) 2000) (f_M_keep_12 n v1 (v2 + 1) (up2 h 48 (Int32.toNatClampNeg ((200 * v1) + v2)) (h 55 (Int32.toNatClampNeg v2)))))
def f_M_keep (v1 : Int32) (h : Hp) : Option (Int32 × Hp) := chk (inR v1 10) (f_M_keep_12 fuel v1 0 (up2 h 49 (Int32.toNatClampNeg v1) (h 46 13)))
def f_M_answer (v1 : Int32) (v2 : Int32) (h : Hp) : Option (Int32 × Hp) := bd (f_M_write v1 h) (fun r2 h2 => if r2 ≤ 0 then bd (f_M_keep v2 h2) (fun r17 h17 => some (r17, h17)) else some (-r2, h2))
def f_M_isWhole_34 : Nat → Int32 → Int32 → Hp → Option (Int32 × Hp)
  | 0, _, _, _ => none
  | n + 1, v1, v2, h => chk (inR v1 5) (if v2 < (h 52 (Int32.toNatClampNeg v1)) then some (1, h) else bd (f_M_digit v1 v2 h) (fun r47 h47 => if r47 = 0 then f_M_isWhole_34 n v1 (v2 + (-1)) h47 else some (0, h47)))
def f_M_isWhole (v1 : Int32) (h : Hp) : Option (Int32 × Hp) := bd (f_M_round v1 (h 46 4) h) (fun _u6 h6 => chk (inR v1 5) (if (h6 53 (Int32.toNatClampNeg v1)) = 0 then some (1, h6) else bd (f_M_high v1 h6) (fun r22 h22 => if r22 ≤ 8 then f_M_isWhole_34 fuel v1 (-1) h22 else some (0, h22))))
def f_M_valueOf_8 : Nat → Int32 → Int32 → Int32 → Hp → Option (Int32 × Hp)
  | 0, _, _, _, _ => none
  | n + 1, v1, v2, v3, h => if v3 < 0 then chk (inR v1 5) (if 0 ≤ (h 53 (Int32.toNatClampNeg v1)) then some (v2, h) else some (-v2, h)) else bd (f_M_digit v1 v3 h) (fun r19 h19 => f_M_valueOf_8 n v1 ((10 * v2) + r19) (v3 + (-1)) h19)
def f_M_valueOf (v1 : Int32) (h : Hp) : Option (Int32 × Hp) := bd (f_M_high v1 h) (fun r4 h4 => f_M_valueOf_8 fuel v1 0 r4 h4)
def f_M_raise_202  (h : Hp) : Option (Int32 × Hp) := bd (f_M_round 2 (h 46 4) h) (fun _u208 h208 => bd (f_M_noZeros 2 h208) (fun _u213 h213 => some (0, h213)))
def f_M_raise_81 : Nat → Int32 → Int32 → Int32 → Int32 → Hp → Option (Int32 × Hp)
  | 0, _, _, _, _, _ => none
  | n + 1, v1, v2, v3, v4, h => if v4 < 0 then if 0 ≤ v1 then f_M_raise_202 h else bd (f_M_zero 4 h) (fun _u158 h158 => chk (inR 4 5) (chk (inR 10400 13000) (bd (f_M_divide 4 2 v3 3 (up2 (up2 h158 53 (Int32.toNatClampNeg 4) 1) 50 (Int32.toNatClampNeg 10400) 1)) (fun _u182 h182 => bd (f_M_round 3 v3 h182) (fun _u188 h188 => bd (f_M_noZeros 3 h188) (fun _u193 h193 => bd (f_M_copy 3 2 h193) (fun _u199 h199 => f_M_raise_202 h199))))))) else if (v2 >>> (v4 &&& 31)) = 0 then f_M_raise_81 n v1 v2 v3 (v4 + (-1)) h else bd (f_M_multiply 2 2 3 h) (fun _u100 h100 => bd (f_M_round 3 v3 h100) (fun _u106 h106 => bd (f_M_copy 3 2 h106) (fun _u112 h112 => if ((v2 >>> (v4 &&& 31)) &&& 1) = 0 then f_M_raise_81 n v1 v2 v3 (v4 + (-1)) h112 else bd (f_M_multiply 2 0 3 h112) (fun _u131 h131 => bd (f_M_round 3 v3 h131) (fun _u137 h137 => bd (f_M_copy 3 2 h137) (fun _u143 h143 => f_M_raise_81 n v1 v2 v3 (v4 + (-1)) h143))))))
def f_M_raise_56 (v1 : Int32) (v2 : Int32) (v3 : Int32) (h : Hp) : Option (Int32 × Hp) := bd (f_M_zero 2 h) (fun _u58 h58 => chk (inR 2 5) (chk (inR 5200 13000) (f_M_raise_81 fuel v1 v2 v3 9 (up2 (up2 h58 53 (Int32.toNatClampNeg 2) 1) 50 (Int32.toNatClampNeg 5200) 1))))
def f_M_raise_38 (v1 : Int32) (v2 : Int32) (s0 : Int32) (s1 : Int32) (h : Hp) : Option (Int32 × Hp) := chk (inR 0 5) (if (h 53 (Int32.toNatClampNeg 0)) = 0 then if 0 ≤ v1 then f_M_raise_56 v1 v2 (s0 + s1) h else some (42, h) else f_M_raise_56 v1 v2 (s0 + s1) h)
def f_M_raise_10 (v1 : Int32) (s0 : Int32) (h : Hp) : Option (Int32 × Hp) := if s0 ≤ 99 then if s0 ≤ 9 then f_M_raise_38 v1 s0 ((h 46 4) + 1) 1 h else f_M_raise_38 v1 s0 ((h 46 4) + 1) 2 h else f_M_raise_38 v1 s0 ((h 46 4) + 1) 3 h
def f_M_raise (v1 : Int32) (h : Hp) : Option (Int32 × Hp) := if 0 ≤ v1 then f_M_raise_10 v1 v1 h else f_M_raise_10 v1 (-v1) h
def f_M_worked (v1 : Int32) (v2 : Int32) (h : Hp) : Option (Int32 × Hp) := if v1 = 0 then bd (f_M_add 0 1 0 2 h) (fun _u45 h45 => bd (f_M_round 2 (h45 46 4) h45) (fun _u160 h160 => some (0, h160))) else if v1 = 1 then bd (f_M_add 0 1 1 2 h) (fun _u56 h56 => bd (f_M_round 2 (h56 46 4) h56) (fun _u160 h160 => some (0, h160))) else if v1 = 2 then bd (f_M_multiply 0 1 2 h) (fun _u66 h66 => bd (f_M_round 2 (h66 46 4) h66) (fun _u160 h160 => some (0, h160))) else if v1 = 3 then bd (f_M_divide 0 1 (h 46 4) 2 h) (fun _u80 h80 => bd (f_M_round 2 (h80 46 4) h80) (fun _u89 h89 => bd (f_M_noZeros 2 h89) (fun _u94 h94 => bd (f_M_round 2 (h94 46 4) h94) (fun _u160 h160 => some (0, h160))))) else if v1 = 4 then bd (f_M_part 0 1 2 h) (fun r104 h104 => if r104 = 0 then some (26, h104) else some (0, h104)) else if v1 = 5 then bd (f_M_part 0 1 2 h) (fun r121 h121 => if r121 = 0 then some (26, h121) else bd (f_M_multiply 1 2 3 h121) (fun _u134 h134 => bd (f_M_add 0 3 1 2 h134) (fun _u142 h142 => bd (f_M_round 2 (h142 46 4) h142) (fun _u160 h160 => some (0, h160))))) else bd (f_M_raise v2 h) (fun r150 h150 => some (r150, h150))
def f_M_work_131 (v1 : Int32) (v4 : Int32) (v5 : Int32) (h : Hp) : Option (Int32 × Hp) := bd (f_M_worked v1 v5 h) (fun r135 h135 => if r135 ≤ 0 then bd (f_M_answer 2 v4 h135) (fun r155 h155 => some (r155, h155)) else some (-r135, h135))
def f_M_work_91 (v1 : Int32) (v4 : Int32) (v5 : Int32) (h : Hp) : Option (Int32 × Hp) := bd (f_M_round 0 (h 46 4) h) (fun _u97 h97 => bd (f_M_round 1 (h97 46 4) h97) (fun _u106 h106 => if v1 < 3 then f_M_work_131 v1 v4 v5 h106 else if 5 < v1 then f_M_work_131 v1 v4 v5 h106 else chk (inR 1 5) (if (h106 53 (Int32.toNatClampNeg 1)) = 0 then some ((-42), h106) else f_M_work_131 v1 v4 v5 h106)))
def f_M_work (v1 : Int32) (v2 : Int32) (v3 : Int32) (v4 : Int32) (h : Hp) : Option (Int32 × Hp) := bd (f_M_isRegister v2 h) (fun r1 h1 => if r1 = 0 then some ((-1), h1) else bd (f_M_isRegister v3 h1) (fun r8 h8 => if r8 = 0 then some ((-1), h8) else bd (f_M_isRegister v4 h8) (fun r16 h16 => if r16 = 0 then some ((-1), h16) else if v1 < 0 then some ((-1), h16) else if v1 ≤ 6 then bd (f_M_read v2 0 h16) (fun r37 h37 => if r37 = 0 then some ((-41), h37) else bd (f_M_read v3 1 h37) (fun r46 h46 => if r46 = 0 then some ((-41), h46) else if v1 = 6 then bd (f_M_isWhole 1 h46) (fun r66 h66 => if r66 = 0 then some ((-26), h66) else bd (f_M_high 1 h66) (fun r74 h74 => if r74 ≤ 2 then bd (f_M_valueOf 1 h74) (fun r86 h86 => f_M_work_91 v1 v4 r86 h86) else some ((-26), h74))) else f_M_work_91 v1 v4 0 h46)) else some ((-1), h16))))
def f_M_turn_126 (v3 : Int32) (s1 : Int32) (h : Hp) : Option (Int32 × Hp) := chk (inR 0 5) (chk (inR s1 5) (bd (f_M_answer 0 v3 (up2 h 53 (Int32.toNatClampNeg s1) (h 53 (Int32.toNatClampNeg 0)))) (fun r136 h136 => some (r136, h136))))
def f_M_turn_88 (v1 : Int32) (v3 : Int32) (h : Hp) : Option (Int32 × Hp) := if v1 = 1 then chk (inR 0 5) (chk (inR 0 5) (bd (f_M_answer 0 v3 (up2 h 53 (Int32.toNatClampNeg 0) (-(h 53 (Int32.toNatClampNeg 0))))) (fun r136 h136 => some (r136, h136)))) else if v1 = 2 then chk (inR 0 5) (if 0 ≤ (h 53 (Int32.toNatClampNeg 0)) then f_M_turn_126 v3 0 h else chk (inR 0 5) (bd (f_M_answer 0 v3 (up2 h 53 (Int32.toNatClampNeg 0) 1)) (fun r136 h136 => some (r136, h136)))) else f_M_turn_126 v3 0 h
def f_M_turn (v1 : Int32) (v2 : Int32) (v3 : Int32) (h : Hp) : Option (Int32 × Hp) := bd (f_M_isRegister v2 h) (fun r1 h1 => if r1 = 0 then some ((-1), h1) else bd (f_M_isRegister v3 h1) (fun r8 h8 => if r8 = 0 then some ((-1), h8) else if v1 < 0 then some ((-1), h8) else if v1 ≤ 3 then bd (f_M_read v2 0 h8) (fun r28 h28 => if r28 = 0 then some ((-41), h28) else bd (f_M_round 0 (h28 46 4) h28) (fun _u43 h43 => if v1 = 3 then chk (inR 0 5) (bd (f_M_zero 0 h43) (fun _u61 h61 => chk (inR 0 5) (if (h43 53 (Int32.toNatClampNeg 0)) = 0 then chk (inR 0 13000) (f_M_turn_88 v1 v3 (up2 (up2 h61 53 (Int32.toNatClampNeg 0) (h43 53 (Int32.toNatClampNeg 0))) 50 (Int32.toNatClampNeg 0) 0)) else chk (inR 0 13000) (f_M_turn_88 v1 v3 (up2 (up2 h61 53 (Int32.toNatClampNeg 0) (h43 53 (Int32.toNatClampNeg 0))) 50 (Int32.toNatClampNeg 0) 1))))) else f_M_turn_88 v1 v3 h43)) else some ((-1), h8)))
def f_M_most_103 (v3 : Int32) (s0 : Int32) (h : Hp) : Option (Int32 × Hp) := if s0 = 0 then bd (f_M_answer 1 v3 h) (fun r117 h117 => some (r117, h117)) else bd (f_M_answer 0 v3 h) (fun r117 h117 => some (r117, h117))
def f_M_most (v1 : Int32) (v2 : Int32) (v3 : Int32) (v4 : Int32) (h : Hp) : Option (Int32 × Hp) := bd (f_M_isRegister v1 h) (fun r1 h1 => if r1 = 0 then some ((-1), h1) else bd (f_M_isRegister v2 h1) (fun r8 h8 => if r8 = 0 then some ((-1), h8) else bd (f_M_isRegister v3 h8) (fun r15 h15 => if r15 = 0 then some ((-1), h15) else bd (f_M_read v1 0 h15) (fun r26 h26 => if r26 = 0 then some ((-41), h26) else bd (f_M_read v2 1 h26) (fun r35 h35 => if r35 = 0 then some ((-41), h35) else bd (f_M_round 0 (h35 46 4) h35) (fun _u50 h50 => bd (f_M_round 1 (h50 46 4) h50) (fun _u59 h59 => bd (f_M_add 0 1 1 2 h59) (fun _u67 h67 => chk (inR 2 5) (if (h67 53 (Int32.toNatClampNeg 2)) = 0 then f_M_most_103 v3 1 h67 else chk (inR 2 5) (if 0 ≤ (h67 53 (Int32.toNatClampNeg 2)) then if (0 : Int32) = v4 then f_M_most_103 v3 1 h67 else f_M_most_103 v3 0 h67 else if (1 : Int32) = v4 then f_M_most_103 v3 1 h67 else f_M_most_103 v3 0 h67))))))))))
def f_M_cut_151 (v2 : Int32) (v3 : Int32) (s1 : Int32) (s2 : Int32) (h : Hp) : Option (Int32 × Hp) := bd (f_M_plain s1 s2 (-v2) h) (fun _u153 h153 => if (h153 46 13) ≤ 200 then bd (f_M_keep v3 h153) (fun r173 h173 => some (r173, h173)) else some ((-5), h153))
def f_M_cut_122 (v2 : Int32) (v3 : Int32) (h : Hp) : Option (Int32 × Hp) := if v2 ≤ 1500 then bd (f_M_high 0 h) (fun r136 h136 => if r136 ≤ 0 then f_M_cut_151 v2 v3 0 0 h136 else bd (f_M_high 0 h136) (fun r144 h144 => f_M_cut_151 v2 v3 0 r144 h144)) else some ((-5), h)
def f_M_cut_97 (v2 : Int32) (v3 : Int32) (v4 : Int32) (h : Hp) : Option (Int32 × Hp) := chk (inR 0 5) (if 0 ≤ ((up2 h 46 13 0) 53 (Int32.toNatClampNeg 0)) then f_M_cut_122 v2 v3 (up2 h 46 13 0) else if v4 = 0 then bd (f_M_letter 45 (up2 h 46 13 0)) (fun _u119 h119 => f_M_cut_122 v2 v3 h119) else f_M_cut_122 v2 v3 (up2 h 46 13 0))
def f_M_cut_51 : Nat → Int32 → Int32 → Int32 → Int32 → Hp → Option (Int32 × Hp)
  | 0, _, _, _, _, _ => none
  | n + 1, v2, v3, v4, v5, h => chk (inR 0 5) (if v5 < (h 52 (Int32.toNatClampNeg 0)) then f_M_cut_97 v2 v3 v4 h else if v5 < (-v2) then f_M_cut_97 v2 v3 v4 h else if v4 = 0 then f_M_cut_51 n v2 v3 0 (v5 + (-1)) h else bd (f_M_digit 0 v5 h) (fun r78 h78 => if r78 = 0 then f_M_cut_51 n v2 v3 1 (v5 + (-1)) h78 else f_M_cut_51 n v2 v3 0 (v5 + (-1)) h78))
def f_M_cut (v1 : Int32) (v2 : Int32) (v3 : Int32) (h : Hp) : Option (Int32 × Hp) := bd (f_M_isRegister v1 h) (fun r1 h1 => if r1 = 0 then some ((-1), h1) else bd (f_M_isRegister v3 h1) (fun r8 h8 => if r8 = 0 then some ((-1), h8) else if 0 ≤ v2 then bd (f_M_read v1 0 h8) (fun r23 h23 => if r23 = 0 then some ((-41), h23) else bd (f_M_round 0 (h23 46 4) h23) (fun _u38 h38 => bd (f_M_high 0 h38) (fun r46 h46 => f_M_cut_51 fuel v2 v3 1 r46 h46))) else some ((-1), h8)))
def f_M_column_330 (v4 : Int32) (v5 : Int32) (s1 : Int32) (s2 : Int32) (h : Hp) : Option (Int32 × Hp) := bd (f_M_plain s1 s2 (-v5) h) (fun _u333 h333 => if (h333 46 13) ≤ 200 then bd (f_M_keep v4 h333) (fun r354 h354 => some (r354, h354)) else some ((-5), h333))
def f_M_column_311 (v4 : Int32) (v5 : Int32) (h : Hp) : Option (Int32 × Hp) := bd (f_M_high 0 h) (fun r315 h315 => if r315 ≤ 0 then f_M_column_330 v4 v5 0 0 h315 else bd (f_M_high 0 h315) (fun r323 h323 => f_M_column_330 v4 v5 0 r323 h323))
def f_M_column_278 : Nat → Int32 → Int32 → Int32 → Int32 → Hp → Option (Int32 × Hp)
  | 0, _, _, _, _, _ => none
  | n + 1, v2, v4, v5, v8, h => if v2 ≤ v8 then chk (inR 0 5) (if 0 ≤ (h 53 (Int32.toNatClampNeg 0)) then f_M_column_311 v4 v5 h else bd (f_M_letter 45 h) (fun _u308 h308 => f_M_column_311 v4 v5 h308)) else bd (f_M_letter 32 h) (fun _u287 h287 => f_M_column_278 n v2 v4 v5 (v8 + 1) h287)
def f_M_column_257 (v2 : Int32) (v4 : Int32) (v5 : Int32) (v7 : Int32) (s0 : Int32) (h : Hp) : Option (Int32 × Hp) := if (s0 + v5) ≤ 200 then f_M_column_278 fuel v2 v4 v5 v7 (up2 h 46 13 0) else some ((-5), h)
def f_M_column_230 (v2 : Int32) (v4 : Int32) (v5 : Int32) (v7 : Int32) (h : Hp) : Option (Int32 × Hp) := if 1500 < v2 then some ((-5), h) else if 1400 < v5 then some ((-5), h) else if v2 ≤ v7 then f_M_column_257 v2 v4 v5 v7 v7 h else f_M_column_257 v2 v4 v5 v7 v2 h
def f_M_column_214 (v2 : Int32) (v4 : Int32) (v5 : Int32) (s0 : Int32) (s1 : Int32) (h : Hp) : Option (Int32 × Hp) := if v2 < 0 then f_M_column_230 v2 v4 v5 (s0 + s1) h else if (s0 + s1) ≤ v2 then f_M_column_230 v2 v4 v5 (s0 + s1) h else some ((-40), h)
def f_M_column_195 (v2 : Int32) (v4 : Int32) (v5 : Int32) (s0 : Int32) (h : Hp) : Option (Int32 × Hp) := bd (f_M_high 0 h) (fun r197 h197 => if r197 ≤ 0 then f_M_column_214 v2 v4 v5 s0 1 h197 else bd (f_M_high 0 h197) (fun r205 h205 => f_M_column_214 v2 v4 v5 s0 (r205 + 1) h205))
def f_M_column_124 (v2 : Int32) (v4 : Int32) (v5 : Int32) (h : Hp) : Option (Int32 × Hp) := bd (f_M_zero 0 h) (fun _u126 h126 => chk (inR 0 5) (if 0 ≤ (h126 53 (Int32.toNatClampNeg 0)) then f_M_column_195 v2 v4 v5 0 h126 else f_M_column_195 v2 v4 v5 1 h126))
def f_M_column_132 (v2 : Int32) (v4 : Int32) (v5 : Int32) (v6 : Int32) (h : Hp) : Option (Int32 × Hp) := if v6 = 0 then chk (inR 0 13000) (chk (inR 0 5) (chk (inR 0 5) (chk (inR 0 5) (if 0 ≤ ((up2 (up2 (up2 h 50 (Int32.toNatClampNeg 0) 1) 51 (Int32.toNatClampNeg 0) 1) 52 (Int32.toNatClampNeg 0) (-v5)) 53 (Int32.toNatClampNeg 0)) then f_M_column_195 v2 v4 v5 0 (up2 (up2 (up2 h 50 (Int32.toNatClampNeg 0) 1) 51 (Int32.toNatClampNeg 0) 1) 52 (Int32.toNatClampNeg 0) (-v5)) else f_M_column_195 v2 v4 v5 1 (up2 (up2 (up2 h 50 (Int32.toNatClampNeg 0) 1) 51 (Int32.toNatClampNeg 0) 1) 52 (Int32.toNatClampNeg 0) (-v5)))))) else chk (inR 0 5) (if (h 51 (Int32.toNatClampNeg 0)) ≤ v6 then chk (inR 0 5) (if 0 ≤ (h 53 (Int32.toNatClampNeg 0)) then f_M_column_195 v2 v4 v5 0 h else f_M_column_195 v2 v4 v5 1 h) else bd (f_M_round 0 v6 h) (fun _u178 h178 => chk (inR 0 5) (if 0 ≤ (h178 53 (Int32.toNatClampNeg 0)) then f_M_column_195 v2 v4 v5 0 h178 else f_M_column_195 v2 v4 v5 1 h178)))
def f_M_column_101 (v2 : Int32) (v4 : Int32) (v5 : Int32) (s0 : Int32) (s1 : Int32) (h : Hp) : Option (Int32 × Hp) := if (s0 + s1) < 0 then f_M_column_124 v2 v4 v5 h else if (s0 + s1) = 0 then chk (inR 0 13000) (if 5 ≤ (h 50 (Int32.toNatClampNeg 0)) then f_M_column_132 v2 v4 v5 (s0 + s1) h else f_M_column_124 v2 v4 v5 h) else f_M_column_132 v2 v4 v5 (s0 + s1) h
def f_M_column_76 (v2 : Int32) (v4 : Int32) (s0 : Int32) (h : Hp) : Option (Int32 × Hp) := bd (f_M_high 0 h) (fun r80 h80 => if s0 ≤ 5000 then f_M_column_101 v2 v4 s0 (r80 + 1) s0 h80 else f_M_column_101 v2 v4 s0 (r80 + 1) 5000 h80)
def f_M_column (v1 : Int32) (v2 : Int32) (v3 : Int32) (v4 : Int32) (h : Hp) : Option (Int32 × Hp) := bd (f_M_isRegister v1 h) (fun r1 h1 => if r1 = 0 then some ((-1), h1) else bd (f_M_isRegister v4 h1) (fun r9 h9 => if r9 = 0 then some ((-1), h9) else if v3 < (-1) then some ((-1), h9) else if (-1) ≤ v2 then bd (f_M_read v1 0 h9) (fun r30 h30 => if r30 = 0 then some ((-41), h30) else bd (f_M_round 0 (h30 46 4) h30) (fun _u45 h45 => if v3 < 0 then chk (inR 0 5) (if 0 ≤ (h45 52 (Int32.toNatClampNeg 0)) then f_M_column_76 v2 v4 0 h45 else chk (inR 0 5) (f_M_column_76 v2 v4 (-(h45 52 (Int32.toNatClampNeg 0))) h45)) else f_M_column_76 v2 v4 v3 h45)) else some ((-1), h9)))
def f_M_told (v0 : Int32) (h : Hp) : Option (Int32 × Hp) := if 0 ≤ v0 then if v0 = 0 then some (2, h) else some (4, h) else some (1, h)
def f_M_strictly_81 (v1 : Int32) (v2 : Int32) (h : Hp) : Option (Int32 × Hp) := chk (inR v1 10) (chk (inR v2 10) (some ((h 49 (Int32.toNatClampNeg v1)) - (h 49 (Int32.toNatClampNeg v2)), h)))
def f_M_strictly_2 : Nat → Int32 → Int32 → Int32 → Hp → Option (Int32 × Hp)
  | 0, _, _, _, _ => none
  | n + 1, v1, v2, v3, h => chk (inR v1 10) (if (h 49 (Int32.toNatClampNeg v1)) ≤ v3 then f_M_strictly_81 v1 v2 h else chk (inR v2 10) (if (h 49 (Int32.toNatClampNeg v2)) ≤ v3 then f_M_strictly_81 v1 v2 h else chk (inR ((200 * v1) + v3) 2000) (chk (inR ((200 * v2) + v3) 2000) (if (h 48 (Int32.toNatClampNeg ((200 * v1) + v3))) = (h 48 (Int32.toNatClampNeg ((200 * v2) + v3))) then f_M_strictly_2 n v1 v2 (v3 + 1) h else chk (inR ((200 * v1) + v3) 2000) (chk (inR ((200 * v2) + v3) 2000) (some ((h 48 (Int32.toNatClampNeg ((200 * v1) + v3))) - (h 48 (Int32.toNatClampNeg ((200 * v2) + v3))), h)))))))
def f_M_strictly (v1 : Int32) (v2 : Int32) (h : Hp) : Option (Int32 × Hp) := f_M_strictly_2 fuel v1 v2 0 h
def f_M_loosely_186 (k135 : Int32 → Int32 → Int32 → Int32 → Hp → Option (Int32 × Hp)) (v3 : Int32) (v4 : Int32) (v5 : Int32) (v6 : Int32) (v7 : Int32) (s0 : Int32) (h : Hp) : Option (Int32 × Hp) := if v7 = s0 then k135 (v3 + 1) (v4 + 1) v5 v6 h else some (v7 - s0, h)
def f_M_loosely_165 (k135 : Int32 → Int32 → Int32 → Int32 → Hp → Option (Int32 × Hp)) (v3 : Int32) (v4 : Int32) (v5 : Int32) (v6 : Int32) (s0 : Int32) (h : Hp) : Option (Int32 × Hp) := if v6 ≤ v4 then f_M_loosely_186 k135 v3 v4 v5 v6 s0 32 h else chk (inR v4 2000) (f_M_loosely_186 k135 v3 v4 v5 v6 s0 (h 48 (Int32.toNatClampNeg v4)) h)
def f_M_loosely_148 (k135 : Int32 → Int32 → Int32 → Int32 → Hp → Option (Int32 × Hp)) (v3 : Int32) (v4 : Int32) (v5 : Int32) (v6 : Int32) (h : Hp) : Option (Int32 × Hp) := if v5 ≤ v3 then f_M_loosely_165 k135 v3 v4 v5 v6 32 h else chk (inR v3 2000) (f_M_loosely_165 k135 v3 v4 v5 v6 (h 48 (Int32.toNatClampNeg v3)) h)
def f_M_loosely_135 : Nat → Int32 → Int32 → Int32 → Int32 → Hp → Option (Int32 × Hp)
  | 0, _, _, _, _, _ => none
  | n + 1, v3, v4, v5, v6, h => if v3 < v5 then f_M_loosely_148 (fun v3 v4 v5 v6 h => f_M_loosely_135 n v3 v4 v5 v6 h) v3 v4 v5 v6 h else if v6 ≤ v4 then some (0, h) else f_M_loosely_148 (fun v3 v4 v5 v6 h => f_M_loosely_135 n v3 v4 v5 v6 h) v3 v4 v5 v6 h
def f_M_loosely_108 : Nat → Int32 → Int32 → Int32 → Int32 → Hp → Option (Int32 × Hp)
  | 0, _, _, _, _, _ => none
  | n + 1, v3, v4, v5, v6, h => if v6 ≤ v4 then f_M_loosely_135 fuel v3 v4 v5 v6 h else chk (inR (v6 - 1) 2000) (if (h 48 (Int32.toNatClampNeg (v6 - 1))) = 32 then f_M_loosely_108 n v3 v4 v5 (v6 + (-1)) h else f_M_loosely_135 fuel v3 v4 v5 v6 h)
def f_M_loosely_82 : Nat → Int32 → Int32 → Int32 → Int32 → Hp → Option (Int32 × Hp)
  | 0, _, _, _, _, _ => none
  | n + 1, v3, v4, v5, v6, h => if v5 ≤ v3 then f_M_loosely_108 fuel v3 v4 v5 v6 h else chk (inR (v5 - 1) 2000) (if (h 48 (Int32.toNatClampNeg (v5 - 1))) = 32 then f_M_loosely_82 n v3 v4 (v5 + (-1)) v6 h else f_M_loosely_108 fuel v3 v4 v5 v6 h)
def f_M_loosely_57 : Nat → Int32 → Int32 → Int32 → Int32 → Hp → Option (Int32 × Hp)
  | 0, _, _, _, _, _ => none
  | n + 1, v3, v4, v5, v6, h => if v6 ≤ v4 then f_M_loosely_82 fuel v3 v4 v5 v6 h else chk (inR v4 2000) (if (h 48 (Int32.toNatClampNeg v4)) = 32 then f_M_loosely_57 n v3 (v4 + 1) v5 v6 h else f_M_loosely_82 fuel v3 v4 v5 v6 h)
def f_M_loosely_34 : Nat → Int32 → Int32 → Int32 → Int32 → Hp → Option (Int32 × Hp)
  | 0, _, _, _, _, _ => none
  | n + 1, v3, v4, v5, v6, h => if v5 ≤ v3 then f_M_loosely_57 fuel v3 v4 v5 v6 h else chk (inR v3 2000) (if (h 48 (Int32.toNatClampNeg v3)) = 32 then f_M_loosely_34 n (v3 + 1) v4 v5 v6 h else f_M_loosely_57 fuel v3 v4 v5 v6 h)
def f_M_loosely (v1 : Int32) (v2 : Int32) (h : Hp) : Option (Int32 × Hp) := chk (inR v1 10) (chk (inR v2 10) (f_M_loosely_34 fuel (200 * v1) (200 * v2) ((200 * v1) + (h 49 (Int32.toNatClampNeg v1))) ((200 * v2) + (h 49 (Int32.toNatClampNeg v2))) h))
def f_M_compare (v1 : Int32) (v2 : Int32) (v3 : Int32) (h : Hp) : Option (Int32 × Hp) := bd (f_M_isRegister v1 h) (fun r1 h1 => if r1 = 0 then some ((-1), h1) else bd (f_M_isRegister v2 h1) (fun r8 h8 => if r8 = 0 then some ((-1), h8) else if v3 = 0 then bd (f_M_read v1 0 h8) (fun r33 h33 => if r33 = 0 then bd (f_M_loosely v1 v2 h33) (fun r51 h51 => bd (f_M_told r51 h51) (fun r54 h54 => some (r54, h54))) else bd (f_M_read v2 1 h33) (fun r42 h42 => if r42 = 0 then bd (f_M_loosely v1 v2 h42) (fun r51 h51 => bd (f_M_told r51 h51) (fun r54 h54 => some (r54, h54))) else bd (f_M_round 0 ((h42 46 4) - (h42 46 5)) h42) (fun _u69 h69 => bd (f_M_round 1 ((h69 46 4) - (h69 46 5)) h69) (fun _u83 h83 => bd (f_M_add 0 1 1 2 h83) (fun _u91 h91 => chk (inR 2 5) (bd (f_M_told (h91 53 (Int32.toNatClampNeg 2)) h91) (fun r100 h100 => some (r100, h100)))))))) else bd (f_M_strictly v1 v2 h8) (fun r23 h23 => bd (f_M_told r23 h23) (fun r26 h26 => some (r26, h26)))))
def f_M_whole (v1 : Int32) (h : Hp) : Option (Int32 × Hp) := bd (f_M_isRegister v1 h) (fun r1 h1 => if r1 = 0 then some ((-2000000001), h1) else bd (f_M_read v1 0 h1) (fun r13 h13 => if r13 = 0 then some ((-2000000000), h13) else bd (f_M_isWhole 0 h13) (fun r21 h21 => if r21 = 0 then some ((-2000000000), h21) else bd (f_M_valueOf 0 h21) (fun r29 h29 => some (r29, h29)))))
def f_M_about (v1 : Int32) (v2 : Int32) (h : Hp) : Option (Int32 × Hp) := bd (f_M_isRegister v1 h) (fun r1 h1 => if r1 = 0 then some ((-1), h1) else if v2 < 0 then some ((-1), h1) else if v2 ≤ 3 then bd (f_M_read v1 0 h1) (fun r21 h21 => if v2 = 0 then if r21 = 0 then some (0, h21) else some (1, h21) else if r21 = 0 then some (0, h21) else chk (inR 0 5) (if (h21 53 (Int32.toNatClampNeg 0)) = 0 then some (0, h21) else if v2 = 1 then chk (inR 0 5) (some (h21 51 (Int32.toNatClampNeg 0), h21)) else if v2 = 2 then bd (f_M_high 0 h21) (fun r75 h75 => some (r75, h75)) else chk (inR 0 5) (if 0 ≤ (h21 53 (Int32.toNatClampNeg 0)) then some (0, h21) else some (1, h21)))) else some ((-1), h1))
end
section
/-! PURE 1: bits of a byte (the rows bt .. bp_b are from the kit's BITS texts), the heap's words, Lines -/
def bt (x : Int32) (i : Nat) : Bool := x.toBitVec.getLsbD i
theorem b_ext {x y : Int32} (h : ∀ i, i < 32 → bt x i = bt y i) : x = y := Int32.toBitVec_inj.mp (BitVec.eq_of_getLsbD_eq (fun i hi => h i hi))
theorem b_and (x y : Int32) (i : Nat) : bt (x &&& y) i = (bt x i && bt y i) := by unfold bt; rw [Int32.toBitVec_and, BitVec.getLsbD_and]
theorem b_big {x : Int32} {i : Nat} (h : 32 ≤ i) : bt x i = false := BitVec.getLsbD_of_ge _ _ h
theorem b_255 (i : Nat) : bt 255 i = decide (i < 8) := by
  rcases Nat.lt_or_ge i 32 with h | h
  · exact (by decide +kernel : ∀ i, i < 32 → bt 255 i = decide (i < 8)) i h
  · rw [b_big h, decide_eq_false (by omega)]
theorem s_l : ∀ n, n < 32 → ((nI n &&& 31).toBitVec.smod 32).toNat = n := by decide +kernel
theorem s_u : ∀ n, n < 32 → (((nI n).toUInt32 &&& Int32.toUInt32 31).toBitVec % 32).toNat = n := by decide +kernel
theorem b_ushr (n : Nat) (hn : n < 32) (x : Int32) (i : Nat) : bt ((x.toUInt32 >>> ((nI n).toUInt32 &&& Int32.toUInt32 31)).toInt32) i = bt x (n + i) := by
  show (x.toUInt32 >>> ((nI n).toUInt32 &&& Int32.toUInt32 31)).toBitVec.getLsbD i = x.toUInt32.toBitVec.getLsbD (n + i)
  rw [UInt32.toBitVec_shiftRight]
  show (x.toUInt32.toBitVec >>> (((nI n).toUInt32 &&& Int32.toUInt32 31).toBitVec % 32).toNat).getLsbD i = _
  rw [s_u n hn, BitVec.getLsbD_ushiftRight]
theorem b_sshr (n : Nat) (hn : n < 32) (x : Int32) {i : Nat} (hi : i < 32) : bt (x >>> (nI n &&& 31)) i = if n + i < 32 then bt x (n + i) else bt x 31 := by
  unfold bt
  rw [Int32.toBitVec_shiftRight]
  show (x.toBitVec.sshiftRight ((nI n &&& 31).toBitVec.smod 32).toNat).getLsbD i = _
  rw [s_l n hn, BitVec.getLsbD_sshiftRight, BitVec.msb_eq_getLsbD_last]
  simp [hi]
theorem bp_b (x : Int32) : x.toInt8.toInt32 &&& 255 = x &&& 255 := by
  apply Int32.toBitVec_inj.mp
  rw [Int32.toBitVec_and, Int32.toBitVec_and, Int8.toBitVec_toInt32, Int32.toBitVec_toInt8]
  apply BitVec.eq_of_getLsbD_eq
  intro i hi
  rw [BitVec.getLsbD_and, BitVec.getLsbD_and]
  have hm : ∀ i < 32, 8 ≤ i → (255 : Int32).toBitVec.getLsbD i = false := by decide
  rcases Nat.lt_or_ge i 8 with z | z
  · rw [BitVec.getLsbD_signExtend, BitVec.getLsbD_signExtend, if_pos z, if_pos hi]
    simp only [z, hi, decide_true, Bool.true_and]
  · rw [hm i hi z]; simp
/-- the byte of v at the shift n, the unsigned and the signed way -/
theorem by_ush (n : Nat) (hn : n ≤ 24) (v : Int32) : ((v.toUInt32 >>> ((nI n).toUInt32 &&& Int32.toUInt32 31)).toInt32) &&& 255 = (v >>> (nI n &&& 31)) &&& 255 := by
  apply b_ext
  intro i hi
  rw [b_and, b_and, b_255]
  rcases Nat.lt_or_ge i 8 with h | h
  · rw [b_ushr n (by omega), b_sshr n (by omega) v hi, if_pos (by omega)]
  · simp [Nat.not_lt.mpr h]
def bN (v : Int32) (n : Nat) : Nat := (v >>> (nI n &&& 31)).toBitVec.toNat % 256
theorem bN_lt (v : Int32) (n : Nat) : bN v n < 256 := Nat.mod_lt _ (by decide)
theorem and255 (x : Int32) : x &&& 255 = iI ((x.toBitVec.toNat % 256 : Nat) : Int) := by
  rw [pk_and x (m := 255) 8 (by decide), iI_nat]
theorem bN_s (v : Int32) (n : Nat) : (v >>> (nI n &&& 31)) &&& 255 = iI (bN v n : Int) := and255 _
theorem bN_u (v : Int32) (n : Nat) (hn : n ≤ 24) : ((v.toUInt32 >>> ((nI n).toUInt32 &&& Int32.toUInt32 31)).toInt32) &&& 255 = iI (bN v n : Int) := by
  rw [by_ush n hn, bN_s]
theorem by_st (x : Int32) : (vp_nar .byte (x.toInt8.toInt32)) &&& 255 = x &&& 255 := by
  rw [vp_nar_byte, bp_b, bp_b]
/-- the four bytes of an int, the highest first -/
def four (v : Int32) : List Nat := [bN v 24, bN v 16, bN v 8, bN v 0]
-- ===== the heap =====
theorem up2_s (h : Hp) (i k : Nat) (v : Int32) : up2 h i k v i k = v := by simp [up2, upd]
theorem up2_k (h : Hp) (i : Nat) {k l : Nat} (v : Int32) (hl : l ≠ k) : up2 h i k v i l = h i l := by simp [up2, upd, hl]
theorem up2_o (h : Hp) {i j : Nat} (k l : Nat) (v : Int32) (hj : j ≠ i) : up2 h i k v j l = h j l := by simp [up2, hj]
theorem iI_lit (n : Nat) : (OfNat.ofNat n : Int32) = iI ((n : Nat) : Int) := iI_ofNat n
theorem i0 : (0 : Int32) = iI 0 := rfl
theorem i1 : (1 : Int32) = iI 1 := rfl
theorem im1 : (-1 : Int32) = iI (-1) := by decide +kernel
/-- only the cells a and b have changed -/
def kp (h h' : Hp) (a b : Nat) : Prop := ∀ j, j ≠ a → j ≠ b → h' j = h j
theorem kp_r (h : Hp) (a b : Nat) : kp h h a b := fun _ _ _ => rfl
theorem kp_t {h h1 h2 : Hp} {a b : Nat} (x : kp h h1 a b) (y : kp h1 h2 a b) : kp h h2 a b := fun j p q => (y j p q).trans (x j p q)
theorem bl_le (j : Nat) : bl j ≤ 240 := by unfold bl; split <;> omega
theorem bl_ge (j : Nat) : 200 ≤ bl j := by unfold bl; split <;> omega
theorem il_le (j : Nat) : il j ≤ 13000 := by unfold il; repeat (first | omega | split)
theorem gD_l {a b : List Nat} {k : Nat} (h : k < a.length) : (a ++ b).getD k 0 = a.getD k 0 := by simp [List.getD_eq_getElem?_getD, List.getElem?_append_left h]
theorem gD_r {a b : List Nat} {k : Nat} (h : a.length ≤ k) : (a ++ b).getD k 0 = b.getD (k - a.length) 0 := by simp [List.getD_eq_getElem?_getD, List.getElem?_append_right h]
theorem gD_t {a : List Nat} {k n : Nat} (h : k < n) : (a.take n).getD k 0 = a.getD k 0 := by simp [List.getD_eq_getElem?_getD, List.getElem?_take, h]
theorem take_s {a : List Nat} {k : Nat} (h : k < a.length) : a.take (k + 1) = a.take k ++ [a.getD k 0] := by
  rw [List.take_add_one]
  simp [List.getD_eq_getElem?_getD, List.getElem?_eq_getElem h]
theorem in32 (v : Int32) : ∃ z : Int, v = iI z ∧ bI z := ⟨v.toInt, iI_of v, by have h1 := v.le_toInt; have h2 := v.toInt_lt; omega⟩
-- ===== Lines =====
def isL (h : Hp) (i : Nat) (bs : List Nat) : Prop := h i 1 = iI (bs.length : Int) ∧ bs.length ≤ bl (i + 1) ∧ (∀ k, k < bs.length → bs.getD k 0 < 256) ∧ ∀ k, k < bs.length → h (i + 1) k &&& 255 = iI (bs.getD k 0 : Int)
theorem isL_eq {h h' : Hp} {i : Nat} {bs : List Nat} (H : isL h i bs) (e1 : h' i = h i) (e2 : h' (i + 1) = h (i + 1)) : isL h' i bs := by
  obtain ⟨h1, h2, h3, h4⟩ := H
  exact ⟨by rw [e1]; exact h1, h2, h3, fun k hk => by rw [e2]; exact h4 k hk⟩
theorem L_add {h : Hp} {i : Nat} {bs : List Nat} {v : Int32} {b : Nat} (H : isL h i bs) (hl : bs.length < bl (i + 1)) (hv : v &&& 255 = iI (b : Int)) (hb : b < 256) : ∃ h', f_L_add i v h = some ((), h') ∧ isL h' i (bs ++ [b]) ∧ kp h h' i (i + 1) := by
  obtain ⟨h1, h2, h3, h4⟩ := H
  have hbl := bl_le (i + 1)
  have hne : i ≠ i + 1 := by omega
  unfold f_L_add
  rw [up2_o _ _ _ _ hne, h1]
  simp (disch := omega) only [iI_lit, iI_add, iI_lt, iI_le, iI_ofNat, iI_cl]
  rw [if_neg (by omega), if_neg (by omega), chk_t (iI_inR (by omega) (by omega) (by omega))]
  refine ⟨_, rfl, ⟨?_, ?_, ?_, ?_⟩, ?_⟩
  · rw [up2_s, List.length_append]
    simp
  · rw [List.length_append]
    simp
    omega
  · intro k hk
    rw [List.length_append] at hk
    simp at hk
    by_cases q : k < bs.length
    · rw [gD_l q]
      exact h3 k q
    · rw [gD_r (by omega), show k - bs.length = 0 by omega]
      exact hb
  · intro k hk
    rw [List.length_append] at hk
    simp at hk
    rw [up2_o _ _ _ _ (fun z => hne z.symm), Int.toNat_natCast]
    by_cases q : k < bs.length
    · rw [gD_l q, up2_k _ _ _ (by omega)]
      exact h4 k q
    · rw [gD_r (by omega), show k = bs.length by omega, up2_s, by_st, hv]
      simp
  · intro j p q
    rw [up2_ne _ _ _ p, up2_ne _ _ _ q]
/-- the byte at a place; -1 where there is none -/
def bAt (bs : List Nat) (z : Int) : Int := if 0 ≤ z ∧ z < bs.length then (bs.getD z.toNat 0 : Int) else -1
theorem L_byteAt {h : Hp} {i : Nat} {bs : List Nat} {z : Int} (H : isL h i bs) (hz : bI z) : f_L_byteAt i (iI z) h = some (iI (bAt bs z), h) := by
  obtain ⟨h1, h2, h3, h4⟩ := H
  have hbl := bl_le (i + 1)
  unfold f_L_byteAt bAt
  rw [h1]
  simp (disch := omega) only [iI_lit, iI_neg, iI_lt, iI_le, iI_ofNat]
  by_cases c1 : z < 0
  · rw [if_pos (by omega), if_neg (by omega)]
    rfl
  · rw [if_neg (by omega)]
    by_cases c2 : z < bs.length
    · rw [if_neg (by omega), if_pos (by omega), chk_t (iI_inR (by omega) (by omega) (by omega)), iI_cl (by omega) (by omega), if_pos (by omega), ← iI_lit 255, h4 z.toNat (by omega)]
    · rw [if_pos (by omega), if_neg (by omega)]
      rfl
theorem bAt_in {bs : List Nat} {k : Nat} (h : k < bs.length) : bAt bs (k : Int) = (bs.getD k 0 : Int) := by
  unfold bAt
  rw [if_pos (by omega), Int.toNat_natCast]
theorem byte_of {b : Nat} (hb : b < 256) : iI (b : Int) &&& 255 = iI (b : Int) := by
  rw [and255, show iI (b : Int) = nI b from (iI_nat b).symm, pk_tn (by omega), Nat.mod_eq_of_lt hb, iI_nat]
theorem L_copy_loop {i j : Nat} {bs : List Nat} (hij : i ≠ j) (hij1 : i ≠ j + 1) (hij2 : i + 1 ≠ j) : ∀ (m k n : Nat) (h : Hp), k + m = bs.length → m < n → isL h i (bs.take k) → isL h j bs → bs.length ≤ bl (i + 1) → ∃ h', f_L_copy_7 n i j (iI (k : Int)) h = some ((), h') ∧ isL h' i bs ∧ kp h h' i (i + 1) := by
  intro m
  induction m with
  | zero =>
    intro k n h hk hn Hi Hj hl
    obtain ⟨n, rfl⟩ : ∃ q, n = q + 1 := ⟨n - 1, by omega⟩
    have hbl := bl_le (j + 1)
    have h2 := Hj.2.1
    rw [f_L_copy_7, Hj.1, if_pos (by rw [iI_le ⟨by omega, by omega⟩ ⟨by omega, by omega⟩]; omega)]
    refine ⟨h, rfl, ?_, kp_r _ _ _⟩
    rwa [List.take_of_length_le (by omega)] at Hi
  | succ m ih =>
    intro k n h hk hn Hi Hj hl
    obtain ⟨n, rfl⟩ : ∃ q, n = q + 1 := ⟨n - 1, by omega⟩
    have hbl := bl_le (j + 1)
    have h2 := Hj.2.1
    have hkl : k < bs.length := by omega
    rw [f_L_copy_7, Hj.1, if_neg (by rw [iI_le ⟨by omega, by omega⟩ ⟨by omega, by omega⟩]; omega), bd_t (L_byteAt Hj ⟨by omega, by omega⟩), bAt_in hkl]
    obtain ⟨h1, e1, H1, K1⟩ := L_add (v := iI ((bs.getD k 0 : Nat) : Int)) (b := bs.getD k 0) Hi (by rw [List.length_take]; omega) (byte_of (Hj.2.2.1 k hkl)) (Hj.2.2.1 k hkl)
    rw [bd_t e1, i1, iI_add]
    rw [← take_s hkl] at H1
    obtain ⟨h', e', H', K'⟩ := ih (k + 1) n h1 (by omega) (by omega) H1 (isL_eq Hj (K1 j (fun z => hij z.symm) (fun z => hij2 z.symm)) (K1 (j + 1) (fun z => hij1 z.symm) (by omega))) hl
    exact ⟨h', by rw [← e']; congr 1, H', kp_t K1 K'⟩
theorem isL_nil {h : Hp} {i : Nat} : isL (up2 h i 1 0) i [] := ⟨by rw [up2_s]; rfl, Nat.zero_le _, fun k hk => absurd hk (Nat.not_lt_zero k), fun k hk => absurd hk (Nat.not_lt_zero k)⟩
theorem kp_up (h : Hp) (i b k : Nat) (v : Int32) : kp h (up2 h i k v) i b := fun j p _ => up2_ne h k v p
theorem L_copy {h : Hp} {i j : Nat} {bs : List Nat} (hij : i ≠ j) (hij1 : i ≠ j + 1) (hij2 : i + 1 ≠ j) (Hj : isL h j bs) (hl : bs.length ≤ bl (i + 1)) : ∃ h', f_L_copy i j h = some ((), h') ∧ isL h' i bs ∧ kp h h' i (i + 1) := by
  have hbl := bl_le (j + 1)
  have h2 := Hj.2.1
  obtain ⟨h', e, H, K⟩ := L_copy_loop hij hij1 hij2 bs.length 0 fuel (up2 h i 1 0) (by omega) (by unfold fuel; omega) (by rw [List.take_zero]; exact isL_nil) (isL_eq Hj (up2_ne h 1 0 (fun z => hij z.symm)) (up2_ne h 1 0 (fun z => hij1 z.symm))) hl
  exact ⟨h', e, H, kp_t (kp_up _ _ _ _ _) K⟩
theorem L_addInt {h : Hp} {i : Nat} {bs : List Nat} {v : Int32} (H : isL h i bs) (hl : bs.length + 4 ≤ bl (i + 1)) : ∃ h', f_L_addInt i v h = some ((), h') ∧ isL h' i (bs ++ four v) ∧ kp h h' i (i + 1) := by
  obtain ⟨h1, e1, H1, K1⟩ := L_add (v := (v.toUInt32 >>> ((nI 24).toUInt32 &&& Int32.toUInt32 31)).toInt32) H (by omega) (bN_u v 24 (by decide)) (bN_lt v 24)
  obtain ⟨h2, e2, H2, K2⟩ := L_add (v := (v.toUInt32 >>> ((nI 16).toUInt32 &&& Int32.toUInt32 31)).toInt32) H1 (by rw [List.length_append]; simp; omega) (bN_u v 16 (by decide)) (bN_lt v 16)
  obtain ⟨h3, e3, H3, K3⟩ := L_add (v := (v.toUInt32 >>> ((nI 8).toUInt32 &&& Int32.toUInt32 31)).toInt32) H2 (by rw [List.length_append, List.length_append]; simp; omega) (bN_u v 8 (by decide)) (bN_lt v 8)
  obtain ⟨h4, e4, H4, K4⟩ := L_add (v := (v.toUInt32 >>> ((nI 0).toUInt32 &&& Int32.toUInt32 31)).toInt32) H3 (by rw [List.length_append, List.length_append, List.length_append]; simp; omega) (bN_u v 0 (by decide)) (bN_lt v 0)
  refine ⟨h4, ?_, ?_, kp_t (kp_t (kp_t K1 K2) K3) K4⟩
  · unfold f_L_addInt
    rw [show fuel = 999995 + 1 + 1 + 1 + 1 + 1 from rfl, f_L_addInt_3, if_neg (by decide), show (24 : Int32) = nI 24 from rfl, bd_t e1, show nI 24 + (-8) = nI 16 by decide, f_L_addInt_3, if_neg (by decide), bd_t e2, show nI 16 + (-8) = nI 8 by decide, f_L_addInt_3, if_neg (by decide), bd_t e3, show nI 8 + (-8) = nI 0 by decide, f_L_addInt_3, if_neg (by decide), bd_t e4, f_L_addInt_3, if_pos (by decide)]
  · have : bs ++ four v = (((bs ++ [bN v 24]) ++ [bN v 16]) ++ [bN v 8]) ++ [bN v 0] := by simp [four]
    rw [this]
    exact H4
end
section
/-! PURE 2: the abstract state, both sides' pictures of it, and the calls that don't reckon -/
/-- tape, registers, digits, fuzz, form -/
abbrev St : Type := List Nat × (Nat → List Nat) × Nat × Nat × Nat
def okB (bs : List Nat) (n : Nat) : Prop := bs.length ≤ n ∧ ∀ k, k < bs.length → bs.getD k 0 < 256
def okS (s : St) : Prop := okB s.1 240 ∧ (∀ r, r < 10 → okB (s.2.1 r) 200) ∧ 1 ≤ s.2.2.1 ∧ s.2.2.1 ≤ 20 ∧ s.2.2.2.1 < s.2.2.1 ∧ s.2.2.2.2 ≤ 1
def SC (h : Hp) (s : St) : Prop := isL h 1 s.1 ∧ (∀ r, r < 10 → isL h (4 + 2 * r) (s.2.1 r)) ∧ h 0 9 = iI (s.2.2.1 : Int) ∧ h 0 10 = iI (s.2.2.2.1 : Int) ∧ h 0 11 = iI (s.2.2.2.2 : Int)
def isT (h : Hp) (bs : List Nat) : Prop := h 46 1 = iI (bs.length : Int) ∧ ∀ k, k < bs.length → h 47 k = iI (bs.getD k 0 : Int)
def isR (h : Hp) (r : Nat) (bs : List Nat) : Prop := h 49 r = iI (bs.length : Int) ∧ ∀ k, k < bs.length → h 48 (200 * r + k) = iI (bs.getD k 0 : Int)
def SR (h : Hp) (s : St) : Prop := isT h s.1 ∧ (∀ r, r < 10 → isR h r (s.2.1 r)) ∧ h 46 4 = iI (s.2.2.1 : Int) ∧ h 46 5 = iI (s.2.2.2.1 : Int) ∧ h 46 6 = iI (s.2.2.2.2 : Int)
/-- the reference's cells stay; the class's cells stay -/
def lo (h h' : Hp) : Prop := ∀ j, 46 ≤ j → h' j = h j
def hi (h h' : Hp) : Prop := ∀ j, j < 46 → h' j = h j
theorem lo_r (h : Hp) : lo h h := fun _ _ => rfl
theorem hi_r (h : Hp) : hi h h := fun _ _ => rfl
theorem lo_kp {h h' : Hp} {a b : Nat} (k : kp h h' a b) (ha : a < 46) (hb : b < 46) : lo h h' := fun j hj => k j (by omega) (by omega)
theorem lo_t {h h1 h2 : Hp} (x : lo h h1) (y : lo h1 h2) : lo h h2 := fun j q => (y j q).trans (x j q)
theorem hi_t {h h1 h2 : Hp} (x : hi h h1) (y : hi h1 h2) : hi h h2 := fun j q => (y j q).trans (x j q)
theorem hi_up (h : Hp) {i : Nat} (k : Nat) (v : Int32) (hi' : 46 ≤ i) : hi h (up2 h i k v) := fun j hj => up2_ne h k v (by omega)
theorem lo_up (h : Hp) {i : Nat} (k : Nat) (v : Int32) (hi' : i < 46) : lo h (up2 h i k v) := fun j hj => up2_ne h k v (by omega)
theorem SR_lo {h h' : Hp} {s : St} (H : SR h s) (k : lo h h') : SR h' s := by
  obtain ⟨⟨a1, a2⟩, b, c, d, e⟩ := H
  refine ⟨⟨by rw [k 46 (by omega)]; exact a1, fun q hq => by rw [k 47 (by omega)]; exact a2 q hq⟩, fun r hr => ⟨by rw [k 49 (by omega)]; exact (b r hr).1, fun q hq => by rw [k 48 (by omega)]; exact (b r hr).2 q hq⟩, by rw [k 46 (by omega)]; exact c, by rw [k 46 (by omega)]; exact d, by rw [k 46 (by omega)]; exact e⟩
theorem SC_hi {h h' : Hp} {s : St} (H : SC h s) (k : hi h h') : SC h' s := by
  obtain ⟨a, b, c, d, e⟩ := H
  exact ⟨isL_eq a (k 1 (by omega)) (k 2 (by omega)), fun r hr => isL_eq (b r hr) (k _ (by omega)) (k _ (by omega)), by rw [k 0 (by omega)]; exact c, by rw [k 0 (by omega)]; exact d, by rw [k 0 (by omega)]; exact e⟩
theorem bl_reg {r : Nat} : bl (4 + 2 * r + 1) = 200 := by unfold bl; rw [if_neg (by omega)]
theorem okB_app {a b : List Nat} {n : Nat} (ha : okB a n) (hb : okB b n) (hl : a.length + b.length ≤ n) : okB (a ++ b) n := by
  refine ⟨by rw [List.length_append]; omega, fun k hk => ?_⟩
  rw [List.length_append] at hk
  by_cases q : k < a.length
  · rw [gD_l q]; exact ha.2 k q
  · rw [gD_r (by omega)]; exact hb.2 _ (by omega)
theorem okB_four (v : Int32) : okB (four v) 240 := by
  refine ⟨by simp [four], fun k hk => ?_⟩
  have : k < 4 := hk
  rcases (show k = 0 ∨ k = 1 ∨ k = 2 ∨ k = 3 by omega) with rfl | rfl | rfl | rfl <;> exact bN_lt _ _
theorem four_len (v : Int32) : (four v).length = 4 := rfl
-- ===== feed =====
def sp_feed (a b c d e : Int32) (s : St) : Int32 × St := if s.1.length + 20 ≤ 240 then (iI ((s.1.length + 20 : Nat) : Int), (s.1 ++ four a ++ four b ++ four c ++ four d ++ four e, s.2)) else (iI (-1), s)
theorem okS_feed {a b c d e : Int32} {s : St} (H : okS s) : okS (sp_feed a b c d e s).2 := by
  unfold sp_feed
  split
  · rename_i q
    obtain ⟨h1, h2⟩ := H
    refine ⟨?_, h2⟩
    exact okB_app (okB_app (okB_app (okB_app (okB_app h1 (okB_four a) (by rw [four_len]; omega)) (okB_four b) (by simp only [List.length_append, four_len]; omega)) (okB_four c) (by simp only [List.length_append, four_len]; omega)) (okB_four d) (by simp only [List.length_append, four_len]; omega)) (okB_four e) (by simp only [List.length_append, four_len]; omega)
  · exact H
theorem C_feed {a b c d e : Int32} {s : St} {h : Hp} (H : SC h s) (ok : okS s) : ∃ h', f_D_feed a b c d e h = some ((sp_feed a b c d e s).1, h') ∧ SC h' (sp_feed a b c d e s).2 ∧ lo h h' := by
  obtain ⟨t, rg, rest⟩ := H
  have hl := ok.1.1
  unfold f_D_feed sp_feed
  rw [t.1]
  simp (disch := omega) only [iI_lit, iI_add, iI_le]
  by_cases q : s.1.length + 20 ≤ 240
  · rw [if_pos (by omega), if_pos q]
    have b2 : bl (1 + 1) = 240 := rfl
    obtain ⟨h1, e1, t1, k1⟩ := L_addInt (v := a) t (by rw [b2]; omega)
    obtain ⟨h2, e2, t2, k2⟩ := L_addInt (v := b) t1 (by simp only [List.length_append, four_len, b2]; omega)
    obtain ⟨h3, e3, t3, k3⟩ := L_addInt (v := c) t2 (by simp only [List.length_append, four_len, b2]; omega)
    obtain ⟨h4, e4, t4, k4⟩ := L_addInt (v := d) t3 (by simp only [List.length_append, four_len, b2]; omega)
    obtain ⟨h5, e5, t5, k5⟩ := L_addInt (v := e) t4 (by simp only [List.length_append, four_len, b2]; omega)
    have k := kp_t (kp_t (kp_t (kp_t k1 k2) k3) k4) k5
    rw [bd_t e1, bd_t e2, bd_t e3, bd_t e4, bd_t e5]
    refine ⟨h5, ?_, ⟨t5, fun r hr => isL_eq (rg r hr) (k _ (by omega) (by omega)) (k _ (by omega) (by omega)), ?_⟩, lo_kp k (by omega) (by omega)⟩
    · rw [t5.1]
      simp only [List.length_append, four_len]
    · rw [k 0 (by omega) (by omega)]
      exact rest
  · rw [if_neg (by omega), if_neg q, iI_neg]
    exact ⟨h, rfl, ⟨t, rg, rest⟩, lo_r h⟩
/-- the reference's tape grows -/
def kt (h h' : Hp) : Prop := (∀ j, j ≠ 46 → j ≠ 47 → h' j = h j) ∧ ∀ k, k ≠ 1 → h' 46 k = h 46 k
theorem kt_t {h h1 h2 : Hp} (x : kt h h1) (y : kt h1 h2) : kt h h2 := ⟨fun j p q => (y.1 j p q).trans (x.1 j p q), fun k p => (y.2 k p).trans (x.2 k p)⟩
theorem M_one {h : Hp} {bs : List Nat} {b : Nat} {w : Int32} (H : isT h bs) (hl : bs.length < 240) (hw : w = iI (b : Int)) : isT (up2 (up2 h 47 bs.length w) 46 1 (iI ((bs.length : Int) + 1))) (bs ++ [b]) ∧ kt h (up2 (up2 h 47 bs.length w) 46 1 (iI ((bs.length : Int) + 1))) := by
  obtain ⟨h1, h2⟩ := H
  refine ⟨⟨?_, fun k hk => ?_⟩, fun j p q => ?_, fun k p => ?_⟩
  · rw [up2_s, List.length_append]
    simp
  · rw [up2_o _ _ _ _ (by omega)]
    rw [List.length_append] at hk
    simp at hk
    by_cases q : k < bs.length
    · rw [gD_l q, up2_k _ _ _ (by omega)]
      exact h2 k q
    · rw [gD_r (by omega), show k = bs.length by omega, up2_s, hw]
      simp
  · rw [up2_ne _ _ _ p, up2_ne _ _ _ q]
  · rw [up2_k _ _ _ p, up2_o _ _ _ _ (by omega)]
theorem M_step {n : Nat} {v : Int32} {k : Nat} {h : Hp} {bs : List Nat} (H : isT h bs) (hl : bs.length < 240) (hk : k ≤ 24) : ∃ h', f_M_four_3 (n + 1) v (nI k) h = f_M_four_3 n v (nI k + (-8)) h' ∧ isT h' (bs ++ [bN v k]) ∧ kt h h' := by
  have e0 : (up2 h 47 bs.length ((v >>> (nI k &&& 31)) &&& 255)) 46 1 = iI (bs.length : Int) := by rw [up2_o _ _ _ _ (by omega)]; exact H.1
  obtain ⟨a, b⟩ := M_one (w := (v >>> (nI k &&& 31)) &&& 255) (b := bN v k) H hl (bN_s v k)
  refine ⟨_, ?_, a, b⟩
  rw [f_M_four_3, if_neg (nI_pos (by omega)), H.1, chk_t (iI_inR (by omega) (by omega) (by omega)), iI_cl (by omega) (by omega), Int.toNat_natCast, e0, i1, iI_add]
theorem M_four {h : Hp} {bs : List Nat} {v : Int32} (H : isT h bs) (hl : bs.length + 4 ≤ 240) : ∃ h', f_M_four v h = some ((), h') ∧ isT h' (bs ++ four v) ∧ kt h h' := by
  obtain ⟨h1, e1, t1, k1⟩ := M_step (n := 999999) (v := v) (k := 24) H (by omega) (by omega)
  obtain ⟨h2, e2, t2, k2⟩ := M_step (n := 999998) (v := v) (k := 16) t1 (by rw [List.length_append]; simp; omega) (by omega)
  obtain ⟨h3, e3, t3, k3⟩ := M_step (n := 999997) (v := v) (k := 8) t2 (by simp only [List.length_append]; simp; omega) (by omega)
  obtain ⟨h4, e4, t4, k4⟩ := M_step (n := 999996) (v := v) (k := 0) t3 (by simp only [List.length_append]; simp; omega) (by omega)
  refine ⟨h4, ?_, ?_, kt_t (kt_t (kt_t k1 k2) k3) k4⟩
  · unfold f_M_four
    rw [show fuel = 999999 + 1 from rfl, show (24 : Int32) = nI 24 from rfl, e1, show nI 24 + (-8) = nI 16 by decide, e2, show nI 16 + (-8) = nI 8 by decide, e3, show nI 8 + (-8) = nI 0 by decide, e4, show (999996 : Nat) = 999995 + 1 from rfl, f_M_four_3, if_pos (by decide)]
  · have : bs ++ four v = (((bs ++ [bN v 24]) ++ [bN v 16]) ++ [bN v 8]) ++ [bN v 0] := by simp [four]
    rw [this]
    exact t4
theorem hi_kt {h h' : Hp} (k : kt h h') : hi h h' := fun j hj => k.1 j (by omega) (by omega)
theorem SR_kt {h h' : Hp} {s : St} {t : List Nat} (H : SR h s) (k : kt h h') (ht : isT h' t) : SR h' (t, s.2) := by
  obtain ⟨-, b, c, d, e⟩ := H
  exact ⟨ht, fun r hr => ⟨by rw [k.1 49 (by omega) (by omega)]; exact (b r hr).1, fun q hq => by rw [k.1 48 (by omega) (by omega)]; exact (b r hr).2 q hq⟩, (k.2 4 (by omega)).trans c, (k.2 5 (by omega)).trans d, (k.2 6 (by omega)).trans e⟩
theorem M_feed {a b c d e : Int32} {s : St} {h : Hp} (H : SR h s) (ok : okS s) : ∃ h', f_M_feed a b c d e h = some ((sp_feed a b c d e s).1, h') ∧ SR h' (sp_feed a b c d e s).2 ∧ hi h h' := by
  have t := H.1
  have hl := ok.1.1
  unfold f_M_feed sp_feed
  rw [t.1]
  simp (disch := omega) only [iI_lit, iI_add, iI_le]
  by_cases q : s.1.length + 20 ≤ 240
  · rw [if_pos (by omega), if_pos q]
    obtain ⟨h1, e1, t1, k1⟩ := M_four (v := a) t (by omega)
    obtain ⟨h2, e2, t2, k2⟩ := M_four (v := b) t1 (by simp only [List.length_append, four_len]; omega)
    obtain ⟨h3, e3, t3, k3⟩ := M_four (v := c) t2 (by simp only [List.length_append, four_len]; omega)
    obtain ⟨h4, e4, t4, k4⟩ := M_four (v := d) t3 (by simp only [List.length_append, four_len]; omega)
    obtain ⟨h5, e5, t5, k5⟩ := M_four (v := e) t4 (by simp only [List.length_append, four_len]; omega)
    have k := kt_t (kt_t (kt_t (kt_t k1 k2) k3) k4) k5
    rw [bd_t e1, bd_t e2, bd_t e3, bd_t e4, bd_t e5]
    refine ⟨h5, ?_, SR_kt H k t5, hi_kt k⟩
    rw [t5.1]
    simp only [List.length_append, four_len]
  · rw [if_neg (by omega), if_neg q, iI_neg]
    exact ⟨h, rfl, H, hi_r h⟩
end
section
/-! PURE 3: end, put, size, at, digits, fuzz, form -/
theorem SC_0 {h : Hp} {s : St} {k : Nat} {v : Int32} (H : SC h s) (h9 : k ≠ 9) (h10 : k ≠ 10) (h11 : k ≠ 11) : SC (up2 h 0 k v) s := by
  obtain ⟨a, b, c, d, e⟩ := H
  exact ⟨isL_eq a (up2_ne _ _ _ (by omega)) (up2_ne _ _ _ (by omega)), fun r hr => isL_eq (b r hr) (up2_ne _ _ _ (by omega)) (up2_ne _ _ _ (by omega)), by rw [up2_k _ _ _ (by omega)]; exact c, by rw [up2_k _ _ _ (by omega)]; exact d, by rw [up2_k _ _ _ (by omega)]; exact e⟩
-- ===== end =====
def sp_end (n : Int) (s : St) : Int32 × St := if 0 ≤ n ∧ n ≤ s.1.length then (iI n, (s.1.take n.toNat, s.2)) else (iI (-1), s)
theorem okB_take {a : List Nat} {n m : Nat} (h : okB a n) : okB (a.take m) n := by
  refine ⟨by rw [List.length_take]; have := h.1; omega, fun k hk => ?_⟩
  rw [List.length_take] at hk
  rw [gD_t (by omega)]
  exact h.2 k (by omega)
theorem okS_end {n : Int} {s : St} (H : okS s) : okS (sp_end n s).2 := by
  unfold sp_end
  split
  · exact ⟨okB_take H.1, H.2⟩
  · exact H
theorem C_end {n : Int} {s : St} {h : Hp} (hn : bI n) (H : SC h s) (ok : okS s) : ∃ h', f_D_end (iI n) h = some ((sp_end n s).1, h') ∧ SC h' (sp_end n s).2 ∧ lo h h' := by
  obtain ⟨t, rg, rest⟩ := H
  have hl := ok.1.1
  obtain ⟨t1, t2, t3, t4⟩ := t
  unfold f_D_end sp_end
  rw [t1]
  simp (disch := omega) only [iI_lit, iI_lt, iI_le, iI_neg]
  by_cases q : n < 0
  · rw [if_pos (by omega), if_neg (by omega)]
    exact ⟨h, rfl, ⟨⟨t1, t2, t3, t4⟩, rg, rest⟩, lo_r h⟩
  · rw [if_neg (by omega)]
    by_cases q2 : n ≤ s.1.length
    · rw [if_pos (by omega), if_pos (by omega)]
      refine ⟨_, rfl, ⟨⟨?_, ?_, ?_, ?_⟩, fun r hr => isL_eq (rg r hr) (up2_ne _ _ _ (by omega)) (up2_ne _ _ _ (by omega)), ?_⟩, lo_up _ _ _ (by omega)⟩
      · show up2 h 1 1 (iI n) 1 1 = _
        rw [up2_s, List.length_take]
        congr 1
        omega
      · show (s.1.take n.toNat).length ≤ _
        rw [List.length_take]
        omega
      · intro k hk
        rw [List.length_take] at hk
        rw [gD_t (by omega)]
        exact t3 k (by omega)
      · intro k hk
        rw [List.length_take] at hk
        rw [gD_t (by omega), up2_o _ _ _ _ (by omega)]
        exact t4 k (by omega)
      · rw [up2_ne _ _ _ (by omega)]
        exact rest
    · rw [if_neg (by omega), if_neg (by omega)]
      exact ⟨h, rfl, ⟨⟨t1, t2, t3, t4⟩, rg, rest⟩, lo_r h⟩
theorem M_end {n : Int} {s : St} {h : Hp} (hn : bI n) (H : SR h s) (ok : okS s) : ∃ h', f_M_end (iI n) h = some ((sp_end n s).1, h') ∧ SR h' (sp_end n s).2 ∧ hi h h' := by
  have t := H.1
  have hl := ok.1.1
  unfold f_M_end sp_end
  rw [t.1]
  simp (disch := omega) only [iI_lit, iI_lt, iI_le, iI_neg]
  by_cases q : n < 0
  · rw [if_pos (by omega), if_neg (by omega)]
    exact ⟨h, rfl, H, hi_r h⟩
  · rw [if_neg (by omega)]
    by_cases q2 : n ≤ s.1.length
    · rw [if_pos (by omega), if_pos (by omega)]
      have k : kt h (up2 h 46 1 (iI n)) := ⟨fun j p _ => up2_ne _ _ _ p, fun k p => up2_k _ _ _ p⟩
      refine ⟨_, rfl, SR_kt H k ⟨?_, fun k hk => ?_⟩, hi_kt k⟩
      · rw [up2_s, List.length_take]
        congr 1
        omega
      · rw [List.length_take] at hk
        rw [gD_t (by omega), up2_o _ _ _ _ (by omega)]
        exact t.2 k (by omega)
    · rw [if_neg (by omega), if_neg (by omega)]
      exact ⟨h, rfl, H, hi_r h⟩
-- ===== registers =====
abbrev isReg (r : Int) : Prop := 0 ≤ r ∧ r < 10
theorem C_find {r : Int} {h : Hp} (hr : bI r) : f_D_find (iI r) h = some (if isReg r then some (4 + 2 * r.toNat) else none, h) := by
  unfold f_D_find
  simp (disch := omega) only [iI_lit, iI_lt]
  by_cases q : r < 0
  · rw [if_pos (by omega), if_neg (by omega)]
  · rw [if_neg (by omega)]
    by_cases q2 : r < 10
    · rw [if_pos (by omega), if_pos (by omega), chk_t (iI_inR (by omega) (by omega) (by omega)), iI_cl (by omega) (by omega)]
    · rw [if_neg (by omega), if_neg (by omega)]
theorem cLine_reg {r : Nat} (hr : r < 10) : cLine (4 + 2 * r) := by omega
theorem M_isReg {r : Int} {h : Hp} (hr : bI r) : f_M_isRegister (iI r) h = some (iI (if isReg r then 1 else 0), h) := by
  unfold f_M_isRegister
  simp (disch := omega) only [iI_lit, iI_lt, iI_le]
  by_cases q : r < 0
  · rw [if_pos (by omega), if_neg (by omega)]
    rfl
  · rw [if_neg (by omega)]
    by_cases q2 : r < 10
    · rw [if_neg (by omega), if_pos (by omega)]
      rfl
    · rw [if_pos (by omega), if_neg (by omega)]
      rfl
-- ===== put =====
def setR (rg : Nat → List Nat) (r : Nat) (bs : List Nat) : Nat → List Nat := fun k => if k = r then bs else rg k
def sp_put (r : Int) (s : St) : Int32 × St := if isReg r ∧ s.1.length ≤ 200 then (iI (s.1.length : Int), ([], setR s.2.1 r.toNat s.1, s.2.2)) else (iI (-1), s)
theorem okS_put {r : Int} {s : St} (H : okS s) : okS (sp_put r s).2 := by
  unfold sp_put
  split
  · rename_i q
    refine ⟨⟨Nat.zero_le _, fun k hk => absurd hk (Nat.not_lt_zero k)⟩, fun k hk => ?_, H.2.2⟩
    show okB (setR s.2.1 r.toNat s.1 k) 200
    unfold setR
    split
    · exact ⟨q.2, H.1.2⟩
    · exact H.2.1 k hk
  · exact H
theorem C_put {r : Int} {s : St} {h : Hp} (hr : bI r) (H : SC h s) (ok : okS s) : ∃ h', f_D_put (iI r) h = some ((sp_put r s).1, h') ∧ SC h' (sp_put r s).2 ∧ lo h h' := by
  have hl := ok.1.1
  unfold f_D_put sp_put
  rw [bd_t (C_find hr)]
  by_cases q : isReg r
  · rw [if_pos q]
    show ∃ h', chk _ _ = _ ∧ _
    rw [chk_t (cLine_reg (by omega)), H.1.1]
    simp (disch := omega) only [iI_lit, iI_le, iI_neg]
    by_cases q2 : s.1.length ≤ 200
    · rw [if_pos (by omega), if_pos ⟨q, q2⟩]
      obtain ⟨t, rg, rest⟩ := H
      obtain ⟨h1, e1, H1, k1⟩ := L_copy (i := 4 + 2 * r.toNat) (by omega) (by omega) (by omega) t (by rw [bl_reg]; omega)
      rw [bd_t e1]
      refine ⟨up2 h1 1 1 0, ?_, ⟨isL_nil, fun k hk => ?_, ?_⟩, ?_⟩
      · rw [up2_o _ _ _ _ (by omega), H1.1]
        rfl
      · show isL _ _ (setR s.2.1 r.toNat s.1 k)
        unfold setR
        by_cases z : k = r.toNat
        · rw [if_pos z, z]
          exact isL_eq H1 (up2_ne _ _ _ (by omega)) (up2_ne _ _ _ (by omega))
        · rw [if_neg z]
          exact isL_eq (rg k hk) ((up2_ne _ _ _ (by omega)).trans (k1 _ (by omega) (by omega))) ((up2_ne _ _ _ (by omega)).trans (k1 _ (by omega) (by omega)))
      · rw [up2_ne _ _ _ (by omega), k1 0 (by omega) (by omega)]
        exact rest
      · exact lo_t (lo_kp k1 (by omega) (by omega)) (lo_up _ _ _ (by omega))
    · rw [if_neg (by omega), if_neg (by omega)]
      exact ⟨h, rfl, H, lo_r h⟩
  · rw [if_neg q, if_neg (by omega)]
    exact ⟨h, rfl, H, lo_r h⟩
theorem M_put_loop {r : Nat} {bs : List Nat} (hr : r < 10) : ∀ (m k n : Nat) (h : Hp), k + m = bs.length → m < n → bs.length ≤ 200 → isT h bs → (∀ q, q < k → h 48 (200 * r + q) = iI (bs.getD q 0 : Int)) → ∃ h', f_M_put_21 n (iI (r : Int)) (iI (k : Int)) h = some (iI (bs.length : Int), up2 (up2 h' 49 r (iI (bs.length : Int))) 46 1 0) ∧ (∀ q, q < bs.length → h' 48 (200 * r + q) = iI (bs.getD q 0 : Int)) ∧ (∀ q, q < 200 * r ∨ 200 * r + 200 ≤ q → h' 48 q = h 48 q) ∧ ∀ j, j ≠ 48 → h' j = h j := by
  intro m
  induction m with
  | zero =>
    intro k n h hk hn hl H Hk
    obtain ⟨n, rfl⟩ : ∃ q, n = q + 1 := ⟨n - 1, by omega⟩
    rw [f_M_put_21, H.1, if_pos (by rw [iI_le ⟨by omega, by omega⟩ ⟨by omega, by omega⟩]; omega), chk_t (iI_inR (by omega) (by omega) (by omega)), chk_t (iI_inR (by omega) (by omega) (by omega)), iI_cl (by omega) (by omega), Int.toNat_natCast]
    refine ⟨h, ?_, fun q hq => Hk q (by omega), fun _ _ => rfl, fun _ _ => rfl⟩
    rw [up2_o _ _ _ _ (by omega), up2_s]
  | succ m ih =>
    intro k n h hk hn hl H Hk
    obtain ⟨n, rfl⟩ : ∃ q, n = q + 1 := ⟨n - 1, by omega⟩
    rw [f_M_put_21, H.1, if_neg (by rw [iI_le ⟨by omega, by omega⟩ ⟨by omega, by omega⟩]; omega), chk_t (iI_inR (by omega) (by omega) (by omega))]
    simp only [iI_lit, iI_mul, iI_add]
    rw [chk_t (iI_inR (by omega) (by omega) (by omega)), iI_cl (by omega) (by omega), iI_cl (by omega) (by omega), Int.toNat_natCast, H.2 k (by omega), show ((200 : Nat) * (r : Int) + (k : Int)).toNat = 200 * r + k by omega]
    obtain ⟨h', e, a, b, c⟩ := ih (k + 1) n (up2 h 48 (200 * r + k) (iI (bs.getD k 0 : Int))) (by omega) (by omega) hl ⟨by rw [up2_o _ _ _ _ (by omega)]; exact H.1, fun q hq => by rw [up2_o _ _ _ _ (by omega)]; exact H.2 q hq⟩ (fun q hq => by
      by_cases z : q = k
      · rw [z, up2_s]
      · rw [up2_k _ _ _ (by omega)]
        exact Hk q (by omega))
    refine ⟨h', ?_, a, fun q hq => ?_, fun j hj => ?_⟩
    · exact e
    · rw [b q hq, up2_k _ _ _ (by omega)]
    · rw [c j hj, up2_ne _ _ _ hj]
theorem M_put {r : Int} {s : St} {h : Hp} (hr : bI r) (H : SR h s) (ok : okS s) : ∃ h', f_M_put (iI r) h = some ((sp_put r s).1, h') ∧ SR h' (sp_put r s).2 ∧ hi h h' := by
  have hl := ok.1.1
  unfold f_M_put sp_put
  rw [bd_t (M_isReg hr)]
  by_cases q : isReg r
  · rw [if_pos q, if_neg (by decide), H.1.1]
    simp (disch := omega) only [iI_le, iI_lit, iI_neg]
    by_cases q2 : s.1.length ≤ 200
    · rw [if_pos (by omega), if_pos ⟨q, q2⟩]
      obtain ⟨r, rfl⟩ : ∃ k : Nat, r = k := ⟨r.toNat, by omega⟩
      obtain ⟨h', e, a, b, c⟩ := M_put_loop (r := r) (bs := s.1) (by omega) s.1.length 0 fuel h (by omega) (by unfold fuel; omega) q2 H.1 (fun q hq => absurd hq (Nat.not_lt_zero q))
      obtain ⟨-, rg, d1, d2, d3⟩ := H
      refine ⟨_, e, ⟨⟨by rw [up2_s]; rfl, fun k hk => absurd hk (Nat.not_lt_zero k)⟩, fun k hk => ?_, ?_, ?_, ?_⟩, ?_⟩
      · show isR _ _ (setR s.2.1 (r : Int).toNat s.1 k)
        unfold setR
        rw [Int.toNat_natCast]
        by_cases z : k = r
        · rw [if_pos z, z]
          refine ⟨by rw [up2_o _ _ _ _ (by omega), up2_s], fun q hq => ?_⟩
          rw [up2_o _ _ _ _ (by omega), up2_o _ _ _ _ (by omega)]
          exact a q hq
        · rw [if_neg z]
          have l2 := (ok.2.1 k hk).1
          refine ⟨by rw [up2_o _ _ _ _ (by omega), up2_k _ _ _ z, c 49 (by omega)]; exact (rg k hk).1, fun q hq => ?_⟩
          rw [up2_o _ _ _ _ (by omega), up2_o _ _ _ _ (by omega), b _ (by omega)]
          exact (rg k hk).2 q hq
      · rw [up2_k _ _ _ (by omega), up2_o _ _ _ _ (by omega), c 46 (by omega)]; exact d1
      · rw [up2_k _ _ _ (by omega), up2_o _ _ _ _ (by omega), c 46 (by omega)]; exact d2
      · rw [up2_k _ _ _ (by omega), up2_o _ _ _ _ (by omega), c 46 (by omega)]; exact d3
      · intro j hj
        rw [up2_ne _ _ _ (by omega), up2_ne _ _ _ (by omega), c j (by omega)]
    · rw [if_neg (by omega), if_neg (by omega)]
      exact ⟨h, rfl, H, hi_r h⟩
  · rw [if_neg q, if_pos (by rfl), if_neg (by omega)]
    exact ⟨h, rfl, H, hi_r h⟩
-- ===== size, at =====
def sp_size (r : Int) (s : St) : Int32 := if isReg r then iI ((s.2.1 r.toNat).length : Int) else iI (-1)
theorem C_size {r : Int} {s : St} {h : Hp} (hr : bI r) (H : SC h s) : f_D_size (iI r) h = some (sp_size r s, h) := by
  unfold f_D_size sp_size
  rw [bd_t (C_find hr)]
  by_cases q : isReg r
  · rw [if_pos q, if_pos q]
    show chk _ _ = _
    rw [chk_t (cLine_reg (by omega)), (H.2.1 r.toNat (by omega)).1]
  · rw [if_neg q, if_neg q]
    rfl
theorem M_size {r : Int} {s : St} {h : Hp} (hr : bI r) (H : SR h s) : f_M_size (iI r) h = some (sp_size r s, h) := by
  unfold f_M_size sp_size
  rw [bd_t (M_isReg hr)]
  by_cases q : isReg r
  · rw [if_pos q, if_pos q, if_neg (by decide), chk_t (iI_inR (by omega) (by omega) (by omega)), iI_cl (by omega) (by omega), (H.2.1 r.toNat (by omega)).1]
  · rw [if_neg q, if_neg q, if_pos (by rfl)]
    rfl
def sp_at (r i : Int) (s : St) : Int32 := if isReg r then iI (bAt (s.2.1 r.toNat) i) else iI (-1)
theorem C_at {r i : Int} {s : St} {h : Hp} (hr : bI r) (hi : bI i) (H : SC h s) : f_D_at (iI r) (iI i) h = some (sp_at r i s, h) := by
  unfold f_D_at sp_at
  rw [bd_t (C_find hr)]
  by_cases q : isReg r
  · rw [if_pos q, if_pos q]
    show chk _ _ = _
    rw [chk_t (cLine_reg (by omega)), bd_t (L_byteAt (H.2.1 r.toNat (by omega)) hi)]
  · rw [if_neg q, if_neg q]
    rfl
theorem M_at {r i : Int} {s : St} {h : Hp} (hr : bI r) (hi : bI i) (H : SR h s) (ok : okS s) : f_M_at (iI r) (iI i) h = some (sp_at r i s, h) := by
  unfold f_M_at sp_at
  rw [bd_t (M_isReg hr)]
  by_cases q : isReg r
  · obtain ⟨r, rfl⟩ : ∃ k : Nat, r = k := ⟨r.toNat, by omega⟩
    have l2 := (ok.2.1 r (by omega)).1
    rw [if_pos q, if_pos q, if_neg (by decide), chk_t (iI_inR (by omega) (by omega) (by omega)), iI_cl (by omega) (by omega), Int.toNat_natCast, (H.2.1 r (by omega)).1]
    unfold bAt
    simp (disch := omega) only [iI_lit, iI_lt, iI_le, iI_mul, iI_add, iI_neg]
    by_cases q1 : i < 0
    · rw [if_pos (by omega), if_neg (by omega)]
      rfl
    · rw [if_neg (by omega)]
      by_cases q2 : i < (s.2.1 r).length
      · rw [if_neg (by omega), if_pos (by omega), chk_t (iI_inR (by omega) (by omega) (by omega)), iI_cl (by omega) (by omega), show (((200 : Nat) : Int) * (r : Int) + i).toNat = 200 * r + i.toNat by omega, (H.2.1 r (by omega)).2 i.toNat (by omega)]
      · rw [if_pos (by omega), if_neg (by omega)]
        rfl
  · rw [if_neg q, if_neg q, if_pos (by rfl)]
    rfl
-- ===== digits, fuzz, form =====
def sp_digits (n : Int) (s : St) : Int32 × St := if 1 ≤ n ∧ n ≤ 20 ∧ (s.2.2.2.1 : Int) < n then (iI 1, (s.1, s.2.1, n.toNat, s.2.2.2)) else (iI (-1), s)
def sp_fuzz (n : Int) (s : St) : Int32 × St := if 0 ≤ n ∧ n < (s.2.2.1 : Int) then (iI 1, (s.1, s.2.1, s.2.2.1, n.toNat, s.2.2.2.2)) else (iI (-1), s)
def sp_form (n : Int) (s : St) : Int32 × St := if n = 0 ∨ n = 1 then (iI 1, (s.1, s.2.1, s.2.2.1, s.2.2.2.1, n.toNat)) else (iI (-1), s)
theorem okS_digits {n : Int} {s : St} (H : okS s) : okS (sp_digits n s).2 := by
  obtain ⟨a, b, c, d, e, f⟩ := H
  unfold sp_digits
  split
  · exact ⟨a, b, by show 1 ≤ n.toNat; omega, by show n.toNat ≤ 20; omega, by show s.2.2.2.1 < n.toNat; omega, f⟩
  · exact ⟨a, b, c, d, e, f⟩
theorem okS_fuzz {n : Int} {s : St} (H : okS s) : okS (sp_fuzz n s).2 := by
  obtain ⟨a, b, c, d, e, f⟩ := H
  unfold sp_fuzz
  split
  · exact ⟨a, b, c, d, by show n.toNat < s.2.2.1; omega, f⟩
  · exact ⟨a, b, c, d, e, f⟩
theorem okS_form {n : Int} {s : St} (H : okS s) : okS (sp_form n s).2 := by
  obtain ⟨a, b, c, d, e, f⟩ := H
  unfold sp_form
  split
  · exact ⟨a, b, c, d, e, by show n.toNat ≤ 1; omega⟩
  · exact ⟨a, b, c, d, e, f⟩
theorem SC_set {h : Hp} {s : St} (H : SC h s) (k : Nat) (v : Int32) (d f o : Nat) (h9 : up2 h 0 k v 0 9 = iI (d : Int)) (h10 : up2 h 0 k v 0 10 = iI (f : Int)) (h11 : up2 h 0 k v 0 11 = iI (o : Int)) : SC (up2 h 0 k v) (s.1, s.2.1, d, f, o) := by
  obtain ⟨a, b, -⟩ := H
  exact ⟨isL_eq a (up2_ne _ _ _ (by omega)) (up2_ne _ _ _ (by omega)), fun r hr => isL_eq (b r hr) (up2_ne _ _ _ (by omega)) (up2_ne _ _ _ (by omega)), h9, h10, h11⟩
theorem SR_set {h : Hp} {s : St} (H : SR h s) (k : Nat) (v : Int32) (d f o : Nat) (hk : k ≠ 1) (h9 : up2 h 46 k v 46 4 = iI (d : Int)) (h10 : up2 h 46 k v 46 5 = iI (f : Int)) (h11 : up2 h 46 k v 46 6 = iI (o : Int)) : SR (up2 h 46 k v) (s.1, s.2.1, d, f, o) := by
  obtain ⟨⟨a1, a2⟩, b, -⟩ := H
  exact ⟨⟨by rw [up2_k _ _ _ (fun z => hk z.symm)]; exact a1, fun q hq => by rw [up2_o _ _ _ _ (by omega)]; exact a2 q hq⟩, fun r hr => ⟨by rw [up2_o _ _ _ _ (by omega)]; exact (b r hr).1, fun q hq => by rw [up2_o _ _ _ _ (by omega)]; exact (b r hr).2 q hq⟩, h9, h10, h11⟩
theorem C_digits {n : Int} {s : St} {h : Hp} (hn : bI n) (H : SC h s) (ok : okS s) : ∃ h', f_D_digits (iI n) h = some ((sp_digits n s).1, h') ∧ SC h' (sp_digits n s).2 ∧ lo h h' := by
  obtain ⟨-, -, o1, o2, o3, o4⟩ := ok
  have c := H.2.2
  unfold f_D_digits sp_digits
  rw [c.2.1]
  simp (disch := omega) only [iI_lit, iI_lt, iI_neg]
  by_cases q : 1 ≤ n ∧ n ≤ 20 ∧ (s.2.2.2.1 : Int) < n
  · rw [if_neg (by omega), if_neg (by omega), if_pos (by omega), if_pos q]
    exact ⟨_, rfl, SC_set H 9 _ n.toNat _ _ (by rw [up2_s]; congr 1; omega) (by rw [up2_k _ _ _ (by omega)]; exact c.2.1) (by rw [up2_k _ _ _ (by omega)]; exact c.2.2), lo_up _ _ _ (by omega)⟩
  · rw [if_neg q]
    by_cases q1 : n < 1
    · rw [if_pos (by omega)]; exact ⟨h, rfl, H, lo_r h⟩
    · rw [if_neg (by omega)]
      by_cases q2 : 20 < n
      · rw [if_pos (by omega)]; exact ⟨h, rfl, H, lo_r h⟩
      · rw [if_neg (by omega), if_neg (by omega)]; exact ⟨h, rfl, H, lo_r h⟩
theorem M_digits {n : Int} {s : St} {h : Hp} (hn : bI n) (H : SR h s) (ok : okS s) : ∃ h', f_M_digits (iI n) h = some ((sp_digits n s).1, h') ∧ SR h' (sp_digits n s).2 ∧ hi h h' := by
  obtain ⟨-, -, o1, o2, o3, o4⟩ := ok
  have c := H.2.2
  unfold f_M_digits sp_digits
  rw [c.2.1]
  simp (disch := omega) only [iI_lit, iI_lt, iI_neg]
  by_cases q : 1 ≤ n ∧ n ≤ 20 ∧ (s.2.2.2.1 : Int) < n
  · rw [if_neg (by omega), if_neg (by omega), if_pos (by omega), if_pos q]
    exact ⟨_, rfl, SR_set H 4 _ n.toNat _ _ (by omega) (by rw [up2_s]; congr 1; omega) (by rw [up2_k _ _ _ (by omega)]; exact c.2.1) (by rw [up2_k _ _ _ (by omega)]; exact c.2.2), hi_up _ _ _ (by omega)⟩
  · rw [if_neg q]
    by_cases q1 : n < 1
    · rw [if_pos (by omega)]; exact ⟨h, rfl, H, hi_r h⟩
    · rw [if_neg (by omega)]
      by_cases q2 : 20 < n
      · rw [if_pos (by omega)]; exact ⟨h, rfl, H, hi_r h⟩
      · rw [if_neg (by omega), if_neg (by omega)]; exact ⟨h, rfl, H, hi_r h⟩
theorem C_fuzz {n : Int} {s : St} {h : Hp} (hn : bI n) (H : SC h s) (ok : okS s) : ∃ h', f_D_fuzz (iI n) h = some ((sp_fuzz n s).1, h') ∧ SC h' (sp_fuzz n s).2 ∧ lo h h' := by
  obtain ⟨-, -, o1, o2, o3, o4⟩ := ok
  have c := H.2.2
  unfold f_D_fuzz sp_fuzz
  rw [c.1]
  simp (disch := omega) only [iI_lit, iI_lt, iI_neg]
  by_cases q1 : n < 0
  · rw [if_pos (by omega), if_neg (by omega)]; exact ⟨h, rfl, H, lo_r h⟩
  · rw [if_neg (by omega)]
    by_cases q2 : n < (s.2.2.1 : Int)
    · rw [if_pos (by omega), if_pos (by omega)]
      exact ⟨_, rfl, SC_set H 10 _ _ n.toNat _ (by rw [up2_k _ _ _ (by omega)]; exact c.1) (by rw [up2_s]; congr 1; omega) (by rw [up2_k _ _ _ (by omega)]; exact c.2.2), lo_up _ _ _ (by omega)⟩
    · rw [if_neg (by omega), if_neg (by omega)]; exact ⟨h, rfl, H, lo_r h⟩
theorem M_fuzz {n : Int} {s : St} {h : Hp} (hn : bI n) (H : SR h s) (ok : okS s) : ∃ h', f_M_fuzz (iI n) h = some ((sp_fuzz n s).1, h') ∧ SR h' (sp_fuzz n s).2 ∧ hi h h' := by
  obtain ⟨-, -, o1, o2, o3, o4⟩ := ok
  have c := H.2.2
  unfold f_M_fuzz sp_fuzz
  rw [c.1]
  simp (disch := omega) only [iI_lit, iI_lt, iI_neg]
  by_cases q1 : n < 0
  · rw [if_pos (by omega), if_neg (by omega)]; exact ⟨h, rfl, H, hi_r h⟩
  · rw [if_neg (by omega)]
    by_cases q2 : n < (s.2.2.1 : Int)
    · rw [if_pos (by omega), if_pos (by omega)]
      exact ⟨_, rfl, SR_set H 5 _ _ n.toNat _ (by omega) (by rw [up2_k _ _ _ (by omega)]; exact c.1) (by rw [up2_s]; congr 1; omega) (by rw [up2_k _ _ _ (by omega)]; exact c.2.2), hi_up _ _ _ (by omega)⟩
    · rw [if_neg (by omega), if_neg (by omega)]; exact ⟨h, rfl, H, hi_r h⟩
theorem C_form {n : Int} {s : St} {h : Hp} (hn : bI n) (H : SC h s) : ∃ h', f_D_form (iI n) h = some ((sp_form n s).1, h') ∧ SC h' (sp_form n s).2 ∧ lo h h' := by
  have c := H.2.2
  unfold f_D_form sp_form
  simp (disch := omega) only [iI_lit, iI_eq, iI_neg]
  by_cases q : n = 0 ∨ n = 1
  · have g : SC (up2 h 0 11 (iI n)) (s.1, s.2.1, s.2.2.1, s.2.2.2.1, n.toNat) := SC_set H 11 _ _ _ n.toNat (by rw [up2_k _ _ _ (by omega)]; exact c.1) (by rw [up2_k _ _ _ (by omega)]; exact c.2.1) (by rw [up2_s]; congr 1; omega)
    rw [if_pos q]
    by_cases q1 : n = 0
    · rw [if_pos (by omega)]; exact ⟨_, rfl, g, lo_up _ _ _ (by omega)⟩
    · rw [if_neg (by omega), if_pos (by omega)]; exact ⟨_, rfl, g, lo_up _ _ _ (by omega)⟩
  · rw [if_neg (by omega), if_neg (by omega), if_neg q]; exact ⟨h, rfl, H, lo_r h⟩
theorem M_form {n : Int} {s : St} {h : Hp} (hn : bI n) (H : SR h s) : ∃ h', f_M_form (iI n) h = some ((sp_form n s).1, h') ∧ SR h' (sp_form n s).2 ∧ hi h h' := by
  have c := H.2.2
  unfold f_M_form sp_form
  simp (disch := omega) only [iI_lit, iI_eq, iI_neg]
  by_cases q : n = 0 ∨ n = 1
  · have g : SR (up2 h 46 6 (iI n)) (s.1, s.2.1, s.2.2.1, s.2.2.2.1, n.toNat) := SR_set H 6 _ _ _ n.toNat (by omega) (by rw [up2_k _ _ _ (by omega)]; exact c.1) (by rw [up2_k _ _ _ (by omega)]; exact c.2.1) (by rw [up2_s]; congr 1; omega)
    rw [if_pos q]
    by_cases q1 : n = 0
    · rw [if_pos (by omega)]; exact ⟨_, rfl, g, hi_up _ _ _ (by omega)⟩
    · rw [if_neg (by omega), if_pos (by omega)]; exact ⟨_, rfl, g, hi_up _ _ _ (by omega)⟩
  · rw [if_neg (by omega), if_neg (by omega), if_neg q]; exact ⟨h, rfl, H, hi_r h⟩
end
section
/-! PURE 4: how many digits, which digit, rounding -/
def ndf : Nat → Nat → Nat
  | 0, _ => 0
  | f + 1, c => if c = 0 then 0 else ndf f (c / 10) + 1
/-- how many digits a number has: none if it is 0 -/
def nd (c : Nat) : Nat := ndf c c
theorem ndf_spec : ∀ f c, c ≤ f → 0 < c → 0 < ndf f c ∧ 10 ^ (ndf f c - 1) ≤ c ∧ c < 10 ^ ndf f c := by
  intro f
  induction f with
  | zero => intro c h1 h2; omega
  | succ f ih =>
    intro c h1 h2
    have e : ndf (f + 1) c = ndf f (c / 10) + 1 := by rw [ndf, if_neg (by omega)]
    rw [e]
    by_cases h : c / 10 = 0
    · have e0 : ndf f (c / 10) = 0 := by
        rw [h]
        cases f with
        | zero => rfl
        | succ f => rw [ndf, if_pos rfl]
      rw [e0]
      exact ⟨by omega, by simp; omega, by simp; omega⟩
    · obtain ⟨a, b, d⟩ := ih (c / 10) (by omega) (by omega)
      refine ⟨by omega, ?_, ?_⟩
      · have : ndf f (c / 10) + 1 - 1 = (ndf f (c / 10) - 1) + 1 := by omega
        rw [this, Nat.pow_succ]
        omega
      · rw [Nat.pow_succ]
        omega
theorem nd_0 : nd 0 = 0 := rfl
theorem nd_pos {c : Nat} (h : 0 < c) : 0 < nd c := (ndf_spec c c (Nat.le_refl _) h).1
theorem nd_le {c : Nat} (h : 0 < c) : 10 ^ (nd c - 1) ≤ c := (ndf_spec c c (Nat.le_refl _) h).2.1
theorem nd_lt (c : Nat) : c < 10 ^ nd c := by
  rcases Nat.eq_zero_or_pos c with rfl | h
  · decide
  · exact (ndf_spec c c (Nat.le_refl _) h).2.2
theorem nd_eq {c n : Nat} (hn : 0 < n) (h1 : 10 ^ (n - 1) ≤ c) (h2 : c < 10 ^ n) : nd c = n := by
  have hc : 0 < c := Nat.lt_of_lt_of_le (p10 _) h1
  have a := pow_size (nd_le hc) h2 (nd_pos hc)
  have b := pow_size h1 (nd_lt c) hn
  omega
theorem nd_z {c : Nat} (h : nd c = 0) : c = 0 := by
  rcases Nat.eq_zero_or_pos c with h0 | h0
  · exact h0
  · have := nd_pos h0
    omega
theorem nd_le_of {c n : Nat} (h : c < 10 ^ n) : nd c ≤ n := by
  rcases Nat.eq_zero_or_pos c with rfl | h0
  · exact Nat.zero_le _
  · exact pow_size (nd_le h0) h (nd_pos h0)
theorem nd_mono {a b : Nat} (h : a ≤ b) : nd a ≤ nd b := nd_le_of (Nat.lt_of_le_of_lt h (nd_lt b))
theorem nd_push {c d : Nat} (hd : d < 10) (h : 0 < c ∨ 0 < d) : nd (10 * c + d) = nd c + 1 := by
  rcases Nat.eq_zero_or_pos c with rfl | h0
  · apply nd_eq (by omega)
    · rw [nd_0]
      simp
      omega
    · rw [nd_0]
      simp
      omega
  · have a := nd_le h0
    have b := nd_lt c
    have p := nd_pos h0
    apply nd_eq (by omega)
    · have e : nd c + 1 - 1 = (nd c - 1) + 1 := by omega
      rw [e, Nat.pow_succ]
      omega
    · rw [Nat.pow_succ]
      omega
theorem nd_mulp {c : Nat} (h : 0 < c) (k : Nat) : nd (c * 10 ^ k) = nd c + k := by
  have a := nd_le h
  have b := nd_lt c
  have p := nd_pos h
  apply nd_eq (by omega)
  · have e : nd c + k - 1 = (nd c - 1) + k := by omega
    rw [e, Nat.pow_add]
    exact Nat.mul_le_mul_right _ a
  · rw [Nat.pow_add]
    exact Nat.mul_lt_mul_of_pos_right b (p10 k)
theorem nd_divp {c k : Nat} (h : k < nd c) : nd (c / 10 ^ k) = nd c - k := by
  have h0 : 0 < c := by
    rcases Nat.eq_zero_or_pos c with rfl | q
    · rw [nd_0] at h; omega
    · exact q
  have a := nd_le h0
  have b := nd_lt c
  apply nd_eq (by omega)
  · rw [Nat.le_div_iff_mul_le (p10 k), ← Nat.pow_add, show nd c - k - 1 + k = nd c - 1 by omega]
    exact a
  · rw [Nat.div_lt_iff_lt_mul (p10 k), ← Nat.pow_add, show nd c - k + k = nd c by omega]
    exact b
/-- the k-th digit from the top, of a number taken to have n digits -/
def dg (c n k : Nat) : Nat := c / 10 ^ (n - 1 - k) % 10
theorem dg_lt (c n k : Nat) : dg c n k < 10 := Nat.mod_lt _ (by decide)
theorem div_pp (c a b : Nat) : c / 10 ^ a / 10 ^ b = c / 10 ^ (a + b) := by rw [Nat.div_div_eq_div_mul, Nat.pow_add]
theorem dg_push {c d n k : Nat} (hd : d < 10) (hk : k < n) : dg (10 * c + d) (n + 1) k = dg c n k := by
  unfold dg
  rw [show n + 1 - 1 - k = 1 + (n - 1 - k) by omega, ← div_pp]
  congr 2
  simp
  omega
theorem dg_last {c n : Nat} (hn : 0 < n) : dg c n (n - 1) = c % 10 := by
  unfold dg
  rw [show n - 1 - (n - 1) = 0 by omega]
  simp
/-- digits by a function: each is the number's -/
theorem dv_dg {f : Nat → Nat} {n k : Nat} (hk : k < n) (hf : ∀ j, j < n → f j < 10) : f k = dg (dv f n) n k := by
  unfold dg
  have e := dv_trunc (d := f) (m := k + 1) (n := n) (by omega) hf
  rw [show n - 1 - k = n - (k + 1) by omega, ← e, dv_s]
  have := hf k hk
  omega
theorem dg_dv (c : Nat) : ∀ n, dv (dg c n) n = c % 10 ^ n := by
  have key : ∀ n m, m ≤ n → dv (dg c n) m = c / 10 ^ (n - m) % 10 ^ m := by
    intro n m
    induction m with
    | zero => intro _; simp [dv_0, Nat.mod_one]
    | succ m ih =>
      intro h
      rw [dv_s, ih (by omega)]
      unfold dg
      rw [show n - 1 - m = n - (m + 1) by omega, show n - m = (n - (m + 1)) + 1 by omega, ← div_pp, show 10 ^ (m + 1) = 10 * 10 ^ m by rw [Nat.pow_succ, Nat.mul_comm]]
      generalize c / 10 ^ (n - (m + 1)) = x
      rw [Nat.mod_mul, Nat.pow_one]
      omega
  intro n
  rw [key n n (Nat.le_refl _), Nat.sub_self]
  simp
theorem dg_dv_nd (c : Nat) : dv (dg c (nd c)) (nd c) = c := by rw [dg_dv, Nat.mod_eq_of_lt (nd_lt c)]
/-- rounding to n digits, half up: coefficient and exponent -/
def rup (c k : Nat) : Nat := c / 10 ^ k + (if 5 ≤ c / 10 ^ (k - 1) % 10 then 1 else 0)
def rnd (n c : Nat) (e : Int) : Nat × Int := if nd c ≤ n then (c, e) else if rup c (nd c - n) = 10 ^ n then (10 ^ (n - 1), e + (nd c - n : Nat) + 1) else (rup c (nd c - n), e + (nd c - n : Nat))
theorem rup_le {n c : Nat} (hn : 0 < n) (h : n < nd c) : 10 ^ (n - 1) ≤ rup c (nd c - n) ∧ rup c (nd c - n) ≤ 10 ^ n := by
  have e := nd_divp (c := c) (k := nd c - n) (by omega)
  have h0 : 0 < c / 10 ^ (nd c - n) := by
    rcases Nat.eq_zero_or_pos (c / 10 ^ (nd c - n)) with q | q
    · rw [q, nd_0] at e; omega
    · exact q
  have a := nd_le h0
  have b := nd_lt (c / 10 ^ (nd c - n))
  rw [e, show nd c - (nd c - n) = n by omega] at a b
  unfold rup
  split <;> omega
theorem rnd_nd {n c : Nat} {e : Int} (hn : 0 < n) : nd (rnd n c e).1 ≤ n := by
  unfold rnd
  split
  · assumption
  · rename_i h
    have q := rup_le hn (by omega : n < nd c)
    split
    · apply nd_le_of
      exact Nat.pow_lt_pow_right (by decide) (by omega)
    · apply nd_le_of
      omega
theorem rnd_pos {n c : Nat} {e : Int} (hn : 0 < n) (hc : 0 < c) : 0 < (rnd n c e).1 := by
  unfold rnd
  split
  · exact hc
  · rename_i h
    have q := rup_le hn (by omega : n < nd c)
    have := p10 (n - 1)
    split
    · exact this
    · show 0 < rup c (nd c - n); omega
theorem rnd_0 {n : Nat} {e : Int} : rnd n 0 e = (0, e) := by
  unfold rnd
  rw [if_pos (by rw [nd_0]; exact Nat.zero_le _)]
theorem rnd_same {n c : Nat} {e : Int} (h : nd c ≤ n) : rnd n c e = (c, e) := if_pos h
end
section
/-! PURE 5: the class's Num -/
def isD (h : Hp) (i c : Nat) : Prop := h i 1 = iI (nd c : Int) ∧ nd c ≤ il (i + 1) ∧ ∀ k, k < nd c → h (i + 1) k = iI (dg c (nd c) k : Int)
def isN (h : Hp) (i : Nat) (s : Int) (c : Nat) (e : Int) : Prop := isD h i c ∧ h i 2 = iI e ∧ h i 3 = iI s
theorem isD_eq {h h' : Hp} {i c : Nat} (H : isD h i c) (e1 : h' i 1 = h i 1) (e2 : h' (i + 1) = h (i + 1)) : isD h' i c := ⟨by rw [e1]; exact H.1, H.2.1, fun k hk => by rw [e2]; exact H.2.2 k hk⟩
theorem isN_eq {h h' : Hp} {i c : Nat} {s e : Int} (H : isN h i s c e) (e1 : h' i = h i) (e2 : h' (i + 1) = h (i + 1)) : isN h' i s c e := ⟨isD_eq H.1 (by rw [e1]) e2, by rw [e1]; exact H.2.1, by rw [e1]; exact H.2.2⟩
def kq (h h' : Hp) (i : Nat) : Prop := kp h h' i (i + 1) ∧ h' i 2 = h i 2 ∧ h' i 3 = h i 3
theorem kq_r (h : Hp) (i : Nat) : kq h h i := ⟨kp_r _ _ _, rfl, rfl⟩
theorem kq_t {h h1 h2 : Hp} {i : Nat} (x : kq h h1 i) (y : kq h1 h2 i) : kq h h2 i := ⟨kp_t x.1 y.1, y.2.1.trans x.2.1, y.2.2.trans x.2.2⟩
theorem N_clear (h : Hp) (i : Nat) : ∃ h', f_N_clear i h = some ((), h') ∧ isN h' i 0 0 0 ∧ kp h h' i (i + 1) := by
  refine ⟨_, rfl, ⟨⟨?_, Nat.zero_le _, fun k hk => absurd hk (Nat.not_lt_zero k)⟩, ?_, ?_⟩, fun j p _ => ?_⟩
  · rw [up2_k _ _ _ (by omega), up2_k _ _ _ (by omega), up2_s]; rfl
  · rw [up2_k _ _ _ (by omega), up2_s]; rfl
  · rw [up2_s]; rfl
  · rw [up2_ne _ _ _ p, up2_ne _ _ _ p, up2_ne _ _ _ p]
theorem N_push {h : Hp} {i c d : Nat} (H : isD h i c) (hd : d < 10) (hl : nd (10 * c + d) ≤ il (i + 1)) : ∃ h', f_N_push i (iI (d : Int)) h = some ((), h') ∧ isD h' i (10 * c + d) ∧ kq h h' i := by
  obtain ⟨h1, h2, h3⟩ := H
  have hil := il_le (i + 1)
  unfold f_N_push
  rw [h1]
  simp (disch := omega) only [iI_lit, iI_lt, iI_eq]
  by_cases z : c = 0 ∧ d = 0
  · obtain ⟨rfl, rfl⟩ := z
    rw [if_neg (by rw [nd_0]; omega), if_pos (by omega)]
    unfold f_N_push_16
    rw [if_pos (by rfl)]
    exact ⟨h, rfl, ⟨h1, h2, h3⟩, kq_r _ _⟩
  · have hn := nd_push (c := c) (d := d) hd (by omega)
    rw [hn] at hl
    have key : ∃ h', f_N_push_16 i (iI (d : Int)) (iI 1) h = some ((), h') ∧ isD h' i (10 * c + d) ∧ kq h h' i := by
      unfold f_N_push_16
      rw [if_neg (by decide), h1, up2_o _ _ _ _ (by omega : i ≠ i + 1), h1]
      simp (disch := omega) only [iI_lit, iI_lt, iI_le, iI_ofNat, iI_add]
      rw [if_neg (by omega), if_neg (by omega), chk_t (iI_inR (by omega) (by omega) (by omega)), iI_cl (by omega) (by omega), Int.toNat_natCast]
      refine ⟨_, rfl, ⟨?_, by rw [hn]; exact hl, fun k hk => ?_⟩, fun j p q => ?_, ?_, ?_⟩
      · rw [up2_s, hn]; rfl
      · rw [hn] at hk ⊢
        rw [up2_o _ _ _ _ (by omega)]
        by_cases q : k < nd c
        · rw [up2_k _ _ _ (by omega), dg_push hd q]
          exact h3 k q
        · rw [show k = nd c by omega, up2_s]
          congr 2
          have e := dg_last (c := 10 * c + d) (n := nd c + 1) (by omega)
          rw [show nd c + 1 - 1 = nd c by omega] at e
          rw [e]
          omega
      · rw [up2_ne _ _ _ p, up2_ne _ _ _ q]
      · rw [up2_k _ _ _ (by omega), up2_o _ _ _ _ (by omega)]
      · rw [up2_k _ _ _ (by omega), up2_o _ _ _ _ (by omega)]
    by_cases q : 0 < c
    · have := nd_pos q
      rw [if_pos (by omega)]
      exact key
    · have c0 : c = 0 := by omega
      rw [if_neg (by rw [c0, nd_0]; omega), if_neg (by omega)]
      exact key
/-- the digit at a place from the top; 0 where there is none -/
def dz (c : Nat) (z : Int) : Nat := if 0 ≤ z ∧ z < nd c then dg c (nd c) z.toNat else 0
theorem N_digit {h : Hp} {i c : Nat} {z : Int} (H : isD h i c) (hz : bI z) : f_N_digit i (iI z) h = some (iI (dz c z : Int), h) := by
  obtain ⟨h1, h2, h3⟩ := H
  have hil := il_le (i + 1)
  unfold f_N_digit dz
  rw [h1]
  simp (disch := omega) only [iI_lit, iI_lt, iI_le, iI_ofNat]
  by_cases c1 : z < 0
  · rw [if_pos (by omega), if_neg (by omega)]
  · rw [if_neg (by omega)]
    by_cases c2 : z < nd c
    · rw [if_neg (by omega), if_pos (by omega), chk_t (iI_inR (by omega) (by omega) (by omega)), iI_cl (by omega) (by omega), if_pos (by omega), h3 _ (by omega)]
    · rw [if_pos (by omega), if_neg (by omega)]
theorem dz_lt (c : Nat) (z : Int) : dz c z < 10 := by
  unfold dz
  split
  · exact dg_lt _ _ _
  · omega
theorem N_settle {h : Hp} {i c : Nat} {s e : Int} (H : isD h i c) : ∃ h', f_N_settle i (iI s) (iI e) h = some ((), h') ∧ isN h' i (if c = 0 then 0 else s) c (if c = 0 then 0 else e) ∧ kp h h' i (i + 1) := by
  have hil := il_le (i + 1)
  have h2 := H.2.1
  have ee : ∀ v, (up2 h i 3 v) i 1 = h i 1 := fun v => up2_k _ _ _ (by omega)
  unfold f_N_settle f_N_settle_13
  rw [ee, ee, H.1]
  simp (disch := omega) only [iI_lit, iI_eq]
  have mk : ∀ a b : Int32, isD (up2 (up2 h i 3 a) i 2 b) i c ∧ (up2 (up2 h i 3 a) i 2 b) i 2 = b ∧ (up2 (up2 h i 3 a) i 2 b) i 3 = a ∧ kp h (up2 (up2 h i 3 a) i 2 b) i (i + 1) := fun a b =>
    ⟨isD_eq H (by rw [up2_k _ _ _ (by omega), up2_k _ _ _ (by omega)]) (by rw [up2_ne _ _ _ (by omega), up2_ne _ _ _ (by omega)]), up2_s _ _ _ _, by rw [up2_k _ _ _ (by omega), up2_s], fun j p _ => by rw [up2_ne _ _ _ p, up2_ne _ _ _ p]⟩
  by_cases q : c = 0
  · rw [if_pos q, if_pos q, if_pos (by rw [q, nd_0]), if_pos (by rw [q, nd_0])]
    obtain ⟨a, b, d, f⟩ := mk (iI ((0 : Nat) : Int)) (iI ((0 : Nat) : Int))
    exact ⟨_, rfl, ⟨a, b, d⟩, f⟩
  · have := nd_pos (by omega : 0 < c)
    rw [if_neg q, if_neg q, if_neg (by omega), if_neg (by omega)]
    obtain ⟨a, b, d, f⟩ := mk (iI s) (iI e)
    exact ⟨_, rfl, ⟨a, b, d⟩, f⟩
theorem dg_pre {c k : Nat} (hk : k ≤ nd c) : dv (dg c (nd c)) k = c / 10 ^ (nd c - k) := by
  have e := dv_trunc (d := dg c (nd c)) hk (fun j _ => dg_lt _ _ _)
  rw [e, dg_dv_nd]
theorem nd_pre {c k : Nat} (hk : k ≤ nd c) : nd (dv (dg c (nd c)) k) = k := by
  rw [dg_pre hk]
  by_cases q : k = 0
  · rw [q, Nat.sub_zero, Nat.div_eq_of_lt (nd_lt c)]
    rfl
  · rw [nd_divp (by omega)]
    omega
theorem N_copy_loop {i j c : Nat} {s e : Int} (hij : i ≠ j) (hij1 : i ≠ j + 1) (hij2 : i + 1 ≠ j) (hl : nd c ≤ il (i + 1)) (hz : c = 0 → s = 0 ∧ e = 0) : ∀ (m k n : Nat) (h : Hp), k + m = nd c → m < n → isD h i (dv (dg c (nd c)) k) → isN h j s c e → ∃ h', f_N_copy_6 n i j (iI (k : Int)) h = some ((), h') ∧ isN h' i s c e ∧ kp h h' i (i + 1) := by
  have hil := il_le (i + 1)
  intro m
  induction m with
  | zero =>
    intro k n h hk hn Hi Hj
    obtain ⟨n, rfl⟩ : ∃ q, n = q + 1 := ⟨n - 1, by omega⟩
    rw [show k = nd c by omega, dg_dv_nd] at Hi
    rw [f_N_copy_6, Hj.1.1, if_pos (by rw [iI_le ⟨by omega, by omega⟩ ⟨by omega, by omega⟩]; omega), Hj.2.1, Hj.2.2]
    obtain ⟨h', e', H', K'⟩ := N_settle (s := s) (e := e) Hi
    rw [bd_t e']
    refine ⟨h', rfl, ?_, K'⟩
    by_cases q : c = 0
    · rw [if_pos q, if_pos q] at H'
      rw [(hz q).1, (hz q).2]
      exact H'
    · rw [if_neg q, if_neg q] at H'
      exact H'
  | succ m ih =>
    intro k n h hk hn Hi Hj
    obtain ⟨n, rfl⟩ : ∃ q, n = q + 1 := ⟨n - 1, by omega⟩
    have hd := dg_lt c (nd c) k
    have e0 : 10 * dv (dg c (nd c)) k + dg c (nd c) k = dv (dg c (nd c)) (k + 1) := by rw [dv_s]; omega
    rw [f_N_copy_6, Hj.1.1, if_neg (by rw [iI_le ⟨by omega, by omega⟩ ⟨by omega, by omega⟩]; omega), bd_t (N_digit Hj.1 ⟨by omega, by omega⟩)]
    have ed : dz c (k : Int) = dg c (nd c) k := by unfold dz; rw [if_pos (by omega), Int.toNat_natCast]
    rw [ed]
    obtain ⟨h1, e1, H1, K1⟩ := N_push Hi hd (by rw [e0, nd_pre (by omega)]; omega)
    rw [bd_t e1]
    rw [e0] at H1
    obtain ⟨h', e', H', K'⟩ := ih (k + 1) n h1 (by omega) (by omega) H1 (isN_eq Hj (K1.1 j (fun z => hij z.symm) (fun z => hij2 z.symm)) (K1.1 (j + 1) (fun z => hij1 z.symm) (by omega)))
    refine ⟨h', ?_, H', kp_t K1.1 K'⟩
    rw [← e', i1, iI_add]
    rfl
theorem N_copy {h : Hp} {i j c : Nat} {s e : Int} (hij : i ≠ j) (hij1 : i ≠ j + 1) (hij2 : i + 1 ≠ j) (hl : nd c ≤ il (i + 1)) (hz : c = 0 → s = 0 ∧ e = 0) (Hj : isN h j s c e) : ∃ h', f_N_copy i j h = some ((), h') ∧ isN h' i s c e ∧ kp h h' i (i + 1) := by
  have hil := il_le (i + 1)
  unfold f_N_copy
  obtain ⟨h1, e1, H1, K1⟩ := N_clear h i
  rw [bd_t e1]
  obtain ⟨h', e', H', K'⟩ := N_copy_loop hij hij1 hij2 hl hz (nd c) 0 fuel h1 (by omega) (by unfold fuel; omega) H1.1 (isN_eq Hj (K1 j (fun z => hij z.symm) (fun z => hij2 z.symm)) (K1 (j + 1) (fun z => hij1 z.symm) (by omega)))
  exact ⟨h', e', H', kp_t K1 K'⟩
theorem N_ahead {h : Hp} {i c : Nat} {s e : Int} (H : isN h i s c e) : f_N_ahead i h = some (iI ((nd c : Int) + e), h) := by
  unfold f_N_ahead
  rw [H.1.1, H.2.1, iI_add]
theorem N_places {h : Hp} {i c : Nat} {s e : Int} (he : bI e) (H : isN h i s c e) : f_N_places i h = some (iI (if 0 ≤ e then 0 else -e), h) := by
  unfold f_N_places
  rw [H.2.1]
  simp (disch := omega) only [iI_lit, iI_le, iI_neg]
  by_cases q : 0 ≤ e
  · rw [if_pos (by omega), if_pos q]; rfl
  · rw [if_neg (by omega), if_neg q]
theorem N_firstPower {h : Hp} {i c : Nat} {s e : Int} (H : isN h i s c e) : f_N_firstPower i h = some (iI (if c = 0 then 0 else (nd c : Int) + e - 1), h) := by
  have hil := il_le (i + 1)
  have h2 := H.1.2.1
  unfold f_N_firstPower
  rw [H.1.1, H.2.1]
  simp (disch := omega) only [iI_lit, iI_eq, iI_add, iI_sub]
  by_cases q : c = 0
  · rw [if_pos (by rw [q, nd_0]), if_pos q]; rfl
  · have := nd_pos (by omega : 0 < c)
    rw [if_neg (by omega), if_neg q]; rfl
/-- the digit at a power of ten -/
def dp (c : Nat) (e p : Int) : Nat := if e ≤ p then c / 10 ^ (p - e).toNat % 10 else 0
theorem N_digitAtPower {h : Hp} {i c : Nat} {s e p : Int} (H : isN h i s c e) (h1 : -1000000000 ≤ p - e) (h2 : p - e ≤ 1000000000) : f_N_digitAtPower i (iI p) h = some (iI (dp c e p : Int), h) := by
  have hil := il_le (i + 1)
  have h3 := H.1.2.1
  unfold f_N_digitAtPower
  rw [H.1.1, H.2.1]
  simp only [iI_lit, iI_sub]
  rw [bd_t (N_digit H.1 ⟨by omega, by omega⟩)]
  have : dz c ((nd c : Int) - ((1 : Nat) : Int) - (p - e)) = dp c e p := by
    unfold dz dp
    by_cases q : e ≤ p
    · rw [if_pos q]
      by_cases q2 : p - e < nd c
      · rw [if_pos (by omega)]
        unfold dg
        congr 3
        omega
      · rw [if_neg (by omega), Nat.div_eq_of_lt]
        exact Nat.lt_of_lt_of_le (nd_lt c) (Nat.pow_le_pow_right (by decide) (by omega))
    · rw [if_neg q, if_neg (by omega)]
  rw [this]
-- ===== rounding =====
theorem nines {d : Nat → Nat} {m : Nat} : ∀ b, (∀ k, m ≤ k → k < m + b → d k = 9) → dv d (m + b) + 1 = (dv d m + 1) * 10 ^ b
  | 0, _ => by simp
  | b + 1, h => by
    rw [← Nat.add_assoc, dv_s, h (m + b) (by omega) (by omega)]
    have e := nines b (fun k h1 h2 => h k h1 (by omega))
    rw [Nat.pow_succ, ← Nat.mul_assoc, ← e]
    omega
theorem dzeros {d : Nat → Nat} {m : Nat} (b : Nat) (h : ∀ k, m ≤ k → k < m + b → d k = 0) : dv d (m + b) = dv d m * 10 ^ b := by
  rw [dv_add, dv_z (fun k hk => h (m + k) (by omega) (by omega)), Nat.add_zero]
theorem isD_of {h : Hp} {i c n : Nat} {f : Nat → Nat} (h1 : h i 1 = iI (n : Int)) (hl : n ≤ il (i + 1)) (hf : ∀ k, k < n → f k < 10) (ha : ∀ k, k < n → h (i + 1) k = iI (f k : Int)) (hc : dv f n = c) (hn : nd c = n) : isD h i c := by
  subst hc
  refine ⟨by rw [hn]; exact h1, by rw [hn]; exact hl, fun k hk => ?_⟩
  rw [hn] at hk ⊢
  rw [ha k hk, ← dv_dg hk hf]
theorem N_up_loop {i q : Nat} (hq : 0 < q) (hl : nd q ≤ il (i + 1)) : ∀ (m n : Nat) (h : Hp) (f : Nat → Nat), m ≤ nd q → m < n → h i 1 = iI (nd q : Int) → (∀ k, k < nd q → h (i + 1) k = iI (f k : Int)) → (∀ k, k < m → f k = dg q (nd q) k) → (∀ k, m ≤ k → k < nd q → f k = 0 ∧ dg q (nd q) k = 9) → ∃ h', f_N_countUp_15 n i (iI ((m : Int) - 1)) h = some ((), h') ∧ kp h h' i (i + 1) ∧ h' i 3 = h i 3 ∧ isD h' i (if q + 1 = 10 ^ nd q then 10 ^ (nd q - 1) else q + 1) ∧ h' i 2 = (if q + 1 = 10 ^ nd q then h i 2 + 1 else h i 2) := by
  have hil := il_le (i + 1)
  have hn0 := nd_pos hq
  intro m
  induction m with
  | zero =>
    intro n h f hm hn h1 ha hf hz
    obtain ⟨n, rfl⟩ : ∃ x, n = x + 1 := ⟨n - 1, by omega⟩
    have e9 := nines (d := dg q (nd q)) (m := 0) (nd q) (fun k _ h2 => (hz k (by omega) (by omega)).2)
    rw [Nat.zero_add, dg_dv_nd, dv_0] at e9
    have e10 : q + 1 = 10 ^ nd q := by omega
    rw [f_N_countUp_15, if_pos (by rw [i0, iI_lt ⟨by omega, by omega⟩ ⟨by omega, by omega⟩]; omega)]
    unfold f_N_countUp_43
    rw [if_pos (by rw [i0, iI_lt ⟨by omega, by omega⟩ ⟨by omega, by omega⟩]; omega), chk_t (show inR 0 (il (i + 1)) from ⟨by decide, by show 0 < il (i + 1); omega⟩), show (0 : Int32).toNatClampNeg = 0 from rfl]
    refine ⟨_, rfl, fun j p1 p2 => by rw [up2_ne _ _ _ p1, up2_ne _ _ _ p2], ?_, ?_, ?_⟩
    · rw [up2_k _ _ _ (by omega), up2_o _ _ _ _ (by omega)]
    · rw [if_pos e10]
      refine isD_of (n := nd q) (f := fun k => if k = 0 then 1 else 0) ?_ hl (fun k _ => by show (if k = 0 then 1 else 0) < 10; split <;> omega) (fun k hk => ?_) ?_ ?_
      · rw [up2_k _ _ _ (by omega), up2_o _ _ _ _ (by omega)]; exact h1
      · rw [up2_o _ _ _ _ (by omega)]
        by_cases z : k = 0
        · rw [z, up2_s]; rfl
        · rw [up2_k _ _ _ z, ha k hk, (hz k (by omega) hk).1]
          show _ = iI (((if k = 0 then 1 else 0 : Nat)) : Int)
          rw [if_neg z]
      · have := dzeros (d := fun k => if k = 0 then 1 else 0) (m := 1) (nd q - 1) (fun k h1 _ => by show (if k = 0 then 1 else 0) = 0; rw [if_neg (by omega)])
        rw [show 1 + (nd q - 1) = nd q by omega] at this
        rw [this]
        simp [dv]
      · exact nd_eq hn0 (Nat.le_refl _) (Nat.pow_lt_pow_right (by decide) (by omega))
    · rw [if_pos e10, up2_s, up2_o _ _ _ _ (by omega)]
  | succ m ih =>
    intro n h f hm hn h1 ha hf hz
    obtain ⟨n, rfl⟩ : ∃ x, n = x + 1 := ⟨n - 1, by omega⟩
    have ez : ((m + 1 : Nat) : Int) - 1 = (m : Int) := by omega
    rw [ez, f_N_countUp_15, if_neg (by rw [i0, iI_lt ⟨by omega, by omega⟩ ⟨by omega, by omega⟩]; omega), chk_t (iI_inR (by omega) (by omega) (by omega))]
    have ecl : (iI (m : Int)).toNatClampNeg = m := by rw [iI_cl (by omega) (by omega), Int.toNat_natCast]
    simp only [ecl, ha m (by omega), hf m (by omega)]
    have hd := dg_lt q (nd q) m
    by_cases c9 : dg q (nd q) m = 9
    · rw [if_pos (by rw [c9]; rfl), chk_t (iI_inR (by omega) (by omega) (by omega))]
      obtain ⟨h', e', k', s', d', x'⟩ := ih n (up2 h (i + 1) m 0) (fun k => if k = m then 0 else f k) (by omega) (by omega) (by rw [up2_o _ _ _ _ (by omega)]; exact h1) (fun k hk => by
        by_cases z : k = m
        · rw [z, up2_s]
          show _ = iI (((if m = m then 0 else f m : Nat)) : Int)
          rw [if_pos rfl]; rfl
        · rw [up2_k _ _ _ z, ha k hk]
          show _ = iI (((if k = m then 0 else f k : Nat)) : Int)
          rw [if_neg z]) (fun k hk => by
        show (if k = m then 0 else f k) = _
        rw [if_neg (by omega), hf k (by omega)]) (fun k h2 h3 => by
        show (if k = m then 0 else f k) = 0 ∧ _
        by_cases z : k = m
        · rw [if_pos z, z]
          exact ⟨rfl, c9⟩
        · rw [if_neg z]
          exact hz k (by omega) h3)
      refine ⟨h', ?_, kp_t (fun j _ p2 => up2_ne _ _ _ p2) k', s'.trans (up2_o _ _ _ _ (by omega)), d', ?_⟩
      · rw [← e', im1, iI_add]
        rfl
      · rw [x', up2_o _ _ _ _ (by omega)]
    · rw [if_neg (by
        intro z
        have := (iI_eq ⟨by omega, by omega⟩ ⟨by omega, by omega⟩).mp (show iI ((dg q (nd q) m : Nat) : Int) = iI 9 from z)
        omega)]
      unfold f_N_countUp_43
      rw [if_neg (by rw [i0, iI_lt ⟨by omega, by omega⟩ ⟨by omega, by omega⟩]; omega), chk_t (iI_inR (by omega) (by omega) (by omega)), chk_t (iI_inR (by omega) (by omega) (by omega)), iI_cl (by omega) (by omega), Int.toNat_natCast, ha m (by omega), hf m (by omega), i1, iI_add]
      have e9 := nines (d := dg q (nd q)) (m := m + 1) (nd q - (m + 1)) (fun k h2 h3 => (hz k h2 (by omega)).2)
      rw [show m + 1 + (nd q - (m + 1)) = nd q by omega, dg_dv_nd] at e9
      have ev : dv (fun k => if k = m then dg q (nd q) m + 1 else f k) (nd q) = q + 1 := by
        have e1 := dzeros (d := fun k => if k = m then dg q (nd q) m + 1 else f k) (m := m + 1) (nd q - (m + 1)) (fun k h2 h3 => by
          show (if k = m then _ else f k) = 0
          rw [if_neg (by omega)]
          exact (hz k h2 (by omega)).1)
        rw [show m + 1 + (nd q - (m + 1)) = nd q by omega] at e1
        have e2 : dv (fun k => if k = m then dg q (nd q) m + 1 else f k) m = dv (dg q (nd q)) m := dv_congr (fun k hk => by
          show (if k = m then _ else f k) = _
          rw [if_neg (by omega), hf k (by omega)])
        rw [e1, e9, dv_s, dv_s, e2, if_pos rfl, Nat.add_assoc]
      have hlt : ∀ k, k < nd q → (fun k => if k = m then dg q (nd q) m + 1 else f k) k < 10 := fun k hk => by
        show (if k = m then dg q (nd q) m + 1 else f k) < 10
        split
        · omega
        · by_cases z : k < m + 1
          · rw [hf k z]; exact dg_lt _ _ _
          · rw [(hz k (by omega) hk).1]; omega
      have hb := dv_lt hlt
      rw [ev] at hb
      have hge := nd_le hq
      refine ⟨_, rfl, fun j p1 p2 => up2_ne _ _ _ p2, up2_o _ _ _ _ (by omega), ?_, ?_⟩
      · rw [if_neg (by omega)]
        refine isD_of (n := nd q) ?_ hl hlt (fun k hk => ?_) ev (nd_eq hn0 (by omega) hb)
        · rw [up2_o _ _ _ _ (by omega)]; exact h1
        · by_cases z : k = m
          · rw [z, up2_s]
            show _ = iI (((if m = m then dg q (nd q) m + 1 else f m : Nat)) : Int)
            rw [if_pos rfl]; rfl
          · rw [up2_k _ _ _ z, ha k hk]
            show _ = iI (((if k = m then dg q (nd q) m + 1 else f k : Nat)) : Int)
            rw [if_neg z]
      · rw [if_neg (by omega), up2_o _ _ _ _ (by omega)]
theorem N_countUp {h : Hp} {i q : Nat} (hq : 0 < q) (H : isD h i q) : ∃ h', f_N_countUp i h = some ((), h') ∧ kp h h' i (i + 1) ∧ h' i 3 = h i 3 ∧ isD h' i (if q + 1 = 10 ^ nd q then 10 ^ (nd q - 1) else q + 1) ∧ h' i 2 = (if q + 1 = 10 ^ nd q then h i 2 + 1 else h i 2) := by
  have hil := il_le (i + 1)
  have h2 := H.2.1
  obtain ⟨h', e', r⟩ := N_up_loop hq H.2.1 (nd q) fuel h (dg q (nd q)) (Nat.le_refl _) (by unfold fuel; omega) H.1 H.2.2 (fun _ _ => rfl) (fun k h1 h2 => by omega)
  refine ⟨h', ?_, r⟩
  unfold f_N_countUp
  rw [H.1, if_neg (by rw [iI_ofNat, iI_lt ⟨by omega, by omega⟩ ⟨by omega, by omega⟩]; omega), i1, iI_sub]
  exact e'
theorem N_roundTo {h : Hp} {i c n : Nat} {s e : Int} (H : isN h i s c e) (hn : 0 < n) (hn2 : n < 1000000) : ∃ h', f_N_roundTo i (iI (n : Int)) h = some ((), h') ∧ isN h' i s (rnd n c e).1 (rnd n c e).2 ∧ kp h h' i (i + 1) := by
  have hil := il_le (i + 1)
  have h2 := H.1.2.1
  unfold f_N_roundTo
  rw [H.1.1]
  simp (disch := omega) only [iI_lit, iI_lt]
  rw [if_neg (by omega)]
  by_cases q : n < nd c
  · rw [if_pos (by omega), bd_t (N_digit H.1 ⟨by omega, by omega⟩)]
    have ed : dz c (n : Int) = c / 10 ^ (nd c - n - 1) % 10 := by
      unfold dz dg
      rw [if_pos (by omega), Int.toNat_natCast, show nd c - 1 - n = nd c - n - 1 by omega]
    have hdz := dz_lt c (n : Int)
    have hc : 0 < c := by
      rcases Nat.eq_zero_or_pos c with z | z
      · rw [z, nd_0] at q; omega
      · exact z
    have eq0 := nd_divp (c := c) (k := nd c - n) (by omega)
    rw [show nd c - (nd c - n) = n by omega] at eq0
    have hq0 : 0 < c / 10 ^ (nd c - n) := by
      rcases Nat.eq_zero_or_pos (c / 10 ^ (nd c - n)) with z | z
      · rw [z, nd_0] at eq0; omega
      · exact z
    have T : isD (up2 (up2 h i 2 (iI (e + ((nd c : Int) - n)))) i 1 (iI (n : Int))) i (c / 10 ^ (nd c - n)) := by
      refine ⟨by rw [up2_s, eq0], by rw [eq0]; omega, fun k hk => ?_⟩
      rw [eq0] at hk ⊢
      rw [up2_o _ _ _ _ (by omega), up2_o _ _ _ _ (by omega), H.1.2.2 k (by omega)]
      congr 2
      unfold dg
      rw [div_pp]
      congr 3
      omega
    have T2 : (up2 (up2 h i 2 (iI (e + ((nd c : Int) - n)))) i 1 (iI (n : Int))) i 2 = iI (e + ((nd c : Int) - n)) := by rw [up2_k _ _ _ (by omega), up2_s]
    have T3 : (up2 (up2 h i 2 (iI (e + ((nd c : Int) - n)))) i 1 (iI (n : Int))) i 3 = iI s := by rw [up2_k _ _ _ (by omega), up2_k _ _ _ (by omega)]; exact H.2.2
    have TK : kp h (up2 (up2 h i 2 (iI (e + ((nd c : Int) - n)))) i 1 (iI (n : Int))) i (i + 1) := fun j p _ => by rw [up2_ne _ _ _ p, up2_ne _ _ _ p]
    have ee : e + ((nd c : Int) - n) = e + ((nd c - n : Nat) : Int) := by omega
    by_cases u : dz c (n : Int) < 5
    · rw [if_pos (by rw [iI_lt ⟨by omega, by omega⟩ ⟨by omega, by omega⟩]; omega)]
      unfold f_N_roundTo_28
      rw [if_pos (by rfl), H.2.1, H.1.1, iI_sub, iI_add]
      have er : rnd n c e = (c / 10 ^ (nd c - n), e + ((nd c - n : Nat) : Int)) := by
        have hb := nd_lt (c / 10 ^ (nd c - n))
        rw [eq0] at hb
        have e5 : rup c (nd c - n) = c / 10 ^ (nd c - n) := by unfold rup; rw [if_neg (by rw [← ed]; omega), Nat.add_zero]
        unfold rnd
        rw [if_neg (by omega), e5, if_neg (by omega)]
      rw [er]
      exact ⟨_, rfl, ⟨T, by rw [T2, ee], T3⟩, TK⟩
    · rw [if_neg (by rw [iI_lt ⟨by omega, by omega⟩ ⟨by omega, by omega⟩]; omega)]
      unfold f_N_roundTo_28
      rw [if_neg (by decide), H.2.1, H.1.1, iI_sub, iI_add]
      obtain ⟨h', e', k', s', d', x'⟩ := N_countUp hq0 T
      rw [bd_t e']
      rw [eq0] at d' x'
      have e5 : rup c (nd c - n) = c / 10 ^ (nd c - n) + 1 := by unfold rup; rw [if_pos (by rw [← ed]; omega)]
      refine ⟨h', rfl, ?_, kp_t TK k'⟩
      unfold rnd
      rw [if_neg (by omega), e5]
      by_cases z : c / 10 ^ (nd c - n) + 1 = 10 ^ n
      · rw [if_pos z] at d' x' ⊢
        exact ⟨d', by rw [x', T2, i1, iI_add, ee], by rw [s', T3]⟩
      · rw [if_neg z] at d' x' ⊢
        exact ⟨d', by rw [x', T2, ee], by rw [s', T3]⟩
  · rw [if_neg (by omega), rnd_same (by omega)]
    exact ⟨h, rfl, H, kp_r _ _ _⟩
end
section
/-! PURE 6: the class's Num: zeros at the end, units, places, whole values -/
def strp : Nat → Nat → Int → Nat × Int
  | 0, c, e => (c, e)
  | f + 1, c, e => if 1 < nd c ∧ c % 10 = 0 then strp f (c / 10) (e + 1) else (c, e)
/-- without zeros at the end -/
def strip (c : Nat) (e : Int) : Nat × Int := strp (nd c) c e
theorem isD_div {h : Hp} {i c : Nat} {h' : Hp} (H : isD h i c) (hn : 1 < nd c) (h1 : h' i 1 = iI ((nd c : Int) - 1)) (h2 : h' (i + 1) = h (i + 1)) : isD h' i (c / 10) := by
  have e := nd_divp (c := c) (k := 1) hn
  rw [Nat.pow_one] at e
  refine ⟨by rw [e, h1]; congr 1; omega, by rw [e]; have := H.2.1; omega, fun k hk => ?_⟩
  rw [e] at hk ⊢
  rw [h2, H.2.2 k (by omega)]
  congr 2
  unfold dg
  have e2 := div_pp c 1 (nd c - 1 - 1 - k)
  rw [Nat.pow_one] at e2
  rw [e2]
  congr 3
  omega
theorem N_drop_loop {i : Nat} {s : Int} : ∀ (m n c : Nat) (e : Int) (h : Hp), nd c ≤ m → m < n → isN h i s c e → ∃ h', f_N_dropEndZeros_0 n i h = some ((), h') ∧ isN h' i s (strp m c e).1 (strp m c e).2 ∧ kp h h' i (i + 1) := by
  have hil := il_le (i + 1)
  intro m
  induction m with
  | zero =>
    intro n c e h hm hn H
    obtain ⟨n, rfl⟩ : ∃ q, n = q + 1 := ⟨n - 1, by omega⟩
    have h2 := H.1.2.1
    rw [f_N_dropEndZeros_0, H.1.1, if_pos (by rw [i1, iI_le ⟨by omega, by omega⟩ ⟨by omega, by omega⟩]; omega)]
    exact ⟨h, rfl, H, kp_r _ _ _⟩
  | succ m ih =>
    intro n c e h hm hn H
    obtain ⟨n, rfl⟩ : ∃ q, n = q + 1 := ⟨n - 1, by omega⟩
    have h2 := H.1.2.1
    rw [f_N_dropEndZeros_0, H.1.1, strp]
    by_cases q : nd c ≤ 1
    · rw [if_pos (by rw [i1, iI_le ⟨by omega, by omega⟩ ⟨by omega, by omega⟩]; omega), if_neg (by omega)]
      exact ⟨h, rfl, H, kp_r _ _ _⟩
    · rw [if_neg (by rw [i1, iI_le ⟨by omega, by omega⟩ ⟨by omega, by omega⟩]; omega), i1, iI_sub, bd_t (N_digit H.1 ⟨by omega, by omega⟩)]
      have ed : dz c ((nd c : Int) - 1) = c % 10 := by
        unfold dz
        rw [if_pos (by omega), show ((nd c : Int) - 1).toNat = nd c - 1 by omega, dg_last (by omega)]
      rw [ed]
      by_cases q2 : c % 10 = 0
      · rw [if_pos (by rw [q2]; rfl), if_pos ⟨by omega, q2⟩, H.1.1, iI_sub, up2_k _ _ _ (by omega : (2 : Nat) ≠ 1), H.2.1, iI_add]
        obtain ⟨h', e', H', K'⟩ := ih n (c / 10) (e + 1) (up2 (up2 h i 1 (iI ((nd c : Int) - 1))) i 2 (iI (e + 1))) (by
          have e := nd_divp (c := c) (k := 1) (by omega)
          rw [Nat.pow_one] at e
          omega) (by omega) ⟨isD_div H.1 (by omega) (by rw [up2_k _ _ _ (by omega), up2_s]) (by rw [up2_ne _ _ _ (by omega), up2_ne _ _ _ (by omega)]), by rw [up2_s], by rw [up2_k _ _ _ (by omega), up2_k _ _ _ (by omega)]; exact H.2.2⟩
        exact ⟨h', e', H', kp_t (fun j p _ => by rw [up2_ne _ _ _ p, up2_ne _ _ _ p]) K'⟩
      · rw [if_neg (by
          intro z
          have := (iI_eq ⟨by omega, by omega⟩ ⟨by omega, by omega⟩).mp (show iI ((c % 10 : Nat) : Int) = iI 0 from z)
          omega), if_neg (by omega)]
        exact ⟨h, rfl, H, kp_r _ _ _⟩
theorem N_drop {h : Hp} {i c : Nat} {s e : Int} (H : isN h i s c e) : ∃ h', f_N_dropEndZeros i h = some ((), h') ∧ isN h' i s (strip c e).1 (strip c e).2 ∧ kp h h' i (i + 1) := by
  have hil := il_le (i + 1)
  have h2 := H.1.2.1
  exact N_drop_loop (nd c) fuel c e h (Nat.le_refl _) (by unfold fuel; omega) H
theorem strp_nd : ∀ (m c : Nat) (e : Int), nd (strp m c e).1 ≤ nd c ∧ (0 < c → 0 < (strp m c e).1) := by
  intro m
  induction m with
  | zero => intro c e; exact ⟨Nat.le_refl _, id⟩
  | succ m ih =>
    intro c e
    rw [strp]
    split
    · rename_i q
      obtain ⟨a, b⟩ := ih (c / 10) (e + 1)
      have e1 := nd_divp (c := c) (k := 1) (by omega)
      rw [Nat.pow_one] at e1
      refine ⟨by omega, fun _ => b ?_⟩
      rcases Nat.eq_zero_or_pos (c / 10) with z | z
      · rw [z, nd_0] at e1; omega
      · exact z
    · exact ⟨Nat.le_refl _, id⟩
theorem nd_1 : nd 1 = 1 := by decide
theorem N_unit {h : Hp} {i : Nat} {s : Int} (hi : 1 ≤ il (i + 1)) (hs : bI s) : ∃ h', f_N_becomeUnit i (iI s) h = some ((), h') ∧ isN h' i s (if s = 0 then 0 else 1) 0 ∧ kp h h' i (i + 1) := by
  unfold f_N_becomeUnit
  obtain ⟨h1, e1, H1, K1⟩ := N_clear h i
  rw [bd_t e1]
  simp (disch := omega) only [iI_lit, iI_eq]
  by_cases q : s = 0
  · rw [if_pos (by omega), if_pos q, q]
    exact ⟨h1, rfl, H1, K1⟩
  · rw [if_neg (by omega), if_neg q]
    obtain ⟨h2, e2, H2, K2⟩ := N_push (d := 1) H1.1 (by omega) (by rw [show 10 * 0 + 1 = 1 from rfl, nd_1]; exact hi)
    rw [bd_t e2]
    refine ⟨_, rfl, ⟨isD_eq H2 (up2_k _ _ _ (by omega)) (up2_ne _ _ _ (by omega)), ?_, by rw [up2_s]⟩, kp_t (kp_t K1 K2.1) (fun j p _ => up2_ne _ _ _ p)⟩
    rw [up2_k _ _ _ (by omega), K2.2.1]
    exact H1.2.1
-- ===== whole values =====
theorem wv83 {i c : Nat} {s e0 : Int} (hs : s = 0 ∨ s = 1 ∨ s = -1) : ∀ (m n v : Nat) (h : Hp), m < n → m ≤ 9 → v * 10 ^ m < 1000000000 → isN h i s c e0 → f_N_wholeValue_83 n i (iI (v : Int)) (iI (m : Int)) h = some (iI (if s < 0 then -((v * 10 ^ m : Nat) : Int) else ((v * 10 ^ m : Nat) : Int)), h) := by
  intro m
  induction m with
  | zero =>
    intro n v h hn hm hv H
    obtain ⟨n, rfl⟩ : ∃ q, n = q + 1 := ⟨n - 1, by omega⟩
    rw [f_N_wholeValue_83, H.2.2]
    simp (disch := omega) only [iI_lit, iI_le, iI_neg]
    rw [if_pos (by omega), Nat.pow_zero, Nat.mul_one]
    by_cases q : s < 0
    · rw [if_neg (by omega), if_pos q]
    · rw [if_pos (by omega), if_neg q]
  | succ m ih =>
    intro n v h hn hm hv H
    obtain ⟨n, rfl⟩ : ∃ q, n = q + 1 := ⟨n - 1, by omega⟩
    have e : v * 10 ^ (m + 1) = v * 10 * 10 ^ m := by rw [Nat.pow_succ, Nat.mul_comm (10 ^ m) 10, Nat.mul_assoc]
    rw [e] at hv ⊢
    rw [f_N_wholeValue_83, if_neg (by rw [i0, iI_le ⟨by omega, by omega⟩ ⟨by omega, by omega⟩]; omega), im1, iI_add, show (10 : Int32) = iI 10 from rfl, iI_mul]
    have := ih n (v * 10) h (by omega) (by omega) hv H
    rw [← this]
    congr 2
    all_goals omega
theorem wv83n {i c : Nat} {s e0 e : Int} (hs : s = 0 ∨ s = 1 ∨ s = -1) {n v : Nat} {h : Hp} (he : bI e) (h0 : e ≤ 0) (H : isN h i s c e0) : f_N_wholeValue_83 (n + 1) i (iI (v : Int)) (iI e) h = some (iI (if s < 0 then -(v : Int) else (v : Int)), h) := by
  rw [f_N_wholeValue_83, H.2.2]
  simp (disch := omega) only [iI_lit, iI_le, iI_neg]
  rw [if_pos (by omega)]
  by_cases q : s < 0
  · rw [if_neg (by omega), if_pos q]
  · rw [if_pos (by omega), if_neg q]
/-- how many of the digits stand ahead of the point -/
def aN (c : Nat) (e : Int) : Nat := min ((nd c : Int) + e).toNat (nd c)
def restZ (c : Nat) (e : Int) (k : Nat) : Prop := ∀ j, k ≤ j → j < nd c → (nd c : Int) + e ≤ j → dg c (nd c) j = 0
theorem wv16 {i c : Nat} {s e : Int} (he : bI ((nd c : Int) + e)) : ∀ (m k n : Nat) (h : Hp), k + m = nd c → m < n → isN h i s c e → (restZ c e k → f_N_wholeValue_16 n i (iI (dv (dg c (nd c)) (min k (aN c e)) : Int)) (iI (k : Int)) h = f_N_wholeValue_83 fuel i (iI (dv (dg c (nd c)) (aN c e) : Int)) (iI e) h) ∧ (¬ restZ c e k → f_N_wholeValue_16 n i (iI (dv (dg c (nd c)) (min k (aN c e)) : Int)) (iI (k : Int)) h = some (-2000000000, h)) := by
  have hil := il_le (i + 1)
  intro m
  induction m with
  | zero =>
    intro k n h hk hn H
    obtain ⟨n, rfl⟩ : ∃ q, n = q + 1 := ⟨n - 1, by omega⟩
    have h2 := H.1.2.1
    refine ⟨fun _ => ?_, fun z => absurd (fun j h1 h2 => by omega) z⟩
    rw [f_N_wholeValue_16, H.1.1, if_pos (by rw [iI_le ⟨by omega, by omega⟩ ⟨by omega, by omega⟩]; omega), H.2.1, show min k (aN c e) = aN c e by unfold aN; omega]
  | succ m ih =>
    intro k n h hk hn H
    obtain ⟨n, rfl⟩ : ∃ q, n = q + 1 := ⟨n - 1, by omega⟩
    have h2 := H.1.2.1
    have hd := dg_lt c (nd c) k
    have ed : dz c (k : Int) = dg c (nd c) k := by unfold dz; rw [if_pos (by omega), Int.toNat_natCast]
    have D := N_digit (z := (k : Int)) H.1 ⟨by omega, by omega⟩
    rw [ed] at D
    have ek : iI (k : Int) + 1 = iI ((k + 1 : Nat) : Int) := by rw [i1, iI_add]; rfl
    obtain ⟨I1, I2⟩ := ih (k + 1) n h (by omega) (by omega) H
    rw [f_N_wholeValue_16, H.1.1, if_neg (by rw [iI_le ⟨by omega, by omega⟩ ⟨by omega, by omega⟩]; omega), bd_t (N_ahead H)]
    by_cases q : (k : Int) < (nd c : Int) + e
    · rw [if_pos (by rw [iI_lt ⟨by omega, by omega⟩ he]; exact q)]
      unfold f_N_wholeValue_37
      rw [if_pos rfl]
      unfold f_N_wholeValue_53
      rw [if_pos rfl, bd_t D, ek]
      have e1 : min k (aN c e) = k := by unfold aN; omega
      have e2 : min (k + 1) (aN c e) = k + 1 := by unfold aN; omega
      have e3 : iI (dv (dg c (nd c)) k : Int) * 10 + iI (dg c (nd c) k : Int) = iI (dv (dg c (nd c)) (k + 1) : Int) := by
        rw [show (10 : Int32) = iI 10 from rfl, iI_mul, iI_add, dv_s]; rfl
      rw [e2] at I1 I2
      rw [e1, e3]
      exact ⟨fun z => I1 (fun j h1 h2 h3 => z j (by omega) h2 h3), fun z => I2 (fun y => z (fun j h1 h2 h3 => y j (by omega) h2 h3))⟩
    · rw [if_neg (by rw [iI_lt ⟨by omega, by omega⟩ he]; exact q)]
      unfold f_N_wholeValue_37
      rw [if_neg (by decide), bd_t D]
      have e1 : min k (aN c e) = aN c e := by unfold aN; omega
      have e2 : min (k + 1) (aN c e) = aN c e := by unfold aN; omega
      by_cases z0 : dg c (nd c) k = 0
      · rw [if_pos (by rw [z0]; rfl)]
        unfold f_N_wholeValue_53
        rw [if_neg (by decide), ek]
        rw [e2] at I1 I2
        rw [e1]
        refine ⟨fun z => I1 (fun j h1 h2 h3 => z j (by omega) h2 h3), fun z => I2 (fun y => z (fun j h1 h2 h3 => ?_))⟩
        by_cases x : j = k
        · rw [x]; exact z0
        · exact y j (by omega) h2 h3
      · rw [if_neg (by
          intro z
          have := (iI_eq ⟨by omega, by omega⟩ ⟨by omega, by omega⟩).mp (show iI ((dg c (nd c) k : Nat) : Int) = iI 0 from z)
          omega)]
        exact ⟨fun z => absurd (z k (Nat.le_refl _) (by omega) (by omega)) z0, fun _ => rfl⟩
/-- a whole value: none if it has more than 9 digits ahead of the point, or one behind it that isn't 0 -/
def wv (s : Int) (c : Nat) (e : Int) : Option Int := if 9 < (nd c : Int) + e then none else if 0 ≤ e then some (if s < 0 then -((c * 10 ^ e.toNat : Nat) : Int) else ((c * 10 ^ e.toNat : Nat) : Int)) else if c % 10 ^ (-e).toNat = 0 then some (if s < 0 then -((c / 10 ^ (-e).toNat : Nat) : Int) else ((c / 10 ^ (-e).toNat : Nat) : Int)) else none
theorem restZ_iff {c : Nat} {e : Int} (he : e < 0) : restZ c e 0 ↔ c % 10 ^ (-e).toNat = 0 := by
  by_cases q : 0 ≤ (nd c : Int) + e
  · obtain ⟨a, ha⟩ : ∃ a : Nat, (nd c : Int) + e = a := ⟨((nd c : Int) + e).toNat, by omega⟩
    have hn : nd c = a + (-e).toNat := by omega
    have e1 := dv_add (dg c (nd c)) a (-e).toNat
    rw [← hn, dg_dv_nd] at e1
    have hlt : dv (fun k => dg c (nd c) (a + k)) (-e).toNat < 10 ^ (-e).toNat := dv_lt (fun k _ => dg_lt _ _ _)
    have e2 : c % 10 ^ (-e).toNat = dv (fun k => dg c (nd c) (a + k)) (-e).toNat := by
      rw [Nat.mul_comm] at e1
      conv => lhs; rw [e1]
      rw [Nat.mul_add_mod, Nat.mod_eq_of_lt hlt]
    rw [e2]
    constructor
    · intro z
      exact dv_z (fun k hk => z (a + k) (Nat.zero_le _) (by omega) (by omega))
    · intro z j h1 h2 h3
      have := dv_dg (f := fun k => dg c (nd c) (a + k)) (n := (-e).toNat) (k := j - a) (by omega) (fun _ _ => dg_lt _ _ _)
      rw [z] at this
      have h4 : dg c (nd c) (a + (j - a)) = dg 0 (-e).toNat (j - a) := this
      rw [show a + (j - a) = j by omega] at h4
      rw [h4]
      unfold dg
      simp
  · have hlt : c < 10 ^ (-e).toNat := Nat.lt_of_lt_of_le (nd_lt c) (Nat.pow_le_pow_right (by decide) (by omega))
    rw [Nat.mod_eq_of_lt hlt]
    constructor
    · intro z
      have := dv_z (d := dg c (nd c)) (n := nd c) (fun k hk => z k (Nat.zero_le _) hk (by omega))
      rw [dg_dv_nd] at this
      exact this
    · intro z j h1 h2
      rw [z, nd_0] at h2
      omega
theorem N_whole {h : Hp} {i c : Nat} {s e : Int} (H : isN h i s c e) (hs : s = 0 ∨ s = 1 ∨ s = -1) (he : -1000000000 ≤ e ∧ e ≤ 1000000000) : f_N_wholeValue i h = some (iI ((wv s c e).getD (-2000000000)), h) := by
  have hil := il_le (i + 1)
  have h2 := H.1.2.1
  unfold f_N_wholeValue wv
  rw [bd_t (N_ahead H)]
  by_cases q : (nd c : Int) + e ≤ 9
  · rw [if_pos (by rw [show (9 : Int32) = iI 9 from rfl, iI_le ⟨by omega, by omega⟩ ⟨by omega, by omega⟩]; exact q), if_neg (by omega)]
    obtain ⟨I1, I2⟩ := wv16 (i := i) (s := s) (c := c) (e := e) ⟨by omega, by omega⟩ (nd c) 0 fuel h (by omega) (by unfold fuel; omega) H
    rw [Nat.zero_min, dv_0] at I1 I2
    by_cases p : 0 ≤ e
    · rw [if_pos p]
      obtain ⟨m, rfl⟩ : ∃ m : Nat, e = m := ⟨e.toNat, by omega⟩
      have ea : aN c (m : Int) = nd c := by unfold aN; omega
      rw [ea, dg_dv_nd] at I1
      have hb : c * 10 ^ m < 1000000000 := by
        have h1 : c * 10 ^ m < 10 ^ nd c * 10 ^ m := Nat.mul_lt_mul_of_pos_right (nd_lt c) (p10 m)
        rw [← Nat.pow_add] at h1
        have h3 : 10 ^ (nd c + m) ≤ 10 ^ 9 := Nat.pow_le_pow_right (by decide) (by omega)
        have h4 : (10 : Nat) ^ 9 = 1000000000 := by decide
        omega
      refine (I1 (fun j h1 h2 h3 => by omega)).trans ?_
      rw [wv83 hs m fuel c h (by unfold fuel; omega) (by omega) hb H]
      rfl
    · rw [if_neg p]
      have ea : dv (dg c (nd c)) (aN c e) = c / 10 ^ (-e).toNat := by
        rw [dg_pre (by unfold aN; omega)]
        by_cases q2 : 0 ≤ (nd c : Int) + e
        · congr 2
          unfold aN
          omega
        · rw [show aN c e = 0 by unfold aN; omega, Nat.sub_zero, Nat.div_eq_of_lt (nd_lt c), Nat.div_eq_of_lt]
          exact Nat.lt_of_lt_of_le (nd_lt c) (Nat.pow_le_pow_right (by decide) (by omega))
      rw [ea] at I1
      by_cases z : c % 10 ^ (-e).toNat = 0
      · rw [if_pos z]
        refine (I1 ((restZ_iff (by omega)).mpr z)).trans ?_
        rw [show fuel = 999999 + 1 from rfl, wv83n hs ⟨by omega, by omega⟩ (by omega) H]
        rfl
      · rw [if_neg z]
        exact (I2 (fun y => z ((restZ_iff (by omega)).mp y))).trans rfl
  · rw [if_neg (by rw [show (9 : Int32) = iI 9 from rfl, iI_le ⟨by omega, by omega⟩ ⟨by omega, by omega⟩]; exact q), if_pos (by omega)]
    rfl
end
section
/-! PURE 7: the reference's numbers -/
def mn (c : Nat) : Nat := max 1 (nd c)
theorem mn_pos (c : Nat) : 0 < mn c := by unfold mn; omega
theorem mn_lt (c : Nat) : c < 10 ^ mn c := Nat.lt_of_lt_of_le (nd_lt c) (Nat.pow_le_pow_right (by decide) (by unfold mn; omega))
theorem mn_c {c : Nat} (h : 0 < c) : mn c = nd c := by have := nd_pos h; unfold mn; omega
theorem mn_0 : mn 0 = 1 := rfl
def isM (h : Hp) (z : Nat) (s : Int) (c : Nat) (e : Int) : Prop := h 51 z = iI (mn c : Int) ∧ h 52 z = iI e ∧ h 53 z = iI s ∧ mn c ≤ 2600 ∧ ∀ k, k < mn c → h 50 (2600 * z + k) = iI (dg c (mn c) k : Int)
def km (h h' : Hp) (z : Nat) : Prop := (∀ j, j ≠ 50 → j ≠ 51 → j ≠ 52 → j ≠ 53 → h' j = h j) ∧ (∀ k, k ≠ z → h' 51 k = h 51 k ∧ h' 52 k = h 52 k ∧ h' 53 k = h 53 k) ∧ ∀ q, q < 2600 * z ∨ 2600 * z + 2600 ≤ q → h' 50 q = h 50 q
theorem km_r (h : Hp) (z : Nat) : km h h z := ⟨fun _ _ _ _ _ => rfl, fun _ _ => ⟨rfl, rfl, rfl⟩, fun _ _ => rfl⟩
theorem km_t {h h1 h2 : Hp} {z : Nat} (x : km h h1 z) (y : km h1 h2 z) : km h h2 z := ⟨fun j a b c d => (y.1 j a b c d).trans (x.1 j a b c d), fun k p => ⟨(y.2.1 k p).1.trans (x.2.1 k p).1, (y.2.1 k p).2.1.trans (x.2.1 k p).2.1, (y.2.1 k p).2.2.trans (x.2.1 k p).2.2⟩, fun q p => (y.2.2 q p).trans (x.2.2 q p)⟩
theorem km_50 (h : Hp) (z k : Nat) (v : Int32) (hk : k < 2600) : km h (up2 h 50 (2600 * z + k) v) z := ⟨fun j a _ _ _ => up2_ne _ _ _ a, fun q _ => ⟨up2_o _ _ _ _ (by omega), up2_o _ _ _ _ (by omega), up2_o _ _ _ _ (by omega)⟩, fun q p => up2_k _ _ _ (by omega)⟩
theorem km_51 (h : Hp) (z : Nat) (v : Int32) : km h (up2 h 51 z v) z := ⟨fun j _ b _ _ => up2_ne _ _ _ b, fun q p => ⟨up2_k _ _ _ p, up2_o _ _ _ _ (by omega), up2_o _ _ _ _ (by omega)⟩, fun q _ => up2_o _ _ _ _ (by omega)⟩
theorem km_52 (h : Hp) (z : Nat) (v : Int32) : km h (up2 h 52 z v) z := ⟨fun j _ _ c _ => up2_ne _ _ _ c, fun q p => ⟨up2_o _ _ _ _ (by omega), up2_k _ _ _ p, up2_o _ _ _ _ (by omega)⟩, fun q _ => up2_o _ _ _ _ (by omega)⟩
theorem km_53 (h : Hp) (z : Nat) (v : Int32) : km h (up2 h 53 z v) z := ⟨fun j _ _ _ d => up2_ne _ _ _ d, fun q p => ⟨up2_o _ _ _ _ (by omega), up2_o _ _ _ _ (by omega), up2_k _ _ _ p⟩, fun q _ => up2_o _ _ _ _ (by omega)⟩
theorem isM_km {h h' : Hp} {z y c : Nat} {s e : Int} (hy : y ≠ z) (H : isM h y s c e) (k : km h h' z) : isM h' y s c e := by
  obtain ⟨h1, h2, h3, h4, h5⟩ := H
  obtain ⟨k1, k2, k3⟩ := k.2.1 y hy
  refine ⟨by rw [k1]; exact h1, by rw [k2]; exact h2, by rw [k3]; exact h3, h4, fun q hq => ?_⟩
  rw [k.2.2 _ (by omega)]
  exact h5 q hq
theorem inz {z : Nat} (hz : z < 5) : inR (iI (z : Int)) 5 := iI_inR (by omega) (by omega) (by omega)
theorem clz {z : Nat} (hz : z < 5) : (iI (z : Int)).toNatClampNeg = z := by rw [iI_cl (by omega) (by omega), Int.toNat_natCast]
theorem ixz {z : Nat} (k : Int) : (2600 : Int32) * iI (z : Int) + iI k = iI (2600 * (z : Int) + k) := by rw [show (2600 : Int32) = iI 2600 from rfl, iI_mul, iI_add]
theorem ix0 {z : Nat} : (2600 : Int32) * iI (z : Int) = iI (2600 * (z : Int)) := by rw [show (2600 : Int32) = iI 2600 from rfl, iI_mul]
theorem M_zero {h : Hp} {z : Nat} (hz : z < 5) : ∃ h', f_M_zero (iI (z : Int)) h = some ((), h') ∧ isM h' z 0 0 0 ∧ km h h' z := by
  unfold f_M_zero
  rw [chk_t (inz hz), chk_t (inz hz), chk_t (inz hz), ix0, chk_t (iI_inR (by omega) (by omega) (by omega)), clz hz, iI_cl (by omega) (by omega), show (2600 * (z : Int)).toNat = 2600 * z + 0 by omega]
  refine ⟨_, rfl, ⟨?_, ?_, ?_, by decide, fun k hk => ?_⟩, km_t (km_t (km_t (km_53 _ _ _) (km_51 _ _ _)) (km_52 _ _ _)) (km_50 _ _ _ _ (by omega))⟩
  · rw [up2_o _ _ _ _ (by omega), up2_o _ _ _ _ (by omega), up2_s]; rfl
  · rw [up2_o _ _ _ _ (by omega), up2_s]; rfl
  · rw [up2_o _ _ _ _ (by omega), up2_o _ _ _ _ (by omega), up2_o _ _ _ _ (by omega), up2_s]; rfl
  · have : k = 0 := by rw [mn_0] at hk; omega
    rw [this, up2_s]
    unfold dg
    simp
    rfl
-- ===== settle =====
def isU (h : Hp) (z n : Nat) (f : Nat → Nat) : Prop := h 51 z = iI (n : Int) ∧ n ≤ 2600 ∧ (∀ k, k < n → f k < 10) ∧ ∀ k, k < n → h 50 (2600 * z + k) = iI (f k : Int)
theorem M_set_a {z n : Nat} {f : Nat → Nat} {h : Hp} (hz : z < 5) (U : isU h z n f) : ∀ (m k j : Nat), k + m = n → m < j → (∀ q, q < k → f q = 0) → ∃ k1, k1 ≤ n ∧ (∀ q, q < k1 → f q = 0) ∧ (k1 < n → f k1 ≠ 0) ∧ f_M_settle_2 j (iI (z : Int)) (iI (k : Int)) h = f_M_settle_33 (iI (z : Int)) (iI (k1 : Int)) h := by
  obtain ⟨u1, u2, u3, u4⟩ := U
  intro m
  induction m with
  | zero =>
    intro k j hk hj h0
    obtain ⟨j, rfl⟩ : ∃ q, j = q + 1 := ⟨j - 1, by omega⟩
    refine ⟨k, by omega, h0, fun q => by omega, ?_⟩
    rw [f_M_settle_2, chk_t (inz hz)]
    simp only [clz hz, u1]
    rw [if_pos (by rw [iI_le ⟨by omega, by omega⟩ ⟨by omega, by omega⟩]; omega)]
  | succ m ih =>
    intro k j hk hj h0
    obtain ⟨j, rfl⟩ : ∃ q, j = q + 1 := ⟨j - 1, by omega⟩
    have ecl : (iI (2600 * (z : Int) + (k : Int))).toNatClampNeg = 2600 * z + k := by rw [iI_cl (by omega) (by omega)]; omega
    have h10 := u3 k (by omega)
    rw [f_M_settle_2, chk_t (inz hz)]
    simp only [clz hz, u1, ixz]
    rw [if_neg (by rw [iI_le ⟨by omega, by omega⟩ ⟨by omega, by omega⟩]; omega), chk_t (iI_inR (by omega) (by omega) (by omega))]
    simp only [ecl, u4 k (by omega)]
    by_cases q : f k = 0
    · rw [if_pos (by rw [q]; rfl)]
      obtain ⟨k1, a1, a2, a3, a4⟩ := ih (k + 1) j (by omega) (by omega) (fun x hx => by
        by_cases y : x = k
        · rw [y]; exact q
        · exact h0 x (by omega))
      refine ⟨k1, a1, a2, a3, ?_⟩
      rw [← a4, i1, iI_add]
      rfl
    · refine ⟨k, by omega, h0, fun _ => q, ?_⟩
      rw [if_neg (by
        intro y
        have := (iI_eq ⟨by omega, by omega⟩ ⟨by omega, by omega⟩).mp (show iI ((f k : Nat) : Int) = iI 0 from y)
        omega)]
theorem M_set_b {z n k1 : Nat} {f : Nat → Nat} (hz : z < 5) (hk0 : 0 < k1) (hk1 : k1 < n) (hn : n ≤ 2600) : ∀ (m i j : Nat) (h : Hp), i + m = n - k1 → m < j → h 51 z = iI ((n - k1 : Nat) : Int) → (∀ q, q < n → h 50 (2600 * z + q) = iI ((if q < i then f (q + k1) else f q : Nat) : Int)) → ∃ h', f_M_settle_61 j (iI (z : Int)) (iI (k1 : Int)) (iI (i : Int)) h = some ((), h') ∧ (∀ q, q < n - k1 → h' 50 (2600 * z + q) = iI (f (q + k1) : Int)) ∧ (∀ y, y ≠ 50 → h' y = h y) ∧ km h h' z := by
  intro m
  induction m with
  | zero =>
    intro i j h hi hj h1 ha
    obtain ⟨j, rfl⟩ : ∃ q, j = q + 1 := ⟨j - 1, by omega⟩
    rw [f_M_settle_61, chk_t (inz hz)]
    simp only [clz hz, h1]
    rw [if_pos (by rw [iI_le ⟨by omega, by omega⟩ ⟨by omega, by omega⟩]; omega)]
    refine ⟨h, rfl, fun q hq => ?_, fun _ _ => rfl, km_r _ _⟩
    rw [ha q (by omega), if_pos (by omega)]
  | succ m ih =>
    intro i j h hi hj h1 ha
    obtain ⟨j, rfl⟩ : ∃ q, j = q + 1 := ⟨j - 1, by omega⟩
    have ec1 : (iI (2600 * (z : Int) + (i : Int))).toNatClampNeg = 2600 * z + i := by rw [iI_cl (by omega) (by omega)]; omega
    have ec2 : (iI (2600 * (z : Int) + (i : Int) + (k1 : Int))).toNatClampNeg = 2600 * z + (i + k1) := by rw [iI_cl (by omega) (by omega)]; omega
    rw [f_M_settle_61, chk_t (inz hz)]
    simp only [clz hz, h1, ixz, iI_add]
    rw [if_neg (by rw [iI_le ⟨by omega, by omega⟩ ⟨by omega, by omega⟩]; omega), if_neg (by rw [i0, iI_le ⟨by omega, by omega⟩ ⟨by omega, by omega⟩]; omega), chk_t (iI_inR (by omega) (by omega) (by omega)), chk_t (iI_inR (by omega) (by omega) (by omega)), ec1, ec2, ha (i + k1) (by omega), if_neg (by omega)]
    obtain ⟨h', e', a', b', c'⟩ := ih (i + 1) j (up2 h 50 (2600 * z + i) (iI (f (i + k1) : Int))) (by omega) (by omega) (by rw [up2_o _ _ _ _ (by omega)]; exact h1) (fun q hq => by
      by_cases y : q = i
      · rw [y, up2_s, if_pos (by omega)]
      · rw [up2_k _ _ _ (by omega), ha q hq]
        by_cases x : q < i
        · rw [if_pos x, if_pos (by omega)]
        · rw [if_neg x, if_neg (by omega)])
    refine ⟨h', ?_, a', fun y hy => (b' y hy).trans (up2_ne _ _ _ hy), km_t (km_50 _ _ _ _ (by omega)) c'⟩
    rw [← e', i1, iI_add]
    rfl
theorem M_settle {h : Hp} {z n : Nat} {f : Nat → Nat} {s e : Int} (hz : z < 5) (hn : 0 < n) (U : isU h z n f) (h2 : h 52 z = iI e) (h3 : h 53 z = iI s) : ∃ h', f_M_settle (iI (z : Int)) h = some ((), h') ∧ isM h' z (if dv f n = 0 then 0 else s) (dv f n) (if dv f n = 0 then 0 else e) ∧ km h h' z := by
  obtain ⟨k1, a1, a2, a3, a4⟩ := M_set_a hz U n 0 fuel (by omega) (by have := U.2.1; unfold fuel; omega) (fun q hq => absurd hq (Nat.not_lt_zero q))
  obtain ⟨u1, u2, u3, u4⟩ := U
  have e1 := dv_add f k1 (n - k1)
  rw [show k1 + (n - k1) = n by omega, dv_z a2, Nat.zero_mul, Nat.zero_add] at e1
  unfold f_M_settle
  rw [show (0 : Int32) = iI ((0 : Nat) : Int) from rfl, a4]
  unfold f_M_settle_33
  rw [chk_t (inz hz)]
  simp only [clz hz, u1]
  by_cases q : k1 = n
  · have ez : dv f n = 0 := by rw [← q]; exact dv_z a2
    rw [if_pos (by rw [q]), ez, if_pos rfl, if_pos rfl]
    obtain ⟨h', e', H', K'⟩ := M_zero (h := h) hz
    rw [bd_t e']
    exact ⟨h', rfl, H', K'⟩
  · have hlt : k1 < n := by omega
    have hc := dv_pos (d := fun k => f (k1 + k)) (n := n - k1) (by omega) (a3 hlt)
    have hc2 : dv (fun k => f (k1 + k)) (n - k1) < 10 ^ (n - k1) := dv_lt (fun k hk => u3 (k1 + k) (by omega))
    rw [← e1] at hc hc2
    have hnd := nd_eq (by omega) hc hc2
    have hpos : 0 < dv f n := Nat.lt_of_lt_of_le (p10 _) hc
    rw [if_neg (by rw [iI_eq ⟨by omega, by omega⟩ ⟨by omega, by omega⟩]; omega), chk_t (inz hz), chk_t (inz hz), iI_sub, if_neg (by omega), if_neg (by omega)]
    have em : mn (dv f n) = n - k1 := by rw [mn_c hpos, hnd]
    have fin : ∀ h' : Hp, (∀ y, y ≠ 50 → h' y = (up2 h 51 z (iI ((n : Int) - (k1 : Int)))) y) → (∀ q, q < n - k1 → h' 50 (2600 * z + q) = iI (f (q + k1) : Int)) → isM h' z s (dv f n) e := fun h' b a => by
      refine ⟨by rw [b 51 (by omega), up2_s, em]; congr 1; omega, by rw [b 52 (by omega), up2_o _ _ _ _ (by omega)]; exact h2, by rw [b 53 (by omega), up2_o _ _ _ _ (by omega)]; exact h3, by omega, fun k hk => ?_⟩
      rw [em] at hk ⊢
      rw [a k hk]
      congr 2
      have := dv_dg (f := fun k => f (k1 + k)) (n := n - k1) hk (fun j hj => u3 (k1 + j) (by omega))
      rw [← e1] at this
      rw [← this, Nat.add_comm]
    by_cases k0 : k1 = 0
    · refine ⟨up2 h 51 z (iI ((n : Int) - (k1 : Int))), ?_, fin _ (fun _ _ => rfl) (fun q hq => ?_), km_51 _ _ _⟩
      · rw [show fuel = 999999 + 1 from rfl, f_M_settle_61, chk_t (inz hz)]
        simp only [clz hz, up2_s]
        rw [if_neg (by rw [i0, iI_le ⟨by omega, by omega⟩ ⟨by omega, by omega⟩]; omega), if_pos (by rw [k0]; decide)]
      · rw [up2_o _ _ _ _ (by omega), u4 q (by omega), k0, Nat.add_zero]
    · obtain ⟨h', e', a', b', c'⟩ := M_set_b (f := f) hz (by omega) hlt u2 (n - k1) 0 fuel (up2 h 51 z (iI ((n : Int) - (k1 : Int)))) (by omega) (by unfold fuel; omega) (by rw [up2_s]; congr 1; omega) (fun q hq => by rw [up2_o _ _ _ _ (by omega), u4 q hq, if_neg (by omega)])
      exact ⟨h', e', fin h' b' a', km_t (km_51 _ _ _) c'⟩
end
section
/-! PURE 8: the reference's numbers: copy, high, digit, round, noZeros -/
theorem ixN (z k : Nat) : (2600 : Int32) * iI (z : Int) + iI (k : Int) = iI ((2600 * z + k : Nat) : Int) := by rw [ixz]; congr 1
theorem ixR {z k : Nat} (hz : z < 5) (hk : k < 2600) : inR (iI ((2600 * z + k : Nat) : Int)) 13000 := iI_inR (by omega) (by omega) (by omega)
theorem clN {n : Nat} (h : n < 2147483648) : (iI (n : Int)).toNatClampNeg = n := by rw [iI_cl (by omega) (by omega), Int.toNat_natCast]
theorem scN (k : Nat) : iI (k : Int) + 1 = iI ((k + 1 : Nat) : Int) := by rw [i1, iI_add]; rfl
theorem pcN (k : Nat) : iI ((k + 1 : Nat) : Int) + (-1) = iI (k : Int) := by rw [im1, iI_add]; congr 1; omega
theorem M_copy_loop {x z c : Nat} (hx : x < 5) (hz : z < 5) (hxz : x ≠ z) (hc : mn c ≤ 2600) : ∀ (m k n : Nat) (h : Hp), k + m = mn c → m < n → h 51 x = iI (mn c : Int) → (∀ q, q < mn c → h 50 (2600 * x + q) = iI (dg c (mn c) q : Int)) → (∀ q, q < k → h 50 (2600 * z + q) = iI (dg c (mn c) q : Int)) → ∃ h', f_M_copy_38 n (iI (x : Int)) (iI (z : Int)) (iI (k : Int)) h = some ((), h') ∧ (∀ q, q < mn c → h' 50 (2600 * z + q) = iI (dg c (mn c) q : Int)) ∧ (∀ y, y ≠ 50 → h' y = h y) ∧ km h h' z := by
  intro m
  induction m with
  | zero =>
    intro k n h hk hn h1 ha hb
    obtain ⟨n, rfl⟩ : ∃ q, n = q + 1 := ⟨n - 1, by omega⟩
    refine ⟨h, ?_, fun q hq => hb q (by omega), fun _ _ => rfl, km_r _ _⟩
    rw [f_M_copy_38, chk_t (inz hx)]
    simp only [clz hx, h1]
    rw [if_pos (by rw [iI_le ⟨by omega, by omega⟩ ⟨by omega, by omega⟩]; omega)]
  | succ m ih =>
    intro k n h hk hn h1 ha hb
    obtain ⟨n, rfl⟩ : ∃ q, n = q + 1 := ⟨n - 1, by omega⟩
    obtain ⟨h', e', a', b', c'⟩ := ih (k + 1) n (up2 h 50 (2600 * z + k) (iI (dg c (mn c) k : Int))) (by omega) (by omega) (by rw [up2_o _ _ _ _ (by omega)]; exact h1) (fun q hq => by rw [up2_k _ _ _ (by omega)]; exact ha q hq) (fun q hq => by
      by_cases t : q = k
      · rw [t, up2_s]
      · rw [up2_k _ _ _ (by omega)]; exact hb q (by omega))
    refine ⟨h', ?_, a', fun y hy => (b' y hy).trans (up2_ne _ _ _ hy), km_t (km_50 _ _ _ _ (by omega)) c'⟩
    rw [f_M_copy_38, chk_t (inz hx)]
    simp only [clz hx, h1, ixN]
    rw [if_neg (by rw [iI_le ⟨by omega, by omega⟩ ⟨by omega, by omega⟩]; omega), chk_t (ixR hx (by omega)), chk_t (ixR hz (by omega)), clN (by omega), clN (by omega), ha k (by omega), scN]
    exact e'
theorem M_copy {h : Hp} {x z c : Nat} {s e : Int} (hx : x < 5) (hz : z < 5) (hxz : x ≠ z) (H : isM h x s c e) : ∃ h', f_M_copy (iI (x : Int)) (iI (z : Int)) h = some ((), h') ∧ isM h' z s c e ∧ km h h' z := by
  obtain ⟨h1, h2, h3, h4, h5⟩ := H
  have hne : x ≠ z := hxz
  let g : Hp := up2 (up2 (up2 h 53 z (iI s)) 51 z (iI (mn c : Int))) 52 z (iI e)
  have kg : km h g z := km_t (km_t (km_53 _ _ _) (km_51 _ _ _)) (km_52 _ _ _)
  obtain ⟨h', e', a', b', c'⟩ := M_copy_loop (c := c) hx hz hxz h4 (mn c) 0 fuel g (by omega) (by unfold fuel; omega) (by rw [(kg.2.1 x hne).1]; exact h1) (fun q hq => by rw [kg.2.2 _ (by omega)]; exact h5 q hq) (fun q hq => by omega)
  refine ⟨h', ?_, ⟨?_, ?_, ?_, h4, a'⟩, km_t kg c'⟩
  · unfold f_M_copy
    rw [chk_t (inz hx), chk_t (inz hz), chk_t (inz hx), chk_t (inz hz), chk_t (inz hx), chk_t (inz hz), clz hx, clz hz, h3, up2_o _ _ _ _ (by omega : (51 : Nat) ≠ 53), h1, up2_o _ _ _ _ (by omega : (52 : Nat) ≠ 51), up2_o _ _ _ _ (by omega : (52 : Nat) ≠ 53), h2]
    exact e'
  · rw [b' 51 (by omega)]
    show up2 _ 52 z _ 51 z = _
    rw [up2_o _ _ _ _ (by omega), up2_s]
  · rw [b' 52 (by omega)]
    show up2 _ 52 z _ 52 z = _
    rw [up2_s]
  · rw [b' 53 (by omega)]
    show up2 _ 52 z _ 53 z = _
    rw [up2_o _ _ _ _ (by omega), up2_o _ _ _ _ (by omega), up2_s]
theorem M_high {h : Hp} {z c : Nat} {s e : Int} (hz : z < 5) (H : isM h z s c e) : f_M_high (iI (z : Int)) h = some (iI ((mn c : Int) - 1 + e), h) := by
  unfold f_M_high
  rw [chk_t (inz hz), chk_t (inz hz), clz hz, H.1, H.2.1, i1, iI_sub, iI_add]
theorem M_digit {h : Hp} {z c : Nat} {s e p : Int} (hz : z < 5) (H : isM h z s c e) (h1 : -1000000000 ≤ p - e) (h2 : p - e ≤ 1000000000) : f_M_digit (iI (z : Int)) (iI p) h = some (iI (dp c e p : Int), h) := by
  have hm := mn_pos c
  have h4 := H.2.2.2.1
  unfold f_M_digit dp
  rw [bd_t (M_high hz H), iI_sub, chk_t (inz hz)]
  simp only [clz hz, H.1]
  by_cases q : (mn c : Int) - 1 + e - p < 0
  · rw [if_pos (by rw [i0, iI_lt ⟨by omega, by omega⟩ ⟨by omega, by omega⟩]; exact q), if_pos (by omega)]
    have : c / 10 ^ (p - e).toNat = 0 := Nat.div_eq_of_lt (Nat.lt_of_lt_of_le (mn_lt c) (Nat.pow_le_pow_right (by decide) (by omega)))
    rw [this]
    rfl
  · rw [if_neg (by rw [i0, iI_lt ⟨by omega, by omega⟩ ⟨by omega, by omega⟩]; exact q)]
    by_cases q2 : e ≤ p
    · rw [if_neg (by rw [iI_le ⟨by omega, by omega⟩ ⟨by omega, by omega⟩]; omega), if_pos q2]
      obtain ⟨k, hk⟩ : ∃ k : Nat, (mn c : Int) - 1 + e - p = k := ⟨((mn c : Int) - 1 + e - p).toNat, by omega⟩
      rw [hk, ixN, chk_t (ixR hz (by omega)), clN (by omega), H.2.2.2.2 k (by omega)]
      unfold dg
      rw [show mn c - 1 - k = (p - e).toNat by omega]
    · rw [if_pos (by rw [iI_le ⟨by omega, by omega⟩ ⟨by omega, by omega⟩]; omega), if_neg q2]
      rfl
theorem isM_of {h : Hp} {z c n : Nat} {f : Nat → Nat} {s e : Int} (h1 : h 51 z = iI (n : Int)) (h2 : h 52 z = iI e) (h3 : h 53 z = iI s) (hl : n ≤ 2600) (hf : ∀ k, k < n → f k < 10) (ha : ∀ k, k < n → h 50 (2600 * z + k) = iI (f k : Int)) (hc : dv f n = c) (hn : mn c = n) : isM h z s c e := by
  subst hc
  refine ⟨by rw [hn]; exact h1, h2, h3, by rw [hn]; exact hl, fun k hk => ?_⟩
  rw [hn] at hk ⊢
  rw [ha k hk, ← dv_dg hk hf]
theorem M_up_loop {z q : Nat} (hz : z < 5) (hq : 0 < q) (hl : nd q ≤ 2600) : ∀ (m n : Nat) (h : Hp) (f : Nat → Nat), m ≤ nd q → m + 1 < n → (∀ k, k < nd q → h 50 (2600 * z + k) = iI (f k : Int)) → (∀ k, k < m → f k = dg q (nd q) k) → (∀ k, m ≤ k → k < nd q → f k = 0 ∧ dg q (nd q) k = 9) → ∃ h' g, f_M_round_62 n (iI (z : Int)) 1 (iI ((m : Int) - 1)) h = some ((), h') ∧ km h h' z ∧ h' 51 = h 51 ∧ h' 53 = h 53 ∧ (∀ k, k < nd q → h' 50 (2600 * z + k) = iI (g k : Int)) ∧ (∀ k, k < nd q → g k < 10) ∧ dv g (nd q) = (if q + 1 = 10 ^ nd q then 10 ^ (nd q - 1) else q + 1) ∧ h' 52 z = (if q + 1 = 10 ^ nd q then h 52 z + 1 else h 52 z) := by
  have hn0 := nd_pos hq
  intro m
  induction m with
  | zero =>
    intro n h f hm hn ha hf hz0
    obtain ⟨n, rfl⟩ : ∃ x, n = x + 1 := ⟨n - 1, by omega⟩
    have e9 := nines (d := dg q (nd q)) (m := 0) (nd q) (fun k _ h2 => (hz0 k (by omega) (by omega)).2)
    rw [Nat.zero_add, dg_dv_nd, dv_0] at e9
    have e10 : q + 1 = 10 ^ nd q := by omega
    rw [f_M_round_62, if_pos (by rw [i0, iI_lt ⟨by omega, by omega⟩ ⟨by omega, by omega⟩]; omega)]
    unfold f_M_round_137
    have e0 : (2600 : Int32) * iI (z : Int) = iI ((2600 * z + 0 : Nat) : Int) := by rw [ix0]; rfl
    rw [if_neg (by decide), e0, chk_t (ixR hz (by omega)), chk_t (inz hz), chk_t (inz hz), clz hz, clN (by omega), up2_o _ _ _ _ (by omega : (52 : Nat) ≠ 50)]
    refine ⟨_, fun k => if k = 0 then 1 else 0, rfl, km_t (km_50 _ _ _ _ (by omega)) (km_52 _ _ _), ?_, ?_, fun k hk => ?_, fun k _ => by show (if k = 0 then 1 else 0) < 10; split <;> omega, ?_, ?_⟩
    · rw [up2_ne _ _ _ (by omega), up2_ne _ _ _ (by omega)]
    · rw [up2_ne _ _ _ (by omega), up2_ne _ _ _ (by omega)]
    · rw [up2_o _ _ _ _ (by omega)]
      by_cases t : k = 0
      · rw [t, up2_s]; rfl
      · rw [up2_k _ _ _ (by omega), ha k hk, (hz0 k (by omega) hk).1]
        show _ = iI (((if k = 0 then 1 else 0 : Nat)) : Int)
        rw [if_neg t]
    · rw [if_pos e10]
      have := dzeros (d := fun k => if k = 0 then 1 else 0) (m := 1) (nd q - 1) (fun k h1 _ => by show (if k = 0 then 1 else 0) = 0; rw [if_neg (by omega)])
      rw [show 1 + (nd q - 1) = nd q by omega] at this
      rw [this]
      simp [dv]
    · rw [if_pos e10, up2_s]
  | succ m ih =>
    intro n h f hm hn ha hf hz0
    obtain ⟨n, rfl⟩ : ∃ x, n = x + 1 := ⟨n - 1, by omega⟩
    have ez : ((m + 1 : Nat) : Int) - 1 = (m : Int) := by omega
    have ep : iI (m : Int) + (-1) = iI ((m : Int) - 1) := by rw [im1, iI_add]; rfl
    rw [ez, f_M_round_62, if_neg (by rw [i0, iI_lt ⟨by omega, by omega⟩ ⟨by omega, by omega⟩]; omega), if_neg (by decide), ixN, chk_t (ixR hz (by omega))]
    simp only [clN (show 2600 * z + m < 2147483648 by omega), ha m (by omega), hf m (by omega)]
    have hd := dg_lt q (nd q) m
    by_cases c9 : dg q (nd q) m = 9
    · rw [if_pos (by rw [c9]; rfl)]
      unfold f_M_round_94
      rw [if_neg (by decide), ixN, chk_t (ixR hz (by omega)), clN (by omega), ep]
      obtain ⟨h', g, e', k', a', b', d', x', y', z'⟩ := ih n (up2 h 50 (2600 * z + m) 0) (fun k => if k = m then 0 else f k) (by omega) (by omega) (fun k hk => by
        by_cases t : k = m
        · rw [t, up2_s]
          show _ = iI (((if m = m then 0 else f m : Nat)) : Int)
          rw [if_pos rfl]; rfl
        · rw [up2_k _ _ _ (by omega), ha k hk]
          show _ = iI (((if k = m then 0 else f k : Nat)) : Int)
          rw [if_neg t]) (fun k hk => by
        show (if k = m then 0 else f k) = _
        rw [if_neg (by omega), hf k (by omega)]) (fun k h2 h3 => by
        show (if k = m then 0 else f k) = 0 ∧ _
        by_cases t : k = m
        · rw [if_pos t, t]
          exact ⟨rfl, c9⟩
        · rw [if_neg t]
          exact hz0 k (by omega) h3)
      refine ⟨h', g, e', km_t (km_50 _ _ _ _ (by omega)) k', a'.trans (up2_ne _ _ _ (by omega)), b'.trans (up2_ne _ _ _ (by omega)), d', x', y', ?_⟩
      rw [z', up2_o _ _ _ _ (by omega)]
    · rw [if_neg (by
        intro t
        have := (iI_eq ⟨by omega, by omega⟩ ⟨by omega, by omega⟩).mp (show iI ((dg q (nd q) m : Nat) : Int) = iI 9 from t)
        omega)]
      unfold f_M_round_94
      rw [if_pos rfl, ixN, chk_t (ixR hz (by omega)), chk_t (ixR hz (by omega)), clN (by omega), ha m (by omega), hf m (by omega), ep, scN]
      have e9 := nines (d := dg q (nd q)) (m := m + 1) (nd q - (m + 1)) (fun k h2 h3 => (hz0 k h2 (by omega)).2)
      rw [show m + 1 + (nd q - (m + 1)) = nd q by omega, dg_dv_nd] at e9
      have ev : dv (fun k => if k = m then dg q (nd q) m + 1 else f k) (nd q) = q + 1 := by
        have e1 := dzeros (d := fun k => if k = m then dg q (nd q) m + 1 else f k) (m := m + 1) (nd q - (m + 1)) (fun k h2 h3 => by
          show (if k = m then _ else f k) = 0
          rw [if_neg (by omega)]
          exact (hz0 k h2 (by omega)).1)
        rw [show m + 1 + (nd q - (m + 1)) = nd q by omega] at e1
        have e2 : dv (fun k => if k = m then dg q (nd q) m + 1 else f k) m = dv (dg q (nd q)) m := dv_congr (fun k hk => by
          show (if k = m then _ else f k) = _
          rw [if_neg (by omega), hf k (by omega)])
        rw [e1, e9, dv_s, dv_s, e2, if_pos rfl, Nat.add_assoc]
      have hlt : ∀ k, k < nd q → (fun k => if k = m then dg q (nd q) m + 1 else f k) k < 10 := fun k hk => by
        show (if k = m then dg q (nd q) m + 1 else f k) < 10
        split
        · omega
        · by_cases t : k < m + 1
          · rw [hf k t]; exact dg_lt _ _ _
          · rw [(hz0 k (by omega) hk).1]; omega
      have hb := dv_lt hlt
      rw [ev] at hb
      obtain ⟨n, rfl⟩ : ∃ x, n = x + 1 := ⟨n - 1, by omega⟩
      refine ⟨up2 h 50 (2600 * z + m) (iI ((dg q (nd q) m + 1 : Nat) : Int)), fun k => if k = m then dg q (nd q) m + 1 else f k, ?_, km_50 _ _ _ _ (by omega), up2_ne _ _ _ (by omega), up2_ne _ _ _ (by omega), fun k hk => ?_, hlt, by rw [if_neg (by omega)]; exact ev, by rw [if_neg (by omega), up2_o _ _ _ _ (by omega)]⟩
      · show f_M_round_62 (n + 1) (iI (z : Int)) 0 (iI ((m : Int) - 1)) (up2 h 50 (2600 * z + m) (iI ((dg q (nd q) m + 1 : Nat) : Int))) = _
        rw [f_M_round_62]
        unfold f_M_round_137
        rw [if_pos rfl, if_pos rfl]
        split <;> rfl
      · by_cases t : k = m
        · rw [t, up2_s]
          show _ = iI (((if m = m then dg q (nd q) m + 1 else f m : Nat)) : Int)
          rw [if_pos rfl]
        · rw [up2_k _ _ _ (by omega), ha k hk]
          show _ = iI (((if k = m then dg q (nd q) m + 1 else f k : Nat)) : Int)
          rw [if_neg t]
theorem M_round {h : Hp} {z c n : Nat} {s e : Int} (hz : z < 5) (H : isM h z s c e) (hn : 0 < n) (hn2 : n < 1000000) : ∃ h', f_M_round (iI (z : Int)) (iI (n : Int)) h = some ((), h') ∧ isM h' z s (rnd n c e).1 (rnd n c e).2 ∧ km h h' z := by
  have hm := mn_pos c
  have h4 := H.2.2.2.1
  unfold f_M_round
  rw [chk_t (inz hz)]
  simp only [clz hz, H.1, ixN]
  by_cases q : n < mn c
  · rw [if_pos (by rw [iI_lt ⟨by omega, by omega⟩ ⟨by omega, by omega⟩]; omega), chk_t (ixR hz (by omega))]
    simp only [clN (show 2600 * z + n < 2147483648 by omega), H.2.2.2.2 n q]
    have q2 : n < nd c := by unfold mn at q; omega
    have hc : 0 < c := by
      rcases Nat.eq_zero_or_pos c with t | t
      · rw [t, nd_0] at q2; omega
      · exact t
    have em := mn_c hc
    rw [em] at h4 ⊢
    have ed : dg c (nd c) n = c / 10 ^ (nd c - n - 1) % 10 := by
      unfold dg
      rw [show nd c - 1 - n = nd c - n - 1 by omega]
    have hdl := dg_lt c (nd c) n
    have eq0 := nd_divp (c := c) (k := nd c - n) (by omega)
    rw [show nd c - (nd c - n) = n by omega] at eq0
    have hq0 : 0 < c / 10 ^ (nd c - n) := by
      rcases Nat.eq_zero_or_pos (c / 10 ^ (nd c - n)) with t | t
      · rw [t, nd_0] at eq0; omega
      · exact t
    obtain ⟨H1, H2, H3, H4, H5⟩ := H
    rw [em] at H1 H4 H5
    let g0 : Hp := up2 (up2 h 52 z (iI (e + ((nd c : Int) - n)))) 51 z (iI (n : Int))
    have kg : km h g0 z := km_t (km_52 _ _ _) (km_51 _ _ _)
    have T1 : g0 51 z = iI (n : Int) := up2_s _ _ _ _
    have T2 : g0 52 z = iI (e + ((nd c : Int) - n)) := by show up2 _ 51 z _ 52 z = _; rw [up2_o _ _ _ _ (by omega), up2_s]
    have T3 : g0 53 z = iI s := by show up2 _ 51 z _ 53 z = _; rw [up2_o _ _ _ _ (by omega), up2_o _ _ _ _ (by omega)]; exact H3
    have T5 : ∀ k, k < n → g0 50 (2600 * z + k) = iI (dg (c / 10 ^ (nd c - n)) n k : Int) := fun k hk => by
      show up2 _ 51 z _ 50 _ = _
      rw [up2_o _ _ _ _ (by omega), up2_o _ _ _ _ (by omega), H5 k (by omega)]
      congr 2
      unfold dg
      rw [div_pp]
      congr 3
      omega
    have ee : e + ((nd c : Int) - n) = e + ((nd c - n : Nat) : Int) := by omega
    have e32 : ∀ u : Int32, f_M_round_32 (iI (z : Int)) (iI (n : Int)) u h = f_M_round_62 fuel (iI (z : Int)) u (iI ((n : Int) - 1)) g0 := fun u => by
      unfold f_M_round_32
      rw [chk_t (inz hz), chk_t (inz hz), chk_t (inz hz), chk_t (inz hz), clz hz, H2, H1, iI_sub, iI_add, i1, iI_sub]
    by_cases u : dg c (nd c) n < 5
    · rw [if_pos (by rw [show (5 : Int32) = iI 5 from rfl, iI_lt ⟨by omega, by omega⟩ ⟨by omega, by omega⟩]; omega), e32, show fuel = 999999 + 1 from rfl, f_M_round_62]
      have er : rnd n c e = (c / 10 ^ (nd c - n), e + ((nd c - n : Nat) : Int)) := by
        have hb := nd_lt (c / 10 ^ (nd c - n))
        rw [eq0] at hb
        have e5 : rup c (nd c - n) = c / 10 ^ (nd c - n) := by unfold rup; rw [if_neg (by rw [← ed]; omega), Nat.add_zero]
        unfold rnd
        rw [if_neg (by omega), e5, if_neg (by omega)]
      rw [er]
      unfold f_M_round_137
      rw [if_pos rfl, if_pos rfl]
      refine ⟨g0, by split <;> rfl, ?_, kg⟩
      refine ⟨by rw [mn_c hq0, eq0]; exact T1, by rw [T2, ee], T3, by rw [mn_c hq0, eq0]; omega, fun k hk => ?_⟩
      rw [mn_c hq0, eq0] at hk ⊢
      exact T5 k hk
    · rw [if_neg (by rw [show (5 : Int32) = iI 5 from rfl, iI_lt ⟨by omega, by omega⟩ ⟨by omega, by omega⟩]; omega), e32]
      have L := M_up_loop hz hq0 (by rw [eq0]; omega) n fuel g0 (dg (c / 10 ^ (nd c - n)) n)
      rw [eq0] at L
      obtain ⟨h', g, e', k', a', b', d', x', y', z'⟩ := L (Nat.le_refl _) (by unfold fuel; omega) T5 (fun _ _ => rfl) (fun k h1 h2 => by omega)
      have e5 : rup c (nd c - n) = c / 10 ^ (nd c - n) + 1 := by unfold rup; rw [if_pos (by rw [← ed]; omega)]
      refine ⟨h', e', ?_, km_t kg k'⟩
      unfold rnd
      rw [if_neg (by omega), e5]
      have hlow := nd_le hq0
      have hhigh := nd_lt (c / 10 ^ (nd c - n))
      rw [eq0] at hlow hhigh
      by_cases t : c / 10 ^ (nd c - n) + 1 = 10 ^ n
      · rw [if_pos t] at y' z' ⊢
        have em2 : mn (10 ^ (n - 1)) = n := by rw [mn_c (p10 _)]; exact nd_eq hn (Nat.le_refl _) (Nat.pow_lt_pow_right (by decide) (by omega))
        exact isM_of (by rw [a']; exact T1) (by rw [z', T2, i1, iI_add, ee]) (by rw [b']; exact T3) (by omega) x' d' y' em2
      · rw [if_neg t] at y' z' ⊢
        have em2 : mn (c / 10 ^ (nd c - n) + 1) = n := by rw [mn_c (by omega)]; exact nd_eq hn (by omega) (by omega)
        exact isM_of (by rw [a']; exact T1) (by rw [z', T2, ee]) (by rw [b']; exact T3) (by omega) x' d' y' em2
  · rw [if_neg (by rw [iI_lt ⟨by omega, by omega⟩ ⟨by omega, by omega⟩]; omega), rnd_same (by unfold mn at q; omega)]
    exact ⟨h, rfl, H, km_r _ _⟩
theorem M_nz_loop {z : Nat} {s : Int} (hz : z < 5) : ∀ (m n c : Nat) (e : Int) (h : Hp), nd c ≤ m → m < n → isM h z s c e → ∃ h', f_M_noZeros_0 n (iI (z : Int)) h = some ((), h') ∧ isM h' z s (strp m c e).1 (strp m c e).2 ∧ km h h' z := by
  intro m
  induction m with
  | zero =>
    intro n c e h hm hn H
    obtain ⟨n, rfl⟩ : ∃ q, n = q + 1 := ⟨n - 1, by omega⟩
    rw [f_M_noZeros_0, chk_t (inz hz)]
    simp only [clz hz, H.1]
    rw [if_pos (by rw [i1, iI_le ⟨by omega, by have := H.2.2.2.1; omega⟩ ⟨by omega, by omega⟩]; unfold mn; omega)]
    exact ⟨h, rfl, H, km_r _ _⟩
  | succ m ih =>
    intro n c e h hm hn H
    obtain ⟨n, rfl⟩ : ∃ q, n = q + 1 := ⟨n - 1, by omega⟩
    have h4 := H.2.2.2.1
    rw [f_M_noZeros_0, chk_t (inz hz), strp]
    simp only [clz hz, H.1]
    by_cases q : nd c ≤ 1
    · rw [if_pos (by rw [i1, iI_le ⟨by omega, by omega⟩ ⟨by omega, by omega⟩]; unfold mn; omega), if_neg (by omega)]
      exact ⟨h, rfl, H, km_r _ _⟩
    · have hc : 0 < c := by
        rcases Nat.eq_zero_or_pos c with t | t
        · rw [t, nd_0] at q; omega
        · exact t
      have em := mn_c hc
      have ei : (2600 : Int32) * iI (z : Int) + iI (mn c : Int) - 1 = iI ((2600 * z + (nd c - 1) : Nat) : Int) := by rw [ixN, i1, iI_sub, em]; congr 1; omega
      rw [if_neg (by rw [i1, iI_le ⟨by omega, by omega⟩ ⟨by omega, by omega⟩]; omega), chk_t (inz hz), ei, chk_t (ixR hz (by omega))]
      simp only [clN (show 2600 * z + (nd c - 1) < 2147483648 by omega), H.2.2.2.2 (nd c - 1) (by omega)]
      rw [em, dg_last (by omega)]
      by_cases q2 : c % 10 = 0
      · rw [if_pos (by rw [q2]; rfl), if_pos ⟨by omega, q2⟩, chk_t (inz hz), chk_t (inz hz), chk_t (inz hz), chk_t (inz hz), up2_o _ _ _ _ (by omega : (52 : Nat) ≠ 51), H.2.1, i1, iI_sub, iI_add]
        have e1 := nd_divp (c := c) (k := 1) (by omega)
        rw [Nat.pow_one] at e1
        have hc1 : 0 < c / 10 := by
          rcases Nat.eq_zero_or_pos (c / 10) with t | t
          · rw [t, nd_0] at e1; omega
          · exact t
        have em1 := mn_c hc1
        obtain ⟨h', e', H', K'⟩ := ih n (c / 10) (e + 1) (up2 (up2 h 51 z (iI ((nd c : Int) - 1))) 52 z (iI (e + 1))) (by omega) (by omega) (by
          refine ⟨?_, by rw [up2_s], ?_, by rw [em1]; omega, fun k hk => ?_⟩
          · rw [up2_o _ _ _ _ (by omega), up2_s, em1, e1]; congr 1; omega
          · rw [up2_o _ _ _ _ (by omega), up2_o _ _ _ _ (by omega)]; exact H.2.2.1
          · rw [em1, e1] at hk ⊢
            rw [up2_o _ _ _ _ (by omega), up2_o _ _ _ _ (by omega), H.2.2.2.2 k (by omega), em]
            congr 2
            unfold dg
            have e2 := div_pp c 1 (nd c - 1 - 1 - k)
            rw [Nat.pow_one] at e2
            rw [e2]
            congr 3
            omega)
        exact ⟨h', e', H', km_t (km_t (km_51 _ _ _) (km_52 _ _ _)) K'⟩
      · rw [if_neg (by
          intro t
          have := (iI_eq ⟨by omega, by omega⟩ ⟨by omega, by omega⟩).mp (show iI ((c % 10 : Nat) : Int) = iI 0 from t)
          omega), if_neg (by omega)]
        exact ⟨h, rfl, H, km_r _ _⟩
theorem M_noZeros {h : Hp} {z c : Nat} {s e : Int} (hz : z < 5) (H : isM h z s c e) : ∃ h', f_M_noZeros (iI (z : Int)) h = some ((), h') ∧ isM h' z s (strip c e).1 (strip c e).2 ∧ km h h' z := by
  have h4 := H.2.2.2.1
  exact M_nz_loop hz (nd c) fuel c e h (Nat.le_refl _) (by unfold fuel; unfold mn at h4; omega) H
end
section
/-! PURE 9: reading: what both sides read, and the class's reader -/
theorem bAt_rg {bs : List Nat} (H : ∀ k, k < bs.length → bs.getD k 0 < 256) (z : Int) : -1 ≤ bAt bs z ∧ bAt bs z ≤ 255 := by
  unfold bAt
  split
  · have := H z.toNat (by omega)
    omega
  · omega
theorem bAt_out {bs : List Nat} {k : Nat} (h : bs.length ≤ k) : bAt bs (k : Int) = -1 := by
  unfold bAt
  rw [if_neg (by omega)]
abbrev isC (b : Int) : Prop := 48 ≤ b ∧ b ≤ 57
def skp (bs : List Nat) : Nat → Nat → Nat
  | 0, k => k
  | m + 1, k => if bAt bs (k : Int) = 32 then skp bs m (k + 1) else k
def rdD (b : Nat → Int) : Nat → Nat → Nat → Nat → Nat → Nat → Nat × Nat × Nat × Nat
  | 0, k, c, n, pl, _ => (k, c, n, pl)
  | m + 1, k, c, n, pl, pt => if isC (b k) then rdD b m (k + 1) (10 * c + (b k - 48).toNat) (n + 1) (pl + pt) pt else if b k = 46 ∧ pt = 0 then rdD b m (k + 1) c n pl 1 else (k, c, n, pl)
def rdE (b : Nat → Int) : Nat → Nat → Nat → Nat × Nat
  | 0, k, v => (k, v)
  | m + 1, k, v => if isC (b k) then rdE b m (k + 1) (10 * v + (b k - 48).toNat) else (k, v)
theorem skp_le (bs : List Nat) : ∀ m k, k ≤ skp bs m k ∧ skp bs m k ≤ k + m := by
  intro m
  induction m with
  | zero => intro k; exact ⟨Nat.le_refl _, Nat.le_refl _⟩
  | succ m ih =>
    intro k
    rw [skp]
    split
    · have := ih (k + 1); omega
    · omega
theorem rdD_k (b : Nat → Int) : ∀ m k c n pl pt, k ≤ (rdD b m k c n pl pt).1 ∧ (rdD b m k c n pl pt).1 ≤ k + m ∧ n ≤ (rdD b m k c n pl pt).2.2.1 ∧ pl ≤ (rdD b m k c n pl pt).2.2.2 ∧ (pt ≤ 1 → (rdD b m k c n pl pt).2.2.2 ≤ pl + m) := by
  intro m
  induction m with
  | zero => intro k c n pl pt; exact ⟨Nat.le_refl _, Nat.le_refl _, Nat.le_refl _, Nat.le_refl _, fun _ => Nat.le_refl _⟩
  | succ m ih =>
    intro k c n pl pt
    rw [rdD]
    split
    · have := ih (k + 1) (10 * c + (b k - 48).toNat) (n + 1) (pl + pt) pt
      refine ⟨by omega, by omega, by omega, by omega, fun q => ?_⟩
      have := this.2.2.2.2 q
      omega
    · split
      · have := ih (k + 1) c n pl 1
        refine ⟨by omega, by omega, by omega, by omega, fun q => ?_⟩
        have := this.2.2.2.2 (by omega)
        omega
      · exact ⟨Nat.le_refl _, by show k ≤ _; omega, Nat.le_refl _, Nat.le_refl _, fun _ => by show pl ≤ _; omega⟩
theorem rdE_k (b : Nat → Int) : ∀ m k v, k ≤ (rdE b m k v).1 ∧ (rdE b m k v).1 ≤ k + m ∧ (rdE b m k v).2 < (v + 1) * 10 ^ m := by
  intro m
  induction m with
  | zero => intro k v; exact ⟨Nat.le_refl _, Nat.le_refl _, by show v < _; simp⟩
  | succ m ih =>
    intro k v
    rw [rdE]
    split
    · rename_i q
      have := ih (k + 1) (10 * v + (b k - 48).toNat)
      refine ⟨by omega, by omega, Nat.lt_of_lt_of_le this.2.2 ?_⟩
      rw [Nat.pow_succ, Nat.mul_comm (10 ^ m) 10, ← Nat.mul_assoc]
      exact Nat.mul_le_mul_right _ (by have := q.2; omega)
    · refine ⟨Nat.le_refl _, by show k ≤ _; omega, ?_⟩
      show v < (v + 1) * 10 ^ (m + 1)
      exact Nat.lt_of_lt_of_le (Nat.lt_succ_self v) (Nat.le_mul_of_pos_right _ (p10 _))
/-- what stands behind sign and blanks: where it ends, the digits, the exponent -/
def rdX (b : Nat → Int) (k1 c pl : Nat) : Option (Nat × Nat × Int) :=
  if b k1 = 69 ∨ b k1 = 101 then
    if (rdE b 3 (if b (k1 + 1) = 43 ∨ b (k1 + 1) = 45 then k1 + 1 + 1 else k1 + 1) 0).1 = (if b (k1 + 1) = 43 ∨ b (k1 + 1) = 45 then k1 + 1 + 1 else k1 + 1) then none
    else some ((rdE b 3 (if b (k1 + 1) = 43 ∨ b (k1 + 1) = 45 then k1 + 1 + 1 else k1 + 1) 0).1, c, (if b (k1 + 1) = 45 then -((rdE b 3 (if b (k1 + 1) = 43 ∨ b (k1 + 1) = 45 then k1 + 1 + 1 else k1 + 1) 0).2 : Int) else ((rdE b 3 (if b (k1 + 1) = 43 ∨ b (k1 + 1) = 45 then k1 + 1 + 1 else k1 + 1) 0).2 : Int)) - (pl : Int))
  else some (k1, c, -(pl : Int))
def rdT (b : Nat → Int) (m k : Nat) : Option (Nat × Nat × Int) :=
  if (rdD b m k 0 0 0 0).2.2.1 = 0 then none else rdX b (rdD b m k 0 0 0 0).1 (rdD b m k 0 0 0 0).2.1 (rdD b m k 0 0 0 0).2.2.2
/-- a NUMBER: sign, digits, exponent -/
def nrm (s : Int) (c : Nat) (e : Int) : Int × Nat × Int := if c = 0 then (0, 0, 0) else (s, c, e)
def rdK (bs : List Nat) : Nat := skp bs bs.length 0
def rdK1 (bs : List Nat) : Nat := if bAt bs (rdK bs : Int) = 43 ∨ bAt bs (rdK bs : Int) = 45 then rdK bs + 1 else rdK bs
def rdK2 (bs : List Nat) : Nat := skp bs (bs.length - rdK1 bs) (rdK1 bs)
def rdN (bs : List Nat) : Option (Int × Nat × Int) := match rdT (fun k => bAt bs (k : Int)) (bs.length - rdK2 bs) (rdK2 bs) with
  | none => none
  | some r => if skp bs (bs.length - r.1) r.1 = bs.length then some (nrm (if bAt bs (rdK bs : Int) = 45 then -1 else 1) r.2.1 r.2.2) else none
-- ===== the class's reader =====
theorem R_isDigit {b : Int} {h : Hp} (hb : bI b) : f_R_isDigit (iI b) h = some (iI (if isC b then 1 else 0), h) := by
  unfold f_R_isDigit
  simp (disch := omega) only [iI_lit, iI_lt]
  by_cases q : b < 48
  · rw [if_pos (by omega), if_neg (by omega)]; rfl
  · rw [if_neg (by omega)]
    by_cases q2 : 57 < b
    · rw [if_pos (by omega), if_neg (by omega)]; rfl
    · rw [if_neg (by omega), if_pos (by omega)]; rfl
def kr (h h' : Hp) (i : Nat) : Prop := ∀ j, j ≠ 26 → j ≠ i → j ≠ i + 1 → h' j = h j
theorem kr_t {h h1 h2 : Hp} {i : Nat} (x : kr h h1 i) (y : kr h1 h2 i) : kr h h2 i := fun j a b c => (y j a b c).trans (x j a b c)
def k26 (h h' : Hp) : Prop := ∀ j, j ≠ 26 → h' j = h j
theorem k26_t {h h1 h2 : Hp} (x : k26 h h1) (y : k26 h1 h2) : k26 h h2 := fun j a => (y j a).trans (x j a)
theorem kr_26 {h h' : Hp} {i : Nat} (x : k26 h h') : kr h h' i := fun j a _ _ => x j a
theorem isL_26 {h h' : Hp} {i : Nat} {bs : List Nat} (hi : i < 25) (H : isL h i bs) (x : k26 h h') : isL h' i bs := isL_eq H (x i (by omega)) (x (i + 1) (by omega))
theorem R_skip_loop {i : Nat} {bs : List Nat} (hi : i < 25) : ∀ (m k n : Nat) (h : Hp), k + m = bs.length → m < n → isL h i bs → h 26 0 = iI (k : Int) → ∃ h', f_R_skipBlanks_0 n i h = some ((), h') ∧ h' 26 0 = iI (skp bs m k : Int) ∧ k26 h h' := by
  intro m
  induction m with
  | zero =>
    intro k n h hk hn H h26
    obtain ⟨n, rfl⟩ : ∃ q, n = q + 1 := ⟨n - 1, by omega⟩
    have hl := H.2.1
    have hbl := bl_le (i + 1)
    rw [f_R_skipBlanks_0, H.1, h26, if_pos (by rw [iI_le ⟨by omega, by omega⟩ ⟨by omega, by omega⟩]; omega)]
    exact ⟨h, rfl, h26, fun _ _ => rfl⟩
  | succ m ih =>
    intro k n h hk hn H h26
    obtain ⟨n, rfl⟩ : ∃ q, n = q + 1 := ⟨n - 1, by omega⟩
    have hl := H.2.1
    have hbl := bl_le (i + 1)
    have hr := bAt_rg H.2.2.1 (k : Int)
    rw [f_R_skipBlanks_0, H.1, h26, if_neg (by rw [iI_le ⟨by omega, by omega⟩ ⟨by omega, by omega⟩]; omega), bd_t (L_byteAt H ⟨by omega, by omega⟩), h26, skp]
    by_cases q : bAt bs (k : Int) = 32
    · rw [if_pos (by rw [q]; rfl), if_pos q, scN]
      have k1 : k26 h (up2 h 26 0 (iI ((k + 1 : Nat) : Int))) := fun j a => up2_ne _ _ _ a
      obtain ⟨h', e', a', b'⟩ := ih (k + 1) n _ (by omega) (by omega) (isL_26 hi H k1) (up2_s _ _ _ _)
      exact ⟨h', e', a', k26_t k1 b'⟩
    · rw [if_neg (by rw [show (32 : Int32) = iI 32 from rfl, iI_eq ⟨by omega, by omega⟩ ⟨by omega, by omega⟩]; exact q), if_neg q]
      exact ⟨h, rfl, h26, fun _ _ => rfl⟩
theorem R_skip {i : Nat} {bs : List Nat} {k : Nat} {h : Hp} (hi : i < 25) (hk : k ≤ bs.length) (H : isL h i bs) (h26 : h 26 0 = iI (k : Int)) : ∃ h', f_R_skipBlanks i h = some ((), h') ∧ h' 26 0 = iI (skp bs (bs.length - k) k : Int) ∧ k26 h h' := by
  have hl := H.2.1
  have hbl := bl_le (i + 1)
  exact R_skip_loop hi (bs.length - k) k fuel h (by omega) (by unfold fuel; omega) H h26
theorem R_sign {i : Nat} {bs : List Nat} {k : Nat} {h : Hp} (hk : k ≤ 1000) (H : isL h i bs) (h26 : h 26 0 = iI (k : Int)) : ∃ h', f_R_readSign i h = some (iI (if bAt bs (k : Int) = 45 then -1 else 1), h') ∧ h' 26 0 = iI ((if bAt bs (k : Int) = 43 ∨ bAt bs (k : Int) = 45 then k + 1 else k : Nat) : Int) ∧ k26 h h' := by
  have hr := bAt_rg H.2.2.1 (k : Int)
  unfold f_R_readSign f_R_readSign_21
  rw [h26, bd_t (L_byteAt H ⟨by omega, by omega⟩), h26, scN]
  have k1 : k26 h (up2 h 26 0 (iI ((k + 1 : Nat) : Int))) := fun j a => up2_ne _ _ _ a
  simp (disch := omega) only [iI_lit, iI_eq]
  by_cases q : bAt bs (k : Int) = 43
  · rw [if_pos (by omega), if_neg (by omega), if_neg (by omega), if_pos (by omega)]
    exact ⟨_, rfl, up2_s _ _ _ _, k1⟩
  · rw [if_neg (by omega)]
    by_cases q2 : bAt bs (k : Int) = 45
    · rw [if_pos (by omega), if_pos (by omega), if_pos q2, if_pos (Or.inr q2)]
      exact ⟨_, rfl, up2_s _ _ _ _, k1⟩
    · rw [if_neg (by omega), if_neg (by omega), if_neg q2, if_neg (by omega)]
      exact ⟨h, rfl, h26, fun _ _ => rfl⟩
theorem R_digits_loop {i j : Nat} {bs : List Nat} (hi : i < 25) (hj : 28 < j) (hlen : bs.length ≤ 200) (hil : il (j + 1) = 200) : ∀ (m k n : Nat) (h : Hp) (c nn pl pt : Nat), k + m = bs.length → m < n → isL h i bs → h 26 0 = iI (k : Int) → isD h j c → c < 10 ^ nn → nn ≤ k → pt ≤ 1 → ∃ h', f_R_readDigits_8 n i j (iI (nn : Int)) (iI (pl : Int)) (iI (pt : Int)) h = some (iI (if (rdD (fun k => bAt bs (k : Int)) m k c nn pl pt).2.2.1 = 0 then 0 else 1), h') ∧ h' 26 0 = iI ((rdD (fun k => bAt bs (k : Int)) m k c nn pl pt).1 : Int) ∧ isD h' j (rdD (fun k => bAt bs (k : Int)) m k c nn pl pt).2.1 ∧ h' j 2 = iI (-((rdD (fun k => bAt bs (k : Int)) m k c nn pl pt).2.2.2 : Int)) ∧ kr h h' j := by
  have fin : ∀ (h : Hp) (k c nn pl : Nat), nn ≤ 200 → h 26 0 = iI (k : Int) → isD h j c → ∃ h', f_R_readDigits_95 j (iI (nn : Int)) (iI (pl : Int)) h = some (iI (if nn = 0 then 0 else 1), h') ∧ h' 26 0 = iI (k : Int) ∧ isD h' j c ∧ h' j 2 = iI (-(pl : Int)) ∧ kr h h' j := by
    intro h k c nn pl hn h26 D
    have r : (up2 h j 2 (iI (-(pl : Int)))) 26 0 = iI (k : Int) ∧ isD (up2 h j 2 (iI (-(pl : Int)))) j c ∧ (up2 h j 2 (iI (-(pl : Int)))) j 2 = iI (-(pl : Int)) ∧ kr h (up2 h j 2 (iI (-(pl : Int)))) j := ⟨by rw [up2_o _ _ _ _ (by omega)]; exact h26, isD_eq D (up2_k _ _ _ (by omega)) (up2_ne _ _ _ (by omega)), up2_s _ _ _ _, fun q _ b _ => up2_ne _ _ _ b⟩
    unfold f_R_readDigits_95
    rw [iI_neg]
    by_cases q : nn = 0
    · rw [if_pos (by rw [i0, iI_le ⟨by omega, by omega⟩ ⟨by omega, by omega⟩]; omega), if_pos q]
      exact ⟨_, rfl, r⟩
    · rw [if_neg (by rw [i0, iI_le ⟨by omega, by omega⟩ ⟨by omega, by omega⟩]; omega), if_neg q]
      exact ⟨_, rfl, r⟩
  intro m
  induction m with
  | zero =>
    intro k n h c nn pl pt hk hn H h26 D hc hnn hpt
    obtain ⟨n, rfl⟩ : ∃ q, n = q + 1 := ⟨n - 1, by omega⟩
    rw [f_R_readDigits_8, H.1, h26, if_pos (by rw [iI_le ⟨by omega, by omega⟩ ⟨by omega, by omega⟩]; omega)]
    exact fin h k c nn pl (by omega) h26 D
  | succ m ih =>
    intro k n h c nn pl pt hk hn H h26 D hc hnn hpt
    obtain ⟨n, rfl⟩ : ∃ q, n = q + 1 := ⟨n - 1, by omega⟩
    have hr := bAt_rg H.2.2.1 (k : Int)
    rw [f_R_readDigits_8, H.1, h26, if_neg (by rw [iI_le ⟨by omega, by omega⟩ ⟨by omega, by omega⟩]; omega), bd_t (L_byteAt H ⟨by omega, by omega⟩), bd_t (R_isDigit ⟨by omega, by omega⟩), rdD]
    by_cases q : isC (bAt bs (k : Int))
    · rw [if_pos q, if_neg (by decide), if_pos q]
      have ed : iI (bAt bs (k : Int)) - 48 = iI (((bAt bs (k : Int) - 48).toNat : Nat) : Int) := by rw [show (48 : Int32) = iI 48 from rfl, iI_sub]; congr 1; omega
      have hd : (bAt bs (k : Int) - 48).toNat < 10 := by omega
      have hc2 : 10 * c + (bAt bs (k : Int) - 48).toNat < 10 ^ (nn + 1) := by rw [Nat.pow_succ]; omega
      obtain ⟨h1, e1, D1, K1⟩ := N_push (d := (bAt bs (k : Int) - 48).toNat) D hd (by rw [hil]; have := nd_le_of hc2; omega)
      rw [ed, bd_t e1]
      have h126 : h1 26 0 = iI (k : Int) := by rw [K1.1 26 (by omega) (by omega)]; exact h26
      have H1 : isL h1 i bs := isL_eq H (K1.1 i (by omega) (by omega)) (K1.1 (i + 1) (by omega) (by omega))
      have k2 : k26 h1 (up2 h1 26 0 (iI ((k + 1 : Nat) : Int))) := fun y a => up2_ne _ _ _ a
      obtain ⟨h', e', a', b', c', d'⟩ := ih (k + 1) n (up2 h1 26 0 (iI ((k + 1 : Nat) : Int))) (10 * c + (bAt bs (k : Int) - 48).toNat) (nn + 1) (pl + pt) pt (by omega) (by omega) (isL_26 hi H1 k2) (up2_s _ _ _ _) (isD_eq D1 (by rw [k2 j (by omega)]) (k2 (j + 1) (by omega))) hc2 (by omega) hpt
      refine ⟨h', ?_, a', b', c', kr_t (kr_t (fun y _ b c => K1.1 y b c) (kr_26 k2)) d'⟩
      unfold f_R_readDigits_61
      rw [h126, scN, scN]
      have ep : iI (pl : Int) + iI (pt : Int) = iI ((pl + pt : Nat) : Int) := by rw [iI_add]; rfl
      rw [← ep] at e'
      rcases Nat.lt_or_ge pt 1 with p | p
      · have : pt = 0 := by omega
        subst this
        rw [if_pos (by rfl)]
        exact e'
      · have : pt = 1 := by omega
        subst this
        rw [if_neg (by decide)]
        exact e'
    · rw [if_neg q, if_pos (by rfl), if_neg q]
      by_cases q2 : bAt bs (k : Int) = 46
      · rw [if_pos (by rw [q2]; rfl)]
        by_cases q3 : pt = 0
        · rw [if_pos (by rw [q3]; rfl), if_pos (show bAt bs (k : Int) = 46 ∧ pt = 0 from ⟨q2, q3⟩), h26, scN]
          have k2 : k26 h (up2 h 26 0 (iI ((k + 1 : Nat) : Int))) := fun y a => up2_ne _ _ _ a
          obtain ⟨h', e', a', b', c', d'⟩ := ih (k + 1) n (up2 h 26 0 (iI ((k + 1 : Nat) : Int))) c nn pl 1 (by omega) (by omega) (isL_26 hi H k2) (up2_s _ _ _ _) (isD_eq D (by rw [k2 j (by omega)]) (k2 (j + 1) (by omega))) hc (by omega) (by omega)
          exact ⟨h', e', a', b', c', kr_t (kr_26 k2) d'⟩
        · rw [if_neg (by rw [i0, iI_eq ⟨by omega, by omega⟩ ⟨by omega, by omega⟩]; omega), if_neg (show ¬ (bAt bs (k : Int) = 46 ∧ pt = 0) from fun z => q3 z.2)]
          exact fin h k c nn pl (by omega) h26 D
      · rw [if_neg (by rw [show (46 : Int32) = iI 46 from rfl, iI_eq ⟨by omega, by omega⟩ ⟨by omega, by omega⟩]; exact q2), if_neg (show ¬ (bAt bs (k : Int) = 46 ∧ pt = 0) from fun z => q2 z.1)]
        exact fin h k c nn pl (by omega) h26 D
theorem R_exp_loop {i j : Nat} {bs : List Nat} {sg : Int} (hi : i < 25) (hj : 28 < j) (hlen : bs.length ≤ 200) : ∀ (m k n v sn : Nat) (h : Hp) (e : Int), sn + m = 3 → m < n → k ≤ 1000 → isL h i bs → h 26 0 = iI (k : Int) → h j 2 = iI e → ∃ h', f_R_readExponent_46 n i j (iI sg) (iI (v : Int)) (iI (sn : Int)) h = some (iI (if sn + ((rdE (fun k => bAt bs (k : Int)) m k v).1 - k) = 0 then 0 else 1), h') ∧ h' 26 0 = iI ((rdE (fun k => bAt bs (k : Int)) m k v).1 : Int) ∧ h' j 2 = iI (e + sg * ((rdE (fun k => bAt bs (k : Int)) m k v).2 : Int)) ∧ (∀ y, y ≠ 26 → y ≠ j → h' y = h y) ∧ (∀ q, q ≠ 2 → h' j q = h j q) := by
  have fin : ∀ (h : Hp) (k v sn : Nat) (e : Int), sn ≤ 3 → h 26 0 = iI (k : Int) → h j 2 = iI e → ∃ h', f_R_readExponent_101 j (iI sg) (iI (v : Int)) (iI (sn : Int)) h = some (iI (if sn + (k - k) = 0 then 0 else 1), h') ∧ h' 26 0 = iI (k : Int) ∧ h' j 2 = iI (e + sg * (v : Int)) ∧ (∀ y, y ≠ 26 → y ≠ j → h' y = h y) ∧ (∀ q, q ≠ 2 → h' j q = h j q) := by
    intro h k v sn e hn h26 h2
    have r : (up2 h j 2 (iI (e + sg * (v : Int)))) 26 0 = iI (k : Int) ∧ (up2 h j 2 (iI (e + sg * (v : Int)))) j 2 = iI (e + sg * (v : Int)) ∧ (∀ y, y ≠ 26 → y ≠ j → (up2 h j 2 (iI (e + sg * (v : Int)))) y = h y) ∧ (∀ q, q ≠ 2 → (up2 h j 2 (iI (e + sg * (v : Int)))) j q = h j q) := ⟨by rw [up2_o _ _ _ _ (by omega)]; exact h26, up2_s _ _ _ _, fun q _ b => up2_ne _ _ _ b, fun q a => up2_k _ _ _ a⟩
    unfold f_R_readExponent_101
    rw [h2, iI_mul, iI_add]
    by_cases q : sn = 0
    · rw [if_pos (by rw [i0, iI_le ⟨by omega, by omega⟩ ⟨by omega, by omega⟩]; omega), if_pos (by omega)]
      exact ⟨_, rfl, r⟩
    · rw [if_neg (by rw [i0, iI_le ⟨by omega, by omega⟩ ⟨by omega, by omega⟩]; omega), if_neg (by omega)]
      exact ⟨_, rfl, r⟩
  intro m
  induction m with
  | zero =>
    intro k n v sn h e hs hn hk H h26 h2
    obtain ⟨n, rfl⟩ : ∃ q, n = q + 1 := ⟨n - 1, by omega⟩
    rw [f_R_readExponent_46, if_pos (by rw [show (3 : Int32) = iI 3 from rfl, iI_le ⟨by omega, by omega⟩ ⟨by omega, by omega⟩]; omega)]
    exact fin h k v sn e (by omega) h26 h2
  | succ m ih =>
    intro k n v sn h e hs hn hk H h26 h2
    obtain ⟨n, rfl⟩ : ∃ q, n = q + 1 := ⟨n - 1, by omega⟩
    have hr := bAt_rg H.2.2.1 (k : Int)
    rw [f_R_readExponent_46, if_neg (by rw [show (3 : Int32) = iI 3 from rfl, iI_le ⟨by omega, by omega⟩ ⟨by omega, by omega⟩]; omega), h26, bd_t (L_byteAt H ⟨by omega, by omega⟩), bd_t (R_isDigit ⟨by omega, by omega⟩), rdE]
    by_cases q : isC (bAt bs (k : Int))
    · rw [if_pos q, if_neg (by decide), if_pos q, h26, bd_t (L_byteAt H ⟨by omega, by omega⟩), h26, scN, scN]
      have k2 : k26 h (up2 h 26 0 (iI ((k + 1 : Nat) : Int))) := fun y a => up2_ne _ _ _ a
      have ed : iI (v : Int) * 10 + iI (bAt bs (k : Int)) - 48 = iI ((10 * v + (bAt bs (k : Int) - 48).toNat : Nat) : Int) := by rw [show (48 : Int32) = iI 48 from rfl, show (10 : Int32) = iI 10 from rfl, iI_mul, iI_add, iI_sub]; congr 1; omega
      obtain ⟨h', e', a', b', c', d'⟩ := ih (k + 1) n (10 * v + (bAt bs (k : Int) - 48).toNat) (sn + 1) (up2 h 26 0 (iI ((k + 1 : Nat) : Int))) e (by omega) (by omega) (by
        rcases Nat.lt_or_ge k bs.length with z | z
        · omega
        · rw [bAt_out z] at q; omega) (isL_26 hi H k2) (up2_s _ _ _ _) (by rw [k2 j (by omega)]; exact h2)
      refine ⟨h', ?_, a', b', fun y p1 p2 => (c' y p1 p2).trans (k2 y p1), fun y p => (d' y p).trans (by rw [k2 j (by omega)])⟩
      rw [ed, e']
      have := rdE_k (fun k => bAt bs (k : Int)) m (k + 1) (10 * v + (bAt bs (k : Int) - 48).toNat)
      rw [if_neg (by omega), if_neg (by omega)]
    · rw [if_neg q, if_pos (by rfl), if_neg q]
      exact fin h k v sn e (by omega) h26 h2
theorem rdX_n (b : Nat → Int) (k c pl : Nat) (hb : ¬ (b k = 69 ∨ b k = 101)) : rdX b k c pl = some (k, c, -(pl : Int)) := by unfold rdX; rw [if_neg hb]
theorem R_exponent {i j : Nat} {bs : List Nat} {k c pl : Nat} {h : Hp} (hi : i < 25) (hj : 28 < j) (hlen : bs.length ≤ 200) (hk : k ≤ bs.length) (H : isL h i bs) (h26 : h 26 0 = iI (k : Int)) (D : isD h j c) (h2 : h j 2 = iI (-(pl : Int))) : ∃ h', f_R_readExponent i j h = some (iI (if (rdX (fun k => bAt bs (k : Int)) k c pl) = none then 0 else 1), h') ∧ kr h h' j ∧ ∀ r, rdX (fun k => bAt bs (k : Int)) k c pl = some r → h' 26 0 = iI (r.1 : Int) ∧ isD h' j r.2.1 ∧ h' j 2 = iI r.2.2 ∧ r.1 ≤ bs.length := by
  have hr := bAt_rg H.2.2.1 (k : Int)
  unfold f_R_readExponent
  rw [h26, bd_t (L_byteAt H ⟨by omega, by omega⟩)]
  by_cases q : bAt bs (k : Int) = 69 ∨ bAt bs (k : Int) = 101
  · have e1 : (if iI (bAt bs (k : Int)) = 69 then f_R_readExponent_23 i j h else if iI (bAt bs (k : Int)) = 101 then f_R_readExponent_23 i j h else some (1, h)) = f_R_readExponent_23 i j h := by
      simp (disch := omega) only [iI_lit, iI_eq]
      by_cases z : bAt bs (k : Int) = 69
      · rw [if_pos (by omega)]
      · rw [if_neg (by omega), if_pos (by omega)]
    rw [e1]
    have hkl : k < bs.length := by
      rcases Nat.lt_or_ge k bs.length with z | z
      · exact z
      · rw [bAt_out z] at q; omega
    unfold f_R_readExponent_23
    have k2 : k26 h (up2 h 26 0 (iI ((k + 1 : Nat) : Int))) := fun y a => up2_ne _ _ _ a
    obtain ⟨h1, e1, a1, b1⟩ := R_sign (k := k + 1) (by omega) (isL_26 hi H k2) (up2_s _ _ _ _)
    rw [h26, scN, bd_t e1]
    have k3 := k26_t k2 b1
    obtain ⟨h', e', a', b', c', d'⟩ := R_exp_loop (sg := if bAt bs ((k + 1 : Nat) : Int) = 45 then -1 else 1) hi hj hlen 3 _ fuel 0 0 h1 (-(pl : Int)) (by omega) (by unfold fuel; omega) (by split <;> omega) (isL_26 hi H k3) a1 (by rw [k3 j (by omega)]; exact h2)
    refine ⟨h', ?_, fun y p1 p2 p3 => (c' y p1 p2).trans (k3 y p1), fun r hr2 => ?_⟩
    · refine e'.trans ?_
      unfold rdX
      simp only [if_pos q]
      have hh := rdE_k (fun k => bAt bs (k : Int)) 3 (if bAt bs ((k + 1 : Nat) : Int) = 43 ∨ bAt bs ((k + 1 : Nat) : Int) = 45 then k + 1 + 1 else k + 1) 0
      by_cases z : (rdE (fun k => bAt bs (k : Int)) 3 (if bAt bs ((k + 1 : Nat) : Int) = 43 ∨ bAt bs ((k + 1 : Nat) : Int) = 45 then k + 1 + 1 else k + 1) 0).1 = (if bAt bs ((k + 1 : Nat) : Int) = 43 ∨ bAt bs ((k + 1 : Nat) : Int) = 45 then k + 1 + 1 else k + 1)
      · rw [if_pos (by omega), if_pos z, if_pos rfl]
      · rw [if_neg (by omega), if_neg z, if_neg (by simp)]
    · unfold rdX at hr2
      simp only [if_pos q] at hr2
      by_cases z : (rdE (fun k => bAt bs (k : Int)) 3 (if bAt bs ((k + 1 : Nat) : Int) = 43 ∨ bAt bs ((k + 1 : Nat) : Int) = 45 then k + 1 + 1 else k + 1) 0).1 = (if bAt bs ((k + 1 : Nat) : Int) = 43 ∨ bAt bs ((k + 1 : Nat) : Int) = 45 then k + 1 + 1 else k + 1)
      · rw [if_pos z] at hr2; cases hr2
      · rw [if_neg z] at hr2
        have hr3 := (Option.some.inj hr2).symm
        subst hr3
        refine ⟨a', isD_eq D ((d' 1 (by omega)).trans (by rw [k3 j (by omega)])) ((c' (j + 1) (by omega) (by omega)).trans (k3 _ (by omega))), b'.trans ?_, ?_⟩
        · congr 1
          show _ = (if bAt bs ((k + 1 : Nat) : Int) = 45 then _ else _) - (pl : Int)
          split <;> omega
        · have big : ∀ m k v, k ≤ bs.length → (rdE (fun k => bAt bs (k : Int)) m k v).1 ≤ bs.length := by
            intro m
            induction m with
            | zero => intro k v hk; exact hk
            | succ m ih =>
              intro k v hk
              rw [rdE]
              split
              · rename_i y
                refine ih _ _ ?_
                rcases Nat.lt_or_ge k bs.length with z | z
                · omega
                · rw [bAt_out z] at y; omega
              · exact hk
          refine big _ _ _ ?_
          split
          · rename_i y
            rcases Nat.lt_or_ge (k + 1) bs.length with z | z
            · omega
            · rw [bAt_out z] at y; omega
          · omega
  · have e1 : (if iI (bAt bs (k : Int)) = 69 then f_R_readExponent_23 i j h else if iI (bAt bs (k : Int)) = 101 then f_R_readExponent_23 i j h else some (1, h)) = some (1, h) := by
      simp (disch := omega) only [iI_lit, iI_eq]
      rw [if_neg (by omega), if_neg (by omega)]
    rw [e1, rdX_n _ _ _ _ q]
    refine ⟨h, by rw [if_neg (by simp)]; rfl, fun _ _ _ _ => rfl, fun r hr2 => ?_⟩
    have hr3 := (Option.some.inj hr2).symm
    subst hr3
    exact ⟨h26, D, h2, hk⟩
theorem C_read {i j : Nat} {bs : List Nat} {h : Hp} (hi : i < 25) (hj : 28 < j) (hlen : bs.length ≤ 200) (hil : il (j + 1) = 200) (H : isL h i bs) : ∃ h', f_R_read i j h = some (iI (if rdN bs = none then 0 else 1), h') ∧ kr h h' j ∧ ∀ r, rdN bs = some r → isN h' j r.1 r.2.1 r.2.2 := by
  unfold f_R_read
  have k0 : k26 h (up2 h 26 0 0) := fun y a => up2_ne _ _ _ a
  obtain ⟨h1, e1, N1, K1⟩ := N_clear (up2 h 26 0 0) j
  rw [bd_t e1]
  have F1 : kr h h1 j := kr_t (kr_26 k0) (fun y _ b c => K1 y b c)
  have lift : ∀ {g : Hp}, kr h g j → isL g i bs := fun x => isL_eq H (x i (by omega) (by omega) (by omega)) (x (i + 1) (by omega) (by omega) (by omega))
  have h126 : h1 26 0 = iI ((0 : Nat) : Int) := by rw [K1 26 (by omega) (by omega), up2_s]; rfl
  obtain ⟨h2, e2, a2, b2⟩ := R_skip hi (Nat.zero_le _) (lift F1) h126
  rw [Nat.sub_zero] at a2
  rw [bd_t e2]
  have F2 := kr_t F1 (kr_26 (i := j) b2)
  have hk0 := skp_le bs bs.length 0
  obtain ⟨h3, e3, a3, b3⟩ := R_sign (k := skp bs bs.length 0) (by omega) (lift F2) a2
  rw [bd_t e3]
  have F3 := kr_t F2 (kr_26 (i := j) b3)
  have hk1 : rdK1 bs ≤ bs.length := by
    unfold rdK1 rdK
    split
    · rename_i z
      rcases Nat.lt_or_ge (skp bs bs.length 0) bs.length with y | y
      · omega
      · rw [bAt_out y] at z; omega
    · omega
  obtain ⟨h4, e4, a4, b4⟩ := R_skip (k := rdK1 bs) hi hk1 (lift F3) a3
  rw [bd_t e4]
  have F4 := kr_t F3 (kr_26 (i := j) b4)
  have hk2 := skp_le bs (bs.length - rdK1 bs) (rdK1 bs)
  have D4 : isD h4 j 0 := by
    have k9 := k26_t (k26_t b2 b3) b4
    exact isD_eq N1.1 (by rw [k9 j (by omega)]) (k9 (j + 1) (by omega))
  obtain ⟨h5, e5, a5, b5, c5, d5⟩ := R_digits_loop (i := i) (j := j) hi hj hlen hil (bs.length - rdK2 bs) (rdK2 bs) fuel h4 0 0 0 0 (by unfold rdK2; omega) (by unfold fuel; omega) (lift F4) a4 D4 (by decide) (by omega) (by omega)
  have F5 := kr_t F4 d5
  have hD := rdD_k (fun k => bAt bs (k : Int)) (bs.length - rdK2 bs) (rdK2 bs) 0 0 0 0
  have hK2 : rdK2 bs ≤ bs.length := by unfold rdK2; omega
  rw [bd_t (show f_R_readDigits i j h4 = _ from e5)]
  unfold rdN rdT
  by_cases q : (rdD (fun k => bAt bs (k : Int)) (bs.length - rdK2 bs) (rdK2 bs) 0 0 0 0).2.2.1 = 0
  · rw [if_pos q, if_pos (by rfl), if_pos q]
    exact ⟨h5, rfl, F5, fun r hr => by cases hr⟩
  · rw [if_neg q, if_neg (by decide), if_neg q]
    obtain ⟨h6, e6, F6, R6⟩ := R_exponent (h := h5) (pl := (rdD (fun k => bAt bs (k : Int)) (bs.length - rdK2 bs) (rdK2 bs) 0 0 0 0).2.2.2) hi hj hlen (by omega) (lift F5) a5 b5 c5
    rw [bd_t e6]
    have F6 := kr_t F5 F6
    cases hx : rdX (fun k => bAt bs (k : Int)) (rdD (fun k => bAt bs (k : Int)) (bs.length - rdK2 bs) (rdK2 bs) 0 0 0 0).1 (rdD (fun k => bAt bs (k : Int)) (bs.length - rdK2 bs) (rdK2 bs) 0 0 0 0).2.1 (rdD (fun k => bAt bs (k : Int)) (bs.length - rdK2 bs) (rdK2 bs) 0 0 0 0).2.2.2 with
    | none =>
      rw [if_pos rfl, if_pos (by rfl)]
      exact ⟨h6, rfl, F6, fun r hr => by cases hr⟩
    | some r =>
      obtain ⟨r1, r2, r3, r4⟩ := R6 r hx
      rw [if_neg (by simp; decide)]
      obtain ⟨h7, e7, a7, b7⟩ := R_skip (k := r.1) hi r4 (lift F6) r1
      rw [bd_t e7, b7 j (by omega), r3]
      have F7 := kr_t F6 (kr_26 (i := j) b7)
      obtain ⟨h8, e8, N8, K8⟩ := N_settle (h := h7) (s := if bAt bs ((skp bs bs.length 0 : Nat) : Int) = 45 then -1 else 1) (e := r.2.2) (isD_eq r2 (by rw [b7 j (by omega)]) (b7 (j + 1) (by omega)))
      rw [bd_t e8]
      have F8 : kr h h8 j := kr_t F7 (fun y _ b c => K8 y b c)
      have hk7 := skp_le bs (bs.length - r.1) r.1
      rw [K8 26 (by omega) (by omega), a7, (lift F8).1]
      by_cases z : skp bs (bs.length - r.1) r.1 = bs.length
      · rw [if_pos (by rw [z])]
        refine ⟨h8, ?_, F8, fun t ht => ?_⟩
        · show _ = some (iI (if (if skp bs (bs.length - r.1) r.1 = bs.length then _ else none) = none then 0 else 1), h8)
          rw [if_pos z, if_neg (by simp)]; rfl
        · have ht2 : (if skp bs (bs.length - r.1) r.1 = bs.length then some (nrm (if bAt bs (rdK bs : Int) = 45 then -1 else 1) r.2.1 r.2.2) else none) = some t := ht
          rw [if_pos z] at ht2
          have ht3 := (Option.some.inj ht2).symm
          subst ht3
          unfold nrm
          by_cases c0 : r.2.1 = 0
          · rw [if_pos c0, if_pos c0] at N8
            rw [if_pos c0]
            rw [c0] at N8
            exact N8
          · rw [if_neg c0, if_neg c0] at N8
            rw [if_neg c0]
            exact N8
      · rw [if_neg (by rw [iI_eq ⟨by omega, by omega⟩ ⟨by omega, by omega⟩]; omega)]
        refine ⟨h8, ?_, F8, fun t ht => ?_⟩
        · show _ = some (iI (if (if skp bs (bs.length - r.1) r.1 = bs.length then _ else none) = none then 0 else 1), h8)
          rw [if_neg z, if_pos rfl]; rfl
        · have ht2 : (if skp bs (bs.length - r.1) r.1 = bs.length then some (nrm (if bAt bs (rdK bs : Int) = 45 then -1 else 1) r.2.1 r.2.2) else none) = some t := ht
          rw [if_neg z] at ht2
          cases ht2
end
section
/-! PURE 10: reading: the reference's reader -/
theorem skp_eq (bs : List Nat) : ∀ m k k' : Nat, k ≤ k' → k' ≤ k + m → (∀ j, k ≤ j → j < k' → bAt bs (j : Int) = 32) → (k' < k + m → bAt bs (k' : Int) ≠ 32) → skp bs m k = k' := by
  intro m
  induction m with
  | zero => intro k k' h1 h2 _ _; rw [skp]; omega
  | succ m ih =>
    intro k k' h1 h2 h3 h4
    rw [skp]
    by_cases q : k = k'
    · subst q
      rw [if_neg (h4 (by omega))]
    · rw [if_pos (h3 k (Nat.le_refl _) (by omega))]
      exact ih (k + 1) k' (by omega) (by omega) (fun j a b => h3 j (by omega) b) (fun a => h4 (by omega))
theorem skp_p (bs : List Nat) : ∀ m k, (∀ j, k ≤ j → j < skp bs m k → bAt bs (j : Int) = 32) ∧ (skp bs m k < k + m → bAt bs ((skp bs m k : Nat) : Int) ≠ 32) := by
  intro m
  induction m with
  | zero => intro k; exact ⟨fun j a b => by rw [skp] at b; omega, fun a => by rw [skp] at a; omega⟩
  | succ m ih =>
    intro k
    rw [skp]
    by_cases q : bAt bs (k : Int) = 32
    · rw [if_pos q]
      obtain ⟨i1, i2⟩ := ih (k + 1)
      refine ⟨fun j a b => ?_, fun a => i2 (by omega)⟩
      by_cases z : j = k
      · rw [z]; exact q
      · exact i1 j (by omega) b
    · rw [if_neg q]
      exact ⟨fun j a b => by omega, fun _ => q⟩
def trm (bs : List Nat) (k : Nat) : Nat → Nat
  | 0 => k
  | m + 1 => if bAt bs ((k + m : Nat) : Int) = 32 then trm bs k m else k + m + 1
theorem trm_p (bs : List Nat) (k : Nat) : ∀ m, k ≤ trm bs k m ∧ trm bs k m ≤ k + m ∧ (∀ j, trm bs k m ≤ j → j < k + m → bAt bs (j : Int) = 32) ∧ (k < trm bs k m → bAt bs ((trm bs k m - 1 : Nat) : Int) ≠ 32) := by
  intro m
  induction m with
  | zero => exact ⟨Nat.le_refl _, Nat.le_refl _, fun j a b => by rw [trm] at a; omega, fun a => by rw [trm] at a; omega⟩
  | succ m ih =>
    rw [trm]
    by_cases q : bAt bs ((k + m : Nat) : Int) = 32
    · rw [if_pos q]
      obtain ⟨i1, i2, i3, i4⟩ := ih
      refine ⟨i1, by omega, fun j a b => ?_, i4⟩
      by_cases z : j = k + m
      · rw [z]; exact q
      · exact i3 j a (by omega)
    · rw [if_neg q]
      exact ⟨by omega, by omega, fun j a b => by omega, fun _ => q⟩
theorem bAt_tk {bs : List Nat} {E k : Nat} (h : k < E) : bAt (bs.take E) (k : Int) = bAt bs (k : Int) := by
  unfold bAt
  rw [List.length_take, Int.toNat_natCast, gD_t h]
  by_cases q : k < bs.length
  · rw [if_pos (by omega), if_pos (by omega)]
  · rw [if_neg (by omega), if_neg (by omega)]
theorem rdE_len (bs : List Nat) : ∀ m k v, k ≤ bs.length → (rdE (fun k => bAt bs (k : Int)) m k v).1 ≤ bs.length := by
  intro m
  induction m with
  | zero => intro k v hk; exact hk
  | succ m ih =>
    intro k v hk
    rw [rdE]
    split
    · rename_i y
      refine ih _ _ ?_
      rcases Nat.lt_or_ge k bs.length with z | z
      · omega
      · rw [bAt_out z] at y; omega
    · exact hk
theorem rdX_len {bs : List Nat} {k c pl : Nat} {r : Nat × Nat × Int} (hk : k ≤ bs.length) (hr : rdX (fun k => bAt bs (k : Int)) k c pl = some r) : r.1 ≤ bs.length := by
  unfold rdX at hr
  by_cases q : bAt bs (k : Int) = 69 ∨ bAt bs (k : Int) = 101
  · simp only [if_pos q] at hr
    have hkl : k < bs.length := by
      rcases Nat.lt_or_ge k bs.length with z | z
      · exact z
      · rw [bAt_out z] at q; omega
    by_cases z : (rdE (fun k => bAt bs (k : Int)) 3 (if bAt bs ((k + 1 : Nat) : Int) = 43 ∨ bAt bs ((k + 1 : Nat) : Int) = 45 then k + 1 + 1 else k + 1) 0).1 = (if bAt bs ((k + 1 : Nat) : Int) = 43 ∨ bAt bs ((k + 1 : Nat) : Int) = 45 then k + 1 + 1 else k + 1)
    · rw [if_pos z] at hr; cases hr
    · rw [if_neg z] at hr
      have := (Option.some.inj hr).symm
      subst this
      refine rdE_len _ _ _ _ ?_
      by_cases y : bAt bs ((k + 1 : Nat) : Int) = 43 ∨ bAt bs ((k + 1 : Nat) : Int) = 45
      · rw [if_pos y]
        rcases Nat.lt_or_ge (k + 1) bs.length with z | z
        · omega
        · rw [bAt_out z] at y; omega
      · rw [if_neg y]; omega
  · simp only [if_neg q] at hr
    have := (Option.some.inj hr).symm
    subst this
    exact hk
/-- two texts that differ in blanks at the end alone -/
def tlB (b1 b2 : Nat → Int) (E : Nat) : Prop := (∀ k, k < E → b1 k = b2 k) ∧ ∀ k, E ≤ k → (b1 k = 32 ∨ b1 k = -1) ∧ b2 k = -1
theorem rdD_tl {b1 b2 : Nat → Int} {E L : Nat} (hEL : E ≤ L) (B : tlB b1 b2 E) : ∀ m k c n pl pt, k + m = E → rdD b1 (L - k) k c n pl pt = rdD b2 m k c n pl pt := by
  intro m
  induction m with
  | zero =>
    intro k c n pl pt hk
    rw [rdD]
    rcases Nat.lt_or_ge k L with z | z
    · obtain ⟨y, hy⟩ : ∃ y, L - k = y + 1 := ⟨L - k - 1, by omega⟩
      have := (B.2 k (by omega)).1
      rw [hy, rdD, if_neg (by omega), if_neg (by omega)]
    · rw [show L - k = 0 by omega, rdD]
  | succ m ih =>
    intro k c n pl pt hk
    obtain ⟨y, hy⟩ : ∃ y, L - k = y + 1 := ⟨L - k - 1, by omega⟩
    have e : y = L - (k + 1) := by omega
    rw [hy, rdD, rdD, B.1 k (by omega), e, ih (k + 1) _ _ _ _ (by omega), ih (k + 1) _ _ _ _ (by omega)]
theorem rdE_tl {b1 b2 : Nat → Int} {E : Nat} (B : tlB b1 b2 E) : ∀ m k v, rdE b1 m k v = rdE b2 m k v := by
  intro m
  induction m with
  | zero => intro k v; rfl
  | succ m ih =>
    intro k v
    rw [rdE, rdE]
    rcases Nat.lt_or_ge k E with z | z
    · rw [B.1 k z, ih]
    · have := B.2 k z
      rw [if_neg (by omega), if_neg (by omega)]
theorem rdX_tl {b1 b2 : Nat → Int} {E : Nat} (B : tlB b1 b2 E) (k c pl : Nat) : rdX b1 k c pl = rdX b2 k c pl := by
  unfold rdX
  have t : ∀ k (v : Int), v ≠ 32 → v ≠ -1 → ((b1 k = v) = (b2 k = v)) := fun k v h1 h2 => by
    rcases Nat.lt_or_ge k E with z | z
    · rw [B.1 k z]
    · have := B.2 k z
      exact propext ⟨fun q => by omega, fun q => by omega⟩
  simp only [rdE_tl B, t k 69 (by omega) (by omega), t k 101 (by omega) (by omega), t (k + 1) 43 (by omega) (by omega), t (k + 1) 45 (by omega) (by omega)]
theorem rdT_0 (b : Nat → Int) (k : Nat) : rdT b 0 k = none := by unfold rdT; rw [rdD]; rfl
theorem rdT_tl {b1 b2 : Nat → Int} {E L k : Nat} (hEL : E ≤ L) (hk : k ≤ E) (B : tlB b1 b2 E) : rdT b1 (L - k) k = rdT b2 (E - k) k := by
  unfold rdT
  rw [rdD_tl hEL B (E - k) k 0 0 0 0 (by omega), rdX_tl B]
def rdEnd (bs : List Nat) : Nat := trm bs (rdK bs) (bs.length - rdK bs)
def rdM2 (bs : List Nat) : Nat := if bAt (bs.take (rdEnd bs)) (rdK bs : Int) = 43 ∨ bAt (bs.take (rdEnd bs)) (rdK bs : Int) = 45 then skp (bs.take (rdEnd bs)) (rdEnd bs - (rdK bs + 1)) (rdK bs + 1) else rdK bs
def rdM (bs : List Nat) : Option (Int × Nat × Int) := match rdT (fun k => bAt (bs.take (rdEnd bs)) (k : Int)) (rdEnd bs - rdM2 bs) (rdM2 bs) with
  | none => none
  | some r => if r.1 = rdEnd bs then some (nrm (if bAt (bs.take (rdEnd bs)) (rdK bs : Int) = 45 then -1 else 1) r.2.1 r.2.2) else none
theorem rdK_le (bs : List Nat) : rdK bs ≤ bs.length := by have := skp_le bs bs.length 0; unfold rdK; omega
theorem rdEnd_le (bs : List Nat) : rdK bs ≤ rdEnd bs ∧ rdEnd bs ≤ bs.length := by
  have h := trm_p bs (rdK bs) (bs.length - rdK bs)
  have h2 := rdK_le bs
  unfold rdEnd
  omega
theorem rdM_eq (bs : List Nat) : rdM bs = rdN bs := by
  obtain ⟨p1, p2, p3, p4⟩ := trm_p bs (rdK bs) (bs.length - rdK bs)
  have hk0 := rdK_le bs
  obtain ⟨s1, s2⟩ := skp_p bs bs.length 0
  have hE : trm bs (rdK bs) (bs.length - rdK bs) = rdEnd bs := rfl
  rw [hE] at p1 p2 p3 p4
  have hEl : (bs.take (rdEnd bs)).length = rdEnd bs := by rw [List.length_take]; omega
  have B : tlB (fun k => bAt bs (k : Int)) (fun k => bAt (bs.take (rdEnd bs)) (k : Int)) (rdEnd bs) := by
    refine ⟨fun k hk => (bAt_tk hk).symm, fun k hk => ⟨?_, bAt_out (by omega)⟩⟩
    rcases Nat.lt_or_ge k bs.length with z | z
    · exact Or.inl (p3 k hk (by omega))
    · exact Or.inr (bAt_out z)
  unfold rdM rdN
  rcases Nat.lt_or_ge (rdK bs) bs.length with q | q
  · have hb : bAt bs (rdK bs : Int) ≠ 32 := s2 (by unfold rdK at q; omega)
    have hE2 : rdK bs < rdEnd bs := by
      rcases Nat.lt_or_ge (rdK bs) (rdEnd bs) with z | z
      · exact z
      · exact absurd (p3 (rdK bs) z (by omega)) hb
    have hb2 := p4 hE2
    have e0 : bAt (bs.take (rdEnd bs)) (rdK bs : Int) = bAt bs (rdK bs : Int) := bAt_tk hE2
    have fin : ∀ k, k ≤ rdEnd bs → rdK2 bs = k → rdM2 bs = k → (match rdT (fun k => bAt (bs.take (rdEnd bs)) (k : Int)) (rdEnd bs - rdM2 bs) (rdM2 bs) with
  | none => none
  | some r => if r.1 = rdEnd bs then some (nrm (if bAt (bs.take (rdEnd bs)) (rdK bs : Int) = 45 then -1 else 1) r.2.1 r.2.2) else none) = (match rdT (fun k => bAt bs (k : Int)) (bs.length - rdK2 bs) (rdK2 bs) with
  | none => none
  | some r => if skp bs (bs.length - r.1) r.1 = bs.length then some (nrm (if bAt bs (rdK bs : Int) = 45 then -1 else 1) r.2.1 r.2.2) else none) := by
      intro k hk e1 e2
      rw [e1, e2, rdT_tl (by omega) hk B, e0]
      cases hx : rdT (fun k => bAt (bs.take (rdEnd bs)) (k : Int)) (rdEnd bs - k) k with
      | none => rfl
      | some r =>
        have hr : r.1 ≤ rdEnd bs := by
          unfold rdT at hx
          split at hx
          · cases hx
          · have := rdD_k (fun k => bAt (bs.take (rdEnd bs)) (k : Int)) (rdEnd bs - k) k 0 0 0 0
            have := rdX_len (by rw [hEl]; omega) hx
            rw [hEl] at this
            exact this
        show (if r.1 = rdEnd bs then _ else none) = (if skp bs (bs.length - r.1) r.1 = bs.length then _ else none)
        by_cases z : r.1 = rdEnd bs
        · have hs : skp bs (bs.length - r.1) r.1 = bs.length := skp_eq bs (bs.length - r.1) r.1 bs.length (by omega) (by omega) (fun j a b => p3 j (by omega) (by omega)) (fun a => by omega)
          rw [if_pos z, if_pos hs]
        · have hs : ¬ skp bs (bs.length - r.1) r.1 = bs.length := fun y => by
            have := (skp_p bs (bs.length - r.1) r.1).1 (rdEnd bs - 1) (by omega) (by omega)
            exact hb2 this
          rw [if_neg z, if_neg hs]
    by_cases sg : bAt bs (rdK bs : Int) = 43 ∨ bAt bs (rdK bs : Int) = 45
    · have e1 : rdK1 bs = rdK bs + 1 := by unfold rdK1; rw [if_pos sg]
      have e2 : rdM2 bs = skp (bs.take (rdEnd bs)) (rdEnd bs - (rdK bs + 1)) (rdK bs + 1) := by unfold rdM2; rw [e0, if_pos sg]
      have e3 : rdK2 bs = skp bs (bs.length - (rdK bs + 1)) (rdK bs + 1) := by unfold rdK2; rw [e1]
      rcases Nat.lt_or_ge (rdK bs + 1) (rdEnd bs) with z | z
      · obtain ⟨u1, u2⟩ := skp_p bs (bs.length - (rdK bs + 1)) (rdK bs + 1)
        have ul := skp_le bs (bs.length - (rdK bs + 1)) (rdK bs + 1)
        rw [← e3] at u1 u2 ul
        have hlt : rdK2 bs < rdEnd bs := by
          rcases Nat.lt_or_ge (rdK2 bs) (rdEnd bs) with y | y
          · exact y
          · exact absurd (u1 (rdEnd bs - 1) (by omega) (by omega)) hb2
        refine fin (rdK2 bs) (by omega) rfl ?_
        rw [e2]
        exact skp_eq _ _ _ _ (by omega) (by omega) (fun j a b => by rw [bAt_tk (by omega)]; exact u1 j a b) (fun a => by rw [bAt_tk hlt]; exact u2 (by omega))
      · have e4 : rdM2 bs = rdEnd bs := by rw [e2, show rdEnd bs - (rdK bs + 1) = 0 by omega, skp]; omega
        have e5 : rdK2 bs = bs.length := by
          rw [e3]
          exact skp_eq _ _ _ _ (by omega) (by omega) (fun j a b => p3 j (by omega) (by omega)) (fun a => by omega)
        rw [e4, e5, Nat.sub_self, Nat.sub_self, rdT_0, rdT_0]
    · have e1 : rdK1 bs = rdK bs := by unfold rdK1; rw [if_neg sg]
      have e2 : rdM2 bs = rdK bs := by unfold rdM2; rw [e0, if_neg sg]
      refine fin (rdK bs) (by omega) ?_ e2
      unfold rdK2
      rw [e1]
      exact skp_eq _ _ _ _ (by omega) (by omega) (fun j a b => by omega) (fun _ => hb)
  · have hb : bAt bs (rdK bs : Int) = -1 := bAt_out q
    have e1 : rdK1 bs = rdK bs := by unfold rdK1; rw [if_neg (by omega)]
    have e0 : bAt (bs.take (rdEnd bs)) (rdK bs : Int) = -1 := bAt_out (by omega)
    have e2 : rdM2 bs = rdK bs := by unfold rdM2; rw [e0, if_neg (by omega)]
    have e3 : rdK2 bs = rdK bs := by unfold rdK2; rw [e1, show bs.length - rdK bs = 0 by omega, skp]
    rw [e2, e3, show rdEnd bs - rdK bs = 0 by omega, show bs.length - rdK bs = 0 by omega, rdT_0, rdT_0]
-- ===== the reference's reader =====
theorem ifq {p q : Prop} [Decidable p] [Decidable q] (h : p ↔ q) {α : Type} (a b : α) : (if p then a else b) = (if q then a else b) := by
  by_cases x : p
  · rw [if_pos x, if_pos (h.mp x)]
  · rw [if_neg x, if_neg (fun y => x (h.mpr y))]
theorem M_isDigit {b : Int} {h : Hp} (hb : bI b) : f_M_isDigit (iI b) h = some (iI (if isC b then 1 else 0), h) := by
  unfold f_M_isDigit
  simp (disch := omega) only [iI_lit, iI_lt]
  by_cases q : b < 48
  · rw [if_pos (by omega), if_neg (by omega)]; rfl
  · rw [if_neg (by omega)]
    by_cases q2 : 57 < b
    · rw [if_pos (by omega), if_neg (by omega)]; rfl
    · rw [if_neg (by omega), if_pos (by omega)]; rfl
/-- the first E bytes of register r -/
def isE (h : Hp) (r : Nat) (bs : List Nat) : Prop := bs.length ≤ 200 ∧ (∀ k, k < bs.length → bs.getD k 0 < 256) ∧ ∀ k, k < bs.length → h 48 (200 * r + k) = iI (bAt bs (k : Int))
theorem isE_of {h : Hp} {r : Nat} {bs : List Nat} (H : isR h r bs) (hb : okB bs 200) : isE h r bs := ⟨hb.1, hb.2, fun k hk => by rw [H.2 k hk, bAt_in hk]⟩
theorem isE_tk {h : Hp} {r E : Nat} {bs : List Nat} (H : isE h r bs) : isE h r (bs.take E) := by
  obtain ⟨h1, h2, h3⟩ := H
  refine ⟨by rw [List.length_take]; omega, fun k hk => ?_, fun k hk => ?_⟩
  · rw [List.length_take] at hk
    rw [gD_t (by omega)]
    exact h2 k (by omega)
  · rw [List.length_take] at hk
    rw [bAt_tk (by omega)]
    exact h3 k (by omega)
theorem inB {r k : Nat} (hr : r < 10) (hk : k < 200) : inR (iI ((200 * r + k : Nat) : Int)) 2000 := iI_inR (by omega) (by omega) (by omega)
theorem clB {r k : Nat} (hr : r < 10) (hk : k < 2000) : (iI ((200 * r + k : Nat) : Int)).toNatClampNeg = 200 * r + k := clN (by omega)
theorem leN {a b : Nat} (ha : a < 1000000000) (hb : b < 1000000000) (h : a ≤ b) : iI (a : Int) ≤ iI (b : Int) := (iI_le ⟨by omega, by omega⟩ ⟨by omega, by omega⟩).mpr (by omega)
theorem nleN {a b : Nat} (ha : a < 1000000000) (hb : b < 1000000000) (h : b < a) : ¬ iI (a : Int) ≤ iI (b : Int) := fun q => by have := (iI_le (a := (a : Int)) (b := (b : Int)) ⟨by omega, by omega⟩ ⟨by omega, by omega⟩).mp q; omega
theorem eqL {a : Int} (n : Nat) (ha : -1 ≤ a ∧ a ≤ 255) (hn : n < 1000) : (iI a = (OfNat.ofNat n : Int32)) = (a = n) := by rw [iI_lit, propext (iI_eq ⟨by omega, by omega⟩ ⟨by omega, by omega⟩)]
theorem M_r16 {r z : Nat} {bs : List Nat} {h : Hp} (hr : r < 10) (H : isE h r bs) : ∀ (m k n : Nat), k + m = bs.length → m < n → f_M_read_16 n (iI (z : Int)) (iI ((200 * r + k : Nat) : Int)) (iI ((200 * r + bs.length : Nat) : Int)) h = f_M_read_39 fuel (iI (z : Int)) (iI ((200 * r + skp bs m k : Nat) : Int)) (iI ((200 * r + bs.length : Nat) : Int)) h := by
  have hl := H.1
  intro m
  induction m with
  | zero =>
    intro k n hk hn
    obtain ⟨n, rfl⟩ : ∃ q, n = q + 1 := ⟨n - 1, by omega⟩
    rw [f_M_read_16, if_pos (leN (by omega) (by omega) (by omega)), skp]
  | succ m ih =>
    intro k n hk hn
    obtain ⟨n, rfl⟩ : ∃ q, n = q + 1 := ⟨n - 1, by omega⟩
    have hrg := bAt_rg H.2.1 (k : Int)
    rw [f_M_read_16, if_neg (nleN (by omega) (by omega) (by omega)), chk_t (inB hr (by omega)), skp]
    simp only [clB hr (show k < 2000 by omega), H.2.2 k (by omega)]
    by_cases q : bAt bs (k : Int) = 32
    · rw [if_pos (by rw [q]; rfl), if_pos q, scN]
      exact ih (k + 1) n (by omega) (by omega)
    · rw [if_neg (by rw [show (32 : Int32) = iI 32 from rfl, iI_eq ⟨by omega, by omega⟩ ⟨by omega, by omega⟩]; exact q), if_neg q]
theorem M_r39 {r z k : Nat} {bs : List Nat} {h : Hp} (hr : r < 10) (H : isE h r bs) : ∀ (m n : Nat), k + m ≤ bs.length → m < n → f_M_read_39 n (iI (z : Int)) (iI ((200 * r + k : Nat) : Int)) (iI ((200 * r + (k + m) : Nat) : Int)) h = f_M_read_65 (iI (z : Int)) (iI ((200 * r + k : Nat) : Int)) (iI ((200 * r + trm bs k m : Nat) : Int)) h := by
  have hl := H.1
  intro m
  induction m with
  | zero =>
    intro n hk hn
    obtain ⟨n, rfl⟩ : ∃ q, n = q + 1 := ⟨n - 1, by omega⟩
    rw [f_M_read_39, if_pos (leN (by omega) (by omega) (by omega)), trm]
    rfl
  | succ m ih =>
    intro n hk hn
    obtain ⟨n, rfl⟩ : ∃ q, n = q + 1 := ⟨n - 1, by omega⟩
    have hrg := bAt_rg H.2.1 ((k + m : Nat) : Int)
    have em : iI ((200 * r + (k + (m + 1)) : Nat) : Int) - 1 = iI ((200 * r + (k + m) : Nat) : Int) := by rw [i1, iI_sub]; congr 1; omega
    have em2 : iI ((200 * r + (k + (m + 1)) : Nat) : Int) + (-1) = iI ((200 * r + (k + m) : Nat) : Int) := by rw [im1, iI_add]; congr 1; omega
    rw [f_M_read_39, if_neg (nleN (by omega) (by omega) (by omega)), em, chk_t (inB hr (by omega)), trm, em2]
    simp only [clB hr (show k + m < 2000 by omega), H.2.2 (k + m) (by omega)]
    by_cases q : bAt bs ((k + m : Nat) : Int) = 32
    · rw [if_pos (by rw [q]; rfl), if_pos q]
      exact ih n (by omega) (by omega)
    · rw [if_neg (by rw [show (32 : Int32) = iI 32 from rfl, iI_eq ⟨by omega, by omega⟩ ⟨by omega, by omega⟩]; exact q), if_neg q]
      rfl
theorem M_r120 {r z : Nat} {bs : List Nat} {h : Hp} {mi : Int32} (hr : r < 10) (H : isE h r bs) : ∀ (m k n : Nat), k + m = bs.length → m < n → f_M_read_120 n (iI (z : Int)) (iI ((200 * r + k : Nat) : Int)) (iI ((200 * r + bs.length : Nat) : Int)) mi h = f_M_read_152 fuel (iI (z : Int)) (iI ((200 * r + skp bs m k : Nat) : Int)) (iI ((200 * r + bs.length : Nat) : Int)) mi 0 0 0 h := by
  have hl := H.1
  intro m
  induction m with
  | zero =>
    intro k n hk hn
    obtain ⟨n, rfl⟩ : ∃ q, n = q + 1 := ⟨n - 1, by omega⟩
    rw [f_M_read_120, if_pos (leN (by omega) (by omega) (by omega)), skp]
  | succ m ih =>
    intro k n hk hn
    obtain ⟨n, rfl⟩ : ∃ q, n = q + 1 := ⟨n - 1, by omega⟩
    have hrg := bAt_rg H.2.1 (k : Int)
    rw [f_M_read_120, if_neg (nleN (by omega) (by omega) (by omega)), chk_t (inB hr (by omega)), skp]
    simp only [clB hr (show k < 2000 by omega), H.2.2 k (by omega)]
    by_cases q : bAt bs (k : Int) = 32
    · rw [if_pos (by rw [q]; rfl), if_pos q, scN]
      exact ih (k + 1) n (by omega) (by omega)
    · rw [if_neg (by rw [show (32 : Int32) = iI 32 from rfl, iI_eq ⟨by omega, by omega⟩ ⟨by omega, by omega⟩]; exact q), if_neg q]
/-- n digits that stand in the row, and the number that they make -/
def isF (h : Hp) (z n c : Nat) : Prop := ∃ f : Nat → Nat, (∀ k, k < n → f k < 10) ∧ (∀ k, k < n → h 50 (2600 * z + k) = iI (f k : Int)) ∧ dv f n = c
theorem isE_km {h h' : Hp} {r z : Nat} {bs : List Nat} (H : isE h r bs) (k : km h h' z) : isE h' r bs := ⟨H.1, H.2.1, fun q hq => by rw [k.1 48 (by omega) (by omega) (by omega) (by omega)]; exact H.2.2 q hq⟩
theorem M_r152 {r z : Nat} {bs : List Nat} {mi : Int32} (hr : r < 10) (hz : z < 5) : ∀ (m k n : Nat) (h : Hp) (c nn pl pt : Nat), isE h r bs → k + m = bs.length → m < n → isF h z nn c → nn ≤ k → pt ≤ 1 → ∃ h', f_M_read_152 n (iI (z : Int)) (iI ((200 * r + k : Nat) : Int)) (iI ((200 * r + bs.length : Nat) : Int)) mi (iI (nn : Int)) (iI (pl : Int)) (iI (pt : Int)) h = f_M_read_249 (iI (z : Int)) (iI ((200 * r + (rdD (fun k => bAt bs (k : Int)) m k c nn pl pt).1 : Nat) : Int)) (iI ((200 * r + bs.length : Nat) : Int)) mi (iI ((rdD (fun k => bAt bs (k : Int)) m k c nn pl pt).2.2.1 : Int)) (iI ((rdD (fun k => bAt bs (k : Int)) m k c nn pl pt).2.2.2 : Int)) h' ∧ isF h' z (rdD (fun k => bAt bs (k : Int)) m k c nn pl pt).2.2.1 (rdD (fun k => bAt bs (k : Int)) m k c nn pl pt).2.1 ∧ (rdD (fun k => bAt bs (k : Int)) m k c nn pl pt).2.2.1 ≤ 200 ∧ km h h' z := by
  intro m
  induction m with
  | zero =>
    intro k n h c nn pl pt H hk hn F hnn hpt
    have hl := H.1
    obtain ⟨n, rfl⟩ : ∃ q, n = q + 1 := ⟨n - 1, by omega⟩
    rw [f_M_read_152, if_pos (leN (by omega) (by omega) (by omega)), rdD]
    exact ⟨h, rfl, F, by show nn ≤ 200; omega, km_r _ _⟩
  | succ m ih =>
    intro k n h c nn pl pt H hk hn F hnn hpt
    have hl := H.1
    obtain ⟨n, rfl⟩ : ∃ q, n = q + 1 := ⟨n - 1, by omega⟩
    have hrg := bAt_rg H.2.1 (k : Int)
    have hb := H.2.2 k (by omega)
    have hcl := clB hr (show k < 2000 by omega)
    rw [f_M_read_152, if_neg (nleN (by omega) (by omega) (by omega)), chk_t (inB hr (by omega)), rdD]
    simp only [hcl, hb]
    rw [bd_t (M_isDigit ⟨by omega, by omega⟩)]
    by_cases q : isC (bAt bs (k : Int))
    · rw [if_pos q, if_neg (by decide), if_pos q]
      unfold f_M_read_186
      rw [chk_t (inB hr (by omega))]
      simp only [hcl, hb]
      rw [if_neg (by rw [show (46 : Int32) = iI 46 from rfl, iI_eq ⟨by omega, by omega⟩ ⟨by omega, by omega⟩]; omega), chk_t (inB hr (by omega)), ixN, chk_t (ixR hz (by omega)), clN (by omega), scN, scN]
      have ed : iI (bAt bs (k : Int)) - 48 = iI (((bAt bs (k : Int) - 48).toNat : Nat) : Int) := by rw [show (48 : Int32) = iI 48 from rfl, iI_sub]; congr 1; omega
      obtain ⟨f, f1, f2, f3⟩ := F
      have F1 : isF (up2 h 50 (2600 * z + nn) (iI (((bAt bs (k : Int) - 48).toNat : Nat) : Int))) z (nn + 1) (10 * c + (bAt bs (k : Int) - 48).toNat) := by
        refine ⟨fun j => if j = nn then (bAt bs (k : Int) - 48).toNat else f j, fun j hj => ?_, fun j hj => ?_, ?_⟩
        · show (if j = nn then _ else f j) < 10
          split
          · omega
          · exact f1 j (by omega)
        · by_cases y : j = nn
          · rw [y, up2_s]
            show _ = iI (((if nn = nn then _ else f nn : Nat)) : Int)
            rw [if_pos rfl]
          · rw [up2_k _ _ _ (by omega), f2 j (by omega)]
            show _ = iI (((if j = nn then _ else f j : Nat)) : Int)
            rw [if_neg y]
        · rw [dv_s]
          show _ + (if nn = nn then _ else f nn) = _
          rw [if_pos rfl, dv_congr (d' := f) (fun j hj => by show (if j = nn then _ else f j) = _; rw [if_neg (by omega)]), f3, Nat.mul_comm]
      rw [ed]
      have k1 := km_50 h z nn (iI (((bAt bs (k : Int) - 48).toNat : Nat) : Int)) (by omega)
      obtain ⟨h', e', a', b', c'⟩ := ih (k + 1) n _ (10 * c + (bAt bs (k : Int) - 48).toNat) (nn + 1) (pl + pt) pt (isE_km H k1) (by omega) (by omega) F1 (by omega) hpt
      refine ⟨h', ?_, a', b', km_t k1 c'⟩
      rw [← e']
      have ep : iI (pl : Int) + iI (pt : Int) = iI ((pl + pt : Nat) : Int) := by rw [iI_add]; rfl
      rw [← ep]
      rcases Nat.lt_or_ge pt 1 with p | p
      · have : pt = 0 := by omega
        subst this
        rw [if_pos (by rfl)]
        rfl
      · have : pt = 1 := by omega
        subst this
        rw [if_neg (by decide)]
        rfl
    · rw [if_neg q, if_pos (by rfl), if_neg q, chk_t (inB hr (by omega))]
      simp only [hcl, hb]
      by_cases q2 : bAt bs (k : Int) = 46
      · rw [if_pos (by rw [q2]; rfl)]
        by_cases q3 : pt = 0
        · rw [if_pos (by rw [q3]; rfl), if_pos (show bAt bs (k : Int) = 46 ∧ pt = 0 from ⟨q2, q3⟩)]
          unfold f_M_read_186
          rw [chk_t (inB hr (by omega))]
          simp only [hcl, hb]
          rw [if_pos (by rw [q2]; rfl), scN]
          exact ih (k + 1) n h c nn pl 1 H (by omega) (by omega) F (by omega) (by omega)
        · rw [if_neg (by rw [i0, iI_eq ⟨by omega, by omega⟩ ⟨by omega, by omega⟩]; omega), if_neg (show ¬ (bAt bs (k : Int) = 46 ∧ pt = 0) from fun y => q3 y.2)]
          exact ⟨h, rfl, F, by show nn ≤ 200; omega, km_r _ _⟩
      · rw [if_neg (by rw [show (46 : Int32) = iI 46 from rfl, iI_eq ⟨by omega, by omega⟩ ⟨by omega, by omega⟩]; exact q2), if_neg (show ¬ (bAt bs (k : Int) = 46 ∧ pt = 0) from fun y => q2 y.1)]
        exact ⟨h, rfl, F, by show nn ≤ 200; omega, km_r _ _⟩
theorem M_r440 {z nn c a b : Nat} {h : Hp} {s ee pl : Int} (hz : z < 5) (hn : 0 < nn) (hn2 : nn ≤ 200) (ha : a < 1000000) (hb : b < 1000000) (F : isF h z nn c) : ∃ h', f_M_read_440 (iI (z : Int)) (iI (a : Int)) (iI (b : Int)) (iI (nn : Int)) (iI pl) (iI ee) (iI (z : Int)) (iI s) h = some (iI (if a = b then 1 else 0), h') ∧ isM h' z (nrm s c (ee - pl)).1 (nrm s c (ee - pl)).2.1 (nrm s c (ee - pl)).2.2 ∧ km h h' z := by
  obtain ⟨f, f1, f2, f3⟩ := F
  unfold f_M_read_440
  rw [chk_t (inz hz), chk_t (inz hz), chk_t (inz hz), clz hz, iI_sub]
  have k1 : km h (up2 (up2 (up2 h 53 z (iI s)) 51 z (iI (nn : Int))) 52 z (iI (ee - pl))) z := km_t (km_t (km_53 _ _ _) (km_51 _ _ _)) (km_52 _ _ _)
  obtain ⟨h', e', M', K'⟩ := M_settle (h := up2 (up2 (up2 h 53 z (iI s)) 51 z (iI (nn : Int))) 52 z (iI (ee - pl))) (f := f) (s := s) (e := ee - pl) hz hn ⟨by rw [up2_o _ _ _ _ (by omega), up2_s], by omega, f1, fun k hk => by rw [up2_o _ _ _ _ (by omega), up2_o _ _ _ _ (by omega), up2_o _ _ _ _ (by omega)]; exact f2 k hk⟩ (up2_s _ _ _ _) (by rw [up2_o _ _ _ _ (by omega), up2_o _ _ _ _ (by omega), up2_s])
  rw [bd_t e']
  have M2 : isM h' z (nrm s c (ee - pl)).1 (nrm s c (ee - pl)).2.1 (nrm s c (ee - pl)).2.2 := by
    rw [f3] at M'
    unfold nrm
    by_cases c0 : c = 0
    · rw [if_pos c0, if_pos c0] at M'
      rw [if_pos c0]
      rw [c0] at M'
      exact M'
    · rw [if_neg c0, if_neg c0] at M'
      rw [if_neg c0]
      exact M'
  by_cases q : a = b
  · rw [if_pos (by rw [q]), if_pos q]
    exact ⟨h', rfl, M2, km_t k1 K'⟩
  · rw [if_neg (by rw [iI_eq ⟨by omega, by omega⟩ ⟨by omega, by omega⟩]; omega), if_neg q]
    exact ⟨h', rfl, M2, km_t k1 K'⟩
theorem M_r353 {r z k0 : Nat} {bs : List Nat} {h : Hp} {mi dn v6 v7 : Int32} (hr : r < 10) (H : isE h r bs) : ∀ (m k n v : Nat), k = k0 + (3 - m) → m ≤ 3 → k ≤ bs.length → m < n → f_M_read_353 n (iI (z : Int)) (iI ((200 * r + k : Nat) : Int)) (iI ((200 * r + bs.length : Nat) : Int)) mi v6 v7 (iI (v : Int)) dn (iI ((200 * r + k0 : Nat) : Int)) h = f_M_read_402 (iI (z : Int)) (iI ((200 * r + (rdE (fun k => bAt bs (k : Int)) m k v).1 : Nat) : Int)) (iI ((200 * r + bs.length : Nat) : Int)) mi v6 v7 (iI ((rdE (fun k => bAt bs (k : Int)) m k v).2 : Int)) dn (iI ((200 * r + k0 : Nat) : Int)) h := by
  have hl := H.1
  intro m
  induction m with
  | zero =>
    intro k n v hk hm hkl hn
    obtain ⟨n, rfl⟩ : ∃ q, n = q + 1 := ⟨n - 1, by omega⟩
    rw [f_M_read_353, rdE]
    rcases Nat.lt_or_ge k bs.length with q | q
    · have hrg := bAt_rg H.2.1 (k : Int)
      rw [if_neg (nleN (by omega) (by omega) (by omega)), chk_t (inB hr (by omega))]
      simp only [clB hr (show k < 2000 by omega), H.2.2 k q]
      rw [bd_t (M_isDigit ⟨by omega, by omega⟩)]
      have e3 : (3 : Int32) ≤ iI ((200 * r + k : Nat) : Int) - iI ((200 * r + k0 : Nat) : Int) := by
        rw [iI_sub, show (3 : Int32) = iI 3 from rfl, iI_le ⟨by omega, by omega⟩ ⟨by omega, by omega⟩]; omega
      rw [if_pos e3]
      split <;> rfl
    · rw [if_pos (leN (by omega) (by omega) (by omega))]
  | succ m ih =>
    intro k n v hk hm hkl hn
    obtain ⟨n, rfl⟩ : ∃ q, n = q + 1 := ⟨n - 1, by omega⟩
    rw [f_M_read_353, rdE]
    rcases Nat.lt_or_ge k bs.length with q | q
    · have hrg := bAt_rg H.2.1 (k : Int)
      rw [if_neg (nleN (by omega) (by omega) (by omega)), chk_t (inB hr (by omega))]
      simp only [clB hr (show k < 2000 by omega), H.2.2 k q]
      rw [bd_t (M_isDigit ⟨by omega, by omega⟩)]
      by_cases d : isC (bAt bs (k : Int))
      · have e3 : ¬ (3 : Int32) ≤ iI ((200 * r + k : Nat) : Int) - iI ((200 * r + k0 : Nat) : Int) := by
          rw [iI_sub, show (3 : Int32) = iI 3 from rfl, iI_le ⟨by omega, by omega⟩ ⟨by omega, by omega⟩]; omega
        rw [if_pos d, if_neg (by decide), if_neg e3, if_pos d, chk_t (inB hr (by omega)), H.2.2 k q, scN]
        have ed : 10 * iI (v : Int) + iI (bAt bs (k : Int)) - 48 = iI ((10 * v + (bAt bs (k : Int) - 48).toNat : Nat) : Int) := by rw [show (48 : Int32) = iI 48 from rfl, show (10 : Int32) = iI 10 from rfl, iI_mul, iI_add, iI_sub]; congr 1; omega
        rw [ed]
        exact ih (k + 1) n _ (by omega) (by omega) (by omega) (by omega)
      · rw [if_neg d, if_pos (by rfl), if_neg d]
    · have := bAt_out q
      rw [if_pos (leN (by omega) (by omega) (by omega)), if_neg (by omega)]
theorem M_r249 {r z nn c pl k : Nat} {bs : List Nat} {h : Hp} {mi : Nat} (hr : r < 10) (hz : z < 5) (hmi : mi ≤ 1) (H : isE h r bs) (hk : k ≤ bs.length) (hn2 : nn ≤ 200) (F : isF h z nn c) : ∃ h', f_M_read_249 (iI (z : Int)) (iI ((200 * r + k : Nat) : Int)) (iI ((200 * r + bs.length : Nat) : Int)) (iI (mi : Int)) (iI (nn : Int)) (iI (pl : Int)) h = some (iI (if nn = 0 then 0 else match rdX (fun k => bAt bs (k : Int)) k c pl with | none => 0 | some t => if t.1 = bs.length then 1 else 0), h') ∧ km h h' z ∧ ∀ t, nn ≠ 0 → rdX (fun k => bAt bs (k : Int)) k c pl = some t → isM h' z (nrm (if mi = 0 then 1 else -1) t.2.1 t.2.2).1 (nrm (if mi = 0 then 1 else -1) t.2.1 t.2.2).2.1 (nrm (if mi = 0 then 1 else -1) t.2.1 t.2.2).2.2 := by
  have hl := H.1
  unfold f_M_read_249
  by_cases n0 : nn = 0
  · rw [if_pos (by rw [n0]; rfl), if_pos n0]
    exact ⟨h, rfl, km_r _ _, fun t a => absurd n0 a⟩
  · rw [if_neg (by rw [i0, iI_eq ⟨by omega, by omega⟩ ⟨by omega, by omega⟩]; omega), if_neg n0]
    have sg : ∀ (a : Nat) (ee : Int), a < 1000000 → ∃ h', (if iI (mi : Int) = 0 then f_M_read_440 (iI (z : Int)) (iI (a : Int)) (iI ((200 * r + bs.length : Nat) : Int)) (iI (nn : Int)) (iI (pl : Int)) (iI ee) (iI (z : Int)) 1 h else f_M_read_440 (iI (z : Int)) (iI (a : Int)) (iI ((200 * r + bs.length : Nat) : Int)) (iI (nn : Int)) (iI (pl : Int)) (iI ee) (iI (z : Int)) (-1) h) = some (iI (if a = 200 * r + bs.length then 1 else 0), h') ∧ isM h' z (nrm (if mi = 0 then 1 else -1) c (ee - pl)).1 (nrm (if mi = 0 then 1 else -1) c (ee - pl)).2.1 (nrm (if mi = 0 then 1 else -1) c (ee - pl)).2.2 ∧ km h h' z := by
      intro a ee ha
      by_cases m0 : mi = 0
      · rw [if_pos (by rw [m0]; rfl), if_pos m0, i1]
        exact M_r440 hz (by omega) hn2 ha (by omega) F
      · rw [if_neg (by rw [i0, iI_eq ⟨by omega, by omega⟩ ⟨by omega, by omega⟩]; omega), if_neg m0, im1]
        exact M_r440 hz (by omega) hn2 ha (by omega) F
    have plain : ¬ (bAt bs (k : Int) = 69 ∨ bAt bs (k : Int) = 101) → ∃ h', (if iI (mi : Int) = 0 then f_M_read_440 (iI (z : Int)) (iI ((200 * r + k : Nat) : Int)) (iI ((200 * r + bs.length : Nat) : Int)) (iI (nn : Int)) (iI (pl : Int)) 0 (iI (z : Int)) 1 h else f_M_read_440 (iI (z : Int)) (iI ((200 * r + k : Nat) : Int)) (iI ((200 * r + bs.length : Nat) : Int)) (iI (nn : Int)) (iI (pl : Int)) 0 (iI (z : Int)) (-1) h) = some (iI (match rdX (fun k => bAt bs (k : Int)) k c pl with | none => 0 | some t => if t.1 = bs.length then 1 else 0), h') ∧ km h h' z ∧ ∀ t, nn ≠ 0 → rdX (fun k => bAt bs (k : Int)) k c pl = some t → isM h' z (nrm (if mi = 0 then 1 else -1) t.2.1 t.2.2).1 (nrm (if mi = 0 then 1 else -1) t.2.1 t.2.2).2.1 (nrm (if mi = 0 then 1 else -1) t.2.1 t.2.2).2.2 := by
      intro nb
      obtain ⟨h', e', M', K'⟩ := sg (200 * r + k) 0 (by omega)
      rw [rdX_n _ _ _ _ nb]
      refine ⟨h', e'.trans ?_, K', fun t _ ht => ?_⟩
      · show _ = some (iI (if k = bs.length then 1 else 0), h')
        congr 3
        exact ifq (by omega) _ _
      · have ht := (Option.some.inj ht).symm
        subst ht
        rw [Int.zero_sub] at M'
        exact M'
    rcases Nat.lt_or_ge k bs.length with q | q
    · have hrg := bAt_rg H.2.1 (k : Int)
      have hb := H.2.2 k q
      have hcl := clB hr (show k < 2000 by omega)
      rw [if_neg (nleN (by omega) (by omega) (by omega)), chk_t (inB hr (by omega)), chk_t (inB hr (by omega))]
      simp only [hcl, hb]
      by_cases nb : bAt bs (k : Int) = 69 ∨ bAt bs (k : Int) = 101
      · have e287 : ∀ x : Option (Int32 × Hp), (if iI (bAt bs (k : Int)) = 69 then f_M_read_287 (iI (z : Int)) (iI ((200 * r + k : Nat) : Int)) (iI ((200 * r + bs.length : Nat) : Int)) (iI (mi : Int)) (iI (nn : Int)) (iI (pl : Int)) 0 h else if iI (bAt bs (k : Int)) = 101 then f_M_read_287 (iI (z : Int)) (iI ((200 * r + k : Nat) : Int)) (iI ((200 * r + bs.length : Nat) : Int)) (iI (mi : Int)) (iI (nn : Int)) (iI (pl : Int)) 0 h else x) = f_M_read_287 (iI (z : Int)) (iI ((200 * r + k : Nat) : Int)) (iI ((200 * r + bs.length : Nat) : Int)) (iI (mi : Int)) (iI (nn : Int)) (iI (pl : Int)) 0 h := fun x => by
          rcases nb with y | y
          · rw [if_pos (by rw [y]; rfl)]
          · rw [if_neg (by rw [y]; decide), if_pos (by rw [y]; rfl)]
        rw [e287]
        unfold f_M_read_287
        rw [scN]
        have hrg1 := bAt_rg H.2.1 ((k + 1 : Nat) : Int)
        have ea : 200 * r + k + 1 = 200 * r + (k + 1) := by omega
        rw [ea]
        have fin : ∀ k2 : Nat, k2 ≤ bs.length → k2 = (if bAt bs ((k + 1 : Nat) : Int) = 43 ∨ bAt bs ((k + 1 : Nat) : Int) = 45 then k + 1 + 1 else k + 1) → ∀ dn : Nat, dn ≤ 1 → (dn = 1 ↔ bAt bs ((k + 1 : Nat) : Int) = 45) → ∃ h', f_M_read_353 fuel (iI (z : Int)) (iI ((200 * r + k2 : Nat) : Int)) (iI ((200 * r + bs.length : Nat) : Int)) (iI (mi : Int)) (iI (nn : Int)) (iI (pl : Int)) 0 (iI (dn : Int)) (iI ((200 * r + k2 : Nat) : Int)) h = some (iI (match rdX (fun k => bAt bs (k : Int)) k c pl with | none => 0 | some t => if t.1 = bs.length then 1 else 0), h') ∧ km h h' z ∧ ∀ t, nn ≠ 0 → rdX (fun k => bAt bs (k : Int)) k c pl = some t → isM h' z (nrm (if mi = 0 then 1 else -1) t.2.1 t.2.2).1 (nrm (if mi = 0 then 1 else -1) t.2.1 t.2.2).2.1 (nrm (if mi = 0 then 1 else -1) t.2.1 t.2.2).2.2 := by
          intro k2 hk2 e2 dn hdn hd
          have L := M_r353 (z := z) (k0 := k2) (mi := iI (mi : Int)) (dn := iI (dn : Int)) (v6 := iI (nn : Int)) (v7 := iI (pl : Int)) hr H 3 k2 fuel 0 (by omega) (by omega) hk2 (by unfold fuel; omega)
          have hkk := rdE_k (fun k => bAt bs (k : Int)) 3 k2 0
          have hkl := rdE_len bs 3 k2 0 hk2
          unfold rdX
          simp only [if_pos nb]
          rw [← e2]
          have L2 := L
          rw [show iI ((0 : Nat) : Int) = (0 : Int32) from rfl] at L2
          rw [L2]
          unfold f_M_read_402
          by_cases y : (rdE (fun k => bAt bs (k : Int)) 3 k2 0).1 = k2
          · rw [if_pos (by rw [y]), if_pos y]
            exact ⟨h, rfl, km_r _ _, fun t _ ht => by cases ht⟩
          · rw [if_neg (by rw [iI_eq ⟨by omega, by omega⟩ ⟨by omega, by omega⟩]; omega), if_neg y]
            unfold f_M_read_423
            have both : ∀ ee : Int, ee = (if bAt bs ((k + 1 : Nat) : Int) = 45 then -((rdE (fun k => bAt bs (k : Int)) 3 k2 0).2 : Int) else ((rdE (fun k => bAt bs (k : Int)) 3 k2 0).2 : Int)) → ∃ h', (if iI (mi : Int) = 0 then f_M_read_440 (iI (z : Int)) (iI ((200 * r + (rdE (fun k => bAt bs (k : Int)) 3 k2 0).1 : Nat) : Int)) (iI ((200 * r + bs.length : Nat) : Int)) (iI (nn : Int)) (iI (pl : Int)) (iI ee) (iI (z : Int)) 1 h else f_M_read_440 (iI (z : Int)) (iI ((200 * r + (rdE (fun k => bAt bs (k : Int)) 3 k2 0).1 : Nat) : Int)) (iI ((200 * r + bs.length : Nat) : Int)) (iI (nn : Int)) (iI (pl : Int)) (iI ee) (iI (z : Int)) (-1) h) = some (iI (if (rdE (fun k => bAt bs (k : Int)) 3 k2 0).1 = bs.length then 1 else 0), h') ∧ km h h' z ∧ ∀ t : Nat × Nat × Int, nn ≠ 0 → some ((rdE (fun k => bAt bs (k : Int)) 3 k2 0).1, c, (if bAt bs ((k + 1 : Nat) : Int) = 45 then -((rdE (fun k => bAt bs (k : Int)) 3 k2 0).2 : Int) else ((rdE (fun k => bAt bs (k : Int)) 3 k2 0).2 : Int)) - (pl : Int)) = some t → isM h' z (nrm (if mi = 0 then 1 else -1) t.2.1 t.2.2).1 (nrm (if mi = 0 then 1 else -1) t.2.1 t.2.2).2.1 (nrm (if mi = 0 then 1 else -1) t.2.1 t.2.2).2.2 := by
              intro ee hee
              obtain ⟨h', e', M', K'⟩ := sg (200 * r + (rdE (fun k => bAt bs (k : Int)) 3 k2 0).1) ee (by omega)
              refine ⟨h', e'.trans ?_, K', fun t _ ht => ?_⟩
              · congr 3
                exact ifq (by omega) _ _
              · have ht := (Option.some.inj ht).symm
                subst ht
                rw [← hee]
                exact M'
            by_cases d0 : dn = 0
            · rw [if_pos (by rw [d0]; rfl)]
              exact both _ (by rw [if_neg (by omega)])
            · rw [if_neg (by rw [i0, iI_eq ⟨by omega, by omega⟩ ⟨by omega, by omega⟩]; omega), iI_neg]
              exact both _ (by rw [if_pos (by omega)])
        have all : ∀ dn : Nat, dn ≤ 1 → (dn = 1 ↔ bAt bs ((k + 1 : Nat) : Int) = 45) → ∃ h', f_M_read_312 (iI (z : Int)) (iI ((200 * r + (k + 1) : Nat) : Int)) (iI ((200 * r + bs.length : Nat) : Int)) (iI (mi : Int)) (iI (nn : Int)) (iI (pl : Int)) 0 (iI (dn : Int)) h = some (iI (match rdX (fun k => bAt bs (k : Int)) k c pl with | none => 0 | some t => if t.1 = bs.length then 1 else 0), h') ∧ km h h' z ∧ ∀ t, nn ≠ 0 → rdX (fun k => bAt bs (k : Int)) k c pl = some t → isM h' z (nrm (if mi = 0 then 1 else -1) t.2.1 t.2.2).1 (nrm (if mi = 0 then 1 else -1) t.2.1 t.2.2).2.1 (nrm (if mi = 0 then 1 else -1) t.2.1 t.2.2).2.2 := by
          intro dn hdn hd
          unfold f_M_read_312
          have ez : iI ((200 * r + (k + 1) : Nat) : Int) + 0 = iI ((200 * r + (k + 1) : Nat) : Int) := by rw [i0, iI_add]; congr 1
          have ep : iI ((200 * r + (k + 1) : Nat) : Int) + 1 = iI ((200 * r + (k + 1 + 1) : Nat) : Int) := by rw [i1, iI_add]; congr 1
          rw [ez, ep]
          rcases Nat.lt_or_ge (k + 1) bs.length with q1 | q1
          · rw [if_neg (nleN (by omega) (by omega) (by omega)), chk_t (inB hr (by omega)), chk_t (inB hr (by omega))]
            simp only [clB hr (show k + 1 < 2000 by omega), H.2.2 (k + 1) q1]
            by_cases y : bAt bs ((k + 1 : Nat) : Int) = 43
            · rw [if_pos (by rw [y]; rfl)]
              exact fin _ (by omega) (by rw [if_pos (Or.inl y)]) dn hdn hd
            · rw [if_neg (by rw [show (43 : Int32) = iI 43 from rfl, iI_eq ⟨by omega, by omega⟩ ⟨by omega, by omega⟩]; exact y)]
              by_cases y2 : bAt bs ((k + 1 : Nat) : Int) = 45
              · rw [if_pos (by rw [y2]; rfl)]
                exact fin _ (by omega) (by rw [if_pos (Or.inr y2)]) dn hdn hd
              · rw [if_neg (by rw [show (45 : Int32) = iI 45 from rfl, iI_eq ⟨by omega, by omega⟩ ⟨by omega, by omega⟩]; exact y2)]
                exact fin _ (by omega) (by rw [if_neg (by omega)]) dn hdn hd
          · have := bAt_out q1
            rw [if_pos (leN (by omega) (by omega) (by omega))]
            exact fin _ (by omega) (by rw [if_neg (by omega)]) dn hdn hd
        rcases Nat.lt_or_ge (k + 1) bs.length with q1 | q1
        · rw [if_neg (nleN (by omega) (by omega) (by omega)), chk_t (inB hr (by omega))]
          simp only [clB hr (show k + 1 < 2000 by omega), H.2.2 (k + 1) q1]
          by_cases y2 : bAt bs ((k + 1 : Nat) : Int) = 45
          · rw [if_pos (by rw [y2]; rfl)]
            exact all 1 (by omega) ⟨fun _ => y2, fun _ => rfl⟩
          · rw [if_neg (by rw [show (45 : Int32) = iI 45 from rfl, iI_eq ⟨by omega, by omega⟩ ⟨by omega, by omega⟩]; exact y2)]
            exact all 0 (by omega) ⟨fun a => by omega, fun a => absurd a y2⟩
        · have := bAt_out q1
          rw [if_pos (leN (by omega) (by omega) (by omega))]
          exact all 0 (by omega) ⟨fun a => by omega, fun a => by omega⟩
      · rw [if_neg (by rw [show (69 : Int32) = iI 69 from rfl, iI_eq ⟨by omega, by omega⟩ ⟨by omega, by omega⟩]; omega), if_neg (by rw [show (101 : Int32) = iI 101 from rfl, iI_eq ⟨by omega, by omega⟩ ⟨by omega, by omega⟩]; omega)]
        exact plain nb
    · have := bAt_out q
      rw [if_pos (leN (by omega) (by omega) (by omega))]
      exact plain (by omega)
theorem M_read {r z : Nat} {bs : List Nat} {h : Hp} (hr : r < 10) (hz : z < 5) (R : isR h r bs) (ok : okB bs 200) : ∃ h', f_M_read (iI (r : Int)) (iI (z : Int)) h = some (iI (if rdN bs = none then 0 else 1), h') ∧ km h h' z ∧ ∀ t, rdN bs = some t → isM h' z t.1 t.2.1 t.2.2 := by
  have H := isE_of R ok
  have hl := H.1
  have hK := rdK_le bs
  have hEn := rdEnd_le bs
  have hEl : (bs.take (rdEnd bs)).length = rdEnd bs := by rw [List.length_take]; omega
  have H' := isE_tk (E := rdEnd bs) H
  unfold f_M_read
  have e0 : (200 : Int32) * iI (r : Int) = iI ((200 * r + 0 : Nat) : Int) := by rw [show (200 : Int32) = iI 200 from rfl, iI_mul]; rfl
  have e1 : iI ((200 * r + 0 : Nat) : Int) + iI (bs.length : Int) = iI ((200 * r + bs.length : Nat) : Int) := by rw [iI_add]; congr 1
  rw [chk_t (iI_inR (by omega) (by omega) (by omega)), e0, clN (by omega), R.1, e1, M_r16 hr H bs.length 0 fuel (by omega) (by unfold fuel; omega)]
  have e39 := M_r39 (z := z) (k := rdK bs) hr H (bs.length - rdK bs) fuel (by omega) (by unfold fuel; omega)
  rw [show rdK bs + (bs.length - rdK bs) = bs.length by omega] at e39
  refine (show ∃ h', f_M_read_39 fuel (iI (z : Int)) (iI ((200 * r + rdK bs : Nat) : Int)) (iI ((200 * r + bs.length : Nat) : Int)) h = _ ∧ _ from ?_)
  rw [e39, show trm bs (rdK bs) (bs.length - rdK bs) = rdEnd bs from rfl, ← rdM_eq bs]
  have fin : ∀ (k2 mi : Nat), k2 ≤ rdEnd bs → rdM2 bs = k2 → mi ≤ 1 → (mi = 1 ↔ bAt (bs.take (rdEnd bs)) (rdK bs : Int) = 45) → ∃ h', f_M_read_152 fuel (iI (z : Int)) (iI ((200 * r + k2 : Nat) : Int)) (iI ((200 * r + rdEnd bs : Nat) : Int)) (iI (mi : Int)) 0 0 0 h = some (iI (if rdM bs = none then 0 else 1), h') ∧ km h h' z ∧ ∀ t, rdM bs = some t → isM h' z t.1 t.2.1 t.2.2 := by
    intro k2 mi hk2 ek hmi hm
    obtain ⟨h1, e1, F1, n1, K1⟩ := M_r152 (bs := bs.take (rdEnd bs)) (mi := iI (mi : Int)) hr hz (rdEnd bs - k2) k2 fuel h 0 0 0 0 H' (by omega) (by unfold fuel; omega) ⟨fun _ => 0, fun k hk => by omega, fun k hk => by omega, rfl⟩ (by omega) (by omega)
    rw [hEl] at e1
    have hD := rdD_k (fun k => bAt (bs.take (rdEnd bs)) (k : Int)) (rdEnd bs - k2) k2 0 0 0 0
    obtain ⟨h2, e2, K2, R2⟩ := M_r249 (bs := bs.take (rdEnd bs)) (mi := mi) (k := (rdD (fun k => bAt (bs.take (rdEnd bs)) (k : Int)) (rdEnd bs - k2) k2 0 0 0 0).1) (pl := (rdD (fun k => bAt (bs.take (rdEnd bs)) (k : Int)) (rdEnd bs - k2) k2 0 0 0 0).2.2.2) hr hz hmi (isE_km H' K1) (by rw [hEl]; omega) n1 F1
    rw [hEl] at e2
    have es : (if mi = 0 then (1 : Int) else -1) = (if bAt (bs.take (rdEnd bs)) (rdK bs : Int) = 45 then -1 else 1) := by
      by_cases y : mi = 0
      · rw [if_pos y, if_neg (by omega)]
      · rw [if_neg y, if_pos (by omega)]
    rw [es] at R2
    refine ⟨h2, (e1.trans e2).trans ?_, km_t K1 K2, ?_⟩
    · congr 3
      unfold rdM rdT
      rw [ek]
      by_cases n0 : (rdD (fun k => bAt (bs.take (rdEnd bs)) (k : Int)) (rdEnd bs - k2) k2 0 0 0 0).2.2.1 = 0
      · rw [if_pos n0, if_pos n0]
        rfl
      · rw [if_neg n0, if_neg n0]
        cases hx : rdX (fun k => bAt (bs.take (rdEnd bs)) (k : Int)) (rdD (fun k => bAt (bs.take (rdEnd bs)) (k : Int)) (rdEnd bs - k2) k2 0 0 0 0).1 (rdD (fun k => bAt (bs.take (rdEnd bs)) (k : Int)) (rdEnd bs - k2) k2 0 0 0 0).2.1 (rdD (fun k => bAt (bs.take (rdEnd bs)) (k : Int)) (rdEnd bs - k2) k2 0 0 0 0).2.2.2 with
        | none => rfl
        | some t =>
          show (if t.1 = rdEnd bs then (1 : Int) else 0) = (if (if t.1 = rdEnd bs then _ else none) = none then 0 else 1)
          by_cases y : t.1 = rdEnd bs
          · rw [if_pos y, if_pos y, if_neg (by simp)]
          · rw [if_neg y, if_neg y, if_pos rfl]
    · intro t ht
      unfold rdM rdT at ht
      rw [ek] at ht
      by_cases n0 : (rdD (fun k => bAt (bs.take (rdEnd bs)) (k : Int)) (rdEnd bs - k2) k2 0 0 0 0).2.2.1 = 0
      · rw [if_pos n0] at ht
        cases ht
      · rw [if_neg n0] at ht
        cases hx : rdX (fun k => bAt (bs.take (rdEnd bs)) (k : Int)) (rdD (fun k => bAt (bs.take (rdEnd bs)) (k : Int)) (rdEnd bs - k2) k2 0 0 0 0).1 (rdD (fun k => bAt (bs.take (rdEnd bs)) (k : Int)) (rdEnd bs - k2) k2 0 0 0 0).2.1 (rdD (fun k => bAt (bs.take (rdEnd bs)) (k : Int)) (rdEnd bs - k2) k2 0 0 0 0).2.2.2 with
        | none => rw [hx] at ht; cases ht
        | some u =>
          have M := R2 u n0 hx
          rw [hx] at ht
          have ht2 : (if u.1 = rdEnd bs then some (nrm (if bAt (bs.take (rdEnd bs)) (rdK bs : Int) = 45 then -1 else 1) u.2.1 u.2.2) else none) = some t := ht
          by_cases y : u.1 = rdEnd bs
          · rw [if_pos y] at ht2
            have := (Option.some.inj ht2).symm
            subst this
            exact M
          · rw [if_neg y] at ht2; cases ht2
  have all : ∀ mi : Nat, mi ≤ 1 → (mi = 1 ↔ bAt (bs.take (rdEnd bs)) (rdK bs : Int) = 45) → ∃ h', f_M_read_87 (iI (z : Int)) (iI ((200 * r + rdK bs : Nat) : Int)) (iI ((200 * r + rdEnd bs : Nat) : Int)) (iI (mi : Int)) h = some (iI (if rdM bs = none then 0 else 1), h') ∧ km h h' z ∧ ∀ t, rdM bs = some t → isM h' z t.1 t.2.1 t.2.2 := by
    intro mi hmi hm
    unfold f_M_read_87
    rcases Nat.lt_or_ge (rdK bs) (rdEnd bs) with q | q
    · have hrg := bAt_rg H'.2.1 (rdK bs : Int)
      rw [if_neg (nleN (by omega) (by omega) (by omega)), chk_t (inB hr (by omega)), chk_t (inB hr (by omega))]
      simp only [clB hr (show rdK bs < 2000 by omega), H'.2.2 (rdK bs) (by omega)]
      have ea : iI ((200 * r + rdK bs : Nat) : Int) + 1 = iI ((200 * r + (rdK bs + 1) : Nat) : Int) := by rw [i1, iI_add]; congr 1
      have e120 := M_r120 (z := z) (mi := iI (mi : Int)) (bs := bs.take (rdEnd bs)) hr H' (rdEnd bs - (rdK bs + 1)) (rdK bs + 1) fuel (by omega) (by unfold fuel; omega)
      rw [hEl] at e120
      have hs := skp_le (bs.take (rdEnd bs)) (rdEnd bs - (rdK bs + 1)) (rdK bs + 1)
      rw [ea, e120]
      by_cases y : bAt (bs.take (rdEnd bs)) (rdK bs : Int) = 43
      · rw [if_pos (by rw [y]; rfl)]
        exact fin _ mi (by omega) (by unfold rdM2; rw [if_pos (Or.inl y)]) hmi hm
      · rw [if_neg (by rw [show (43 : Int32) = iI 43 from rfl, iI_eq ⟨by omega, by omega⟩ ⟨by omega, by omega⟩]; exact y)]
        by_cases y2 : bAt (bs.take (rdEnd bs)) (rdK bs : Int) = 45
        · rw [if_pos (by rw [y2]; rfl)]
          exact fin _ mi (by omega) (by unfold rdM2; rw [if_pos (Or.inr y2)]) hmi hm
        · rw [if_neg (by rw [show (45 : Int32) = iI 45 from rfl, iI_eq ⟨by omega, by omega⟩ ⟨by omega, by omega⟩]; exact y2)]
          exact fin _ mi (by omega) (by unfold rdM2; rw [if_neg (by omega)]) hmi hm
    · have := bAt_out (bs := bs.take (rdEnd bs)) (k := rdK bs) (by omega)
      rw [if_pos (leN (by omega) (by omega) (by omega))]
      exact fin _ mi (by omega) (by unfold rdM2; rw [if_neg (by omega)]) hmi hm
  unfold f_M_read_65
  rcases Nat.lt_or_ge (rdK bs) (rdEnd bs) with q | q
  · have hrg := bAt_rg H'.2.1 (rdK bs : Int)
    rw [if_neg (nleN (by omega) (by omega) (by omega)), chk_t (inB hr (by omega))]
    simp only [clB hr (show rdK bs < 2000 by omega), H'.2.2 (rdK bs) (by omega)]
    by_cases y2 : bAt (bs.take (rdEnd bs)) (rdK bs : Int) = 45
    · rw [if_pos (by rw [y2]; rfl)]
      exact all 1 (by omega) ⟨fun _ => y2, fun _ => rfl⟩
    · rw [if_neg (by rw [show (45 : Int32) = iI 45 from rfl, iI_eq ⟨by omega, by omega⟩ ⟨by omega, by omega⟩]; exact y2)]
      exact all 0 (by omega) ⟨fun a => by omega, fun a => absurd a y2⟩
  · have := bAt_out (bs := bs.take (rdEnd bs)) (k := rdK bs) (by omega)
    rw [if_pos (leN (by omega) (by omega) (by omega))]
    exact all 0 (by omega) ⟨fun a => by omega, fun a => by omega⟩
end
section
/-! PURE 11: what has been read stays within bounds; the reference's whole values -/
abbrev isS (s : Int) : Prop := s = 0 ∨ s = 1 ∨ s = -1
/-- a number as both sides keep it, with bounds -/
def okN (b n : Nat) (t : Int × Nat × Int) : Prop := isS t.1 ∧ (t.1 = 0 ↔ t.2.1 = 0) ∧ (t.2.1 = 0 → t.2.2 = 0) ∧ -(b : Int) ≤ t.2.2 ∧ t.2.2 ≤ b ∧ nd t.2.1 ≤ n
theorem rdD_c (b : Nat → Int) : ∀ m k c n pl pt, c < 10 ^ n → (rdD b m k c n pl pt).2.1 < 10 ^ (rdD b m k c n pl pt).2.2.1 ∧ (rdD b m k c n pl pt).2.2.1 ≤ n + m := by
  intro m
  induction m with
  | zero => intro k c n pl pt h; exact ⟨h, Nat.le_refl _⟩
  | succ m ih =>
    intro k c n pl pt h
    rw [rdD]
    by_cases q : isC (b k)
    · rw [if_pos q]
      have := ih (k + 1) (10 * c + (b k - 48).toNat) (n + 1) (pl + pt) pt (by rw [Nat.pow_succ]; omega)
      exact ⟨this.1, by omega⟩
    · rw [if_neg q]
      by_cases q2 : b k = 46 ∧ pt = 0
      · rw [if_pos q2]
        have := ih (k + 1) c n pl 1 h
        exact ⟨this.1, by omega⟩
      · rw [if_neg q2]
        exact ⟨h, by show n ≤ _; omega⟩
theorem rdX_ok {b : Nat → Int} {k c pl : Nat} {r : Nat × Nat × Int} (hr : rdX b k c pl = some r) : r.2.1 = c ∧ -1000 - (pl : Int) ≤ r.2.2 ∧ r.2.2 ≤ 1000 := by
  unfold rdX at hr
  by_cases q : b k = 69 ∨ b k = 101
  · rw [if_pos q] at hr
    by_cases z : (rdE b 3 (if b (k + 1) = 43 ∨ b (k + 1) = 45 then k + 1 + 1 else k + 1) 0).1 = (if b (k + 1) = 43 ∨ b (k + 1) = 45 then k + 1 + 1 else k + 1)
    · rw [if_pos z] at hr; cases hr
    · rw [if_neg z] at hr
      have := (Option.some.inj hr).symm
      subst this
      have h3 := (rdE_k b 3 (if b (k + 1) = 43 ∨ b (k + 1) = 45 then k + 1 + 1 else k + 1) 0).2.2
      refine ⟨rfl, ?_, ?_⟩
      · show _ ≤ (if b (k + 1) = 45 then _ else _) - (pl : Int)
        split <;> omega
      · show (if b (k + 1) = 45 then _ else _) - (pl : Int) ≤ _
        split <;> omega
  · rw [if_neg q] at hr
    have := (Option.some.inj hr).symm
    subst this
    exact ⟨rfl, by show _ ≤ -(pl : Int); omega, by show -(pl : Int) ≤ _; omega⟩
theorem rdN_ok {bs : List Nat} {t : Int × Nat × Int} (hl : bs.length ≤ 200) (ht : rdN bs = some t) : okN 1300 200 t := by
  unfold rdN at ht
  cases hx : rdT (fun k => bAt bs (k : Int)) (bs.length - rdK2 bs) (rdK2 bs) with
  | none => rw [hx] at ht; cases ht
  | some r =>
    rw [hx] at ht
    have ht2 : (if skp bs (bs.length - r.1) r.1 = bs.length then some (nrm (if bAt bs (rdK bs : Int) = 45 then -1 else 1) r.2.1 r.2.2) else none) = some t := ht
    by_cases z : skp bs (bs.length - r.1) r.1 = bs.length
    · rw [if_pos z] at ht2
      have := (Option.some.inj ht2).symm
      subst this
      unfold rdT at hx
      have hD := rdD_k (fun k => bAt bs (k : Int)) (bs.length - rdK2 bs) (rdK2 bs) 0 0 0 0
      have hC := rdD_c (fun k => bAt bs (k : Int)) (bs.length - rdK2 bs) (rdK2 bs) 0 0 0 0 (by decide)
      by_cases n0 : (rdD (fun k => bAt bs (k : Int)) (bs.length - rdK2 bs) (rdK2 bs) 0 0 0 0).2.2.1 = 0
      · rw [if_pos n0] at hx; cases hx
      · rw [if_neg n0] at hx
        have hX := rdX_ok hx
        have hp := hD.2.2.2.2 (by omega)
        unfold nrm
        by_cases c0 : r.2.1 = 0
        · rw [if_pos c0]
          exact ⟨Or.inl rfl, ⟨fun _ => rfl, fun _ => rfl⟩, fun _ => rfl, by show _ ≤ (0 : Int); omega, by show (0 : Int) ≤ _; omega, by show nd 0 ≤ _; rw [nd_0]; omega⟩
        · rw [if_neg c0]
          refine ⟨?_, ⟨fun a => ?_, fun a => absurd a c0⟩, fun a => absurd a c0, by show _ ≤ r.2.2; omega, by show r.2.2 ≤ _; omega, ?_⟩
          · show isS (if _ then _ else _)
            split
            · exact Or.inr (Or.inr rfl)
            · exact Or.inr (Or.inl rfl)
          · have a2 : (if bAt bs (rdK bs : Int) = 45 then (-1 : Int) else 1) = 0 := a
            exfalso
            split at a2 <;> omega
          · show nd r.2.1 ≤ 200
            rw [hX.1]
            have := nd_le_of hC.1
            omega
    · rw [if_neg z] at ht2; cases ht2
/-- rounded -/
def rN (n : Nat) (t : Int × Nat × Int) : Int × Nat × Int := (t.1, (rnd n t.2.1 t.2.2).1, (rnd n t.2.1 t.2.2).2)
theorem rnd_e {n c : Nat} {e : Int} : e ≤ (rnd n c e).2 ∧ (rnd n c e).2 ≤ e + nd c + 1 := by
  unfold rnd
  split
  · exact ⟨by show e ≤ e; omega, by show e ≤ _; omega⟩
  · split
    · exact ⟨by show e ≤ e + _ + 1; omega, by show e + _ + 1 ≤ _; omega⟩
    · exact ⟨by show e ≤ e + _; omega, by show e + _ ≤ _; omega⟩
theorem rnd_z {n c : Nat} {e : Int} (hn : 0 < n) : (rnd n c e).1 = 0 ↔ c = 0 := by
  rcases Nat.eq_zero_or_pos c with z | z
  · rw [z, rnd_0]
  · have := rnd_pos (n := n) (c := c) (e := e) hn z
    omega
theorem rN_ok {b m n : Nat} {t : Int × Nat × Int} (hn : 0 < n) (H : okN b m t) : okN (b + m + 1) n (rN n t) := by
  obtain ⟨h1, h2, h3, h4, h5, h6⟩ := H
  have h7 := rnd_e (n := n) (c := t.2.1) (e := t.2.2)
  have h8 := rnd_z (n := n) (c := t.2.1) (e := t.2.2) hn
  refine ⟨h1, h2.trans h8.symm, fun a => ?_, by show _ ≤ (rnd n t.2.1 t.2.2).2; omega, by show (rnd n t.2.1 t.2.2).2 ≤ _; omega, rnd_nd hn⟩
  have a2 := h8.mp a
  show (rnd n t.2.1 t.2.2).2 = 0
  rw [a2, rnd_0]
  exact h3 a2
/-- read and rounded -/
def ldN (n : Nat) (bs : List Nat) : Option (Int × Nat × Int) := (rdN bs).map (rN n)
theorem ldN_ok {n : Nat} {bs : List Nat} {t : Int × Nat × Int} (hn : 0 < n) (hl : bs.length ≤ 200) (ht : ldN n bs = some t) : okN 1501 n t := by
  unfold ldN at ht
  cases hx : rdN bs with
  | none => rw [hx] at ht; cases ht
  | some u =>
    rw [hx] at ht
    have := (Option.some.inj ht).symm
    subst this
    exact rN_ok hn (rdN_ok hl hx)
theorem C_load {i j n : Nat} {bs : List Nat} {h : Hp} (hi : i < 25) (hj : 28 < j) (hlen : bs.length ≤ 200) (hil : il (j + 1) = 200) (hn : 0 < n) (hn2 : n ≤ 20) (H : isL h i bs) : ∃ h', f_D_load i j (iI (n : Int)) h = some (iI (if ldN n bs = none then 0 else 1), h') ∧ kr h h' j ∧ ∀ t, ldN n bs = some t → isN h' j t.1 t.2.1 t.2.2 := by
  obtain ⟨h1, e1, K1, N1⟩ := C_read hi hj hlen hil H
  unfold f_D_load ldN
  rw [bd_t e1]
  cases hx : rdN bs with
  | none =>
    rw [if_pos (by simp; decide)]
    exact ⟨h1, rfl, K1, fun t ht => by cases ht⟩
  | some u =>
    rw [if_neg (by simp; decide)]
    obtain ⟨h2, e2, N2, K2⟩ := N_roundTo (N1 u hx) hn (by omega)
    rw [bd_t e2]
    refine ⟨h2, ?_, kr_t K1 (fun y _ b c => K2 y b c), fun t ht => ?_⟩
    · simp; rfl
    · have := (Option.some.inj ht).symm
      subst this
      exact N2
theorem C_loadBoth {i1 i2 n : Nat} {b1 b2 : List Nat} {h : Hp} (hi1 : i1 < 25) (hi2 : i2 < 25) (hl1 : b1.length ≤ 200) (hl2 : b2.length ≤ 200) (hn : 0 < n) (hn2 : n ≤ 20) (H1 : isL h i1 b1) (H2 : isL h i2 b2) : ∃ h', f_D_loadBoth i1 i2 (iI (n : Int)) h = some (iI (if ldN n b1 = none ∨ ldN n b2 = none then 0 else 1), h') ∧ (∀ y, y ≠ 26 → y ≠ 29 → y ≠ 30 → y ≠ 31 → y ≠ 32 → h' y = h y) ∧ ∀ t u, ldN n b1 = some t → ldN n b2 = some u → isN h' 29 t.1 t.2.1 t.2.2 ∧ isN h' 31 u.1 u.2.1 u.2.2 := by
  obtain ⟨g1, e1, K1, N1⟩ := C_load (j := 29) hi1 (by omega) hl1 rfl hn hn2 H1
  unfold f_D_loadBoth
  rw [bd_t e1]
  cases hx : ldN n b1 with
  | none =>
    rw [if_pos (by simp; decide)]
    exact ⟨g1, by simp; rfl, fun y a b c _ _ => K1 y a b c, fun t u ht => by cases ht⟩
  | some t1 =>
    rw [if_neg (by simp; decide)]
    have H2' : isL g1 i2 b2 := isL_eq H2 (K1 i2 (by omega) (by omega) (by omega)) (K1 (i2 + 1) (by omega) (by omega) (by omega))
    obtain ⟨g2, e2, K2, N2⟩ := C_load (j := 31) hi2 (by omega) hl2 rfl hn hn2 H2'
    rw [bd_t e2]
    have F : ∀ y, y ≠ 26 → y ≠ 29 → y ≠ 30 → y ≠ 31 → y ≠ 32 → g2 y = h y := fun y a b c d e => (K2 y a d e).trans (K1 y a b c)
    cases hy : ldN n b2 with
    | none =>
      rw [if_pos (by simp; decide)]
      exact ⟨g2, by simp; rfl, F, fun t u _ hu => by cases hu⟩
    | some t2 =>
      rw [if_neg (by simp; decide)]
      refine ⟨g2, by simp; rfl, F, fun t u ht hu => ?_⟩
      have ht := (Option.some.inj ht).symm
      have hu := (Option.some.inj hu).symm
      subst ht
      subst hu
      exact ⟨isN_eq (N1 t hx) (K2 29 (by omega) (by omega) (by omega)) (K2 30 (by omega) (by omega) (by omega)), N2 u hy⟩
-- ===== the reference's whole values =====
def flo (c : Nat) (e : Int) : Nat := if 0 ≤ e then c * 10 ^ e.toNat else c / 10 ^ (-e).toNat
theorem dp_flo (c : Nat) (e : Int) (p : Nat) : dp c e (p : Int) = flo c e / 10 ^ p % 10 := by
  unfold dp flo
  by_cases q : 0 ≤ e
  · obtain ⟨m, rfl⟩ : ∃ m : Nat, e = m := ⟨e.toNat, by omega⟩
    rw [if_pos q, Int.toNat_natCast]
    by_cases q2 : m ≤ p
    · obtain ⟨k, rfl⟩ : ∃ k, p = m + k := ⟨p - m, by omega⟩
      rw [if_pos (by omega), show ((m + k : Nat) : Int) - (m : Int) = ((k : Nat) : Int) by omega, Int.toNat_natCast, Nat.pow_add, ← Nat.div_div_eq_div_mul, Nat.mul_div_cancel _ (p10 m)]
    · obtain ⟨k, rfl⟩ : ∃ k, m = p + (k + 1) := ⟨m - p - 1, by omega⟩
      rw [if_neg (by omega), Nat.pow_add, ← Nat.mul_assoc, Nat.mul_right_comm, Nat.mul_div_cancel _ (p10 p), Nat.pow_succ, ← Nat.mul_assoc, Nat.mul_mod_left]
  · rw [if_pos (by omega), if_neg q, div_pp, show ((p : Int) - e).toNat = (-e).toNat + p by omega]
theorem M_vo_loop {z c : Nat} {s e : Int} {h : Hp} (hz : z < 5) (hs : isS s) (he : -1000000 ≤ e ∧ e ≤ 1000000) (H : isM h z s c e) : ∀ (m n : Nat), m < 1000 → m < n → f_M_valueOf_8 n (iI (z : Int)) (iI ((flo c e / 10 ^ m : Nat) : Int)) (iI ((m : Int) - 1)) h = some (iI (if s < 0 then -(flo c e : Int) else (flo c e : Int)), h) := by
  intro m
  induction m with
  | zero =>
    intro n hm hn
    obtain ⟨n, rfl⟩ : ∃ q, n = q + 1 := ⟨n - 1, by omega⟩
    rw [f_M_valueOf_8, if_pos (by rw [i0, iI_lt ⟨by omega, by omega⟩ ⟨by omega, by omega⟩]; omega), chk_t (inz hz)]
    simp only [clz hz, H.2.2.1]
    rw [Nat.pow_zero, Nat.div_one]
    by_cases q : s < 0
    · rw [if_neg (by rw [i0, iI_le ⟨by omega, by omega⟩ ⟨by unfold isS at hs; omega, by unfold isS at hs; omega⟩]; omega), if_pos q, iI_neg]
    · rw [if_pos (by rw [i0, iI_le ⟨by omega, by omega⟩ ⟨by unfold isS at hs; omega, by unfold isS at hs; omega⟩]; omega), if_neg q]
  | succ m ih =>
    intro n hm hn
    obtain ⟨n, rfl⟩ : ∃ q, n = q + 1 := ⟨n - 1, by omega⟩
    have ez : ((m + 1 : Nat) : Int) - 1 = (m : Int) := by omega
    rw [ez, f_M_valueOf_8, if_neg (by rw [i0, iI_lt ⟨by omega, by omega⟩ ⟨by omega, by omega⟩]; omega), bd_t (M_digit hz H (by omega) (by omega)), dp_flo]
    have e1 : (10 : Int32) * iI ((flo c e / 10 ^ (m + 1) : Nat) : Int) + iI ((flo c e / 10 ^ m % 10 : Nat) : Int) = iI ((flo c e / 10 ^ m : Nat) : Int) := by
      rw [show (10 : Int32) = iI 10 from rfl, iI_mul, iI_add]
      congr 1
      have := div_pp (flo c e) m 1
      rw [Nat.pow_one] at this
      rw [← this]
      omega
    rw [e1, im1, iI_add]
    exact ih n (by omega) (by omega)
theorem flo_lt {c : Nat} {e : Int} {m : Nat} (h : (mn c : Int) + e ≤ m) : flo c e < 10 ^ m := by
  unfold flo
  have h1 := mn_lt c
  split
  · have : c * 10 ^ e.toNat < 10 ^ mn c * 10 ^ e.toNat := Nat.mul_lt_mul_of_pos_right h1 (p10 _)
    rw [← Nat.pow_add] at this
    exact Nat.lt_of_lt_of_le this (Nat.pow_le_pow_right (by decide) (by omega))
  · rw [Nat.div_lt_iff_lt_mul (p10 _), ← Nat.pow_add]
    exact Nat.lt_of_lt_of_le h1 (Nat.pow_le_pow_right (by decide) (by omega))
theorem M_valueOf {z c : Nat} {s e : Int} {h : Hp} (hz : z < 5) (hs : isS s) (he : -1000000 ≤ e ∧ e ≤ 1000000) (hh : (mn c : Int) - 1 + e ≤ 9) (H : isM h z s c e) : f_M_valueOf (iI (z : Int)) h = some (iI (if s < 0 then -(flo c e : Int) else (flo c e : Int)), h) := by
  unfold f_M_valueOf
  rw [bd_t (M_high hz H)]
  by_cases q : 0 ≤ (mn c : Int) - 1 + e
  · obtain ⟨m, hm⟩ : ∃ m : Nat, (mn c : Int) + e = m := ⟨((mn c : Int) + e).toNat, by omega⟩
    have := M_vo_loop hz hs he H m fuel (by omega) (by unfold fuel; omega)
    rw [Nat.div_eq_of_lt (flo_lt (by omega))] at this
    rw [show (mn c : Int) - 1 + e = (m : Int) - 1 by omega]
    exact this
  · have f0 : flo c e = 0 := by
      have := flo_lt (c := c) (e := e) (m := 0) (by omega)
      rw [Nat.pow_zero] at this
      omega
    rw [show fuel = 999999 + 1 from rfl, f_M_valueOf_8, if_pos (by rw [i0, iI_lt ⟨by have := H.2.2.2.1; omega, by omega⟩ ⟨by omega, by omega⟩]; omega), chk_t (inz hz), f0]
    simp only [clz hz, H.2.2.1]
    by_cases q : s < 0
    · rw [if_neg (by rw [i0, iI_le ⟨by omega, by omega⟩ ⟨by unfold isS at hs; omega, by unfold isS at hs; omega⟩]; omega), if_pos q]; rfl
    · rw [if_pos (by rw [i0, iI_le ⟨by omega, by omega⟩ ⟨by unfold isS at hs; omega, by unfold isS at hs; omega⟩]; omega), if_neg q]; rfl
theorem M_iw_loop {z c E : Nat} {s : Int} {h : Hp} (hz : z < 5) (hE : E < 100000) (H : isM h z s c (-(E : Int))) : ∀ (m k n : Nat), k + m = E → m < n → (∀ j, j < k → dg c E j = 0) → f_M_isWhole_34 n (iI (z : Int)) (iI (-1 - (k : Int))) h = some (iI (if c % 10 ^ E = 0 then 1 else 0), h) := by
  intro m
  induction m with
  | zero =>
    intro k n hk hn h0
    obtain ⟨n, rfl⟩ : ∃ q, n = q + 1 := ⟨n - 1, by omega⟩
    rw [f_M_isWhole_34, chk_t (inz hz)]
    simp only [clz hz, H.2.1]
    have : c % 10 ^ E = 0 := by rw [← dg_dv]; exact dv_z (fun j hj => h0 j (by omega))
    rw [if_pos (by rw [iI_lt ⟨by omega, by omega⟩ ⟨by omega, by omega⟩]; omega), if_pos this]
    rfl
  | succ m ih =>
    intro k n hk hn h0
    obtain ⟨n, rfl⟩ : ∃ q, n = q + 1 := ⟨n - 1, by omega⟩
    rw [f_M_isWhole_34, chk_t (inz hz)]
    simp only [clz hz, H.2.1]
    have ed : dp c (-(E : Int)) (-1 - (k : Int)) = dg c E k := by
      unfold dp dg
      rw [if_pos (by omega), show (-1 - (k : Int) - -(E : Int)).toNat = E - 1 - k by omega]
    have hd := dg_lt c E k
    rw [if_neg (by rw [iI_lt ⟨by omega, by omega⟩ ⟨by omega, by omega⟩]; omega), bd_t (M_digit hz H (by omega) (by omega)), ed]
    by_cases q : dg c E k = 0
    · rw [if_pos (by rw [q]; rfl), im1, iI_add, show -1 - (k : Int) + -1 = -1 - ((k + 1 : Nat) : Int) by omega]
      refine ih (k + 1) n (by omega) (by omega) (fun j hj => ?_)
      by_cases y : j = k
      · rw [y]; exact q
      · exact h0 j (by omega)
    · have : ¬ c % 10 ^ E = 0 := fun y => by
        rw [← dg_dv] at y
        have := dv_dg (f := dg c E) (n := E) (k := k) (by omega) (fun j _ => dg_lt _ _ _)
        rw [y] at this
        unfold dg at this q
        simp at this
        omega
      rw [if_neg (by rw [i0, iI_eq ⟨by omega, by omega⟩ ⟨by omega, by omega⟩]; omega), if_neg this]
      rfl
theorem M_isWhole {z c n : Nat} {s e : Int} {h : Hp} (hz : z < 5) (hn : 0 < n) (hn2 : n ≤ 20) (h4 : h 46 4 = iI (n : Int)) (ok : okN 1300 200 (s, c, e)) (H : isM h z s c e) : ∃ h', f_M_isWhole (iI (z : Int)) h = some (iI (if wv s (rnd n c e).1 (rnd n c e).2 = none then 0 else 1), h') ∧ isM h' z s (rnd n c e).1 (rnd n c e).2 ∧ km h h' z ∧ ∀ v, wv s (rnd n c e).1 (rnd n c e).2 = some v → (mn (rnd n c e).1 : Int) - 1 + (rnd n c e).2 ≤ 9 ∧ v = (if s < 0 then -(flo (rnd n c e).1 (rnd n c e).2 : Int) else (flo (rnd n c e).1 (rnd n c e).2 : Int)) := by
  obtain ⟨h1, e1, M1, K1⟩ := M_round hz H hn (by omega)
  obtain ⟨o1, o2, o3, o4, o5, o6⟩ := rN_ok hn ok
  have p1 : isS s := o1
  have p2 : s = 0 ↔ (rnd n c e).1 = 0 := o2
  have p3 : (rnd n c e).1 = 0 → (rnd n c e).2 = 0 := o3
  have p4 : -(1501 : Int) ≤ (rnd n c e).2 := o4
  have p5 : (rnd n c e).2 ≤ 1501 := o5
  have p6 : nd (rnd n c e).1 ≤ n := o6
  revert p2 p3 p4 p5 p6 M1
  generalize (rnd n c e).1 = C
  generalize (rnd n c e).2 = F
  intro M1 p2 p3 p4 p5 p6
  unfold f_M_isWhole
  rw [h4, bd_t e1, chk_t (inz hz)]
  simp only [clz hz, M1.2.2.1]
  by_cases s0 : s = 0
  · have c0 := p2.mp s0
    have e0 := p3 c0
    subst c0
    subst e0
    have ew : wv s 0 0 = some 0 := by rw [s0]; decide
    rw [if_pos (by rw [s0]; rfl), ew]
    refine ⟨h1, rfl, M1, K1, fun v hv => ⟨by rw [mn_0]; omega, ?_⟩⟩
    rw [← Option.some.inj hv, s0]
    rfl
  · have hC : 0 < C := by
      rcases Nat.eq_zero_or_pos C with y | y
      · exact absurd (p2.mpr y) s0
      · exact y
    have em := mn_c hC
    rw [if_neg (by rw [i0, iI_eq ⟨by unfold isS at p1; omega, by unfold isS at p1; omega⟩ ⟨by omega, by omega⟩]; exact s0), bd_t (M_high hz M1), em]
    unfold wv
    by_cases q : (nd C : Int) - 1 + F ≤ 8
    · rw [if_pos (by rw [show (8 : Int32) = iI 8 from rfl, iI_le ⟨by omega, by omega⟩ ⟨by omega, by omega⟩]; exact q), if_neg (show ¬ (9 : Int) < (nd C : Int) + F by omega)]
      by_cases q2 : 0 ≤ F
      · rw [if_pos q2]
        refine ⟨h1, ?_, M1, K1, fun v hv => ⟨by omega, ?_⟩⟩
        · rw [show fuel = 999999 + 1 from rfl, f_M_isWhole_34, chk_t (inz hz)]
          simp only [clz hz, M1.2.1]
          rw [if_pos (by rw [im1, iI_lt ⟨by omega, by omega⟩ ⟨by omega, by omega⟩]; omega)]
          simp
          rfl
        · rw [← Option.some.inj hv]
          unfold flo
          rw [if_pos q2]
      · rw [if_neg q2]
        obtain ⟨E, rfl⟩ : ∃ E : Nat, F = -(E : Int) := ⟨(-F).toNat, by omega⟩
        have L := M_iw_loop hz (by omega) M1 E 0 fuel (by omega) (by unfold fuel; omega) (fun j hj => by omega)
        rw [show (-1 : Int) - ((0 : Nat) : Int) = -1 from rfl, ← im1] at L
        rw [L, show (- -(E : Int)).toNat = E by omega]
        by_cases y : C % 10 ^ E = 0
        · rw [if_pos y, if_pos y]
          refine ⟨h1, by simp, M1, K1, fun v hv => ⟨by omega, ?_⟩⟩
          rw [← Option.some.inj hv]
          unfold flo
          rw [if_neg q2, show (- -(E : Int)).toNat = E by omega]
        · rw [if_neg y, if_neg y]
          exact ⟨h1, by simp, M1, K1, fun v hv => by cases hv⟩
    · rw [if_neg (by rw [show (8 : Int32) = iI 8 from rfl, iI_le ⟨by omega, by omega⟩ ⟨by omega, by omega⟩]; exact q), if_pos (show (9 : Int) < (nd C : Int) + F by omega)]
      exact ⟨h1, by simp; rfl, M1, K1, fun v hv => by cases hv⟩
end
section
/-! PURE 12: writing: the texts, the class's writer -/
def dA (c : Nat) (e : Int) : Nat → List Nat
  | 0 => []
  | n + 1 => (48 + dp c e (n : Int)) :: dA c e n
def dB (c : Nat) (e : Int) : Nat → Nat → List Nat
  | 0, _ => []
  | m + 1, k => (48 + dp c e (-(k : Int))) :: dB c e m (k + 1)
def dC (c : Nat) : Nat → Nat → List Nat
  | 0, _ => []
  | m + 1, k => (48 + dz c (k : Int)) :: dC c m (k + 1)
theorem dA_len (c : Nat) (e : Int) : ∀ n, (dA c e n).length = n
  | 0 => rfl
  | n + 1 => by rw [dA, List.length_cons, dA_len c e n]
theorem dB_len (c : Nat) (e : Int) : ∀ n k, (dB c e n k).length = n
  | 0, _ => rfl
  | n + 1, k => by rw [dB, List.length_cons, dB_len c e n]
theorem dC_len (c : Nat) : ∀ n k, (dC c n k).length = n
  | 0, _ => rfl
  | n + 1, k => by rw [dC, List.length_cons, dC_len c n]
def sgT (s : Int) : List Nat := if s < 0 then [45] else []
def plT (c : Nat) (e : Int) (a pl : Nat) : List Nat := dA c e a ++ (if pl = 0 then [] else 46 :: dB c e pl 1)
theorem plT_len (c : Nat) (e : Int) (a pl : Nat) : (plT c e a pl).length = a + (if pl = 0 then 0 else pl + 1) := by
  unfold plT
  rw [List.length_append, dA_len]
  split
  · rfl
  · rw [List.length_cons, dB_len]
theorem sgT_len (s : Int) : (sgT s).length = if s < 0 then 1 else 0 := by unfold sgT; split <;> rfl
/-- the exponent's text -/
def exN (v : Nat) : List Nat := (if v < 100 then [] else [48 + v / 100]) ++ ((if v < 10 then [] else [48 + v / 10 % 10]) ++ [48 + v % 10])
def exT (v : Int) : List Nat := if v = 0 then [] else 69 :: (if 0 ≤ v then 43 else 45) :: exN v.natAbs
def fp (c : Nat) (e : Int) : Int := if c = 0 then 0 else (nd c : Int) + e - 1
def exA (fm : Nat) (p : Int) : Nat := if fm = 1 then (p % 3).toNat + 1 else 1
def exF (fm c : Nat) (p : Int) : List Nat := dC c (exA fm p) 0 ++ ((if nd c ≤ exA fm p then [] else [46]) ++ (dC c (nd c - exA fm p) (exA fm p) ++ exT (p - (exA fm p : Int) + 1)))
def aA (c : Nat) (e : Int) : Nat := max 1 ((nd c : Int) + e).toNat
def wrT (dgs fm : Nat) (t : Int × Nat × Int) : Option (List Nat) :=
  if 999 < fp t.2.1 t.2.2 ∨ fp t.2.1 t.2.2 < -999 then none
  else if (nd t.2.1 : Int) + t.2.2 ≤ dgs ∧ -t.2.2 ≤ 2 * (dgs : Int) then some (sgT t.1 ++ plT t.2.1 t.2.2 (aA t.2.1 t.2.2) (-t.2.2).toNat)
  else some (sgT t.1 ++ exF fm t.2.1 (fp t.2.1 t.2.2))
-- ===== the class =====
theorem isN_k24 {h h' : Hp} {i c : Nat} {s e : Int} (hi : 28 < i) (H : isN h i s c e) (k : kp h h' 24 25) : isN h' i s c e := isN_eq H (k i (by omega) (by omega)) (k (i + 1) (by omega) (by omega))
theorem P_add {h : Hp} {bs : List Nat} {b : Nat} (H : isL h 24 bs) (hl : bs.length < 200) (hb : b < 256) : ∃ h', f_L_add 24 (iI (b : Int)) h = some ((), h') ∧ isL h' 24 (bs ++ [b]) ∧ kp h h' 24 25 := L_add H (by rw [show bl (24 + 1) = 200 from rfl]; exact hl) (byte_of hb) hb
theorem i48 (d : Nat) : (48 : Int32) + iI (d : Int) = iI ((48 + d : Nat) : Int) := by rw [show (48 : Int32) = iI 48 from rfl, iI_add]; rfl
theorem dp_lt (c : Nat) (e p : Int) : dp c e p < 10 := by unfold dp; split <;> omega
theorem T_sign {h : Hp} {i c : Nat} {s e : Int} {bs : List Nat} (hs : isS s) (N : isN h i s c e) (H : isL h 24 bs) (hl : bs.length < 200) : ∃ h', f_T_addSign i 24 h = some ((), h') ∧ isL h' 24 (bs ++ sgT s) ∧ kp h h' 24 25 := by
  unfold f_T_addSign sgT
  rw [N.2.2]
  by_cases q : s < 0
  · rw [if_neg (by rw [i0, iI_le ⟨by omega, by omega⟩ ⟨by unfold isS at hs; omega, by unfold isS at hs; omega⟩]; omega), if_pos q]
    obtain ⟨h', e', a', b'⟩ := P_add (b := 45) H hl (by omega)
    rw [show (45 : Int32) = iI ((45 : Nat) : Int) from rfl, bd_t e']
    exact ⟨h', rfl, a', b'⟩
  · rw [if_pos (by rw [i0, iI_le ⟨by omega, by omega⟩ ⟨by unfold isS at hs; omega, by unfold isS at hs; omega⟩]; omega), if_neg q]
    exact ⟨h, rfl, by rw [List.append_nil]; exact H, kp_r _ _ _⟩
theorem T_A {i c : Nat} {s e : Int} {v2 : Int32} (hi : 28 < i) (he : -100000000 ≤ e ∧ e ≤ 100000000) : ∀ (m n : Nat) (h : Hp) (bs : List Nat), m < n → isN h i s c e → isL h 24 bs → bs.length + m ≤ 200 → ∃ h', f_T_addPlain_18 n i v2 24 (iI ((m : Int) - 1)) h = (if v2 ≤ 0 then f_T_addPlain_55 fuel i v2 24 1 h' else bd (f_L_add 24 46 h') (fun _ h49 => f_T_addPlain_55 fuel i v2 24 1 h49)) ∧ isL h' 24 (bs ++ dA c e m) ∧ kp h h' 24 25 := by
  intro m
  induction m with
  | zero =>
    intro n h bs hn N H hl
    obtain ⟨n, rfl⟩ : ∃ q, n = q + 1 := ⟨n - 1, by omega⟩
    rw [f_T_addPlain_18, if_pos (by rw [i0, iI_lt ⟨by omega, by omega⟩ ⟨by omega, by omega⟩]; omega)]
    exact ⟨h, rfl, by rw [dA, List.append_nil]; exact H, kp_r _ _ _⟩
  | succ m ih =>
    intro n h bs hn N H hl
    obtain ⟨n, rfl⟩ : ∃ q, n = q + 1 := ⟨n - 1, by omega⟩
    have hd := dp_lt c e (m : Int)
    obtain ⟨h1, e1, a1, b1⟩ := P_add (b := 48 + dp c e (m : Int)) H (by omega) (by omega)
    obtain ⟨h', e', a', b'⟩ := ih n h1 _ (by omega) (isN_k24 hi N b1) a1 (by rw [List.length_append]; simp; omega)
    refine ⟨h', ?_, by rw [dA]; rw [List.append_assoc] at a'; exact a', kp_t b1 b'⟩
    rw [show ((m + 1 : Nat) : Int) - 1 = (m : Int) by omega, f_T_addPlain_18, if_neg (by rw [i0, iI_lt ⟨by omega, by omega⟩ ⟨by omega, by omega⟩]; omega), bd_t (N_digitAtPower N (by omega) (by omega)), i48, bd_t e1, im1, iI_add]
    exact e'
theorem T_B {i c pl : Nat} {s e : Int} (hi : 28 < i) (he : -100000000 ≤ e ∧ e ≤ 100000000) (hp : pl ≤ 200) : ∀ (m k n : Nat) (h : Hp) (bs : List Nat), k + m = pl + 1 → m < n → isN h i s c e → isL h 24 bs → bs.length + m ≤ 200 → ∃ h', f_T_addPlain_55 n i (iI (pl : Int)) 24 (iI (k : Int)) h = some ((), h') ∧ isL h' 24 (bs ++ dB c e m k) ∧ kp h h' 24 25 := by
  intro m
  induction m with
  | zero =>
    intro k n h bs hk hn N H hl
    obtain ⟨n, rfl⟩ : ∃ q, n = q + 1 := ⟨n - 1, by omega⟩
    rw [f_T_addPlain_55, if_pos (by rw [iI_lt ⟨by omega, by omega⟩ ⟨by omega, by omega⟩]; omega)]
    exact ⟨h, rfl, by rw [dB, List.append_nil]; exact H, kp_r _ _ _⟩
  | succ m ih =>
    intro k n h bs hk hn N H hl
    obtain ⟨n, rfl⟩ : ∃ q, n = q + 1 := ⟨n - 1, by omega⟩
    have hd := dp_lt c e (-(k : Int))
    obtain ⟨h1, e1, a1, b1⟩ := P_add (b := 48 + dp c e (-(k : Int))) H (by omega) (by omega)
    obtain ⟨h', e', a', b'⟩ := ih (k + 1) n h1 _ (by omega) (by omega) (isN_k24 hi N b1) a1 (by rw [List.length_append]; simp; omega)
    refine ⟨h', ?_, by rw [dB]; rw [List.append_assoc] at a'; exact a', kp_t b1 b'⟩
    rw [f_T_addPlain_55, if_neg (by rw [iI_lt ⟨by omega, by omega⟩ ⟨by omega, by omega⟩]; omega), iI_neg, bd_t (N_digitAtPower N (by omega) (by omega)), i48, bd_t e1, scN]
    exact e'
theorem aA_eq (c : Nat) (e : Int) (h : -100000000 ≤ e ∧ e ≤ 100000000) (hc : nd c ≤ 1000) : (if iI ((nd c : Int) + e) < 1 then (1 : Int32) else iI ((nd c : Int) + e)) = iI (aA c e : Int) := by
  unfold aA
  by_cases q : (nd c : Int) + e < 1
  · rw [if_pos (by rw [i1, iI_lt ⟨by omega, by omega⟩ ⟨by omega, by omega⟩]; exact q), show max 1 ((nd c : Int) + e).toNat = 1 by omega]; rfl
  · rw [if_neg (by rw [i1, iI_lt ⟨by omega, by omega⟩ ⟨by omega, by omega⟩]; exact q)]
    congr 1
    omega
theorem T_plain {i c pl : Nat} {s e : Int} {h : Hp} {bs : List Nat} (hi : 28 < i) (hs : isS s) (hc : nd c ≤ 1000) (he : -100000000 ≤ e ∧ e ≤ 100000000) (N : isN h i s c e) (H : isL h 24 bs) (hl : bs.length + (sgT s ++ plT c e (aA c e) pl).length ≤ 200) : ∃ h', f_T_addPlain i (iI (pl : Int)) 24 h = some ((), h') ∧ isL h' 24 (bs ++ (sgT s ++ plT c e (aA c e) pl)) ∧ kp h h' 24 25 := by
  rw [List.length_append, plT_len] at hl
  have ha : 1 ≤ aA c e := by unfold aA; omega
  obtain ⟨h1, e1, a1, b1⟩ := T_sign hs N H (by omega)
  unfold f_T_addPlain
  have N1 := isN_k24 hi N b1
  rw [bd_t e1, bd_t (N_ahead N1), aA_eq c e he hc, i1, iI_sub]
  obtain ⟨h2, e2, a2, b2⟩ := T_A (v2 := iI (pl : Int)) hi he (aA c e) fuel h1 _ (by unfold fuel; omega) N1 a1 (by rw [List.length_append]; omega)
  have N2 := isN_k24 hi N1 b2
  rw [e2]
  unfold plT
  by_cases q : pl = 0
  · rw [if_pos q] at hl
    rw [if_pos (by rw [i0, iI_le ⟨by omega, by omega⟩ ⟨by omega, by omega⟩]; omega), if_pos q]
    obtain ⟨h3, e3, a3, b3⟩ := T_B (pl := pl) hi he (by omega) 0 1 fuel h2 _ (by omega) (by unfold fuel; omega) N2 a2 (by rw [List.length_append, List.length_append, dA_len]; omega)
    refine ⟨h3, e3, ?_, kp_t (kp_t b1 b2) b3⟩
    rw [dB, List.append_nil, List.append_assoc] at a3
    rw [List.append_nil]
    exact a3
  · rw [if_neg q] at hl
    rw [if_neg (by rw [i0, iI_le ⟨by omega, by omega⟩ ⟨by omega, by omega⟩]; omega), if_neg q]
    obtain ⟨h3, e3, a3, b3⟩ := P_add (b := 46) a2 (by rw [List.length_append, List.length_append, dA_len]; omega) (by omega)
    rw [show (46 : Int32) = iI ((46 : Nat) : Int) from rfl, bd_t e3]
    obtain ⟨h4, e4, a4, b4⟩ := T_B (pl := pl) hi he (by omega) pl 1 fuel h3 _ (by omega) (by unfold fuel; omega) (isN_k24 hi N2 b3) a3 (by rw [List.length_append, List.length_append, List.length_append, dA_len]; simp; omega)
    refine ⟨h4, e4, ?_, kp_t (kp_t (kp_t b1 b2) b3) b4⟩
    have : bs ++ (sgT s ++ (dA c e (aA c e) ++ 46 :: dB c e pl 1)) = bs ++ sgT s ++ dA c e (aA c e) ++ [46] ++ dB c e pl 1 := by simp
    rw [this]
    exact a4
theorem dq {n : Nat} (h : n < 1000000) : iI (n : Int) / 10 = iI ((n / 10 : Nat) : Int) := by rw [show (10 : Int32) = iI 10 from rfl, iI_div (by omega) (by omega) (by omega) (by omega)]; rfl
theorem dq2 {n : Nat} (h : n < 1000000) : iI (n : Int) / 100 = iI ((n / 100 : Nat) : Int) := by rw [show (100 : Int32) = iI 100 from rfl, iI_div (by omega) (by omega) (by omega) (by omega)]; rfl
theorem dm {n : Nat} (h : n < 1000000) : iI (n : Int) - iI (n : Int) / 10 * 10 = iI ((n % 10 : Nat) : Int) := by rw [dq h, show (10 : Int32) = iI 10 from rfl, iI_mul, iI_sub]; congr 1; omega
theorem T_e48 {h : Hp} {v : Nat} {bs : List Nat} (hv : v < 100000) (H : isL h 24 bs) (hl : bs.length + 2 ≤ 200) : ∃ h', f_T_addExponent_48 24 (iI (v : Int)) h = some ((), h') ∧ isL h' 24 (bs ++ ((if v < 10 then [] else [48 + v / 10 % 10]) ++ [48 + v % 10])) ∧ kp h h' 24 25 := by
  unfold f_T_addExponent_48
  have h10 := Nat.mod_lt v (show 0 < 10 by decide)
  have h11 := Nat.mod_lt (v / 10) (show 0 < 10 by decide)
  rw [dm (by omega), i48, dq (by omega), dm (by omega), i48]
  by_cases q : v < 10
  · rw [if_pos (by rw [show (10 : Int32) = iI 10 from rfl, iI_lt ⟨by omega, by omega⟩ ⟨by omega, by omega⟩]; omega), if_pos q]
    obtain ⟨h1, e1, a1, b1⟩ := P_add (b := 48 + v % 10) H (by omega) (by omega)
    rw [bd_t e1]
    exact ⟨h1, rfl, a1, b1⟩
  · rw [if_neg (by rw [show (10 : Int32) = iI 10 from rfl, iI_lt ⟨by omega, by omega⟩ ⟨by omega, by omega⟩]; omega), if_neg q]
    obtain ⟨h1, e1, a1, b1⟩ := P_add (b := 48 + v / 10 % 10) H (by omega) (by omega)
    obtain ⟨h2, e2, a2, b2⟩ := P_add (b := 48 + v % 10) a1 (by rw [List.length_append]; simp; omega) (by omega)
    rw [bd_t e1, bd_t e2]
    exact ⟨h2, rfl, by rw [List.append_assoc] at a2; exact a2, kp_t b1 b2⟩
theorem abs_iI {v : Int} (hv : -100000 ≤ v ∧ v ≤ 100000) : (if 0 ≤ iI v then iI v else 0 - iI v) = iI (v.natAbs : Int) := by
  by_cases q : 0 ≤ v
  · rw [if_pos (by rw [i0, iI_le ⟨by omega, by omega⟩ ⟨by omega, by omega⟩]; exact q)]
    congr 1
    omega
  · rw [if_neg (by rw [i0, iI_le ⟨by omega, by omega⟩ ⟨by omega, by omega⟩]; exact q), i0, iI_sub]
    congr 1
    omega
theorem T_e23 {h : Hp} {v : Int} {b : Nat} {bs : List Nat} (hv : -2000 ≤ v ∧ v ≤ 2000) (hb : b < 256) (H : isL h 24 bs) (hl : bs.length + 4 ≤ 200) : ∃ h', f_T_addExponent_23 (iI v) 24 24 (iI (b : Int)) h = some ((), h') ∧ isL h' 24 (bs ++ (b :: exN v.natAbs)) ∧ kp h h' 24 25 := by
  unfold f_T_addExponent_23
  obtain ⟨h1, e1, a1, b1⟩ := P_add (b := b) H (by omega) hb
  rw [bd_t e1, abs_iI ⟨by omega, by omega⟩]
  unfold exN
  by_cases q : v.natAbs < 100
  · rw [if_pos (by rw [show (100 : Int32) = iI 100 from rfl, iI_lt ⟨by omega, by omega⟩ ⟨by omega, by omega⟩]; omega), if_pos q]
    obtain ⟨h2, e2, a2, b2⟩ := T_e48 (v := v.natAbs) (by omega) a1 (by rw [List.length_append]; simp; omega)
    exact ⟨h2, e2, by rw [List.append_assoc] at a2; exact a2, kp_t b1 b2⟩
  · have hq : v.natAbs / 100 < 100 := by omega
    rw [if_neg (by rw [show (100 : Int32) = iI 100 from rfl, iI_lt ⟨by omega, by omega⟩ ⟨by omega, by omega⟩]; omega), if_neg q, dq2 (by omega), i48]
    obtain ⟨h2, e2, a2, b2⟩ := P_add (b := 48 + v.natAbs / 100) a1 (by rw [List.length_append]; simp; omega) (by omega)
    obtain ⟨h3, e3, a3, b3⟩ := T_e48 (v := v.natAbs) (by omega) a2 (by rw [List.length_append, List.length_append]; simp; omega)
    rw [bd_t e2]
    exact ⟨h3, e3, by rw [List.append_assoc, List.append_assoc] at a3; exact a3, kp_t (kp_t b1 b2) b3⟩
theorem T_exp {h : Hp} {v : Int} {bs : List Nat} (hv : -2000 ≤ v ∧ v ≤ 2000) (H : isL h 24 bs) (hl : bs.length + 5 ≤ 200) : ∃ h', f_T_addExponent (iI v) 24 h = some ((), h') ∧ isL h' 24 (bs ++ exT v) ∧ kp h h' 24 25 := by
  unfold f_T_addExponent exT
  by_cases q : v = 0
  · rw [if_pos (by rw [q]; rfl), if_pos q]
    exact ⟨h, rfl, by rw [List.append_nil]; exact H, kp_r _ _ _⟩
  · rw [if_neg (by rw [i0, iI_eq ⟨by omega, by omega⟩ ⟨by omega, by omega⟩]; exact q), if_neg q]
    obtain ⟨h1, e1, a1, b1⟩ := P_add (b := 69) H (by omega) (by omega)
    rw [show (69 : Int32) = iI ((69 : Nat) : Int) from rfl, bd_t e1]
    by_cases q2 : 0 ≤ v
    · rw [if_pos (by rw [i0, iI_le ⟨by omega, by omega⟩ ⟨by omega, by omega⟩]; exact q2), if_pos q2]
      obtain ⟨h2, e2, a2, b2⟩ := T_e23 (v := v) (b := 43) hv (by omega) a1 (by rw [List.length_append]; simp; omega)
      exact ⟨h2, e2, by rw [List.append_assoc] at a2; exact a2, kp_t b1 b2⟩
    · rw [if_neg (by rw [i0, iI_le ⟨by omega, by omega⟩ ⟨by omega, by omega⟩]; exact q2), if_neg q2]
      obtain ⟨h2, e2, a2, b2⟩ := T_e23 (v := v) (b := 45) hv (by omega) a1 (by rw [List.length_append]; simp; omega)
      exact ⟨h2, e2, by rw [List.append_assoc] at a2; exact a2, kp_t b1 b2⟩
theorem T_79 {i c a : Nat} {s e p : Int} (hi : 28 < i) (hc : nd c ≤ 100) (hp : -999 ≤ p ∧ p ≤ 999) (ha : a ≤ 3) : ∀ (m k n : Nat) (h : Hp) (bs : List Nat), (m = nd c - k) → k ≤ 200 → m < n → isN h i s c e → isL h 24 bs → bs.length + m + 5 ≤ 200 → ∃ h', f_T_addWithExponent_79 n i 24 (iI p) (iI (a : Int)) (iI (k : Int)) h = some ((), h') ∧ isL h' 24 (bs ++ (dC c m k ++ exT (p - (a : Int) + 1))) ∧ kp h h' 24 25 := by
  intro m
  induction m with
  | zero =>
    intro k n h bs hk hk2 hn N H hl
    obtain ⟨n, rfl⟩ : ∃ q, n = q + 1 := ⟨n - 1, by omega⟩
    obtain ⟨h1, e1, a1, b1⟩ := T_exp (v := p - (a : Int) + 1) (by omega) H (by omega)
    rw [f_T_addWithExponent_79, N.1.1, if_pos (by rw [iI_le ⟨by omega, by omega⟩ ⟨by omega, by omega⟩]; omega), iI_sub, i1, iI_add, bd_t e1]
    exact ⟨h1, rfl, a1, b1⟩
  | succ m ih =>
    intro k n h bs hk hk2 hn N H hl
    obtain ⟨n, rfl⟩ : ∃ q, n = q + 1 := ⟨n - 1, by omega⟩
    have hd := dz_lt c (k : Int)
    obtain ⟨h1, e1, a1, b1⟩ := P_add (b := 48 + dz c (k : Int)) H (by omega) (by omega)
    obtain ⟨h', e', a', b'⟩ := ih (k + 1) n h1 _ (by omega) (by omega) (by omega) (isN_k24 hi N b1) a1 (by rw [List.length_append]; simp; omega)
    refine ⟨h', ?_, by rw [dC]; rw [List.append_assoc] at a'; exact a', kp_t b1 b'⟩
    rw [f_T_addWithExponent_79, N.1.1, if_neg (by rw [iI_le ⟨by omega, by omega⟩ ⟨by omega, by omega⟩]; omega), bd_t (N_digit N.1 ⟨by omega, by omega⟩), i48, bd_t e1, scN]
    exact e'
theorem T_34 {i c a : Nat} {s e p : Int} (hi : 28 < i) (hc : nd c ≤ 100) (hp : -999 ≤ p ∧ p ≤ 999) (ha : a ≤ 3) : ∀ (m k n : Nat) (h : Hp) (bs : List Nat), k + m = a → m < n → isN h i s c e → isL h 24 bs → bs.length + m + 1 + nd c + 5 ≤ 200 → ∃ h', f_T_addWithExponent_34 n i 24 (iI p) (iI (a : Int)) (iI (k : Int)) h = some ((), h') ∧ isL h' 24 (bs ++ (dC c m k ++ ((if nd c ≤ a then [] else [46]) ++ (dC c (nd c - a) a ++ exT (p - (a : Int) + 1))))) ∧ kp h h' 24 25 := by
  intro m
  induction m with
  | zero =>
    intro k n h bs hk hn N H hl
    obtain ⟨n, rfl⟩ : ∃ q, n = q + 1 := ⟨n - 1, by omega⟩
    rw [f_T_addWithExponent_34, N.1.1, if_pos (by rw [iI_le ⟨by omega, by omega⟩ ⟨by omega, by omega⟩]; omega)]
    by_cases q : nd c ≤ a
    · rw [if_pos (by rw [iI_le ⟨by omega, by omega⟩ ⟨by omega, by omega⟩]; omega), if_pos q]
      exact T_79 hi hc hp ha (nd c - a) a fuel h bs rfl (by omega) (by unfold fuel; omega) N H (by omega)
    · rw [if_neg (by rw [iI_le ⟨by omega, by omega⟩ ⟨by omega, by omega⟩]; omega), if_neg q]
      obtain ⟨h1, e1, a1, b1⟩ := P_add (b := 46) H (by omega) (by omega)
      rw [show (46 : Int32) = iI ((46 : Nat) : Int) from rfl, bd_t e1]
      obtain ⟨h2, e2, a2, b2⟩ := T_79 hi hc hp ha (nd c - a) a fuel h1 _ rfl (by omega) (by unfold fuel; omega) (isN_k24 hi N b1) a1 (by rw [List.length_append]; simp; omega)
      exact ⟨h2, e2, by rw [List.append_assoc] at a2; exact a2, kp_t b1 b2⟩
  | succ m ih =>
    intro k n h bs hk hn N H hl
    obtain ⟨n, rfl⟩ : ∃ q, n = q + 1 := ⟨n - 1, by omega⟩
    have hd := dz_lt c (k : Int)
    obtain ⟨h1, e1, a1, b1⟩ := P_add (b := 48 + dz c (k : Int)) H (by omega) (by omega)
    obtain ⟨h', e', a', b'⟩ := ih (k + 1) n h1 _ (by omega) (by omega) (isN_k24 hi N b1) a1 (by rw [List.length_append]; simp; omega)
    refine ⟨h', ?_, by rw [dC]; rw [List.append_assoc] at a'; exact a', kp_t b1 b'⟩
    rw [f_T_addWithExponent_34, if_neg (by rw [iI_le ⟨by omega, by omega⟩ ⟨by omega, by omega⟩]; omega), bd_t (N_digit N.1 ⟨by omega, by omega⟩), i48, bd_t e1, scN]
    exact e'
theorem fm_tab : ∀ p : Nat, p < 1999 → ((0 : Int32) ≤ (iI ((p : Int) - 999) ^^^ 3) ↔ 999 ≤ p) ∧ (999 ≤ p → iI ((p : Int) - 999) - iI ((p : Int) - 999) / 3 * 3 = iI (((p : Int) - 999) % 3)) ∧ (p < 999 → iI ((p : Int) - 999) - iI ((p : Int) - 999) / 3 * 3 = 0 → ((p : Int) - 999) % 3 = 0) ∧ (p < 999 → iI ((p : Int) - 999) - iI ((p : Int) - 999) / 3 * 3 ≠ 0 → iI ((p : Int) - 999) - iI ((p : Int) - 999) / 3 * 3 + 3 = iI (((p : Int) - 999) % 3)) := by decide +kernel
theorem fm_eq {p : Int} {h : Hp} (hp : -999 ≤ p ∧ p ≤ 999) : f_A_floorMod (iI p) 3 h = some (iI (p % 3), h) := by
  obtain ⟨k, hk⟩ : ∃ k : Nat, p = (k : Int) - 999 := ⟨(p + 999).toNat, by omega⟩
  subst hk
  obtain ⟨t1, t2, t3, t4⟩ := fm_tab k (by omega)
  unfold f_A_floorMod
  rw [chk_t (by decide)]
  by_cases q : 999 ≤ k
  · rw [if_pos (t1.mpr q), t2 q]
  · rw [if_neg (fun y => q (t1.mp y))]
    by_cases z : iI ((k : Int) - 999) - iI ((k : Int) - 999) / 3 * 3 = 0
    · rw [if_pos z, z, t3 (by omega) z]; rfl
    · rw [if_neg z, t4 (by omega) z]
theorem T_withExp {i c fm : Nat} {s e : Int} {h : Hp} (hi : 28 < i) (hs : isS s) (hc : nd c ≤ 100) (hf : fm ≤ 1) (hp : -999 ≤ fp c e ∧ fp c e ≤ 999) (N : isN h i s c e) (H : isL h 24 []) : ∃ h', f_T_addWithExponent i (iI (fm : Int)) 24 h = some ((), h') ∧ isL h' 24 (sgT s ++ exF fm c (fp c e)) ∧ kp h h' 24 25 := by
  obtain ⟨h1, e1, a1, b1⟩ := T_sign hs N H (by show 0 < 200; omega)
  have N1 := isN_k24 hi N b1
  have ha : exA fm (fp c e) ≤ 3 := by unfold exA; split <;> omega
  have hsl := sgT_len s
  have hs2 : (sgT s).length ≤ 1 := by rw [hsl]; split <;> omega
  rw [List.nil_append] at a1
  obtain ⟨h2, e2, a2, b2⟩ := T_34 (a := exA fm (fp c e)) (p := fp c e) hi hc hp ha (exA fm (fp c e)) 0 fuel h1 _ (by omega) (by unfold fuel; omega) N1 a1 (by omega)
  unfold f_T_addWithExponent
  rw [bd_t (N_firstPower N), show (if c = 0 then (0 : Int) else (nd c : Int) + e - 1) = fp c e from rfl]
  refine ⟨h2, ?_, a2, kp_t b1 b2⟩
  rw [show iI ((0 : Nat) : Int) = (0 : Int32) from rfl] at e2
  by_cases q : fm = 1
  · have ea : exA fm (fp c e) = (fp c e % 3).toNat + 1 := by unfold exA; rw [if_pos q]
    rw [if_pos (by rw [q]; rfl), bd_t (fm_eq hp), bd_t e1]
    rw [ea, ← scN] at e2
    have : ((fp c e % 3).toNat : Int) = fp c e % 3 := by omega
    rw [this] at e2
    exact e2
  · have ea : exA fm (fp c e) = 1 := by unfold exA; rw [if_neg q]
    rw [if_neg (by rw [i1, iI_eq ⟨by omega, by omega⟩ ⟨by omega, by omega⟩]; omega), bd_t e1]
    rw [ea] at e2
    exact e2
theorem C_wr {i dgs fm : Nat} {t : Int × Nat × Int} {h : Hp} (hi : 28 < i) (hd : 0 < dgs) (hd2 : dgs ≤ 20) (hf : fm ≤ 1) (ok : okN 100000000 20 t) (N : isN h i t.1 t.2.1 t.2.2) : ∃ h', f_T_write i (iI (dgs : Int)) (iI (fm : Int)) 24 h = some (iI (if wrT dgs fm t = none then 42 else 0), h') ∧ kp h h' 24 25 ∧ ∀ T, wrT dgs fm t = some T → isL h' 24 T := by
  obtain ⟨s, c, e⟩ := t
  obtain ⟨o1, o2, o3, o4, o5, o6⟩ := ok
  have p1 : isS s := o1
  have p3 : c = 0 → e = 0 := o3
  have p4 : -(100000000 : Int) ≤ e := o4
  have p5 : e ≤ 100000000 := o5
  have p6 : nd c ≤ 20 := o6
  have N' : isN h i s c e := N
  clear o1 o2 o3 o4 o5 o6 N
  have hfp : fp c e = if c = 0 then 0 else (nd c : Int) + e - 1 := rfl
  have hbf : -100000001 ≤ fp c e ∧ fp c e ≤ 100000021 := by rw [hfp]; split <;> omega
  unfold f_T_write wrT
  rw [bd_t (N_firstPower N'), ← hfp]
  show ∃ h', _ = some (iI (if (if 999 < fp c e ∨ fp c e < -999 then none else _) = none then 42 else 0), h') ∧ _ ∧ _
  by_cases q : 999 < fp c e
  · rw [if_pos (by rw [show (999 : Int32) = iI 999 from rfl, iI_lt ⟨by omega, by omega⟩ ⟨by omega, by omega⟩]; exact q)]
    simp only [if_pos (show 999 < fp c e ∨ fp c e < -999 from Or.inl q)]
    exact ⟨h, by simp; rfl, kp_r _ _ _, fun T hT => by cases hT⟩
  · rw [if_neg (by rw [show (999 : Int32) = iI 999 from rfl, iI_lt ⟨by omega, by omega⟩ ⟨by omega, by omega⟩]; exact q)]
    by_cases q2 : fp c e < -999
    · rw [if_neg (by rw [show (-999 : Int32) = iI (-999) from rfl, iI_le ⟨by omega, by omega⟩ ⟨by omega, by omega⟩]; omega)]
      simp only [if_pos (show 999 < fp c e ∨ fp c e < -999 from Or.inr q2)]
      exact ⟨h, by simp; rfl, kp_r _ _ _, fun T hT => by cases hT⟩
    · rw [if_pos (by rw [show (-999 : Int32) = iI (-999) from rfl, iI_le ⟨by omega, by omega⟩ ⟨by omega, by omega⟩]; omega)]
      simp only [if_neg (show ¬ (999 < fp c e ∨ fp c e < -999) from by omega)]
      have k0 : kp h (up2 h 24 1 0) 24 25 := kp_up _ _ _ _ _
      have N0 := isN_k24 hi N' k0
      have L0 : isL (up2 h 24 1 0) 24 [] := isL_nil
      obtain ⟨hx, ex, ax, bx⟩ := T_withExp hi p1 (show nd c ≤ 100 by omega) hf (show -999 ≤ fp c e ∧ fp c e ≤ 999 by omega) N0 L0
      rw [bd_t (N_ahead N0)]
      by_cases z : (nd c : Int) + e ≤ dgs
      · rw [if_neg (by rw [iI_lt ⟨by omega, by omega⟩ ⟨by omega, by omega⟩]; omega), bd_t (N_places (by omega) N0), bd_t (N_places (by omega) N0)]
        have epl : (if 0 ≤ e then (0 : Int) else -e) = ((-e).toNat : Int) := by split <;> omega
        rw [epl, show (2 : Int32) = iI 2 from rfl, iI_mul]
        by_cases z2 : -e ≤ 2 * (dgs : Int)
        · rw [if_neg (by rw [iI_lt ⟨by omega, by omega⟩ ⟨by omega, by omega⟩]; omega)]
          simp only [if_pos (show (nd c : Int) + e ≤ dgs ∧ -e ≤ 2 * (dgs : Int) from ⟨z, z2⟩)]
          have hsl := sgT_len s
          have hs2 : (sgT s).length ≤ 1 := by rw [hsl]; split <;> omega
          have hal : aA c e ≤ 20 := by unfold aA; omega
          obtain ⟨hy, ey, ay, by'⟩ := T_plain (pl := (-e).toNat) hi p1 (by omega) ⟨by omega, by omega⟩ N0 L0 (by rw [List.length_append, plT_len]; simp; split <;> omega)
          rw [bd_t ey]
          refine ⟨hy, by simp; rfl, kp_t k0 by', fun T hT => ?_⟩
          rw [← Option.some.inj hT]
          rw [List.nil_append] at ay
          exact ay
        · rw [if_pos (by rw [iI_lt ⟨by omega, by omega⟩ ⟨by omega, by omega⟩]; omega)]
          simp only [if_neg (show ¬ ((nd c : Int) + e ≤ dgs ∧ -e ≤ 2 * (dgs : Int)) from fun y => z2 y.2)]
          rw [bd_t ex]
          refine ⟨hx, by simp; rfl, kp_t k0 bx, fun T hT => ?_⟩
          rw [← Option.some.inj hT]
          exact ax
      · rw [if_pos (by rw [iI_lt ⟨by omega, by omega⟩ ⟨by omega, by omega⟩]; omega)]
        simp only [if_neg (show ¬ ((nd c : Int) + e ≤ dgs ∧ -e ≤ 2 * (dgs : Int)) from fun y => z y.1)]
        rw [bd_t ex]
        refine ⟨hx, by simp; rfl, kp_t k0 bx, fun T hT => ?_⟩
        rw [← Option.some.inj hT]
        exact ax
end
section
/-! PURE 13: writing: the reference's writer; what is kept -/
def isW (h : Hp) (bs : List Nat) : Prop := h 46 13 = iI (bs.length : Int) ∧ ∀ k, k < bs.length → k < 1600 → h 55 k = iI (bs.getD k 0 : Int)
def kw (h h' : Hp) : Prop := (∀ j, j ≠ 46 → j ≠ 55 → h' j = h j) ∧ ∀ k, k ≠ 13 → h' 46 k = h 46 k
theorem kw_r (h : Hp) : kw h h := ⟨fun _ _ _ => rfl, fun _ _ => rfl⟩
theorem kw_t {h h1 h2 : Hp} (x : kw h h1) (y : kw h1 h2) : kw h h2 := ⟨fun j p q => (y.1 j p q).trans (x.1 j p q), fun k p => (y.2 k p).trans (x.2 k p)⟩
theorem isM_kw {h h' : Hp} {z c : Nat} {s e : Int} (H : isM h z s c e) (k : kw h h') : isM h' z s c e := by
  obtain ⟨h1, h2, h3, h4, h5⟩ := H
  exact ⟨by rw [k.1 51 (by omega) (by omega)]; exact h1, by rw [k.1 52 (by omega) (by omega)]; exact h2, by rw [k.1 53 (by omega) (by omega)]; exact h3, h4, fun q hq => by rw [k.1 50 (by omega) (by omega)]; exact h5 q hq⟩
theorem M_letter {h : Hp} {bs : List Nat} {b : Nat} (H : isW h bs) (hl : bs.length < 1000000) : ∃ h', f_M_letter (iI (b : Int)) h = some ((), h') ∧ isW h' (bs ++ [b]) ∧ kw h h' := by
  obtain ⟨h1, h2⟩ := H
  unfold f_M_letter
  rw [h1]
  by_cases q : 1600 ≤ bs.length
  · rw [if_pos (by rw [show (1600 : Int32) = iI 1600 from rfl, iI_le ⟨by omega, by omega⟩ ⟨by omega, by omega⟩]; omega), scN]
    refine ⟨_, rfl, ⟨by rw [up2_s, List.length_append]; rfl, fun k hk hk2 => ?_⟩, fun j a _ => up2_ne _ _ _ a, fun k a => up2_k _ _ _ a⟩
    rw [up2_o _ _ _ _ (by omega), gD_l (by omega)]
    exact h2 k (by omega) hk2
  · rw [if_neg (by rw [show (1600 : Int32) = iI 1600 from rfl, iI_le ⟨by omega, by omega⟩ ⟨by omega, by omega⟩]; omega), chk_t (iI_inR (by omega) (by omega) (by omega)), clN (by omega), up2_o _ _ _ _ (by omega : (46 : Nat) ≠ 55), h1, scN]
    refine ⟨_, rfl, ⟨by rw [up2_s, List.length_append]; rfl, fun k hk hk2 => ?_⟩, fun j a b => by rw [up2_ne _ _ _ a, up2_ne _ _ _ b], fun k a => by rw [up2_k _ _ _ a, up2_o _ _ _ _ (by omega)]⟩
    rw [up2_o _ _ _ _ (by omega)]
    rw [List.length_append] at hk
    simp at hk
    by_cases y : k < bs.length
    · rw [gD_l y, up2_k _ _ _ (by omega)]
      exact h2 k y hk2
    · rw [gD_r (by omega), show k = bs.length by omega, up2_s]
      simp
theorem isW_0 (h : Hp) : isW (up2 h 46 13 0) [] := ⟨by rw [up2_s]; rfl, fun k hk => absurd hk (Nat.not_lt_zero k)⟩
theorem kw_0 (h : Hp) (v : Int32) : kw h (up2 h 46 13 v) := ⟨fun j a _ => up2_ne _ _ _ a, fun k a => up2_k _ _ _ a⟩
def dP (c : Nat) (e : Int) : Nat → Nat → List Nat
  | 0, _ => []
  | m + 1, k => (if k = 1 then [46] else []) ++ (48 + dp c e (-(k : Int))) :: dP c e m (k + 1)
theorem dP_2 (c : Nat) (e : Int) : ∀ m k, 1 < k → dP c e m k = dB c e m k
  | 0, _, _ => rfl
  | m + 1, k, h => by rw [dP, dB, if_neg (by omega), dP_2 c e m (k + 1) (by omega)]; rfl
theorem dP_1 (c : Nat) (e : Int) (m : Nat) : dP c e m 1 = if m = 0 then [] else 46 :: dB c e m 1 := by
  cases m with
  | zero => rfl
  | succ m => rw [dP, if_pos rfl, if_neg (by omega), dB, dP_2 c e m _ (by omega)]; rfl
theorem dP_len (c : Nat) (e : Int) : ∀ m k, (dP c e m k).length ≤ 2 * m
  | 0, _ => Nat.le_refl _
  | m + 1, k => by
    have := dP_len c e m (k + 1)
    rw [dP, List.length_append, List.length_cons]
    split
    · simp; omega
    · simp; omega
/-- written, or too long -/
def wOut (h h' : Hp) (bs T : List Nat) : Prop := ∃ T', isW h' (bs ++ T') ∧ kw h h' ∧ T'.length ≤ T.length ∧ (T' = T ∨ 1600 ≤ (bs ++ T').length)
theorem wOut_nil {h : Hp} {bs T : List Nat} (H : isW h bs) (hh : 1600 ≤ bs.length) : wOut h h bs T := ⟨[], by rw [List.append_nil]; exact H, kw_r _, Nat.zero_le _, Or.inr (by rw [List.append_nil]; exact hh)⟩
theorem wOut_0 {h : Hp} {bs : List Nat} (H : isW h bs) : wOut h h bs [] := ⟨[], by rw [List.append_nil]; exact H, kw_r _, Nat.le_refl _, Or.inl rfl⟩
theorem wOut_t {h h1 h2 : Hp} {bs U T : List Nat} (k : kw h h1) (w : wOut h1 h2 (bs ++ U) T) : wOut h h2 bs (U ++ T) := by
  obtain ⟨T', a, b, c, d⟩ := w
  refine ⟨U ++ T', by rw [← List.append_assoc]; exact a, kw_t k b, by rw [List.length_append, List.length_append]; omega, ?_⟩
  rcases d with d | d
  · exact Or.inl (by rw [d])
  · exact Or.inr (by rw [← List.append_assoc]; exact d)
theorem M_pB {z c pl : Nat} {s e : Int} (hz : z < 5) (he : -100000000 ≤ e ∧ e ≤ 100000000) (hp : pl ≤ 100000) : ∀ (m k n : Nat) (h : Hp) (bs : List Nat), k + m = pl + 1 → 0 < k → m < n → isM h z s c e → isW h bs → bs.length + 2 * m < 1000000 → ∃ h', f_M_plain_3 n (iI (z : Int)) (iI (-(pl : Int))) (iI (-(k : Int))) h = some ((), h') ∧ wOut h h' bs (dP c e m k) := by
  intro m
  induction m with
  | zero =>
    intro k n h bs hk hk0 hn M W hl
    obtain ⟨n, rfl⟩ : ∃ q, n = q + 1 := ⟨n - 1, by omega⟩
    rw [f_M_plain_3, if_pos (by rw [iI_lt ⟨by omega, by omega⟩ ⟨by omega, by omega⟩]; omega)]
    exact ⟨h, rfl, wOut_0 W⟩
  | succ m ih =>
    intro k n h bs hk hk0 hn M W hl
    obtain ⟨n, rfl⟩ : ∃ q, n = q + 1 := ⟨n - 1, by omega⟩
    rw [f_M_plain_3, if_neg (by rw [iI_lt ⟨by omega, by omega⟩ ⟨by omega, by omega⟩]; omega), W.1]
    by_cases q : 1600 ≤ bs.length
    · rw [if_pos (by rw [show (1600 : Int32) = iI 1600 from rfl, iI_le ⟨by omega, by omega⟩ ⟨by omega, by omega⟩]; omega)]
      exact ⟨h, rfl, wOut_nil W q⟩
    · rw [if_neg (by rw [show (1600 : Int32) = iI 1600 from rfl, iI_le ⟨by omega, by omega⟩ ⟨by omega, by omega⟩]; omega)]
      have step : ∀ (h1 : Hp) (b1 : List Nat), kw h h1 → isW h1 (bs ++ b1) → b1.length ≤ 1 → ∃ h', f_M_plain_31 (fun v1 v3 v4 h => f_M_plain_3 n v1 v3 v4 h) (iI (z : Int)) (iI (-(pl : Int))) (iI (-(k : Int))) h1 = some ((), h') ∧ wOut h h' bs (b1 ++ (48 + dp c e (-(k : Int))) :: dP c e m (k + 1)) := by
        intro h1 b1 k1 W1 hb
        have M1 := isM_kw M k1
        obtain ⟨h2, e2, W2, k2⟩ := M_letter (b := 48 + dp c e (-(k : Int))) W1 (by rw [List.length_append]; omega)
        obtain ⟨h3, e3, w3⟩ := ih (k + 1) n h2 _ (by omega) (by omega) (by omega) (isM_kw M1 k2) W2 (by rw [List.length_append, List.length_append]; simp; omega)
        unfold f_M_plain_31
        rw [bd_t (M_digit hz M1 (by omega) (by omega)), i48, bd_t e2, im1, iI_add]
        refine ⟨h3, ?_, ?_⟩
        · rw [← e3, show -(k : Int) + -1 = -((k + 1 : Nat) : Int) by omega]
        · refine wOut_t k1 (wOut_t (U := [48 + dp c e (-(k : Int))]) k2 w3)
      rw [dP]
      by_cases y : k = 1
      · rw [if_pos (by rw [y]; rfl), if_pos y]
        obtain ⟨h1, e1, W1, k1⟩ := M_letter (b := 46) W (by omega)
        rw [show (46 : Int32) = iI ((46 : Nat) : Int) from rfl, bd_t e1]
        exact step h1 [46] k1 W1 (by simp)
      · rw [if_neg (by rw [im1, iI_eq ⟨by omega, by omega⟩ ⟨by omega, by omega⟩]; omega), if_neg y]
        exact step h [] (kw_r _) (by rw [List.append_nil]; exact W) (by simp)
theorem M_pA {z c pl : Nat} {s e : Int} (hz : z < 5) (he : -100000000 ≤ e ∧ e ≤ 100000000) (hp : pl ≤ 100000) : ∀ (m n : Nat) (h : Hp) (bs : List Nat), m + pl < n → isM h z s c e → isW h bs → bs.length + m + 2 * pl < 1000000 → ∃ h', f_M_plain_3 n (iI (z : Int)) (iI (-(pl : Int))) (iI ((m : Int) - 1)) h = some ((), h') ∧ wOut h h' bs (plT c e m pl) := by
  intro m
  induction m with
  | zero =>
    intro n h bs hn M W hl
    obtain ⟨h', e', w'⟩ := M_pB (pl := pl) hz he hp pl 1 n h bs (by omega) (by omega) (by omega) M W (by omega)
    refine ⟨h', e', ?_⟩
    unfold plT
    rw [dA, List.nil_append, ← dP_1]
    exact w'
  | succ m ih =>
    intro n h bs hn M W hl
    obtain ⟨n, rfl⟩ : ∃ q, n = q + 1 := ⟨n - 1, by omega⟩
    rw [show ((m + 1 : Nat) : Int) - 1 = (m : Int) by omega, f_M_plain_3, if_neg (by rw [iI_lt ⟨by omega, by omega⟩ ⟨by omega, by omega⟩]; omega), W.1]
    by_cases q : 1600 ≤ bs.length
    · rw [if_pos (by rw [show (1600 : Int32) = iI 1600 from rfl, iI_le ⟨by omega, by omega⟩ ⟨by omega, by omega⟩]; omega)]
      exact ⟨h, rfl, wOut_nil W q⟩
    · rw [if_neg (by rw [show (1600 : Int32) = iI 1600 from rfl, iI_le ⟨by omega, by omega⟩ ⟨by omega, by omega⟩]; omega), if_neg (by rw [im1, iI_eq ⟨by omega, by omega⟩ ⟨by omega, by omega⟩]; omega)]
      obtain ⟨h2, e2, W2, k2⟩ := M_letter (b := 48 + dp c e (m : Int)) W (by omega)
      obtain ⟨h3, e3, w3⟩ := ih n h2 _ (by omega) (isM_kw M k2) W2 (by rw [List.length_append]; simp; omega)
      unfold f_M_plain_31
      rw [bd_t (M_digit hz M (by omega) (by omega)), i48, bd_t e2, im1, iI_add]
      refine ⟨h3, e3, ?_⟩
      exact wOut_t (U := [48 + dp c e (m : Int)]) k2 w3
theorem M_338 {h : Hp} {v : Nat} {bs : List Nat} (hv : v < 100000) (W : isW h bs) (hl : bs.length < 1000) : ∃ h', f_M_write_338 (iI (v : Int)) h = some (0, h') ∧ isW h' (bs ++ [48 + v % 10]) ∧ kw h h' := by
  unfold f_M_write_338
  obtain ⟨h1, e1, W1, k1⟩ := M_letter (b := 48 + v % 10) W (by omega)
  rw [dm (by omega), i48, bd_t e1]
  exact ⟨h1, rfl, W1, k1⟩
theorem M_316 {h : Hp} {v : Nat} {bs : List Nat} (hv : v < 100000) (W : isW h bs) (hl : bs.length < 900) : ∃ h', f_M_write_316 (iI (v : Int)) h = some (0, h') ∧ isW h' (bs ++ ((if v < 10 then [] else [48 + v / 10 % 10]) ++ [48 + v % 10])) ∧ kw h h' := by
  unfold f_M_write_316
  by_cases q : v < 10
  · rw [if_pos (by rw [show (9 : Int32) = iI 9 from rfl, iI_le ⟨by omega, by omega⟩ ⟨by omega, by omega⟩]; omega), if_pos q]
    exact M_338 hv W (by omega)
  · rw [if_neg (by rw [show (9 : Int32) = iI 9 from rfl, iI_le ⟨by omega, by omega⟩ ⟨by omega, by omega⟩]; omega), if_neg q]
    obtain ⟨h1, e1, W1, k1⟩ := M_letter (b := 48 + v / 10 % 10) W (by omega)
    rw [dq (by omega), dm (by omega), i48, bd_t e1]
    obtain ⟨h2, e2, W2, k2⟩ := M_338 hv W1 (by rw [List.length_append]; simp; omega)
    exact ⟨h2, e2, by rw [List.append_assoc] at W2; exact W2, kw_t k1 k2⟩
theorem M_295 {h : Hp} {v : Nat} {bs : List Nat} (hv : v < 10000) (W : isW h bs) (hl : bs.length < 800) : ∃ h', f_M_write_295 (iI (v : Int)) h = some (0, h') ∧ isW h' (bs ++ exN v) ∧ kw h h' := by
  unfold f_M_write_295 exN
  by_cases q : v < 100
  · rw [if_pos (by rw [show (99 : Int32) = iI 99 from rfl, iI_le ⟨by omega, by omega⟩ ⟨by omega, by omega⟩]; omega), if_pos q]
    exact M_316 (by omega) W (by omega)
  · rw [if_neg (by rw [show (99 : Int32) = iI 99 from rfl, iI_le ⟨by omega, by omega⟩ ⟨by omega, by omega⟩]; omega), if_neg q]
    obtain ⟨h1, e1, W1, k1⟩ := M_letter (b := 48 + v / 100) W (by omega)
    rw [dq2 (by omega), i48, bd_t e1]
    obtain ⟨h2, e2, W2, k2⟩ := M_316 (v := v) (by omega) W1 (by rw [List.length_append]; simp; omega)
    exact ⟨h2, e2, by rw [List.append_assoc] at W2; exact W2, kw_t k1 k2⟩
theorem M_210 {z c a : Nat} {s e p : Int} (hz : z < 5) (hc0 : 0 < c) (hp : -999 ≤ p ∧ p ≤ 999) (ha : a ≤ 2) : ∀ (m k n : Nat) (h : Hp) (bs : List Nat), m = nd c - k → k ≤ 200 → m < n → nd c ≤ 100 → isM h z s c e → isW h bs → bs.length + m < 600 → ∃ h', f_M_write_210 n (iI (z : Int)) (iI p) (iI (a : Int)) (iI (k : Int)) h = some (0, h') ∧ isW h' (bs ++ (dC c m k ++ exT (p - ((a + 1 : Nat) : Int) + 1))) ∧ kw h h' := by
  have em := mn_c hc0
  intro m
  induction m with
  | zero =>
    intro k n h bs hk hk2 hn hc M W hl
    obtain ⟨n, rfl⟩ : ∃ q, n = q + 1 := ⟨n - 1, by omega⟩
    rw [f_M_write_210, chk_t (inz hz)]
    simp only [clz hz, M.1]
    rw [if_pos (by rw [em, iI_le ⟨by omega, by omega⟩ ⟨by omega, by omega⟩]; omega), iI_sub, dC, List.nil_append, show p - ((a + 1 : Nat) : Int) + 1 = p - (a : Int) by omega]
    unfold exT
    by_cases q : p - (a : Int) = 0
    · rw [if_pos (by rw [q]; rfl), if_pos q, List.append_nil]
      exact ⟨h, rfl, W, kw_r _⟩
    · rw [if_neg (by rw [i0, iI_eq ⟨by omega, by omega⟩ ⟨by omega, by omega⟩]; exact q), if_neg q]
      obtain ⟨h1, e1, W1, k1⟩ := M_letter (b := 69) W (by omega)
      rw [show (69 : Int32) = iI ((69 : Nat) : Int) from rfl, bd_t e1]
      by_cases q2 : 0 ≤ p - (a : Int)
      · rw [if_pos (by rw [i0, iI_le ⟨by omega, by omega⟩ ⟨by omega, by omega⟩]; exact q2), if_pos q2]
        obtain ⟨h2, e2, W2, k2⟩ := M_letter (b := 43) W1 (by rw [List.length_append]; simp; omega)
        obtain ⟨h3, e3, W3, k3⟩ := M_295 (v := (p - (a : Int)).natAbs) (by omega) W2 (by rw [List.length_append, List.length_append]; simp; omega)
        rw [show (43 : Int32) = iI ((43 : Nat) : Int) from rfl, bd_t e2, if_pos (by rw [i0, iI_le ⟨by omega, by omega⟩ ⟨by omega, by omega⟩]; exact q2)]
        refine ⟨h3, ?_, by rw [List.append_assoc, List.append_assoc] at W3; exact W3, kw_t (kw_t k1 k2) k3⟩
        rw [← e3]
        congr 2
        omega
      · rw [if_neg (by rw [i0, iI_le ⟨by omega, by omega⟩ ⟨by omega, by omega⟩]; exact q2), if_neg q2]
        obtain ⟨h2, e2, W2, k2⟩ := M_letter (b := 45) W1 (by rw [List.length_append]; simp; omega)
        obtain ⟨h3, e3, W3, k3⟩ := M_295 (v := (p - (a : Int)).natAbs) (by omega) W2 (by rw [List.length_append, List.length_append]; simp; omega)
        rw [show (45 : Int32) = iI ((45 : Nat) : Int) from rfl, bd_t e2, if_neg (by rw [i0, iI_le ⟨by omega, by omega⟩ ⟨by omega, by omega⟩]; exact q2), iI_neg]
        refine ⟨h3, ?_, by rw [List.append_assoc, List.append_assoc] at W3; exact W3, kw_t (kw_t k1 k2) k3⟩
        rw [← e3]
        congr 2
        omega
  | succ m ih =>
    intro k n h bs hk hk2 hn hc M W hl
    obtain ⟨n, rfl⟩ : ∃ q, n = q + 1 := ⟨n - 1, by omega⟩
    have ed : dz c (k : Int) = dg c (mn c) k := by unfold dz; rw [if_pos (by omega), Int.toNat_natCast, em]
    obtain ⟨h1, e1, W1, k1⟩ := M_letter (b := 48 + dz c (k : Int)) W (by omega)
    obtain ⟨h2, e2, W2, k2⟩ := ih (k + 1) n h1 _ (by omega) (by omega) (by omega) hc (isM_kw M k1) W1 (by rw [List.length_append]; simp; omega)
    refine ⟨h2, ?_, by rw [dC]; rw [List.append_assoc] at W2; exact W2, kw_t k1 k2⟩
    rw [f_M_write_210, chk_t (inz hz)]
    simp only [clz hz, M.1, ixN]
    rw [if_neg (by rw [em, iI_le ⟨by omega, by omega⟩ ⟨by omega, by omega⟩]; omega), chk_t (ixR hz (by omega)), clN (by omega), M.2.2.2.2 k (by omega), ← ed, i48, bd_t e1, scN]
    exact e2
theorem M_136 {z c a : Nat} {s e p : Int} (hz : z < 5) (hc0 : 0 < c) (hp : -999 ≤ p ∧ p ≤ 999) (ha : a ≤ 2) : ∀ (m k n : Nat) (h : Hp) (bs : List Nat), k + m = a + 1 → m < n → nd c ≤ 100 → isM h z s c e → isW h bs → bs.length + m < 300 → ∃ h', f_M_write_136 n (iI (z : Int)) (iI p) (iI (a : Int)) (iI (k : Int)) h = some (0, h') ∧ isW h' (bs ++ (dC c m k ++ ((if nd c ≤ a + 1 then [] else [46]) ++ (dC c (nd c - (a + 1)) (a + 1) ++ exT (p - ((a + 1 : Nat) : Int) + 1))))) ∧ kw h h' := by
  have em := mn_c hc0
  intro m
  induction m with
  | zero =>
    intro k n h bs hk hn hc M W hl
    obtain ⟨n, rfl⟩ : ∃ q, n = q + 1 := ⟨n - 1, by omega⟩
    rw [f_M_write_136, if_pos (by rw [iI_lt ⟨by omega, by omega⟩ ⟨by omega, by omega⟩]; omega), chk_t (inz hz)]
    simp only [clz hz, M.1, scN]
    by_cases q : nd c ≤ a + 1
    · rw [if_pos (by rw [em, iI_le ⟨by omega, by omega⟩ ⟨by omega, by omega⟩]; omega), if_pos q]
      exact M_210 hz hc0 hp ha (nd c - (a + 1)) (a + 1) fuel h bs rfl (by omega) (by unfold fuel; omega) hc M W (by omega)
    · rw [if_neg (by rw [em, iI_le ⟨by omega, by omega⟩ ⟨by omega, by omega⟩]; omega), if_neg q]
      obtain ⟨h1, e1, W1, k1⟩ := M_letter (b := 46) W (by omega)
      rw [show (46 : Int32) = iI ((46 : Nat) : Int) from rfl, bd_t e1]
      obtain ⟨h2, e2, W2, k2⟩ := M_210 hz hc0 hp ha (nd c - (a + 1)) (a + 1) fuel h1 _ rfl (by omega) (by unfold fuel; omega) hc (isM_kw M k1) W1 (by rw [List.length_append]; simp; omega)
      exact ⟨h2, e2, by rw [List.append_assoc] at W2; exact W2, kw_t k1 k2⟩
  | succ m ih =>
    intro k n h bs hk hn hc M W hl
    obtain ⟨n, rfl⟩ : ∃ q, n = q + 1 := ⟨n - 1, by omega⟩
    obtain ⟨h1, e1, W1, k1⟩ := M_letter (b := 48 + dz c (k : Int)) W (by omega)
    obtain ⟨h2, e2, W2, k2⟩ := ih (k + 1) n h1 _ (by omega) (by omega) hc (isM_kw M k1) W1 (by rw [List.length_append]; simp; omega)
    refine ⟨h2, ?_, by rw [dC]; rw [List.append_assoc] at W2; exact W2, kw_t k1 k2⟩
    rw [f_M_write_136, if_neg (by rw [iI_lt ⟨by omega, by omega⟩ ⟨by omega, by omega⟩]; omega), chk_t (inz hz)]
    simp only [clz hz, M.1, ixN]
    by_cases q : nd c ≤ k
    · have ed : dz c (k : Int) = 0 := by unfold dz; rw [if_neg (by omega)]
      rw [ed] at e1
      rw [if_pos (by rw [em, iI_le ⟨by omega, by omega⟩ ⟨by omega, by omega⟩]; omega), show (48 : Int32) = iI ((48 + 0 : Nat) : Int) from rfl, bd_t e1, scN]
      exact e2
    · have ed : dz c (k : Int) = dg c (mn c) k := by unfold dz; rw [if_pos (by omega), Int.toNat_natCast, em]
      rw [if_neg (by rw [em, iI_le ⟨by omega, by omega⟩ ⟨by omega, by omega⟩]; omega), chk_t (ixR hz (by omega)), clN (by omega), M.2.2.2.2 k (by omega), ← ed, i48, bd_t e1, scN]
      exact e2
theorem fm_tab2 : ∀ p : Nat, p < 1999 → iI ((p : Int) - 999) - iI ((p : Int) - 999) / 3 * 3 + 3 - (iI ((p : Int) - 999) - iI ((p : Int) - 999) / 3 * 3 + 3) / 3 * 3 = iI (((p : Int) - 999) % 3) := by decide +kernel
theorem M_wr {z dgs fm : Nat} {t : Int × Nat × Int} {h : Hp} (hz : z < 5) (hd : 0 < dgs) (hd2 : dgs ≤ 20) (hf : fm ≤ 1) (h4 : h 46 4 = iI (dgs : Int)) (h6 : h 46 6 = iI (fm : Int)) (ok : okN 100000000 20 t) (M : isM h z t.1 t.2.1 t.2.2) : ∃ h', f_M_write (iI (z : Int)) h = some (iI (if wrT dgs fm t = none then 42 else 0), h') ∧ kw h h' ∧ ∀ T, wrT dgs fm t = some T → isW h' T := by
  obtain ⟨s, c, e⟩ := t
  obtain ⟨o1, o2, o3, o4, o5, o6⟩ := ok
  have p1 : isS s := o1
  have p3 : c = 0 → e = 0 := o3
  have p4 : -(100000000 : Int) ≤ e := o4
  have p5 : e ≤ 100000000 := o5
  have p6 : nd c ≤ 20 := o6
  have M0 : isM h z s c e := M
  clear o1 o2 o3 o4 o5 o6 M
  have hfp : fp c e = if c = 0 then 0 else (nd c : Int) + e - 1 := rfl
  have hmn : mn c = max 1 (nd c) := rfl
  have ehi : (mn c : Int) - 1 + e = fp c e := by
    rw [hfp]
    by_cases c0 : c = 0
    · rw [if_pos c0, p3 c0, c0]; rfl
    · rw [if_neg c0, mn_c (by omega)]; omega
  have hbf : -100000001 ≤ fp c e ∧ fp c e ≤ 100000021 := by rw [hfp]; split <;> omega
  have main : ∀ h1 : Hp, kw h h1 → isW h1 (sgT s) → ∃ h', f_M_write_20 (iI (z : Int)) h1 = some (iI (if wrT dgs fm (s, c, e) = none then 42 else 0), h') ∧ kw h1 h' ∧ ∀ T, wrT dgs fm (s, c, e) = some T → isW h' T := by
    intro h1 k1 W1
    have M1 := isM_kw M0 k1
    have hs2 : (sgT s).length ≤ 1 := by rw [sgT_len s]; split <;> omega
    have a4 : h1 46 4 = iI (dgs : Int) := (k1.2 4 (by omega)).trans h4
    have a6 : h1 46 6 = iI (fm : Int) := (k1.2 6 (by omega)).trans h6
    have W89 : ¬ ((nd c : Int) + e ≤ dgs ∧ -e ≤ 2 * (dgs : Int)) → ∃ h', f_M_write_89 (iI (z : Int)) h1 = some (iI (if wrT dgs fm (s, c, e) = none then 42 else 0), h') ∧ kw h1 h' ∧ ∀ T, wrT dgs fm (s, c, e) = some T → isW h' T := by
      intro np
      have hc0 : 0 < c := by
        rcases Nat.eq_zero_or_pos c with y | y
        · exfalso
          apply np
          rw [p3 y, y, nd_0]
          omega
        · exact y
      unfold f_M_write_89 wrT
      rw [bd_t (M_high hz M1), ehi, a6]
      show ∃ h', _ = some (iI (if (if 999 < fp c e ∨ fp c e < -999 then none else _) = none then 42 else 0), h') ∧ _ ∧ _
      by_cases q : 999 < fp c e
      · rw [if_pos (by rw [show (999 : Int32) = iI 999 from rfl, iI_lt ⟨by omega, by omega⟩ ⟨by omega, by omega⟩]; exact q)]
        simp only [if_pos (show 999 < fp c e ∨ fp c e < -999 from Or.inl q)]
        exact ⟨h1, by simp; rfl, kw_r _, fun T hT => by cases hT⟩
      · rw [if_neg (by rw [show (999 : Int32) = iI 999 from rfl, iI_lt ⟨by omega, by omega⟩ ⟨by omega, by omega⟩]; exact q)]
        by_cases q2 : fp c e < -999
        · rw [if_neg (by rw [show (-999 : Int32) = iI (-999) from rfl, iI_le ⟨by omega, by omega⟩ ⟨by omega, by omega⟩]; omega)]
          simp only [if_pos (show 999 < fp c e ∨ fp c e < -999 from Or.inr q2)]
          exact ⟨h1, by simp; rfl, kw_r _, fun T hT => by cases hT⟩
        · rw [if_pos (by rw [show (-999 : Int32) = iI (-999) from rfl, iI_le ⟨by omega, by omega⟩ ⟨by omega, by omega⟩]; omega)]
          simp only [if_neg (show ¬ (999 < fp c e ∨ fp c e < -999) from by omega), if_neg (show ¬ ((nd c : Int) + e ≤ dgs ∧ -e ≤ 2 * (dgs : Int)) from np)]
          have ha : exA fm (fp c e) - 1 ≤ 2 := by unfold exA; split <;> omega
          have ha1 : exA fm (fp c e) - 1 + 1 = exA fm (fp c e) := by unfold exA; split <;> omega
          obtain ⟨h2, e2, W2, k2⟩ := M_136 (a := exA fm (fp c e) - 1) (p := fp c e) hz hc0 (by omega) ha (exA fm (fp c e)) 0 fuel h1 _ (by omega) (by unfold fuel; omega) (by omega) M1 W1 (by omega)
          rw [ha1] at W2
          refine ⟨h2, ?_, k2, fun T hT => by rw [← Option.some.inj hT]; exact W2⟩
          rw [show iI ((0 : Nat) : Int) = (0 : Int32) from rfl] at e2
          by_cases f1 : fm = 1
          · rw [if_pos (by rw [f1]; rfl)]
            obtain ⟨k, hk⟩ : ∃ k : Nat, fp c e = (k : Int) - 999 := ⟨(fp c e + 999).toNat, by omega⟩
            have ea : ((exA fm (fp c e) - 1 : Nat) : Int) = fp c e % 3 := by unfold exA; rw [if_pos f1]; omega
            rw [ea] at e2
            have tb := fm_tab2 k (by omega)
            rw [← hk] at tb
            rw [tb, e2]
            simp
            rfl
          · rw [if_neg (by rw [i1, iI_eq ⟨by omega, by omega⟩ ⟨by omega, by omega⟩]; omega)]
            have ea : exA fm (fp c e) - 1 = 0 := by unfold exA; rw [if_neg f1]
            rw [ea] at e2
            rw [show iI ((0 : Nat) : Int) = (0 : Int32) from rfl] at e2
            rw [e2]
            simp
            rfl
    unfold f_M_write_20
    rw [bd_t (M_high hz M1), a4, ehi, i1, iI_add]
    by_cases z1 : (nd c : Int) + e ≤ dgs
    · have hcz : fp c e + 1 ≤ dgs := by rw [hfp]; split <;> omega
      rw [if_neg (by rw [iI_lt ⟨by omega, by omega⟩ ⟨by omega, by omega⟩]; omega), chk_t (inz hz)]
      simp only [clz hz, M1.2.1]
      rw [iI_neg, show (2 : Int32) = iI 2 from rfl, iI_mul]
      by_cases z2 : -e ≤ 2 * (dgs : Int)
      · rw [if_neg (by rw [iI_lt ⟨by omega, by omega⟩ ⟨by omega, by omega⟩]; omega)]
        have eA : aA c e = max 1 (fp c e + 1).toNat := by
          unfold aA
          rw [hfp]
          by_cases y : c = 0
          · rw [if_pos y, y, nd_0, p3 y]; rfl
          · rw [if_neg y]; congr 2; omega
        have hrange : ¬ (999 < fp c e ∨ fp c e < -999) := by rw [hfp]; split <;> omega
        have ew : wrT dgs fm (s, c, e) = some (sgT s ++ plT c e (aA c e) (-e).toNat) := by
          unfold wrT
          simp only [if_neg hrange, if_pos (show (nd c : Int) + e ≤ dgs ∧ -e ≤ 2 * (dgs : Int) from ⟨z1, z2⟩)]
        have hal : aA c e ≤ 20 := by rw [eA]; omega
        obtain ⟨h2, e2, T', w1, w2, w3, w4⟩ := M_pA (pl := (-e).toNat) hz ⟨by omega, by omega⟩ (by omega) (aA c e) fuel h1 (sgT s) (by unfold fuel; omega) M1 W1 (by omega)
        have eT : T' = plT c e (aA c e) (-e).toNat := by
          rcases w4 with y | y
          · exact y
          · exfalso
            rw [List.length_append] at y
            rw [plT_len] at w3
            split at w3 <;> omega
        rw [ew]
        have e65 : ∀ v : Int, v = (aA c e : Int) - 1 → f_M_write_65 (iI (z : Int)) (iI (z : Int)) (iI v) h1 = some (0, h2) := by
          intro v hv
          unfold f_M_write_65 f_M_plain
          rw [chk_t (inz hz), chk_t (inz hz)]
          simp only [clz hz, M1.2.1]
          by_cases y : 0 ≤ e
          · rw [if_pos (by rw [i0, iI_le ⟨by omega, by omega⟩ ⟨by omega, by omega⟩]; exact y)]
            have : (-((-e).toNat : Int)) = 0 := by omega
            rw [this, ← hv] at e2
            rw [i0, bd_t e2]
          · rw [if_neg (by rw [i0, iI_le ⟨by omega, by omega⟩ ⟨by omega, by omega⟩]; exact y)]
            have : (-((-e).toNat : Int)) = e := by omega
            rw [this, ← hv] at e2
            rw [bd_t e2]
        refine ⟨h2, ?_, w2, fun T hT => by rw [← Option.some.inj hT, ← eT]; exact w1⟩
        by_cases y : fp c e + 1 ≤ 0
        · rw [if_pos (by rw [i0, iI_le ⟨by omega, by omega⟩ ⟨by omega, by omega⟩]; exact y), i0, e65 0 (by rw [eA]; omega)]
          simp
          rfl
        · rw [if_neg (by rw [i0, iI_le ⟨by omega, by omega⟩ ⟨by omega, by omega⟩]; exact y), iI_sub, e65 _ (by rw [eA]; omega)]
          simp
          rfl
      · rw [if_pos (by rw [iI_lt ⟨by omega, by omega⟩ ⟨by omega, by omega⟩]; omega)]
        exact W89 (fun y => z2 y.2)
    · have hcz : ¬ fp c e + 1 ≤ dgs := by
        rw [hfp]
        by_cases c0 : c = 0
        · exfalso; rw [c0, nd_0, p3 c0] at z1; omega
        · rw [if_neg c0]; omega
      rw [if_pos (by rw [iI_lt ⟨by omega, by omega⟩ ⟨by omega, by omega⟩]; omega)]
      exact W89 (fun y => z1 y.1)
  unfold f_M_write
  rw [chk_t (inz hz)]
  simp only [clz hz, up2_o _ _ _ _ (by omega : (53 : Nat) ≠ 46), M0.2.2.1]
  by_cases q : s < 0
  · rw [if_neg (by rw [i0, iI_le ⟨by omega, by omega⟩ ⟨by unfold isS at p1; omega, by unfold isS at p1; omega⟩]; omega)]
    obtain ⟨h1, e1, W1, k1⟩ := M_letter (b := 45) (isW_0 h) (by show 0 < 1000000; omega)
    rw [show (45 : Int32) = iI ((45 : Nat) : Int) from rfl, bd_t e1]
    obtain ⟨h2, e2, k2, w2⟩ := main h1 (kw_t (kw_0 _ _) k1) (by unfold sgT; rw [if_pos q]; exact W1)
    exact ⟨h2, e2, kw_t (kw_t (kw_0 _ _) k1) k2, w2⟩
  · rw [if_pos (by rw [i0, iI_le ⟨by omega, by omega⟩ ⟨by unfold isS at p1; omega, by unfold isS at p1; omega⟩]; omega)]
    obtain ⟨h2, e2, k2, w2⟩ := main (up2 h 46 13 0) (kw_0 _ _) (by unfold sgT; rw [if_neg q]; exact isW_0 h)
    exact ⟨h2, e2, kw_t (kw_0 _ _) k2, w2⟩
end
section
/-! PURE 14: scratch cells; answers; turn, whole, about -/
def fr (h h' : Hp) : Prop := ∀ j, j < 24 ∨ 46 ≤ j → h' j = h j
theorem fr_r (h : Hp) : fr h h := fun _ _ => rfl
theorem fr_t {h h1 h2 : Hp} (x : fr h h1) (y : fr h1 h2) : fr h h2 := fun j q => (y j q).trans (x j q)
theorem lo_fr {h h' : Hp} (x : fr h h') : lo h h' := fun j q => x j (Or.inr q)
theorem SC_fr {h h' : Hp} {s : St} (H : SC h s) (k : fr h h') : SC h' s := by
  obtain ⟨a, b, c, d, e⟩ := H
  exact ⟨isL_eq a (k 1 (by omega)) (k 2 (by omega)), fun r hr => isL_eq (b r hr) (k _ (by omega)) (k _ (by omega)), by rw [k 0 (by omega)]; exact c, by rw [k 0 (by omega)]; exact d, by rw [k 0 (by omega)]; exact e⟩
theorem fr_kr {h h' : Hp} {i : Nat} (h1 : 24 ≤ i) (h2 : i < 45) (x : kr h h' i) : fr h h' := fun j q => x j (by omega) (by omega) (by omega)
theorem fr_kp {h h' : Hp} {a b : Nat} (h1 : 24 ≤ a) (h2 : a < 46) (h3 : 24 ≤ b) (h4 : b < 46) (x : kp h h' a b) : fr h h' := fun j q => x j (by omega) (by omega)
theorem fr_up (h : Hp) {i : Nat} (k : Nat) (v : Int32) (h1 : 24 ≤ i) (h2 : i < 46) : fr h (up2 h i k v) := fun j q => up2_ne _ _ _ (by omega)
def fw (h h' : Hp) : Prop := (∀ j, j < 50 → j ≠ 46 → h' j = h j) ∧ ∀ k, k ≠ 13 → h' 46 k = h 46 k
theorem fw_r (h : Hp) : fw h h := ⟨fun _ _ _ => rfl, fun _ _ => rfl⟩
theorem fw_t {h h1 h2 : Hp} (x : fw h h1) (y : fw h1 h2) : fw h h2 := ⟨fun j p q => (y.1 j p q).trans (x.1 j p q), fun k p => (y.2 k p).trans (x.2 k p)⟩
theorem hi_fw {h h' : Hp} (x : fw h h') : hi h h' := fun j q => x.1 j (by omega) (by omega)
theorem fw_km {h h' : Hp} {z : Nat} (x : km h h' z) : fw h h' := ⟨fun j p _ => x.1 j (by omega) (by omega) (by omega) (by omega), fun k _ => by rw [x.1 46 (by omega) (by omega) (by omega) (by omega)]⟩
theorem fw_kw {h h' : Hp} (x : kw h h') : fw h h' := ⟨fun j p q => x.1 j q (by omega), x.2⟩
theorem SR_fw {h h' : Hp} {s : St} (H : SR h s) (k : fw h h') : SR h' s := by
  obtain ⟨⟨a1, a2⟩, b, c, d, e⟩ := H
  refine ⟨⟨by rw [k.2 1 (by omega)]; exact a1, fun q hq => by rw [k.1 47 (by omega) (by omega)]; exact a2 q hq⟩, fun r hr => ⟨by rw [k.1 49 (by omega) (by omega)]; exact (b r hr).1, fun q hq => by rw [k.1 48 (by omega) (by omega)]; exact (b r hr).2 q hq⟩, by rw [k.2 4 (by omega)]; exact c, by rw [k.2 5 (by omega)]; exact d, by rw [k.2 6 (by omega)]; exact e⟩
theorem oq_y {β : Type} {r : Int} {a : Option β} {b : Nat → Option β} (q : isReg r) : oq (if isReg r then some (4 + 2 * r.toNat) else none) a (fun j => chk (cLine j) (b j)) = b (4 + 2 * r.toNat) := by
  rw [if_pos q]
  exact chk_t (cLine_reg (by omega))
theorem oq_n {β : Type} {r : Int} {a : Option β} {b : Nat → Option β} (q : ¬ isReg r) : oq (if isReg r then some (4 + 2 * r.toNat) else none) a b = a := by rw [if_neg q]; rfl
-- ===== keeping =====
def sp_keep (T : List Nat) (r : Nat) (s : St) : Int32 × St := (iI (T.length : Int), (s.1, setR s.2.1 r T, s.2.2))
theorem okS_keep {T : List Nat} {r : Nat} {s : St} (H : okS s) (hT : okB T 200) : okS (sp_keep T r s).2 := by
  refine ⟨H.1, fun k hk => ?_, H.2.2⟩
  show okB (setR s.2.1 r T k) 200
  unfold setR
  split
  · exact hT
  · exact H.2.1 k hk
theorem isL_ok {h : Hp} {T : List Nat} (H : isL h 24 T) : okB T 200 := ⟨H.2.1, H.2.2.1⟩
theorem C_keep {r : Nat} {T : List Nat} {s : St} {h : Hp} (hr : r < 10) (H : SC h s) (L : isL h 24 T) : ∃ h', f_D_keepPage (4 + 2 * r) h = some ((sp_keep T r s).1, h') ∧ SC h' (sp_keep T r s).2 ∧ lo h h' := by
  obtain ⟨t, rg, rest⟩ := H
  have hT := L.2.1
  obtain ⟨h1, e1, H1, k1⟩ := L_copy (i := 4 + 2 * r) (by omega) (by omega) (by omega) L (by rw [bl_reg]; exact hT)
  unfold f_D_keepPage
  rw [bd_t e1]
  refine ⟨h1, by rw [H1.1]; rfl, ⟨isL_eq t (k1 1 (by omega) (by omega)) (k1 2 (by omega) (by omega)), fun k hk => ?_, by rw [k1 0 (by omega) (by omega)]; exact rest⟩, lo_kp k1 (by omega) (by omega)⟩
  show isL _ _ (setR s.2.1 r T k)
  unfold setR
  by_cases z : k = r
  · rw [if_pos z, z]; exact H1
  · rw [if_neg z]
    exact isL_eq (rg k hk) (k1 _ (by omega) (by omega)) (k1 _ (by omega) (by omega))
theorem M_keep_loop {r : Nat} {T : List Nat} (hr : r < 10) (hl : T.length ≤ 200) : ∀ (m k n : Nat) (h : Hp), k + m = T.length → m < n → isW h T → (∀ q, q < k → h 48 (200 * r + q) = iI (T.getD q 0 : Int)) → ∃ h', f_M_keep_12 n (iI (r : Int)) (iI (k : Int)) h = some (iI (T.length : Int), h') ∧ (∀ q, q < T.length → h' 48 (200 * r + q) = iI (T.getD q 0 : Int)) ∧ (∀ q, q < 200 * r ∨ 200 * r + 200 ≤ q → h' 48 q = h 48 q) ∧ ∀ j, j ≠ 48 → h' j = h j := by
  intro m
  induction m with
  | zero =>
    intro k n h hk hn W Hk
    obtain ⟨n, rfl⟩ : ∃ q, n = q + 1 := ⟨n - 1, by omega⟩
    rw [f_M_keep_12, W.1, if_pos (by rw [iI_le ⟨by omega, by omega⟩ ⟨by omega, by omega⟩]; omega)]
    exact ⟨h, rfl, fun q hq => Hk q (by omega), fun _ _ => rfl, fun _ _ => rfl⟩
  | succ m ih =>
    intro k n h hk hn W Hk
    obtain ⟨n, rfl⟩ : ∃ q, n = q + 1 := ⟨n - 1, by omega⟩
    have ea : (200 : Int32) * iI (r : Int) + iI (k : Int) = iI ((200 * r + k : Nat) : Int) := by rw [show (200 : Int32) = iI 200 from rfl, iI_mul, iI_add]; congr 1
    rw [f_M_keep_12, W.1, if_neg (by rw [iI_le ⟨by omega, by omega⟩ ⟨by omega, by omega⟩]; omega), chk_t (iI_inR (by omega) (by omega) (by omega)), ea, chk_t (inB hr (by omega)), clN (by omega), clN (by omega), W.2 k (by omega) (by omega), scN]
    obtain ⟨h', e, a, b, c⟩ := ih (k + 1) n (up2 h 48 (200 * r + k) (iI (T.getD k 0 : Int))) (by omega) (by omega) ⟨by rw [up2_o _ _ _ _ (by omega)]; exact W.1, fun q hq hq2 => by rw [up2_o _ _ _ _ (by omega)]; exact W.2 q hq hq2⟩ (fun q hq => by
      by_cases z : q = k
      · rw [z, up2_s]
      · rw [up2_k _ _ _ (by omega)]
        exact Hk q (by omega))
    exact ⟨h', e, a, fun q hq => by rw [b q hq, up2_k _ _ _ (by omega)], fun j hj => by rw [c j hj, up2_ne _ _ _ hj]⟩
theorem M_keep {r : Nat} {T : List Nat} {s : St} {h : Hp} (hr : r < 10) (H : SR h s) (ok : okS s) (W : isW h T) (hl : T.length ≤ 200) : ∃ h', f_M_keep (iI (r : Int)) h = some ((sp_keep T r s).1, h') ∧ SR h' (sp_keep T r s).2 ∧ hi h h' := by
  obtain ⟨t, rg, d1, d2, d3⟩ := H
  unfold f_M_keep
  rw [chk_t (iI_inR (by omega) (by omega) (by omega)), clN (by omega), W.1]
  obtain ⟨h', e, a, b, c⟩ := M_keep_loop (T := T) hr hl T.length 0 fuel (up2 h 49 r (iI (T.length : Int))) (by omega) (by unfold fuel; omega) ⟨by rw [up2_o _ _ _ _ (by omega)]; exact W.1, fun q hq hq2 => by rw [up2_o _ _ _ _ (by omega)]; exact W.2 q hq hq2⟩ (fun q hq => by omega)
  refine ⟨h', e, ⟨⟨?_, fun k hk => ?_⟩, fun k hk => ?_, ?_, ?_, ?_⟩, fun j hj => ?_⟩
  · rw [c 46 (by omega), up2_o _ _ _ _ (by omega)]; exact t.1
  · rw [c 47 (by omega), up2_o _ _ _ _ (by omega)]; exact t.2 k hk
  · show isR _ _ (setR s.2.1 r T k)
    unfold setR
    by_cases z : k = r
    · rw [if_pos z, z]
      exact ⟨by rw [c 49 (by omega), up2_s], a⟩
    · rw [if_neg z]
      have l2 := (ok.2.1 k hk).1
      refine ⟨by rw [c 49 (by omega), up2_k _ _ _ z]; exact (rg k hk).1, fun q hq => ?_⟩
      rw [b _ (by omega), up2_o _ _ _ _ (by omega)]
      exact (rg k hk).2 q hq
  · rw [c 46 (by omega), up2_o _ _ _ _ (by omega)]; exact d1
  · rw [c 46 (by omega), up2_o _ _ _ _ (by omega)]; exact d2
  · rw [c 46 (by omega), up2_o _ _ _ _ (by omega)]; exact d3
  · rw [c j (by omega), up2_ne _ _ _ (by omega)]
/-- a result is written into register r -/
def sp_ans (t : Int × Nat × Int) (r : Nat) (s : St) : Int32 × St := match wrT s.2.2.1 s.2.2.2.2 t with
  | none => (iI (-42), s)
  | some T => sp_keep T r s
theorem C_ans {i r : Nat} {t : Int × Nat × Int} {s : St} {h : Hp} (hi : 28 < i) (hr : r < 10) (H : SC h s) (ok : okS s) (okt : okN 100000000 20 t) (N : isN h i t.1 t.2.1 t.2.2) : ∃ h', f_D_write i (4 + 2 * r) h = some ((sp_ans t r s).1, h') ∧ SC h' (sp_ans t r s).2 ∧ okS (sp_ans t r s).2 ∧ lo h h' := by
  obtain ⟨h1, e1, k1, w1⟩ := C_wr (fm := s.2.2.2.2) (dgs := s.2.2.1) hi (by have := ok.2.2.1; omega) ok.2.2.2.1 ok.2.2.2.2.2 okt N
  have f1 : fr h h1 := fr_kp (by omega) (by omega) (by omega) (by omega) k1
  unfold f_D_write sp_ans
  rw [H.2.2.1, H.2.2.2.2, bd_t e1]
  cases hx : wrT s.2.2.1 s.2.2.2.2 t with
  | none =>
    rw [if_neg (by simp; decide)]
    exact ⟨h1, by simp; rfl, SC_fr H f1, ok, lo_fr f1⟩
  | some T =>
    rw [if_pos (by simp; rfl)]
    obtain ⟨h2, e2, S2, l2⟩ := C_keep hr (SC_fr H f1) (w1 T hx)
    rw [bd_t e2]
    exact ⟨h2, rfl, S2, okS_keep ok (isL_ok (w1 T hx)), lo_t (lo_fr f1) l2⟩
theorem M_ans {z r : Nat} {t : Int × Nat × Int} {s : St} {h : Hp} (hz : z < 5) (hr : r < 10) (H : SR h s) (ok : okS s) (okt : okN 100000000 20 t) (M : isM h z t.1 t.2.1 t.2.2) (ok2 : okS (sp_ans t r s).2) : ∃ h', f_M_answer (iI (z : Int)) (iI (r : Int)) h = some ((sp_ans t r s).1, h') ∧ SR h' (sp_ans t r s).2 ∧ hi h h' := by
  obtain ⟨h1, e1, k1, w1⟩ := M_wr (fm := s.2.2.2.2) (dgs := s.2.2.1) hz (by have := ok.2.2.1; omega) ok.2.2.2.1 ok.2.2.2.2.2 H.2.2.1 H.2.2.2.2 okt M
  unfold f_M_answer
  rw [bd_t e1]
  unfold sp_ans at ok2 ⊢
  cases hx : wrT s.2.2.1 s.2.2.2.2 t with
  | none =>
    rw [if_neg (by simp; decide)]
    exact ⟨h1, by simp; rfl, SR_fw H (fw_kw k1), hi_fw (fw_kw k1)⟩
  | some T =>
    rw [hx] at ok2
    have hl : T.length ≤ 200 := by
      have := (ok2.2.1 r hr).1
      have e : (sp_keep T r s).2.2.1 r = T := by show setR s.2.1 r T r = T; unfold setR; rw [if_pos rfl]
      rw [e] at this
      exact this
    rw [if_pos (by simp; decide)]
    obtain ⟨h2, e2, S2, l2⟩ := M_keep hr (SR_fw H (fw_kw k1)) ok (w1 T hx) hl
    rw [bd_t e2]
    exact ⟨h2, rfl, S2, hi_t (hi_fw (fw_kw k1)) l2⟩
theorem okN_w {b n b' n' : Nat} {t : Int × Nat × Int} (H : okN b n t) (h1 : b ≤ b') (h2 : n ≤ n') : okN b' n' t := by
  obtain ⟨a, b1, c, d, e, f⟩ := H
  exact ⟨a, b1, c, by omega, by omega, by omega⟩
/-- read and round, the reference's way -/
theorem M_load {r z n : Nat} {bs : List Nat} {h : Hp} (hr : r < 10) (hz : z < 5) (hn : 0 < n) (hn2 : n ≤ 20) (R : isR h r bs) (ok : okB bs 200) : ∃ h1, f_M_read (iI (r : Int)) (iI (z : Int)) h = some (iI (if ldN n bs = none then 0 else 1), h1) ∧ km h h1 z ∧ ∀ t, ldN n bs = some t → ∃ h2, f_M_round (iI (z : Int)) (iI (n : Int)) h1 = some ((), h2) ∧ km h1 h2 z ∧ isM h2 z t.1 t.2.1 t.2.2 := by
  obtain ⟨h1, e1, k1, m1⟩ := M_read hr hz R ok
  refine ⟨h1, ?_, k1, fun t ht => ?_⟩
  · rw [e1]
    unfold ldN
    cases rdN bs with
    | none => rfl
    | some u => rfl
  · unfold ldN at ht
    cases hx : rdN bs with
    | none => rw [hx] at ht; cases ht
    | some u =>
      rw [hx] at ht
      have := (Option.some.inj ht).symm
      subst this
      obtain ⟨h2, e2, m2, k2⟩ := M_round hz (m1 u hx) hn (by omega)
      exact ⟨h2, e2, k2, m2⟩
-- ===== turn =====
def tn (op : Int) (t : Int × Nat × Int) : Int × Nat × Int := if op = 1 then (-t.1, t.2.1, t.2.2) else if op = 2 then (if t.1 < 0 then 1 else t.1, t.2.1, t.2.2) else if op = 3 then (t.1, if t.1 = 0 then 0 else 1, 0) else t
theorem tn_ok {op : Int} {t : Int × Nat × Int} {n : Nat} (hn : 0 < n) (H : okN 1501 n t) : okN 1501 n (tn op t) := by
  obtain ⟨a, b, c, d, e, f⟩ := H
  unfold tn
  split
  · exact ⟨by show isS (-t.1); unfold isS at a ⊢; omega, by show -t.1 = 0 ↔ t.2.1 = 0; rw [← b]; omega, c, d, e, f⟩
  · split
    · refine ⟨?_, ?_, c, d, e, f⟩
      · show isS (if t.1 < 0 then 1 else t.1)
        unfold isS at a ⊢
        split <;> omega
      · show (if t.1 < 0 then 1 else t.1) = 0 ↔ t.2.1 = 0
        rw [← b]
        split <;> omega
    · split
      · refine ⟨a, ?_, fun _ => rfl, by show _ ≤ (0 : Int); omega, by show (0 : Int) ≤ _; omega, ?_⟩
        · show t.1 = 0 ↔ (if t.1 = 0 then 0 else 1) = 0
          split <;> omega
        · show nd (if t.1 = 0 then 0 else 1) ≤ n
          split
          · rw [nd_0]; omega
          · rw [nd_1]; omega
      · exact ⟨a, b, c, d, e, f⟩
def sp_turn (op a b : Int) (s : St) : Int32 × St := if isReg a ∧ isReg b ∧ 0 ≤ op ∧ op ≤ 3 then (match ldN s.2.2.1 (s.2.1 a.toNat) with
  | none => (iI (-41), s)
  | some t => sp_ans (tn op t) b.toNat s) else (iI (-1), s)
theorem C_turn {op a b : Int} {s : St} {h : Hp} (ho : bI op) (ha : bI a) (hb : bI b) (H : SC h s) (ok : okS s) : ∃ h', f_D_turn (iI op) (iI a) (iI b) h = some ((sp_turn op a b s).1, h') ∧ SC h' (sp_turn op a b s).2 ∧ okS (sp_turn op a b s).2 ∧ lo h h' := by
  have bad : ¬ (isReg a ∧ isReg b ∧ 0 ≤ op ∧ op ≤ 3) → ∃ h', some ((-1 : Int32), h) = some ((sp_turn op a b s).1, h') ∧ SC h' (sp_turn op a b s).2 ∧ okS (sp_turn op a b s).2 ∧ lo h h' := fun q => by
    unfold sp_turn
    rw [if_neg q]
    exact ⟨h, rfl, H, ok, lo_r _⟩
  unfold f_D_turn
  rw [bd_t (C_find ha), bd_t (C_find hb)]
  by_cases q1 : op < 0
  · rw [if_pos (by rw [i0, iI_lt ⟨by omega, by omega⟩ ⟨by omega, by omega⟩]; exact q1)]; exact bad (by omega)
  rw [if_neg (by rw [i0, iI_lt ⟨by omega, by omega⟩ ⟨by omega, by omega⟩]; exact q1)]
  by_cases q2 : 3 < op
  · rw [if_pos (by rw [show (3 : Int32) = iI 3 from rfl, iI_lt ⟨by omega, by omega⟩ ⟨by omega, by omega⟩]; exact q2)]; exact bad (by omega)
  rw [if_neg (by rw [show (3 : Int32) = iI 3 from rfl, iI_lt ⟨by omega, by omega⟩ ⟨by omega, by omega⟩]; exact q2)]
  by_cases q3 : ¬ isReg a
  · rw [oq_n q3]; exact bad (by omega)
  have q3 := Decidable.not_not.mp q3
  rw [oq_y q3]
  by_cases q4 : ¬ isReg b
  · rw [oq_n q4]; exact bad (by omega)
  have q4 := Decidable.not_not.mp q4
  rw [oq_y q4]
  unfold sp_turn
  rw [if_pos (show isReg a ∧ isReg b ∧ 0 ≤ op ∧ op ≤ 3 by omega), H.2.2.1]
  have hd := ok.2.2
  obtain ⟨h1, e1, k1, n1⟩ := C_load (i := 4 + 2 * a.toNat) (j := 29) (n := s.2.2.1) (by omega) (by omega) (ok.2.1 a.toNat (by omega)).1 rfl (by omega) (by omega) (H.2.1 a.toNat (by omega))
  rw [bd_t e1]
  have f1 : fr h h1 := fr_kr (by omega) (by omega) k1
  cases hx : ldN s.2.2.1 (s.2.1 a.toNat) with
  | none =>
    rw [if_pos (by simp; decide)]
    exact ⟨h1, rfl, SC_fr H f1, ok, lo_fr f1⟩
  | some t =>
    rw [if_neg (by simp; decide)]
    have N := n1 t hx
    have okt := ldN_ok (n := s.2.2.1) (by omega) (ok.2.1 a.toNat (by omega)).1 hx
    have okt2 := okN_w (tn_ok (op := op) (by omega) okt) (show 1501 ≤ 100000000 by omega) (show s.2.2.1 ≤ 20 by omega)
    have fin : ∀ g : Hp, fr h1 g → isN g 29 (tn op t).1 (tn op t).2.1 (tn op t).2.2 → ∃ h', bd (f_D_write 29 (4 + 2 * b.toNat) g) (fun r129 h129 => some (r129, h129)) = some ((sp_ans (tn op t) b.toNat s).1, h') ∧ SC h' (sp_ans (tn op t) b.toNat s).2 ∧ okS (sp_ans (tn op t) b.toNat s).2 ∧ lo h h' := by
      intro g fg Ng
      have f2 := fr_t f1 fg
      obtain ⟨h2, e2, S2, o2, l2⟩ := C_ans (i := 29) (r := b.toNat) (by omega) (by omega) (SC_fr H f2) ok okt2 Ng
      rw [bd_t e2]
      exact ⟨h2, rfl, S2, o2, lo_t (lo_fr f2) l2⟩
    have up3 : ∀ v : Int, fr h1 (up2 h1 29 3 (iI v)) ∧ isN (up2 h1 29 3 (iI v)) 29 v t.2.1 t.2.2 := fun v => ⟨fr_up _ _ _ (by omega) (by omega), isD_eq N.1 (up2_k _ _ _ (by omega)) (up2_ne _ _ _ (by omega)), by rw [up2_k _ _ _ (by omega)]; exact N.2.1, up2_s _ _ _ _⟩
    have hs := okt.1
    rw [N.2.2, iI_neg]
    by_cases o1 : op = 1
    · rw [if_pos (by rw [o1]; rfl)]
      refine fin _ (up3 _).1 ?_
      have : tn op t = (-t.1, t.2.1, t.2.2) := by unfold tn; rw [if_pos o1]
      rw [this]
      exact (up3 _).2
    rw [if_neg (by rw [i1, iI_eq ⟨by omega, by omega⟩ ⟨by omega, by omega⟩]; exact o1)]
    by_cases o2 : op = 2
    · rw [if_pos (by rw [o2]; rfl)]
      have e3 : (if 0 ≤ iI t.1 then iI t.1 else 0 - iI t.1) = iI (if t.1 < 0 then 1 else t.1) := by
        rw [abs_iI (by unfold isS at hs; omega)]
        congr 1
        unfold isS at hs
        split <;> omega
      have : tn op t = (if t.1 < 0 then 1 else t.1, t.2.1, t.2.2) := by unfold tn; rw [if_neg o1, if_pos o2]
      rw [e3]
      refine fin _ (up3 _).1 ?_
      rw [this]
      exact (up3 _).2
    rw [if_neg (by rw [show (2 : Int32) = iI 2 from rfl, iI_eq ⟨by omega, by omega⟩ ⟨by omega, by omega⟩]; exact o2)]
    by_cases o3 : op = 3
    · rw [if_pos (by rw [o3]; rfl)]
      obtain ⟨h3, e3, N3, k3⟩ := N_unit (h := h1) (i := 29) (s := t.1) (by decide) (by unfold isS at hs; omega)
      rw [bd_t e3]
      refine fin h3 (fr_kp (by omega) (by omega) (by omega) (by omega) k3) ?_
      have : tn op t = (t.1, if t.1 = 0 then 0 else 1, 0) := by unfold tn; rw [if_neg o1, if_neg o2, if_pos o3]
      rw [this]
      exact N3
    rw [if_neg (by rw [show (3 : Int32) = iI 3 from rfl, iI_eq ⟨by omega, by omega⟩ ⟨by omega, by omega⟩]; exact o3)]
    refine fin h1 (fr_r _) ?_
    have : tn op t = t := by unfold tn; rw [if_neg o1, if_neg o2, if_neg o3]
    rw [this]
    exact N
theorem M_turn {op a b : Int} {s : St} {h : Hp} (ho : bI op) (ha : bI a) (hb : bI b) (H : SR h s) (ok : okS s) (ok2 : okS (sp_turn op a b s).2) : ∃ h', f_M_turn (iI op) (iI a) (iI b) h = some ((sp_turn op a b s).1, h') ∧ SR h' (sp_turn op a b s).2 ∧ hi h h' := by
  have bad : ¬ (isReg a ∧ isReg b ∧ 0 ≤ op ∧ op ≤ 3) → ∃ h', some ((-1 : Int32), h) = some ((sp_turn op a b s).1, h') ∧ SR h' (sp_turn op a b s).2 ∧ hi h h' := fun q => by
    unfold sp_turn
    rw [if_neg q]
    exact ⟨h, rfl, H, hi_r _⟩
  unfold f_M_turn
  rw [bd_t (M_isReg ha)]
  by_cases q3 : ¬ isReg a
  · rw [if_neg q3, if_pos (by rfl)]; exact bad (by omega)
  have q3 := Decidable.not_not.mp q3
  rw [if_pos q3, if_neg (by decide), bd_t (M_isReg hb)]
  by_cases q4 : ¬ isReg b
  · rw [if_neg q4, if_pos (by rfl)]; exact bad (by omega)
  have q4 := Decidable.not_not.mp q4
  rw [if_pos q4, if_neg (by decide)]
  by_cases q1 : op < 0
  · rw [if_pos (by rw [i0, iI_lt ⟨by omega, by omega⟩ ⟨by omega, by omega⟩]; exact q1)]; exact bad (by omega)
  rw [if_neg (by rw [i0, iI_lt ⟨by omega, by omega⟩ ⟨by omega, by omega⟩]; exact q1)]
  by_cases q2 : ¬ op ≤ 3
  · rw [if_neg (by rw [show (3 : Int32) = iI 3 from rfl, iI_le ⟨by omega, by omega⟩ ⟨by omega, by omega⟩]; exact q2)]; exact bad (by omega)
  have q2 := Decidable.not_not.mp q2
  rw [if_pos (by rw [show (3 : Int32) = iI 3 from rfl, iI_le ⟨by omega, by omega⟩ ⟨by omega, by omega⟩]; exact q2)]
  unfold sp_turn at ok2 ⊢
  rw [if_pos (show isReg a ∧ isReg b ∧ 0 ≤ op ∧ op ≤ 3 by omega)] at ok2 ⊢
  have hd := ok.2.2
  obtain ⟨a, rfl⟩ : ∃ k : Nat, a = k := ⟨a.toNat, by omega⟩
  obtain ⟨b, rfl⟩ : ∃ k : Nat, b = k := ⟨b.toNat, by omega⟩
  rw [Int.toNat_natCast, Int.toNat_natCast] at ok2 ⊢
  obtain ⟨h1, e1, k1, m1⟩ := M_load (n := s.2.2.1) (z := 0) (r := a) (by omega) (by omega) (by omega) (by omega) (H.2.1 a (by omega)) (ok.2.1 a (by omega))
  rw [bd_t (show f_M_read (iI (a : Int)) 0 h = _ from e1)]
  cases hx : ldN s.2.2.1 (s.2.1 a) with
  | none =>
    rw [if_pos (by simp; decide)]
    exact ⟨h1, rfl, SR_fw H (fw_km k1), hi_fw (fw_km k1)⟩
  | some t =>
    rw [if_neg (by simp; decide)]
    rw [hx] at ok2
    have okt := ldN_ok (n := s.2.2.1) (by omega) (ok.2.1 a (by omega)).1 hx
    have okt2 := okN_w (tn_ok (op := op) (by omega) okt) (show 1501 ≤ 100000000 by omega) (show s.2.2.1 ≤ 20 by omega)
    obtain ⟨h2, e2, k2, M2⟩ := m1 t hx
    have f2 : fw h h2 := fw_t (fw_km k1) (fw_km k2)
    have e4 : h1 46 4 = iI (s.2.2.1 : Int) := (SR_fw H (fw_km k1)).2.2.1
    rw [e4, bd_t (show f_M_round 0 (iI (s.2.2.1 : Int)) h1 = _ from e2)]
    have hs := okt.1
    have fin : ∀ g : Hp, km h2 g 0 → isM g 0 (tn op t).1 (tn op t).2.1 (tn op t).2.2 → ∃ h', bd (f_M_answer 0 (iI (b : Int)) g) (fun r136 h136 => some (r136, h136)) = some ((sp_ans (tn op t) b s).1, h') ∧ SR h' (sp_ans (tn op t) b s).2 ∧ hi h h' := by
      intro g kg Mg
      have fg := fw_t f2 (fw_km kg)
      obtain ⟨h3, e3, S3, l3⟩ := M_ans (z := 0) (r := b) (by omega) (by omega) (SR_fw H fg) ok okt2 Mg ok2
      rw [bd_t (show f_M_answer 0 (iI (b : Int)) g = _ from e3)]
      exact ⟨h3, rfl, S3, hi_t (hi_fw fg) l3⟩
    have c5 : inR 0 5 := inz (z := 0) (by omega)
    have cl0 : Int32.toNatClampNeg 0 = 0 := rfl
    have up3 : ∀ (g : Hp) (v w : Int) (c : Nat) (e : Int), isM g 0 w c e → km g (up2 g 53 0 (iI v)) 0 ∧ isM (up2 g 53 0 (iI v)) 0 v c e := fun g v w c e Mg => ⟨km_53 _ _ _, by rw [up2_o _ _ _ _ (by omega)]; exact Mg.1, by rw [up2_o _ _ _ _ (by omega)]; exact Mg.2.1, up2_s _ _ _ _, Mg.2.2.2.1, fun k hk => by rw [up2_o _ _ _ _ (by omega)]; exact Mg.2.2.2.2 k hk⟩
    have t88 : ∀ (g : Hp) (u : Int × Nat × Int), km h2 g 0 → isM g 0 u.1 u.2.1 u.2.2 → isS u.1 → (tn op t) = (if op = 1 then (-u.1, u.2.1, u.2.2) else if op = 2 then (if u.1 < 0 then 1 else u.1, u.2.1, u.2.2) else u) → ∃ h', f_M_turn_88 (iI op) (iI (b : Int)) g = some ((sp_ans (tn op t) b s).1, h') ∧ SR h' (sp_ans (tn op t) b s).2 ∧ hi h h' := by
      intro g u kg Mg hsu et
      unfold f_M_turn_88 f_M_turn_126
      rw [chk_t c5, chk_t c5, chk_t c5, chk_t c5, chk_t c5, chk_t c5]
      simp only [cl0, Mg.2.2.1]
      by_cases o1 : op = 1
      · rw [if_pos (by rw [o1]; rfl), iI_neg]
        rw [if_pos o1] at et
        refine fin _ (km_t kg (up3 g _ _ _ _ Mg).1) ?_
        rw [et]
        exact (up3 g _ _ _ _ Mg).2
      rw [if_neg (by rw [i1, iI_eq ⟨by omega, by omega⟩ ⟨by omega, by omega⟩]; exact o1)]
      rw [if_neg o1] at et
      by_cases o2 : op = 2
      · rw [if_pos (by rw [o2]; rfl)]
        rw [if_pos o2] at et
        by_cases n0 : u.1 < 0
        · rw [if_neg (by rw [i0, iI_le ⟨by omega, by omega⟩ ⟨by unfold isS at hsu; omega, by unfold isS at hsu; omega⟩]; omega)]
          rw [if_pos n0] at et
          refine fin _ (km_t kg (up3 g 1 _ _ _ Mg).1) ?_
          rw [et]
          exact (up3 g 1 _ _ _ Mg).2
        · rw [if_pos (by rw [i0, iI_le ⟨by omega, by omega⟩ ⟨by unfold isS at hsu; omega, by unfold isS at hsu; omega⟩]; omega)]
          rw [if_neg n0] at et
          refine fin _ (km_t kg (up3 g u.1 _ _ _ Mg).1) ?_
          rw [et]
          exact (up3 g _ _ _ _ Mg).2
      rw [if_neg (by rw [show (2 : Int32) = iI 2 from rfl, iI_eq ⟨by omega, by omega⟩ ⟨by omega, by omega⟩]; exact o2)]
      rw [if_neg o2] at et
      refine fin _ (km_t kg (up3 g u.1 _ _ _ Mg).1) ?_
      rw [et]
      exact (up3 g _ _ _ _ Mg).2
    by_cases o3 : op = 3
    · rw [if_pos (by rw [o3]; rfl), chk_t c5]
      obtain ⟨h3, e3, M3, k3⟩ := M_zero (h := h2) (z := 0) (by omega)
      rw [bd_t (show f_M_zero 0 h2 = _ from e3), chk_t c5]
      have c13 : inR 0 13000 := iI_inR (a := 0) (by omega) (by omega) (by omega)
      rw [chk_t c13, chk_t c13]
      simp only [cl0, M2.2.2.1]
      have tn3 : tn op t = (t.1, if t.1 = 0 then 0 else 1, 0) := by unfold tn; rw [if_neg (by omega), if_neg (by omega), if_pos o3]
      have g1 : ∀ v : Nat, v ≤ 1 → isM (up2 (up2 h3 53 0 (iI t.1)) 50 0 (iI (v : Int))) 0 t.1 v 0 := fun v hv => by
        have hm : mn v = 1 := by
          rcases Nat.lt_or_ge v 1 with y | y
          · rw [show v = 0 by omega]; rfl
          · rw [show v = 1 by omega]; rfl
        refine ⟨?_, ?_, ?_, by rw [hm]; omega, fun k hk => ?_⟩
        · rw [hm, up2_o _ _ _ _ (by omega), up2_o _ _ _ _ (by omega)]; exact M3.1
        · rw [up2_o _ _ _ _ (by omega), up2_o _ _ _ _ (by omega)]; exact M3.2.1
        · rw [up2_o _ _ _ _ (by omega), up2_s]
        · rw [hm] at hk ⊢
          rw [show 2600 * 0 + k = 0 by omega, up2_s]
          unfold dg
          rw [show 1 - 1 - k = 0 by omega, Nat.pow_zero, Nat.div_one, Nat.mod_eq_of_lt (by omega)]
      have kk : ∀ w : Int32, km h2 (up2 (up2 h3 53 0 (iI t.1)) 50 0 w) 0 := fun w => km_t k3 (km_t (km_53 _ _ _) (km_50 _ 0 0 _ (by omega)))
      by_cases s0 : t.1 = 0
      · rw [if_pos (by rw [s0]; rfl)]
        refine t88 _ (t.1, 0, 0) (kk _) (g1 0 (by omega)) hs ?_
        rw [tn3, if_pos s0, if_neg (by omega), if_neg (by omega)]
      · rw [if_neg (by rw [i0, iI_eq ⟨by unfold isS at hs; omega, by unfold isS at hs; omega⟩ ⟨by omega, by omega⟩]; exact s0)]
        refine t88 _ (t.1, 1, 0) (kk _) (g1 1 (by omega)) hs ?_
        rw [tn3, if_neg s0, if_neg (by omega), if_neg (by omega)]
    · rw [if_neg (by rw [show (3 : Int32) = iI 3 from rfl, iI_eq ⟨by omega, by omega⟩ ⟨by omega, by omega⟩]; exact o3)]
      refine t88 h2 t (km_r _ _) M2 hs ?_
      unfold tn
      rw [if_neg o3]
end
section
/-! PURE 15: whole, about; orders of texts -/
def sp_whole (a : Int) (s : St) : Int32 := if isReg a then (match ldN s.2.2.1 (s.2.1 a.toNat) with
  | none => iI (-2000000000)
  | some t => iI ((wv t.1 t.2.1 t.2.2).getD (-2000000000))) else iI (-2000000001)
theorem C_whole {a : Int} {s : St} {h : Hp} (ha : bI a) (H : SC h s) (ok : okS s) : ∃ h', f_D_whole (iI a) h = some (sp_whole a s, h') ∧ SC h' s ∧ lo h h' := by
  unfold f_D_whole sp_whole
  rw [bd_t (C_find ha)]
  by_cases q3 : ¬ isReg a
  · rw [oq_n q3, if_neg q3]; exact ⟨h, rfl, H, lo_r _⟩
  have q3 := Decidable.not_not.mp q3
  rw [oq_y q3, if_pos q3, H.2.2.1]
  have hd := ok.2.2
  obtain ⟨h1, e1, k1, n1⟩ := C_load (i := 4 + 2 * a.toNat) (j := 29) (n := s.2.2.1) (by omega) (by omega) (ok.2.1 a.toNat (by omega)).1 rfl (by omega) (by omega) (H.2.1 a.toNat (by omega))
  rw [bd_t e1]
  have f1 : fr h h1 := fr_kr (by omega) (by omega) k1
  cases hx : ldN s.2.2.1 (s.2.1 a.toNat) with
  | none =>
    rw [if_pos (by simp; decide)]
    exact ⟨h1, rfl, SC_fr H f1, lo_fr f1⟩
  | some t =>
    rw [if_neg (by simp; decide)]
    have okt := ldN_ok (n := s.2.2.1) (by omega) (ok.2.1 a.toNat (by omega)).1 hx
    obtain ⟨o1, o2, o3, o4, o5, o6⟩ := okt
    rw [bd_t (N_whole (n1 t hx) o1 ⟨by omega, by omega⟩)]
    exact ⟨h1, rfl, SC_fr H f1, lo_fr f1⟩
theorem M_whole {a : Int} {s : St} {h : Hp} (ha : bI a) (H : SR h s) (ok : okS s) : ∃ h', f_M_whole (iI a) h = some (sp_whole a s, h') ∧ SR h' s ∧ hi h h' := by
  unfold f_M_whole sp_whole
  rw [bd_t (M_isReg ha)]
  by_cases q3 : ¬ isReg a
  · rw [if_neg q3, if_pos (by rfl), if_neg q3]; exact ⟨h, rfl, H, hi_r _⟩
  have q3 := Decidable.not_not.mp q3
  rw [if_pos q3, if_neg (by decide), if_pos q3]
  have hd := ok.2.2
  obtain ⟨a, rfl⟩ : ∃ k : Nat, a = k := ⟨a.toNat, by omega⟩
  rw [Int.toNat_natCast]
  obtain ⟨h1, e1, k1, m1⟩ := M_read (z := 0) (r := a) (by omega) (by omega) (H.2.1 a (by omega)) (ok.2.1 a (by omega))
  rw [bd_t (show f_M_read (iI (a : Int)) 0 h = _ from e1)]
  unfold ldN
  cases hx : rdN (s.2.1 a) with
  | none =>
    rw [if_pos (by simp; decide)]
    exact ⟨h1, rfl, SR_fw H (fw_km k1), hi_fw (fw_km k1)⟩
  | some t =>
    rw [if_neg (by simp; decide)]
    have okt := rdN_ok (ok.2.1 a (by omega)).1 hx
    obtain ⟨h2, e2, M2, k2, w2⟩ := M_isWhole (z := 0) (n := s.2.2.1) (s := t.1) (c := t.2.1) (e := t.2.2) (by omega) (by omega) (by omega) (SR_fw H (fw_km k1)).2.2.1 okt (m1 t hx)
    rw [bd_t (show f_M_isWhole 0 h1 = _ from e2)]
    have f2 := fw_t (fw_km k1) (fw_km k2)
    have ho := rN_ok (n := s.2.2.1) (by omega) okt
    show ∃ h', _ = some (iI ((wv t.1 (rnd s.2.2.1 t.2.1 t.2.2).1 (rnd s.2.2.1 t.2.1 t.2.2).2).getD (-2000000000)), h') ∧ _
    cases hy : wv t.1 (rnd s.2.2.1 t.2.1 t.2.2).1 (rnd s.2.2.1 t.2.1 t.2.2).2 with
    | none =>
      rw [if_pos (by simp; decide)]
      exact ⟨h2, rfl, SR_fw H f2, hi_fw f2⟩
    | some v =>
      rw [if_neg (by simp; decide)]
      obtain ⟨b1, b2⟩ := w2 v hy
      have o4 : -(1501 : Int) ≤ (rnd s.2.2.1 t.2.1 t.2.2).2 := ho.2.2.2.1
      have o5 : (rnd s.2.2.1 t.2.1 t.2.2).2 ≤ 1501 := ho.2.2.2.2.1
      have V := M_valueOf (z := 0) (by omega) ho.1 ⟨by omega, by omega⟩ b1 M2
      rw [bd_t (show f_M_valueOf 0 h2 = _ from V)]
      rw [b2]
      exact ⟨h2, rfl, SR_fw H f2, hi_fw f2⟩
def sp_about (a w : Int) (s : St) : Int32 := if isReg a ∧ 0 ≤ w ∧ w ≤ 3 then (match rdN (s.2.1 a.toNat) with
  | none => iI 0
  | some t => if w = 0 then iI 1 else if w = 1 then iI (nd t.2.1 : Int) else if w = 2 then iI (fp t.2.1 t.2.2) else if t.1 < 0 then iI 1 else iI 0) else iI (-1)
theorem C_about {a w : Int} {s : St} {h : Hp} (ha : bI a) (hw : bI w) (H : SC h s) (ok : okS s) : ∃ h', f_D_about (iI a) (iI w) h = some (sp_about a w s, h') ∧ SC h' s ∧ lo h h' := by
  unfold f_D_about sp_about
  rw [bd_t (C_find ha)]
  by_cases q3 : ¬ isReg a
  · rw [oq_n q3, if_neg (by omega)]; exact ⟨h, rfl, H, lo_r _⟩
  have q3 := Decidable.not_not.mp q3
  rw [oq_y q3]
  by_cases q1 : w < 0
  · rw [if_pos (by rw [i0, iI_lt ⟨by omega, by omega⟩ ⟨by omega, by omega⟩]; exact q1), if_neg (by omega)]; exact ⟨h, rfl, H, lo_r _⟩
  rw [if_neg (by rw [i0, iI_lt ⟨by omega, by omega⟩ ⟨by omega, by omega⟩]; exact q1)]
  by_cases q2 : ¬ w ≤ 3
  · rw [if_neg (by rw [show (3 : Int32) = iI 3 from rfl, iI_le ⟨by omega, by omega⟩ ⟨by omega, by omega⟩]; exact q2), if_neg (by omega)]; exact ⟨h, rfl, H, lo_r _⟩
  have q2 := Decidable.not_not.mp q2
  rw [if_pos (by rw [show (3 : Int32) = iI 3 from rfl, iI_le ⟨by omega, by omega⟩ ⟨by omega, by omega⟩]; exact q2), if_pos (show isReg a ∧ 0 ≤ w ∧ w ≤ 3 by omega)]
  obtain ⟨h1, e1, k1, n1⟩ := C_read (i := 4 + 2 * a.toNat) (j := 29) (by omega) (by omega) (ok.2.1 a.toNat (by omega)).1 rfl (H.2.1 a.toNat (by omega))
  rw [bd_t e1]
  have f1 : fr h h1 := fr_kr (by omega) (by omega) k1
  cases hx : rdN (s.2.1 a.toNat) with
  | none =>
    rw [if_pos (by simp; decide)]
    exact ⟨h1, rfl, SC_fr H f1, lo_fr f1⟩
  | some t =>
    rw [if_neg (by simp; decide)]
    have N := n1 t hx
    have okt := rdN_ok (ok.2.1 a.toNat (by omega)).1 hx
    have hs := okt.1
    rw [N.1.1, N.2.2]
    refine ⟨h1, ?_, SC_fr H f1, lo_fr f1⟩
    show _ = some (if w = 0 then iI 1 else if w = 1 then iI (nd t.2.1 : Int) else if w = 2 then iI (fp t.2.1 t.2.2) else if t.1 < 0 then iI 1 else iI 0, h1)
    by_cases w1 : w = 1
    · rw [if_pos (by rw [w1]; rfl), if_neg (by omega), if_pos w1]
    rw [if_neg (by rw [i1, iI_eq ⟨by omega, by omega⟩ ⟨by omega, by omega⟩]; exact w1), if_neg w1]
    by_cases w2 : w = 2
    · rw [if_pos (by rw [w2]; rfl), if_neg (by omega), if_pos w2, bd_t (N_firstPower N)]
      rfl
    rw [if_neg (by rw [show (2 : Int32) = iI 2 from rfl, iI_eq ⟨by omega, by omega⟩ ⟨by omega, by omega⟩]; exact w2), if_neg w2]
    by_cases w0 : w = 0
    · rw [if_pos (by rw [w0]; rfl), if_pos w0]
      rfl
    rw [if_neg (by rw [i0, iI_eq ⟨by omega, by omega⟩ ⟨by omega, by omega⟩]; exact w0), if_neg w0]
    by_cases n0 : t.1 < 0
    · rw [if_neg (by rw [i0, iI_le ⟨by omega, by omega⟩ ⟨by unfold isS at hs; omega, by unfold isS at hs; omega⟩]; omega), if_pos n0]; rfl
    · rw [if_pos (by rw [i0, iI_le ⟨by omega, by omega⟩ ⟨by unfold isS at hs; omega, by unfold isS at hs; omega⟩]; omega), if_neg n0]; rfl
theorem M_about {a w : Int} {s : St} {h : Hp} (ha : bI a) (hw : bI w) (H : SR h s) (ok : okS s) : ∃ h', f_M_about (iI a) (iI w) h = some (sp_about a w s, h') ∧ SR h' s ∧ hi h h' := by
  unfold f_M_about sp_about
  rw [bd_t (M_isReg ha)]
  by_cases q3 : ¬ isReg a
  · rw [if_neg q3, if_pos (by rfl), if_neg (by omega)]; exact ⟨h, rfl, H, hi_r _⟩
  have q3 := Decidable.not_not.mp q3
  rw [if_pos q3, if_neg (by decide)]
  by_cases q1 : w < 0
  · rw [if_pos (by rw [i0, iI_lt ⟨by omega, by omega⟩ ⟨by omega, by omega⟩]; exact q1), if_neg (by omega)]; exact ⟨h, rfl, H, hi_r _⟩
  rw [if_neg (by rw [i0, iI_lt ⟨by omega, by omega⟩ ⟨by omega, by omega⟩]; exact q1)]
  by_cases q2 : ¬ w ≤ 3
  · rw [if_neg (by rw [show (3 : Int32) = iI 3 from rfl, iI_le ⟨by omega, by omega⟩ ⟨by omega, by omega⟩]; exact q2), if_neg (by omega)]; exact ⟨h, rfl, H, hi_r _⟩
  have q2 := Decidable.not_not.mp q2
  rw [if_pos (by rw [show (3 : Int32) = iI 3 from rfl, iI_le ⟨by omega, by omega⟩ ⟨by omega, by omega⟩]; exact q2), if_pos (show isReg a ∧ 0 ≤ w ∧ w ≤ 3 by omega)]
  obtain ⟨a, rfl⟩ : ∃ k : Nat, a = k := ⟨a.toNat, by omega⟩
  rw [Int.toNat_natCast]
  obtain ⟨h1, e1, k1, m1⟩ := M_read (z := 0) (r := a) (by omega) (by omega) (H.2.1 a (by omega)) (ok.2.1 a (by omega))
  rw [bd_t (show f_M_read (iI (a : Int)) 0 h = _ from e1)]
  have c5 : inR 0 5 := inz (z := 0) (by omega)
  have cl0 : Int32.toNatClampNeg 0 = 0 := rfl
  refine ⟨h1, ?_, SR_fw H (fw_km k1), hi_fw (fw_km k1)⟩
  cases hx : rdN (s.2.1 a) with
  | none =>
    simp only [if_pos (show iI (if (none : Option (Int × Nat × Int)) = none then 0 else 1) = 0 by simp; decide)]
    show _ = some (iI 0, h1)
    split <;> rfl
  | some t =>
    simp only [if_neg (show ¬ iI (if (some t : Option (Int × Nat × Int)) = none then 0 else 1) = 0 by simp; decide)]
    show _ = some (if w = 0 then iI 1 else if w = 1 then iI (nd t.2.1 : Int) else if w = 2 then iI (fp t.2.1 t.2.2) else if t.1 < 0 then iI 1 else iI 0, h1)
    have M := m1 t hx
    have okt := rdN_ok (ok.2.1 a (by omega)).1 hx
    have hs := okt.1
    by_cases w0 : w = 0
    · rw [if_pos (by rw [w0]; rfl), if_pos w0]
      rfl
    rw [if_neg (by rw [i0, iI_eq ⟨by omega, by omega⟩ ⟨by omega, by omega⟩]; exact w0), if_neg w0, chk_t c5, chk_t c5, chk_t c5]
    simp only [cl0, M.1, M.2.2.1]
    by_cases s0 : t.1 = 0
    · have c0 := okt.2.1.mp s0
      have e0 := okt.2.2.1 c0
      rw [if_pos (by rw [s0]; rfl), c0, e0, s0]
      by_cases w1 : w = 1
      · rw [if_pos w1]; rfl
      rw [if_neg w1]
      by_cases w2 : w = 2
      · rw [if_pos w2]; rfl
      rw [if_neg w2]; rfl
    have hc : 0 < t.2.1 := by
      rcases Nat.eq_zero_or_pos t.2.1 with y | y
      · exact absurd (okt.2.1.mpr y) s0
      · exact y
    rw [if_neg (by rw [i0, iI_eq ⟨by unfold isS at hs; omega, by unfold isS at hs; omega⟩ ⟨by omega, by omega⟩]; exact s0), mn_c hc]
    by_cases w1 : w = 1
    · rw [if_pos (by rw [w1]; rfl), if_pos w1]
    rw [if_neg (by rw [i1, iI_eq ⟨by omega, by omega⟩ ⟨by omega, by omega⟩]; exact w1), if_neg w1]
    by_cases w2 : w = 2
    · rw [if_pos (by rw [w2]; rfl), if_pos w2, bd_t (show f_M_high 0 h1 = _ from M_high (z := 0) (by omega) M), mn_c hc]
      unfold fp
      rw [if_neg (by omega)]
      congr 3
      omega
    rw [if_neg (by rw [show (2 : Int32) = iI 2 from rfl, iI_eq ⟨by omega, by omega⟩ ⟨by omega, by omega⟩]; exact w2), if_neg w2]
    by_cases n0 : t.1 < 0
    · rw [if_neg (by rw [i0, iI_le ⟨by omega, by omega⟩ ⟨by unfold isS at hs; omega, by unfold isS at hs; omega⟩]; omega), if_pos n0]; rfl
    · rw [if_pos (by rw [i0, iI_le ⟨by omega, by omega⟩ ⟨by unfold isS at hs; omega, by unfold isS at hs; omega⟩]; omega), if_neg n0]; rfl
-- ===== orders of texts =====
def ord (f g : Nat → Int) : Nat → Nat → Int
  | 0, _ => 0
  | m + 1, k => if f k = g k then ord f g m (k + 1) else f k - g k
def tld (v : Int) : Int := if v < 0 then 1 else if v = 0 then 2 else 4
theorem ord_b (f g : Nat → Int) (hf : ∀ k, -1 ≤ f k ∧ f k ≤ 255) (hg : ∀ k, -1 ≤ g k ∧ g k ≤ 255) : ∀ m k, -300 ≤ ord f g m k ∧ ord f g m k ≤ 300 := by
  intro m
  induction m with
  | zero => intro k; rw [ord]; omega
  | succ m ih =>
    intro k
    rw [ord]
    split
    · exact ih (k + 1)
    · have := hf k; have := hg k; omega
theorem ord_ext (f g : Nat → Int) (L' : Nat) (he : ∀ k, L' ≤ k → f k = g k) : ∀ m k, L' ≤ k + m → ord f g m k = ord f g (L' - k) k := by
  intro m
  induction m with
  | zero => intro k hk; rw [show L' - k = 0 by omega]
  | succ m ih =>
    intro k hk
    rw [ord]
    rcases Nat.lt_or_ge k L' with q | q
    · obtain ⟨y, hy⟩ : ∃ y, L' - k = y + 1 := ⟨L' - k - 1, by omega⟩
      rw [hy, ord, ih (k + 1) (by omega), show L' - (k + 1) = y by omega]
    · rw [if_pos (he k q), ih (k + 1) (by omega), show L' - (k + 1) = 0 by omega, show L' - k = 0 by omega, ord, ord]
theorem C_told {v : Int} {h : Hp} (hv : bI v) : f_D_standing (iI v) h = some (iI (tld v), h) := by
  unfold f_D_standing tld
  by_cases q : v < 0
  · rw [if_neg (by rw [i0, iI_le ⟨by omega, by omega⟩ ⟨by omega, by omega⟩]; omega), if_pos q]; rfl
  · rw [if_pos (by rw [i0, iI_le ⟨by omega, by omega⟩ ⟨by omega, by omega⟩]; omega), if_neg q]
    by_cases q2 : v = 0
    · rw [if_pos (by rw [i0, iI_le ⟨by omega, by omega⟩ ⟨by omega, by omega⟩]; omega), if_pos q2]; rfl
    · rw [if_neg (by rw [i0, iI_le ⟨by omega, by omega⟩ ⟨by omega, by omega⟩]; omega), if_neg q2]; rfl
theorem M_told {v : Int} {h : Hp} (hv : bI v) : f_M_told (iI v) h = some (iI (tld v), h) := by
  unfold f_M_told tld
  by_cases q : v < 0
  · rw [if_neg (by rw [i0, iI_le ⟨by omega, by omega⟩ ⟨by omega, by omega⟩]; omega), if_pos q]; rfl
  · rw [if_pos (by rw [i0, iI_le ⟨by omega, by omega⟩ ⟨by omega, by omega⟩]; omega), if_neg q]
    by_cases q2 : v = 0
    · rw [if_pos (by rw [q2]; rfl), if_pos q2]; rfl
    · rw [if_neg (by rw [i0, iI_eq ⟨by omega, by omega⟩ ⟨by omega, by omega⟩]; omega), if_neg q2]; rfl
theorem C_strict_loop {i j : Nat} {b1 b2 : List Nat} {h : Hp} (H1 : isL h i b1) (H2 : isL h j b2) (L : Nat) (hL : L ≤ 1000) : ∀ (m k n : Nat) (o : Int), k + m = L → m < n → -300 ≤ o ∧ o ≤ 300 → f_D_strictOrder_17 n i j (iI (L : Int)) (iI o) (iI (k : Int)) h = some (iI (if o = 0 then ord (fun k => bAt b1 (k : Int)) (fun k => bAt b2 (k : Int)) m k else o), h) := by
  intro m
  induction m with
  | zero =>
    intro k n o hk hn ho
    obtain ⟨n, rfl⟩ : ∃ q, n = q + 1 := ⟨n - 1, by omega⟩
    rw [f_D_strictOrder_17, if_pos (leN (by omega) (by omega) (by omega)), ord]
    split
    · rename_i y; rw [y]
    · rfl
  | succ m ih =>
    intro k n o hk hn ho
    obtain ⟨n, rfl⟩ : ∃ q, n = q + 1 := ⟨n - 1, by omega⟩
    rw [f_D_strictOrder_17, if_neg (nleN (by omega) (by omega) (by omega))]
    by_cases q : o = 0
    · have r1 := bAt_rg H1.2.2.1 (k : Int)
      have r2 := bAt_rg H2.2.2.1 (k : Int)
      rw [if_pos (by rw [q]; rfl), if_pos q, bd_t (L_byteAt H1 ⟨by omega, by omega⟩), bd_t (L_byteAt H2 ⟨by omega, by omega⟩), iI_sub, scN, ih (k + 1) n _ (by omega) (by omega) (by omega), ord]
      by_cases y : bAt b1 (k : Int) = bAt b2 (k : Int)
      · rw [if_pos (by omega), if_pos y]
      · rw [if_neg (by omega), if_neg y]
    · rw [if_neg (by rw [i0, iI_eq ⟨by omega, by omega⟩ ⟨by omega, by omega⟩]; exact q), if_neg q]
theorem mx_iI {a b : Nat} (ha : a ≤ 1000) (hb : b ≤ 1000) : (if iI (a : Int) < iI (b : Int) then iI (b : Int) else iI (a : Int)) = iI ((max a b : Nat) : Int) := by
  by_cases q : a < b
  · rw [if_pos (by rw [iI_lt ⟨by omega, by omega⟩ ⟨by omega, by omega⟩]; omega), Nat.max_eq_right (by omega)]
  · rw [if_neg (by rw [iI_lt ⟨by omega, by omega⟩ ⟨by omega, by omega⟩]; omega), Nat.max_eq_left (by omega)]
def oS (b1 b2 : List Nat) : Int := ord (fun k => bAt b1 (k : Int)) (fun k => bAt b2 (k : Int)) (max b1.length b2.length) 0
theorem C_strict {i j : Nat} {b1 b2 : List Nat} {h : Hp} (H1 : isL h i b1) (H2 : isL h j b2) : f_D_strictOrder i j h = some (iI (oS b1 b2), h) := by
  have l1 := H1.2.1
  have l2 := H2.2.1
  have m1 := bl_le (i + 1)
  have m2 := bl_le (j + 1)
  unfold f_D_strictOrder
  rw [H1.1, H2.1, mx_iI (by omega) (by omega)]
  have := C_strict_loop H1 H2 (max b1.length b2.length) (by omega) (max b1.length b2.length) 0 fuel 0 (by omega) (by unfold fuel; omega) (by omega)
  rw [if_pos rfl] at this
  exact this
theorem M_strict_loop {r1 r2 : Nat} {b1 b2 : List Nat} {h : Hp} (hr1 : r1 < 10) (hr2 : r2 < 10) (R1 : isR h r1 b1) (R2 : isR h r2 b2) (H1 : isE h r1 b1) (H2 : isE h r2 b2) : ∀ (m k n : Nat), k + m = min b1.length b2.length → m < n → ∃ v : Int, f_M_strictly_2 n (iI (r1 : Int)) (iI (r2 : Int)) (iI (k : Int)) h = some (iI v, h) ∧ -300 ≤ v ∧ v ≤ 300 ∧ tld v = tld (ord (fun k => bAt b1 (k : Int)) (fun k => bAt b2 (k : Int)) (max b1.length b2.length - k) k) := by
  have l1 := H1.1
  have l2 := H2.1
  have i1' : inR (iI (r1 : Int)) 10 := iI_inR (by omega) (by omega) (by omega)
  have i2' : inR (iI (r2 : Int)) 10 := iI_inR (by omega) (by omega) (by omega)
  have fin : f_M_strictly_81 (iI (r1 : Int)) (iI (r2 : Int)) h = some (iI ((b1.length : Int) - (b2.length : Int)), h) := by
    unfold f_M_strictly_81
    rw [chk_t i1', chk_t i2', clN (by omega), clN (by omega), R1.1, R2.1, iI_sub]
  intro m
  induction m with
  | zero =>
    intro k n hk hn
    obtain ⟨n, rfl⟩ : ∃ q, n = q + 1 := ⟨n - 1, by omega⟩
    refine ⟨(b1.length : Int) - (b2.length : Int), ?_, by omega, by omega, ?_⟩
    · rw [f_M_strictly_2, chk_t i1', fin]
      simp only [clN (show r1 < 2147483648 by omega), clN (show r2 < 2147483648 by omega), R1.1, R2.1]
      by_cases q : b1.length ≤ k
      · rw [if_pos (leN (by omega) (by omega) q)]
      · rw [if_neg (nleN (by omega) (by omega) (by omega)), chk_t i2', if_pos (leN (by omega) (by omega) (by omega))]
    · rcases Nat.lt_trichotomy b1.length b2.length with q | q | q
      · obtain ⟨y, hy⟩ : ∃ y, max b1.length b2.length - k = y + 1 := ⟨max b1.length b2.length - k - 1, by omega⟩
        have e1 : bAt b1 (k : Int) = -1 := bAt_out (by omega)
        have e2 : bAt b2 (k : Int) = (b2.getD k 0 : Int) := bAt_in (by omega)
        rw [hy, ord, if_neg (by omega)]
        unfold tld
        rw [if_pos (by omega), if_pos (by omega)]
      · rw [show max b1.length b2.length - k = 0 by omega, ord]
        unfold tld
        rw [if_neg (by omega), if_pos (by omega), if_neg (by omega), if_pos rfl]
      · obtain ⟨y, hy⟩ : ∃ y, max b1.length b2.length - k = y + 1 := ⟨max b1.length b2.length - k - 1, by omega⟩
        have e1 : bAt b2 (k : Int) = -1 := bAt_out (by omega)
        have e2 : bAt b1 (k : Int) = (b1.getD k 0 : Int) := bAt_in (by omega)
        rw [hy, ord, if_neg (by omega)]
        unfold tld
        rw [if_neg (by omega), if_neg (by omega), if_neg (by omega), if_neg (by omega)]
  | succ m ih =>
    intro k n hk hn
    obtain ⟨n, rfl⟩ : ∃ q, n = q + 1 := ⟨n - 1, by omega⟩
    have g1 := bAt_rg H1.2.1 (k : Int)
    have g2 := bAt_rg H2.2.1 (k : Int)
    have e1 : (200 : Int32) * iI (r1 : Int) + iI (k : Int) = iI ((200 * r1 + k : Nat) : Int) := by rw [show (200 : Int32) = iI 200 from rfl, iI_mul, iI_add]; congr 1
    have e2 : (200 : Int32) * iI (r2 : Int) + iI (k : Int) = iI ((200 * r2 + k : Nat) : Int) := by rw [show (200 : Int32) = iI 200 from rfl, iI_mul, iI_add]; congr 1
    obtain ⟨y, hy⟩ : ∃ y, max b1.length b2.length - k = y + 1 := ⟨max b1.length b2.length - k - 1, by omega⟩
    rw [f_M_strictly_2, chk_t i1', chk_t i2', e1, e2, chk_t (inB hr1 (by omega)), chk_t (inB hr2 (by omega)), chk_t (inB hr1 (by omega)), chk_t (inB hr2 (by omega))]
    simp only [clN (show r1 < 2147483648 by omega), clN (show r2 < 2147483648 by omega), R1.1, R2.1, clB hr1 (show k < 2000 by omega), clB hr2 (show k < 2000 by omega), H1.2.2 k (by omega), H2.2.2 k (by omega)]
    rw [if_neg (nleN (by omega) (by omega) (by omega)), if_neg (nleN (by omega) (by omega) (by omega)), hy, ord, scN, iI_sub]
    by_cases q : bAt b1 (k : Int) = bAt b2 (k : Int)
    · rw [if_pos (by rw [q]), if_pos q, show y = max b1.length b2.length - (k + 1) by omega]
      exact ih (k + 1) n (by omega) (by omega)
    · rw [if_neg (by rw [iI_eq ⟨by omega, by omega⟩ ⟨by omega, by omega⟩]; exact q), if_neg q]
      exact ⟨_, rfl, by omega, by omega, rfl⟩
theorem M_strict {r1 r2 : Nat} {b1 b2 : List Nat} {h : Hp} (hr1 : r1 < 10) (hr2 : r2 < 10) (R1 : isR h r1 b1) (R2 : isR h r2 b2) (o1 : okB b1 200) (o2 : okB b2 200) : ∃ v : Int, f_M_strictly (iI (r1 : Int)) (iI (r2 : Int)) h = some (iI v, h) ∧ -300 ≤ v ∧ v ≤ 300 ∧ tld v = tld (oS b1 b2) := by
  have h1 := o1.1
  have := M_strict_loop hr1 hr2 R1 R2 (isE_of R1 o1) (isE_of R2 o2) (min b1.length b2.length) 0 fuel (by omega) (by unfold fuel; omega)
  rw [Nat.sub_zero] at this
  exact this
def bOr (bs : List Nat) (k : Nat) : Int := if bAt bs (k : Int) = -1 then 32 else bAt bs (k : Int)
theorem bOr_rg {bs : List Nat} (H : ∀ k, k < bs.length → bs.getD k 0 < 256) (k : Nat) : -1 ≤ bOr bs k ∧ bOr bs k ≤ 255 := by
  have := bAt_rg H (k : Int)
  unfold bOr
  split <;> omega
theorem C_bOr {i k : Nat} {bs : List Nat} {h : Hp} (hk : k ≤ 10000) (H : isL h i bs) : f_L_byteOrBlank i (iI (k : Int)) h = some (iI (bOr bs k), h) := by
  have r := bAt_rg H.2.2.1 (k : Int)
  unfold f_L_byteOrBlank bOr
  rw [bd_t (L_byteAt H ⟨by omega, by omega⟩)]
  by_cases q : bAt bs (k : Int) = -1
  · rw [if_pos (by rw [q]; rfl), if_pos q]; rfl
  · rw [if_neg (by rw [im1, iI_eq ⟨by omega, by omega⟩ ⟨by omega, by omega⟩]; exact q), if_neg q]
theorem C_ink_loop {i : Nat} {bs : List Nat} {h : Hp} (H : isL h i bs) : ∀ (m k n : Nat), k + m = bs.length → m < n → f_L_firstInk_2 n i (iI (k : Int)) h = some (iI (skp bs m k : Int), h) := by
  have hl := H.2.1
  have hbl := bl_le (i + 1)
  intro m
  induction m with
  | zero =>
    intro k n hk hn
    obtain ⟨n, rfl⟩ : ∃ q, n = q + 1 := ⟨n - 1, by omega⟩
    rw [f_L_firstInk_2, H.1, if_pos (leN (by omega) (by omega) (by omega)), skp]
  | succ m ih =>
    intro k n hk hn
    obtain ⟨n, rfl⟩ : ∃ q, n = q + 1 := ⟨n - 1, by omega⟩
    have hr := bAt_rg H.2.2.1 (k : Int)
    rw [f_L_firstInk_2, H.1, if_neg (nleN (by omega) (by omega) (by omega)), bd_t (L_byteAt H ⟨by omega, by omega⟩), skp]
    by_cases q : bAt bs (k : Int) = 32
    · rw [if_pos (by rw [q]; rfl), if_pos q, scN]
      exact ih (k + 1) n (by omega) (by omega)
    · rw [if_neg (by rw [show (32 : Int32) = iI 32 from rfl, iI_eq ⟨by omega, by omega⟩ ⟨by omega, by omega⟩]; exact q), if_neg q]
theorem C_ink {i : Nat} {bs : List Nat} {h : Hp} (H : isL h i bs) : f_L_firstInk i h = some (iI (rdK bs : Int), h) := by
  have hl := H.2.1
  have hbl := bl_le (i + 1)
  exact C_ink_loop H bs.length 0 fuel (by omega) (by unfold fuel; omega)
theorem C_loose_loop {i j k1 k2 : Nat} {b1 b2 : List Nat} {h : Hp} (H1 : isL h i b1) (H2 : isL h j b2) (hk1 : k1 ≤ 1000) (hk2 : k2 ≤ 1000) (L : Nat) (hL : L ≤ 1000) : ∀ (m k n : Nat) (o : Int), k + m = L → m < n → -300 ≤ o ∧ o ≤ 300 → f_D_looseOrder_33 n i j (iI (k1 : Int)) (iI (k2 : Int)) (iI (L : Int)) (iI o) (iI (k : Int)) h = some (iI (if o = 0 then ord (fun k => bOr b1 (k1 + k)) (fun k => bOr b2 (k2 + k)) m k else o), h) := by
  intro m
  induction m with
  | zero =>
    intro k n o hk hn ho
    obtain ⟨n, rfl⟩ : ∃ q, n = q + 1 := ⟨n - 1, by omega⟩
    rw [f_D_looseOrder_33, if_pos (leN (by omega) (by omega) (by omega)), ord]
    split
    · rename_i y; rw [y]
    · rfl
  | succ m ih =>
    intro k n o hk hn ho
    obtain ⟨n, rfl⟩ : ∃ q, n = q + 1 := ⟨n - 1, by omega⟩
    rw [f_D_looseOrder_33, if_neg (nleN (by omega) (by omega) (by omega))]
    by_cases q : o = 0
    · have r1 := bOr_rg H1.2.2.1 (k1 + k)
      have r2 := bOr_rg H2.2.2.1 (k2 + k)
      have e1 : iI (k1 : Int) + iI (k : Int) = iI ((k1 + k : Nat) : Int) := by rw [iI_add]; rfl
      have e2 : iI (k2 : Int) + iI (k : Int) = iI ((k2 + k : Nat) : Int) := by rw [iI_add]; rfl
      rw [if_pos (by rw [q]; rfl), if_pos q, e1, e2, bd_t (C_bOr (by omega) H1), bd_t (C_bOr (by omega) H2), iI_sub, scN, ih (k + 1) n _ (by omega) (by omega) (by omega), ord]
      by_cases y : bOr b1 (k1 + k) = bOr b2 (k2 + k)
      · rw [if_pos (by omega), if_pos y]
      · rw [if_neg (by omega), if_neg y]
    · rw [if_neg (by rw [i0, iI_eq ⟨by omega, by omega⟩ ⟨by omega, by omega⟩]; exact q), if_neg q]
def oL (b1 b2 : List Nat) : Int := ord (fun k => bOr b1 (rdK b1 + k)) (fun k => bOr b2 (rdK b2 + k)) (max (b1.length - rdK b1) (b2.length - rdK b2)) 0
theorem C_loose {i j : Nat} {b1 b2 : List Nat} {h : Hp} (H1 : isL h i b1) (H2 : isL h j b2) : f_D_looseOrder i j h = some (iI (oL b1 b2), h) := by
  have l1 := H1.2.1
  have l2 := H2.2.1
  have m1 := bl_le (i + 1)
  have m2 := bl_le (j + 1)
  have k1 := rdK_le b1
  have k2 := rdK_le b2
  unfold f_D_looseOrder
  rw [bd_t (C_ink H1), bd_t (C_ink H2), H1.1, H2.1, iI_sub, iI_sub, show (b1.length : Int) - (rdK b1 : Int) = ((b1.length - rdK b1 : Nat) : Int) by omega, show (b2.length : Int) - (rdK b2 : Int) = ((b2.length - rdK b2 : Nat) : Int) by omega, mx_iI (by omega) (by omega)]
  have := C_loose_loop (k1 := rdK b1) (k2 := rdK b2) H1 H2 (by omega) (by omega) (max (b1.length - rdK b1) (b2.length - rdK b2)) (by omega) (max (b1.length - rdK b1) (b2.length - rdK b2)) 0 fuel 0 (by omega) (by unfold fuel; omega) (by omega)
  rw [if_pos rfl] at this
  exact this
theorem M_l34 {r : Nat} {bs : List Nat} {h : Hp} {v4 v6 : Int32} (hr : r < 10) (H : isE h r bs) : ∀ (m k n : Nat), k + m = bs.length → m < n → f_M_loosely_34 n (iI ((200 * r + k : Nat) : Int)) v4 (iI ((200 * r + bs.length : Nat) : Int)) v6 h = f_M_loosely_57 fuel (iI ((200 * r + skp bs m k : Nat) : Int)) v4 (iI ((200 * r + bs.length : Nat) : Int)) v6 h := by
  have hl := H.1
  intro m
  induction m with
  | zero =>
    intro k n hk hn
    obtain ⟨n, rfl⟩ : ∃ q, n = q + 1 := ⟨n - 1, by omega⟩
    rw [f_M_loosely_34, if_pos (leN (by omega) (by omega) (by omega)), skp]
  | succ m ih =>
    intro k n hk hn
    obtain ⟨n, rfl⟩ : ∃ q, n = q + 1 := ⟨n - 1, by omega⟩
    have hrg := bAt_rg H.2.1 (k : Int)
    rw [f_M_loosely_34, if_neg (nleN (by omega) (by omega) (by omega)), chk_t (inB hr (by omega)), skp]
    simp only [clB hr (show k < 2000 by omega), H.2.2 k (by omega)]
    by_cases q : bAt bs (k : Int) = 32
    · rw [if_pos (by rw [q]; rfl), if_pos q, scN]
      exact ih (k + 1) n (by omega) (by omega)
    · rw [if_neg (by rw [show (32 : Int32) = iI 32 from rfl, iI_eq ⟨by omega, by omega⟩ ⟨by omega, by omega⟩]; exact q), if_neg q]
theorem M_l57 {r : Nat} {bs : List Nat} {h : Hp} {v3 v5 : Int32} (hr : r < 10) (H : isE h r bs) : ∀ (m k n : Nat), k + m = bs.length → m < n → f_M_loosely_57 n v3 (iI ((200 * r + k : Nat) : Int)) v5 (iI ((200 * r + bs.length : Nat) : Int)) h = f_M_loosely_82 fuel v3 (iI ((200 * r + skp bs m k : Nat) : Int)) v5 (iI ((200 * r + bs.length : Nat) : Int)) h := by
  have hl := H.1
  intro m
  induction m with
  | zero =>
    intro k n hk hn
    obtain ⟨n, rfl⟩ : ∃ q, n = q + 1 := ⟨n - 1, by omega⟩
    rw [f_M_loosely_57, if_pos (leN (by omega) (by omega) (by omega)), skp]
  | succ m ih =>
    intro k n hk hn
    obtain ⟨n, rfl⟩ : ∃ q, n = q + 1 := ⟨n - 1, by omega⟩
    have hrg := bAt_rg H.2.1 (k : Int)
    rw [f_M_loosely_57, if_neg (nleN (by omega) (by omega) (by omega)), chk_t (inB hr (by omega)), skp]
    simp only [clB hr (show k < 2000 by omega), H.2.2 k (by omega)]
    by_cases q : bAt bs (k : Int) = 32
    · rw [if_pos (by rw [q]; rfl), if_pos q, scN]
      exact ih (k + 1) n (by omega) (by omega)
    · rw [if_neg (by rw [show (32 : Int32) = iI 32 from rfl, iI_eq ⟨by omega, by omega⟩ ⟨by omega, by omega⟩]; exact q), if_neg q]
theorem M_l82 {r k : Nat} {bs : List Nat} {h : Hp} {v4 v6 : Int32} (hr : r < 10) (H : isE h r bs) : ∀ (m n : Nat), k + m ≤ bs.length → m < n → f_M_loosely_82 n (iI ((200 * r + k : Nat) : Int)) v4 (iI ((200 * r + (k + m) : Nat) : Int)) v6 h = f_M_loosely_108 fuel (iI ((200 * r + k : Nat) : Int)) v4 (iI ((200 * r + trm bs k m : Nat) : Int)) v6 h := by
  have hl := H.1
  intro m
  induction m with
  | zero =>
    intro n hk hn
    obtain ⟨n, rfl⟩ : ∃ q, n = q + 1 := ⟨n - 1, by omega⟩
    rw [f_M_loosely_82, if_pos (leN (by omega) (by omega) (by omega)), trm]
    rfl
  | succ m ih =>
    intro n hk hn
    obtain ⟨n, rfl⟩ : ∃ q, n = q + 1 := ⟨n - 1, by omega⟩
    have hrg := bAt_rg H.2.1 ((k + m : Nat) : Int)
    have em : iI ((200 * r + (k + (m + 1)) : Nat) : Int) - 1 = iI ((200 * r + (k + m) : Nat) : Int) := by rw [i1, iI_sub]; congr 1; omega
    have em2 : iI ((200 * r + (k + (m + 1)) : Nat) : Int) + (-1) = iI ((200 * r + (k + m) : Nat) : Int) := by rw [im1, iI_add]; congr 1; omega
    rw [f_M_loosely_82, if_neg (nleN (by omega) (by omega) (by omega)), em, chk_t (inB hr (by omega)), trm, em2]
    simp only [clB hr (show k + m < 2000 by omega), H.2.2 (k + m) (by omega)]
    by_cases q : bAt bs ((k + m : Nat) : Int) = 32
    · rw [if_pos (by rw [q]; rfl), if_pos q]
      exact ih n (by omega) (by omega)
    · rw [if_neg (by rw [show (32 : Int32) = iI 32 from rfl, iI_eq ⟨by omega, by omega⟩ ⟨by omega, by omega⟩]; exact q), if_neg q]
      rfl
theorem M_l108 {r k : Nat} {bs : List Nat} {h : Hp} {v3 v5 : Int32} (hr : r < 10) (H : isE h r bs) : ∀ (m n : Nat), k + m ≤ bs.length → m < n → f_M_loosely_108 n v3 (iI ((200 * r + k : Nat) : Int)) v5 (iI ((200 * r + (k + m) : Nat) : Int)) h = f_M_loosely_135 fuel v3 (iI ((200 * r + k : Nat) : Int)) v5 (iI ((200 * r + trm bs k m : Nat) : Int)) h := by
  have hl := H.1
  intro m
  induction m with
  | zero =>
    intro n hk hn
    obtain ⟨n, rfl⟩ : ∃ q, n = q + 1 := ⟨n - 1, by omega⟩
    rw [f_M_loosely_108, if_pos (leN (by omega) (by omega) (by omega)), trm]
    rfl
  | succ m ih =>
    intro n hk hn
    obtain ⟨n, rfl⟩ : ∃ q, n = q + 1 := ⟨n - 1, by omega⟩
    have hrg := bAt_rg H.2.1 ((k + m : Nat) : Int)
    have em : iI ((200 * r + (k + (m + 1)) : Nat) : Int) - 1 = iI ((200 * r + (k + m) : Nat) : Int) := by rw [i1, iI_sub]; congr 1; omega
    have em2 : iI ((200 * r + (k + (m + 1)) : Nat) : Int) + (-1) = iI ((200 * r + (k + m) : Nat) : Int) := by rw [im1, iI_add]; congr 1; omega
    rw [f_M_loosely_108, if_neg (nleN (by omega) (by omega) (by omega)), em, chk_t (inB hr (by omega)), trm, em2]
    simp only [clB hr (show k + m < 2000 by omega), H.2.2 (k + m) (by omega)]
    by_cases q : bAt bs ((k + m : Nat) : Int) = 32
    · rw [if_pos (by rw [q]; rfl), if_pos q]
      exact ih n (by omega) (by omega)
    · rw [if_neg (by rw [show (32 : Int32) = iI 32 from rfl, iI_eq ⟨by omega, by omega⟩ ⟨by omega, by omega⟩]; exact q), if_neg q]
      rfl
theorem M_l135 {r1 r2 k1 k2 E1 E2 : Nat} {b1 b2 : List Nat} {h : Hp} (hr1 : r1 < 10) (hr2 : r2 < 10) (H1 : isE h r1 b1) (H2 : isE h r2 b2) (hE1 : E1 ≤ b1.length) (hE2 : E2 ≤ b2.length) (hk1 : k1 ≤ E1) (hk2 : k2 ≤ E2) (t1 : ∀ j, E1 ≤ j → bOr b1 j = 32) (t2 : ∀ j, E2 ≤ j → bOr b2 j = 32) : ∀ (m k n : Nat), k + m = max (E1 - k1) (E2 - k2) → m < n → f_M_loosely_135 n (iI ((200 * r1 + (k1 + k) : Nat) : Int)) (iI ((200 * r2 + (k2 + k) : Nat) : Int)) (iI ((200 * r1 + E1 : Nat) : Int)) (iI ((200 * r2 + E2 : Nat) : Int)) h = some (iI (ord (fun k => bOr b1 (k1 + k)) (fun k => bOr b2 (k2 + k)) m k), h) := by
  have l1 := H1.1
  have l2 := H2.1
  intro m
  induction m with
  | zero =>
    intro k n hk hn
    obtain ⟨n, rfl⟩ : ∃ q, n = q + 1 := ⟨n - 1, by omega⟩
    rw [f_M_loosely_135, if_neg (by rw [iI_lt ⟨by omega, by omega⟩ ⟨by omega, by omega⟩]; omega), if_pos (leN (by omega) (by omega) (by omega)), ord]
    rfl
  | succ m ih =>
    intro k n hk hn
    obtain ⟨n, rfl⟩ : ∃ q, n = q + 1 := ⟨n - 1, by omega⟩
    have step : f_M_loosely_148 (fun v3 v4 v5 v6 h => f_M_loosely_135 n v3 v4 v5 v6 h) (iI ((200 * r1 + (k1 + k) : Nat) : Int)) (iI ((200 * r2 + (k2 + k) : Nat) : Int)) (iI ((200 * r1 + E1 : Nat) : Int)) (iI ((200 * r2 + E2 : Nat) : Int)) h = some (iI (ord (fun k => bOr b1 (k1 + k)) (fun k => bOr b2 (k2 + k)) (m + 1) k), h) := by
      have r1' := bOr_rg H1.2.1 (k1 + k)
      have r2' := bOr_rg H2.2.1 (k2 + k)
      have e186 : f_M_loosely_186 (fun v3 v4 v5 v6 h => f_M_loosely_135 n v3 v4 v5 v6 h) (iI ((200 * r1 + (k1 + k) : Nat) : Int)) (iI ((200 * r2 + (k2 + k) : Nat) : Int)) (iI ((200 * r1 + E1 : Nat) : Int)) (iI ((200 * r2 + E2 : Nat) : Int)) (iI (bOr b1 (k1 + k))) (iI (bOr b2 (k2 + k))) h = some (iI (ord (fun k => bOr b1 (k1 + k)) (fun k => bOr b2 (k2 + k)) (m + 1) k), h) := by
        unfold f_M_loosely_186
        rw [ord, scN, scN, iI_sub]
        by_cases y : bOr b1 (k1 + k) = bOr b2 (k2 + k)
        · rw [if_pos (by rw [y]), if_pos y]
          exact ih (k + 1) n (by omega) (by omega)
        · rw [if_neg (by rw [iI_eq ⟨by omega, by omega⟩ ⟨by omega, by omega⟩]; exact y), if_neg y]
      have e165 : f_M_loosely_165 (fun v3 v4 v5 v6 h => f_M_loosely_135 n v3 v4 v5 v6 h) (iI ((200 * r1 + (k1 + k) : Nat) : Int)) (iI ((200 * r2 + (k2 + k) : Nat) : Int)) (iI ((200 * r1 + E1 : Nat) : Int)) (iI ((200 * r2 + E2 : Nat) : Int)) (iI (bOr b1 (k1 + k))) h = some (iI (ord (fun k => bOr b1 (k1 + k)) (fun k => bOr b2 (k2 + k)) (m + 1) k), h) := by
        unfold f_M_loosely_165
        by_cases y : E2 ≤ k2 + k
        · rw [if_pos (leN (by omega) (by omega) (by omega)), ← e186, t2 _ y]; rfl
        · have : bOr b2 (k2 + k) = bAt b2 ((k2 + k : Nat) : Int) := by unfold bOr; rw [if_neg (by rw [bAt_in (by omega)]; omega)]
          rw [if_neg (nleN (by omega) (by omega) (by omega)), chk_t (inB hr2 (by omega)), clB hr2 (by omega), H2.2.2 _ (by omega), ← this, e186]
      unfold f_M_loosely_148
      by_cases y : E1 ≤ k1 + k
      · rw [if_pos (leN (by omega) (by omega) (by omega)), ← e165, t1 _ y]; rfl
      · have : bOr b1 (k1 + k) = bAt b1 ((k1 + k : Nat) : Int) := by unfold bOr; rw [if_neg (by rw [bAt_in (by omega)]; omega)]
        rw [if_neg (nleN (by omega) (by omega) (by omega)), chk_t (inB hr1 (by omega)), clB hr1 (by omega), H1.2.2 _ (by omega), ← this, e165]
    rw [f_M_loosely_135, step]
    by_cases q : k1 + k < E1
    · rw [if_pos (by rw [iI_lt ⟨by omega, by omega⟩ ⟨by omega, by omega⟩]; omega)]
    · rw [if_neg (by rw [iI_lt ⟨by omega, by omega⟩ ⟨by omega, by omega⟩]; omega), if_neg (nleN (by omega) (by omega) (by omega))]
theorem M_loose {r1 r2 : Nat} {b1 b2 : List Nat} {h : Hp} (hr1 : r1 < 10) (hr2 : r2 < 10) (R1 : isR h r1 b1) (R2 : isR h r2 b2) (o1 : okB b1 200) (o2 : okB b2 200) : f_M_loosely (iI (r1 : Int)) (iI (r2 : Int)) h = some (iI (oL b1 b2), h) := by
  have H1 := isE_of R1 o1
  have H2 := isE_of R2 o2
  have l1 := o1.1
  have l2 := o2.1
  have i1' : inR (iI (r1 : Int)) 10 := iI_inR (by omega) (by omega) (by omega)
  have i2' : inR (iI (r2 : Int)) 10 := iI_inR (by omega) (by omega) (by omega)
  have a1 : (200 : Int32) * iI (r1 : Int) = iI ((200 * r1 + 0 : Nat) : Int) := by rw [show (200 : Int32) = iI 200 from rfl, iI_mul]; rfl
  have a2 : (200 : Int32) * iI (r2 : Int) = iI ((200 * r2 + 0 : Nat) : Int) := by rw [show (200 : Int32) = iI 200 from rfl, iI_mul]; rfl
  have c1 : iI ((200 * r1 + 0 : Nat) : Int) + iI (b1.length : Int) = iI ((200 * r1 + b1.length : Nat) : Int) := by rw [iI_add]; congr 1
  have c2 : iI ((200 * r2 + 0 : Nat) : Int) + iI (b2.length : Int) = iI ((200 * r2 + b2.length : Nat) : Int) := by rw [iI_add]; congr 1
  have k1 := rdK_le b1
  have k2 := rdK_le b2
  have g1 := rdEnd_le b1
  have g2 := rdEnd_le b2
  unfold f_M_loosely
  rw [chk_t i1', chk_t i2', clN (by omega), clN (by omega), R1.1, R2.1, a1, a2, c1, c2, M_l34 hr1 H1 b1.length 0 fuel (by omega) (by unfold fuel; omega), M_l57 hr2 H2 b2.length 0 fuel (by omega) (by unfold fuel; omega)]
  have e82 := M_l82 (k := rdK b1) (v4 := iI ((200 * r2 + rdK b2 : Nat) : Int)) (v6 := iI ((200 * r2 + b2.length : Nat) : Int)) hr1 H1 (b1.length - rdK b1) fuel (by omega) (by unfold fuel; omega)
  rw [show rdK b1 + (b1.length - rdK b1) = b1.length by omega] at e82
  refine Eq.trans e82 ?_
  have e108 := M_l108 (k := rdK b2) (v3 := iI ((200 * r1 + rdK b1 : Nat) : Int)) (v5 := iI ((200 * r1 + rdEnd b1 : Nat) : Int)) hr2 H2 (b2.length - rdK b2) fuel (by omega) (by unfold fuel; omega)
  rw [show rdK b2 + (b2.length - rdK b2) = b2.length by omega] at e108
  refine Eq.trans e108 ?_
  have tt : ∀ b : List Nat, ∀ j, rdEnd b ≤ j → bOr b j = 32 := fun b j hj => by
    have hb := rdK_le b
    unfold bOr
    rcases Nat.lt_or_ge j b.length with y | y
    · have := (trm_p b (rdK b) (b.length - rdK b)).2.2.1 j hj (by omega)
      rw [this]
      rfl
    · rw [bAt_out y, if_pos rfl]
  have e135 := M_l135 (k1 := rdK b1) (k2 := rdK b2) hr1 hr2 H1 H2 g1.2 g2.2 g1.1 g2.1 (tt b1) (tt b2) (max (rdEnd b1 - rdK b1) (rdEnd b2 - rdK b2)) 0 fuel (by omega) (by unfold fuel; omega)
  refine Eq.trans e135 ?_
  congr 3
  unfold oL
  rw [ord_ext _ _ (max (rdEnd b1 - rdK b1) (rdEnd b2 - rdK b2)) (fun k hk => by show bOr b1 _ = bOr b2 _; rw [tt b1 _ (by omega), tt b2 _ (by omega)]) (max (b1.length - rdK b1) (b2.length - rdK b2)) 0 (by omega), Nat.sub_zero]
end
section
/-! PURE 16: laying out, cut -/
theorem q64 {a : Int} (h : bI a) : (iI a).toInt64 = Int64.ofInt a := by
  apply Int64.toInt_inj.mp
  rw [Int32.toInt_toInt64, iI_toInt h, Int64.toInt_ofInt_of_le (by have := h.1; omega) (by have := h.2; omega)]
theorem o64 (a b : Int) : Int64.ofInt a + Int64.ofInt b = Int64.ofInt (a + b) := by
  apply Int64.toInt_inj.mp
  simp
theorem c64 {a : Int} (h1 : -10000000000 ≤ a) (h2 : a ≤ 10000000000) : lg_cmp (Int64.ofInt a) 200 ≤ 0 ↔ a ≤ 200 := by
  have hg : Int64.ofInt a > 200 ↔ 200 < a := by
    show (200 : Int64) < Int64.ofInt a ↔ _
    rw [Int64.lt_iff_toInt_lt, Int64.toInt_ofInt_of_le (by omega) (by omega), show (200 : Int64).toInt = 200 by decide]
  unfold lg_cmp
  by_cases q : 200 < a
  · rw [if_pos (hg.mpr q)]
    exact ⟨fun z => absurd z (by decide), fun z => by omega⟩
  · rw [if_neg (fun z => q (hg.mp z))]
    refine ⟨fun _ => by omega, fun _ => ?_⟩
    split <;> decide
def pA (t : Int × Nat × Int) : Nat := aA t.2.1 t.2.2 + (if t.1 < 0 then 1 else 0)
theorem C_ahead {i : Nat} {t : Int × Nat × Int} {h : Hp} (hs : isS t.1) (hc : nd t.2.1 ≤ 1000) (he : -100000000 ≤ t.2.2 ∧ t.2.2 ≤ 100000000) (N : isN h i t.1 t.2.1 t.2.2) : f_D_placesAhead i h = some (iI (pA t : Int), h) := by
  unfold f_D_placesAhead pA
  rw [bd_t (N_ahead N), N.2.2, aA_eq _ _ he hc]
  unfold isS at hs
  by_cases q : t.1 < 0
  · rw [if_neg (by rw [i0, iI_le ⟨by omega, by omega⟩ ⟨by omega, by omega⟩]; omega), if_pos q, scN]
  · rw [if_pos (by rw [i0, iI_le ⟨by omega, by omega⟩ ⟨by omega, by omega⟩]; omega), if_neg q, Int32.add_zero]
    rfl
def sp_lay (t : Int × Nat × Int) (A p r : Nat) (s : St) : Int32 × St := if A + (if p = 0 then 0 else p + 1) ≤ 200 then sp_keep (List.replicate (A - pA t) 32 ++ (sgT t.1 ++ plT t.2.1 t.2.2 (aA t.2.1 t.2.2) p)) r s else (iI (-5), s)
theorem lay_len (t : Int × Nat × Int) (p : Nat) : (sgT t.1 ++ plT t.2.1 t.2.2 (aA t.2.1 t.2.2) p).length = pA t + (if p = 0 then 0 else p + 1) := by
  rw [List.length_append, sgT_len, plT_len]
  unfold pA
  omega
theorem C_lay45 {r p : Nat} {t : Int × Nat × Int} {σ : St} (hr : r < 10) (hs : isS t.1) (hc : nd t.2.1 ≤ 1000) (he : -100000000 ≤ t.2.2 ∧ t.2.2 ≤ 100000000) (ok : okS σ) : ∀ (m n : Nat) (h : Hp) (bs : List Nat), m < n → SC h σ → isN h 29 t.1 t.2.1 t.2.2 → isL h 24 bs → bs.length + m + (sgT t.1 ++ plT t.2.1 t.2.2 (aA t.2.1 t.2.2) p).length ≤ 200 → ∃ h', f_D_layOut_45 n 29 (iI (p : Int)) (4 + 2 * r) (iI (m : Int)) h = some ((sp_keep (bs ++ (List.replicate m 32 ++ (sgT t.1 ++ plT t.2.1 t.2.2 (aA t.2.1 t.2.2) p))) r σ).1, h') ∧ SC h' (sp_keep (bs ++ (List.replicate m 32 ++ (sgT t.1 ++ plT t.2.1 t.2.2 (aA t.2.1 t.2.2) p))) r σ).2 ∧ okS (sp_keep (bs ++ (List.replicate m 32 ++ (sgT t.1 ++ plT t.2.1 t.2.2 (aA t.2.1 t.2.2) p))) r σ).2 ∧ lo h h' := by
  intro m
  induction m with
  | zero =>
    intro n h bs hn H N L hl
    obtain ⟨n, rfl⟩ : ∃ q, n = q + 1 := ⟨n - 1, by omega⟩
    rw [f_D_layOut_45, if_pos (by rw [i0, iI_le ⟨by omega, by omega⟩ ⟨by omega, by omega⟩]; omega)]
    obtain ⟨h1, e1, L1, k1⟩ := T_plain (i := 29) (pl := p) (by omega) hs hc he N L (by omega)
    rw [bd_t e1]
    have f1 := fr_kp (by omega) (by omega) (by omega) (by omega) k1
    obtain ⟨h2, e2, S2, l2⟩ := C_keep hr (SC_fr H f1) L1
    rw [bd_t e2]
    exact ⟨h2, rfl, S2, okS_keep ok (isL_ok L1), lo_t (lo_fr f1) l2⟩
  | succ m ih =>
    intro n h bs hn H N L hl
    obtain ⟨n, rfl⟩ : ∃ q, n = q + 1 := ⟨n - 1, by omega⟩
    rw [f_D_layOut_45, if_neg (by rw [i0, iI_le ⟨by omega, by omega⟩ ⟨by omega, by omega⟩]; omega)]
    obtain ⟨h1, e1, L1, k1⟩ := P_add (b := 32) L (by omega) (by omega)
    rw [bd_t (show f_L_add 24 32 h = _ from e1), pcN]
    have f1 := fr_kp (by omega) (by omega) (by omega) (by omega) k1
    obtain ⟨h2, e2, S2, o2, l2⟩ := ih n h1 (bs ++ [32]) (by omega) (SC_fr H f1) (isN_k24 (by omega) N k1) L1 (by rw [List.length_append (as := bs)]; simp only [List.length_cons, List.length_nil]; omega)
    have ew : (bs ++ [32]) ++ (List.replicate m 32 ++ (sgT t.1 ++ plT t.2.1 t.2.2 (aA t.2.1 t.2.2) p)) = bs ++ (List.replicate (m + 1) 32 ++ (sgT t.1 ++ plT t.2.1 t.2.2 (aA t.2.1 t.2.2) p)) := by
      rw [List.replicate_succ, List.append_assoc]
      rfl
    rw [ew] at e2 S2 o2
    exact ⟨h2, e2, S2, o2, lo_t (lo_fr f1) l2⟩
theorem C_lay {r A p : Nat} {t : Int × Nat × Int} {s : St} {h : Hp} (hr : r < 10) (H : SC h s) (ok : okS s) (hs : isS t.1) (hc : nd t.2.1 ≤ 1000) (he : -100000000 ≤ t.2.2 ∧ t.2.2 ≤ 100000000) (N : isN h 29 t.1 t.2.1 t.2.2) (hA : A < 2147483648) (hp : p < 2147483648) (hl : pA t ≤ A) : ∃ h', f_D_layOut 29 (iI (A : Int)) (iI (p : Int)) (4 + 2 * r) h = some ((sp_lay t A p r s).1, h') ∧ SC h' (sp_lay t A p r s).2 ∧ okS (sp_lay t A p r s).2 ∧ lo h h' := by
  have go : ∀ s0 s1 : Int64, (lg_cmp (s0 + s1) 200 ≤ 0 ↔ A + (if p = 0 then 0 else p + 1) ≤ 200) → ∃ h', f_D_layOut_14 29 (iI (A : Int)) (iI (p : Int)) (4 + 2 * r) s0 s1 h = some ((sp_lay t A p r s).1, h') ∧ SC h' (sp_lay t A p r s).2 ∧ okS (sp_lay t A p r s).2 ∧ lo h h' := by
    intro s0 s1 q
    unfold f_D_layOut_14 sp_lay
    by_cases q2 : A + (if p = 0 then 0 else p + 1) ≤ 200
    · rw [if_pos (q.mpr q2), if_pos q2]
      have f1 := fr_up h (i := 24) 1 0 (by omega) (by omega)
      have N1 : isN (up2 h 24 1 0) 29 t.1 t.2.1 t.2.2 := isN_eq N (up2_ne _ _ _ (by omega)) (up2_ne _ _ _ (by omega))
      rw [bd_t (C_ahead hs hc he N1), iI_sub, show ((A : Int) - (pA t : Int)) = ((A - pA t : Nat) : Int) by omega]
      obtain ⟨h2, e2, S2, o2, l2⟩ := C_lay45 (t := t) (p := p) hr hs hc he ok (A - pA t) fuel _ [] (by unfold fuel; omega) (SC_fr H f1) N1 isL_nil (by rw [lay_len, List.length_nil]; omega)
      exact ⟨h2, e2, S2, o2, lo_t (lo_fr f1) l2⟩
    · rw [if_neg (fun z => q2 (q.mp z)), if_neg q2]
      exact ⟨h, rfl, H, ok, lo_r _⟩
  unfold f_D_layOut
  by_cases q0 : p = 0
  · rw [if_pos (by rw [i0, iI_le ⟨by omega, by omega⟩ ⟨by omega, by omega⟩]; omega)]
    refine go _ _ ?_
    rw [q64 ⟨by omega, by omega⟩, show (0 : Int64) = Int64.ofInt 0 from rfl, o64, c64 (by omega) (by omega), if_pos q0]
    omega
  · rw [if_neg (by rw [i0, iI_le ⟨by omega, by omega⟩ ⟨by omega, by omega⟩]; omega)]
    refine go _ _ ?_
    rw [q64 (a := (A : Int)) ⟨by omega, by omega⟩, q64 (a := (p : Int)) ⟨by omega, by omega⟩, show (1 : Int64) = Int64.ofInt 1 from rfl, o64, o64, c64 (by omega) (by omega), if_neg q0]
    omega
-- ===== the reference's way to lay out =====
def sp_fit (T : List Nat) (r : Nat) (s : St) : Int32 × St := if T.length ≤ 200 then sp_keep T r s else (iI (-5), s)
theorem M_fit {r n a c : Nat} {sg e : Int} {s : St} {h : Hp} {bs : List Nat} (hr : r < 10) (H : SR h s) (ok : okS s) (M : isM h 0 sg c e) (he : -100000000 ≤ e ∧ e ≤ 100000000) (W : isW h bs) (hn : n ≤ 1500) (ha : a ≤ 5000) (hb : bs.length ≤ 5000) : ∃ h', bd (f_M_plain 0 (iI ((a : Int) - 1)) (-(iI (n : Int))) h) (fun _ h1 => if (h1 46 13) ≤ 200 then bd (f_M_keep (iI (r : Int)) h1) (fun r2 h2 => some (r2, h2)) else some ((-5), h1)) = some ((sp_fit (bs ++ plT c e a n) r s).1, h') ∧ SR h' (sp_fit (bs ++ plT c e a n) r s).2 ∧ hi h h' := by
  obtain ⟨h1, e1, T', W1, k1, l1, d1⟩ := M_pA (z := 0) (c := c) (pl := n) (by omega) he (by omega) a fuel h bs (by unfold fuel; omega) M W (by omega)
  unfold f_M_plain
  rw [iI_neg, bd_t (show f_M_plain_3 fuel 0 (iI (-(n : Int))) (iI ((a : Int) - 1)) h = _ from e1)]
  have hl := plT_len c e a n
  have hl2 : (if n = 0 then 0 else n + 1) ≤ 1501 := by split <;> omega
  unfold sp_fit
  rw [W1.1]
  by_cases q : (bs ++ plT c e a n).length ≤ 200
  · have eT : T' = plT c e a n := by
      rcases d1 with d | d
      · exact d
      · rw [List.length_append] at d q
        omega
    rw [eT] at W1 ⊢
    rw [if_pos q, if_pos (by rw [show (200 : Int32) = iI 200 from rfl, iI_le ⟨by omega, by omega⟩ ⟨by omega, by omega⟩]; omega)]
    obtain ⟨h2, e2, S2, l2⟩ := M_keep hr (SR_fw H (fw_kw k1)) ok W1 q
    rw [bd_t e2]
    exact ⟨h2, rfl, S2, hi_t (hi_fw (fw_kw k1)) l2⟩
  · have b1 : 200 < (bs ++ T').length := by
      rcases d1 with d | d
      · rw [d]; omega
      · omega
    have b2 : (bs ++ T').length ≤ 20000 := by rw [List.length_append]; omega
    rw [if_neg q, if_neg (by rw [show (200 : Int32) = iI 200 from rfl, iI_le ⟨by omega, by omega⟩ ⟨by omega, by omega⟩]; omega)]
    exact ⟨h1, rfl, SR_fw H (fw_kw k1), hi_fw (fw_kw k1)⟩
theorem aA_1 {c : Nat} {e : Int} (hz : c = 0 → e = 0) (h : (mn c : Int) - 1 + e ≤ 0) : aA c e = 1 := by
  unfold aA mn at *
  omega
theorem aA_2 {c : Nat} {e : Int} (hz : c = 0 → e = 0) (h : 0 < (mn c : Int) - 1 + e) : (mn c : Int) - 1 + e = (aA c e : Int) - 1 := by
  by_cases q : c = 0
  · rw [q, mn_0, hz q] at h
    omega
  · have := mn_c (c := c) (by omega)
    unfold aA
    omega
-- ===== cut =====
def ctT (n : Nat) (t : Int × Nat × Int) : Int × Nat × Int := if (nd t.2.1 : Int) + t.2.2 ≤ -(n : Int) then (0, 0, 0) else t
theorem okN_0 {b n : Nat} : okN b n (0, 0, 0) := ⟨Or.inl rfl, ⟨fun _ => rfl, fun _ => rfl⟩, fun _ => rfl, by show -(b : Int) ≤ 0; omega, by show (0 : Int) ≤ b; omega, Nat.zero_le _⟩
def sp_cut (a n b : Int) (s : St) : Int32 × St := if isReg a ∧ isReg b ∧ 0 ≤ n then (match ldN s.2.2.1 (s.2.1 a.toNat) with
  | none => (iI (-41), s)
  | some t => sp_lay (ctT n.toNat t) (pA (ctT n.toNat t)) n.toNat b.toNat s) else (iI (-1), s)
theorem C_cut {a n b : Int} {s : St} {h : Hp} (ha : bI a) (hn : bI n) (hb : bI b) (H : SC h s) (ok : okS s) : ∃ h', f_D_cut (iI a) (iI n) (iI b) h = some ((sp_cut a n b s).1, h') ∧ SC h' (sp_cut a n b s).2 ∧ okS (sp_cut a n b s).2 ∧ lo h h' := by
  have bad : ¬ (isReg a ∧ isReg b ∧ 0 ≤ n) → ∃ h', some ((-1 : Int32), h) = some ((sp_cut a n b s).1, h') ∧ SC h' (sp_cut a n b s).2 ∧ okS (sp_cut a n b s).2 ∧ lo h h' := fun q => by
    unfold sp_cut
    rw [if_neg q]
    exact ⟨h, rfl, H, ok, lo_r _⟩
  unfold f_D_cut
  rw [bd_t (C_find ha), bd_t (C_find hb)]
  by_cases q3 : ¬ isReg a
  · rw [oq_n q3]; exact bad (by omega)
  have q3 := Decidable.not_not.mp q3
  by_cases q4 : ¬ isReg b
  · rw [oq_y q3, oq_n q4]; exact bad (by omega)
  have q4 := Decidable.not_not.mp q4
  rw [oq_y q3, oq_y q4]
  by_cases q1 : n < 0
  · rw [if_neg (by rw [i0, iI_le ⟨by omega, by omega⟩ ⟨by omega, by omega⟩]; omega)]; exact bad (by omega)
  rw [if_pos (by rw [i0, iI_le ⟨by omega, by omega⟩ ⟨by omega, by omega⟩]; omega), H.2.2.1]
  unfold sp_cut
  rw [if_pos (show isReg a ∧ isReg b ∧ 0 ≤ n by omega)]
  have hd := ok.2.2
  obtain ⟨h1, e1, k1, n1⟩ := C_load (i := 4 + 2 * a.toNat) (j := 29) (n := s.2.2.1) (by omega) (by omega) (ok.2.1 a.toNat (by omega)).1 rfl (by omega) (by omega) (H.2.1 a.toNat (by omega))
  rw [bd_t e1]
  have f1 : fr h h1 := fr_kr (by omega) (by omega) k1
  cases hx : ldN s.2.2.1 (s.2.1 a.toNat) with
  | none =>
    rw [if_pos (by simp; decide)]
    exact ⟨h1, rfl, SC_fr H f1, ok, lo_fr f1⟩
  | some t =>
    rw [if_neg (by simp; decide)]
    have okt := ldN_ok (n := s.2.2.1) (by omega) (ok.2.1 a.toNat (by omega)).1 hx
    have N := n1 t hx
    have tail : ∀ (g : Hp) (u : Int × Nat × Int), fr h g → okN 1501 s.2.2.1 u → isN g 29 u.1 u.2.1 u.2.2 → ∃ h', f_D_cut_69 (iI n) (4 + 2 * b.toNat) g = some ((sp_lay u (pA u) n.toNat b.toNat s).1, h') ∧ SC h' (sp_lay u (pA u) n.toNat b.toNat s).2 ∧ okS (sp_lay u (pA u) n.toNat b.toNat s).2 ∧ lo h h' := by
      intro g u fg ou Nu
      obtain ⟨o1, o2, o3, o4, o5, o6⟩ := ou
      unfold f_D_cut_69
      rw [bd_t (C_ahead o1 (by omega) ⟨by omega, by omega⟩ Nu)]
      have pb : pA u ≤ 10000 := by
        unfold pA aA
        split <;> omega
      obtain ⟨h2, e2, S2, k2, l2⟩ := C_lay (t := u) (r := b.toNat) (A := pA u) (p := n.toNat) (by omega) (SC_fr H fg) ok o1 (by omega) ⟨by omega, by omega⟩ Nu (by omega) (by omega) (Nat.le_refl _)
      rw [show ((n.toNat : Nat) : Int) = n by omega] at e2
      rw [bd_t e2]
      exact ⟨h2, rfl, S2, k2, lo_t (lo_fr fg) l2⟩
    rw [bd_t (N_ahead N), iI_neg]
    obtain ⟨o1, o2, o3, o4, o5, o6⟩ := id okt
    by_cases q : (nd t.2.1 : Int) + t.2.2 ≤ -(n.toNat : Int)
    · have ec : ctT n.toNat t = (0, 0, 0) := if_pos q
      rw [if_neg (by rw [iI_lt ⟨by omega, by omega⟩ ⟨by omega, by omega⟩]; omega)]
      obtain ⟨h2, e2, N2, k2⟩ := N_clear h1 29
      rw [bd_t e2]
      show ∃ h', _ = some ((sp_lay (ctT n.toNat t) (pA (ctT n.toNat t)) n.toNat b.toNat s).1, h') ∧ SC h' (sp_lay (ctT n.toNat t) (pA (ctT n.toNat t)) n.toNat b.toNat s).2 ∧ okS (sp_lay (ctT n.toNat t) (pA (ctT n.toNat t)) n.toNat b.toNat s).2 ∧ _
      rw [ec]
      exact tail h2 (0, 0, 0) (fr_t f1 (fr_kp (by omega) (by omega) (by omega) (by omega) k2)) okN_0 N2
    · have ec : ctT n.toNat t = t := if_neg q
      rw [if_pos (by rw [iI_lt ⟨by omega, by omega⟩ ⟨by omega, by omega⟩]; omega)]
      show ∃ h', _ = some ((sp_lay (ctT n.toNat t) (pA (ctT n.toNat t)) n.toNat b.toNat s).1, h') ∧ SC h' (sp_lay (ctT n.toNat t) (pA (ctT n.toNat t)) n.toNat b.toNat s).2 ∧ okS (sp_lay (ctT n.toNat t) (pA (ctT n.toNat t)) n.toNat b.toNat s).2 ∧ _
      rw [ec]
      exact tail h1 t f1 okt N
theorem M_c51 {n : Nat} {e : Int} {v3 : Int32} {h : Hp} (he : -1000000 ≤ e ∧ e ≤ 1000000) (hn : n < 2147483648) (h52 : h 52 0 = iI e) : ∀ (m j : Nat), m < j → m < 1000000 → f_M_cut_51 j (iI (n : Int)) v3 0 (iI (e - 1 + (m : Int))) h = f_M_cut_97 (iI (n : Int)) v3 0 h := by
  have c5 : inR 0 5 := inz (z := 0) (by omega)
  have cl0 : Int32.toNatClampNeg 0 = 0 := rfl
  intro m
  induction m with
  | zero =>
    intro j hj _
    obtain ⟨j, rfl⟩ : ∃ q, j = q + 1 := ⟨j - 1, by omega⟩
    rw [f_M_cut_51, chk_t c5]
    simp only [cl0, h52]
    rw [if_pos (by rw [iI_lt ⟨by omega, by omega⟩ ⟨by omega, by omega⟩]; omega)]
  | succ m ih =>
    intro j hj hm
    obtain ⟨j, rfl⟩ : ∃ q, j = q + 1 := ⟨j - 1, by omega⟩
    rw [f_M_cut_51, chk_t c5]
    simp only [cl0, h52]
    rw [if_neg (by rw [iI_lt ⟨by omega, by omega⟩ ⟨by omega, by omega⟩]; omega), iI_neg]
    by_cases q : e - 1 + ((m + 1 : Nat) : Int) < -(n : Int)
    · rw [if_pos (by rw [iI_lt ⟨by omega, by omega⟩ ⟨by omega, by omega⟩]; exact q)]
    · rw [if_neg (by rw [iI_lt ⟨by omega, by omega⟩ ⟨by omega, by omega⟩]; exact q), if_pos trivial, im1, iI_add, show e - 1 + ((m + 1 : Nat) : Int) + -1 = e - 1 + (m : Int) by omega]
      exact ih j (by omega) (by omega)
theorem M_c97 {r n v c : Nat} {sg e : Int} {s : St} {h : Hp} (hr : r < 10) (hv : v ≤ 1) (hn : n < 2147483648) (H : SR h s) (ok : okS s) (M : isM h 0 sg c e) (okt : okN 1501 20 (sg, c, e)) : ∃ h', f_M_cut_97 (iI (n : Int)) (iI (r : Int)) (iI (v : Int)) h = some ((if n ≤ 1500 then sp_fit ((if sg < 0 ∧ v = 0 then [45] else []) ++ plT c e (aA c e) n) r s else (iI (-5), s)).1, h') ∧ SR h' (if n ≤ 1500 then sp_fit ((if sg < 0 ∧ v = 0 then [45] else []) ++ plT c e (aA c e) n) r s else (iI (-5), s)).2 ∧ hi h h' := by
  obtain ⟨o1, o2, o3, o4, o5, o6⟩ := okt
  have o3 : c = 0 → e = 0 := o3
  have o4 : -(1501 : Int) ≤ e := o4
  have o5 : e ≤ 1501 := o5
  have o6 : nd c ≤ 20 := o6
  have o1 : sg = 0 ∨ sg = 1 ∨ sg = -1 := o1
  have c5 : inR 0 5 := inz (z := 0) (by omega)
  have cl0 : Int32.toNatClampNeg 0 = 0 := rfl
  have hm : mn c ≤ 20 := by unfold mn; omega
  have ab : aA c e ≤ 5000 := by unfold aA; omega
  have t122 : ∀ (g : Hp) (bs : List Nat), kw h g → isW g bs → bs.length ≤ 1 → ∃ h', f_M_cut_122 (iI (n : Int)) (iI (r : Int)) g = some ((if n ≤ 1500 then sp_fit (bs ++ plT c e (aA c e) n) r s else (iI (-5), s)).1, h') ∧ SR h' (if n ≤ 1500 then sp_fit (bs ++ plT c e (aA c e) n) r s else (iI (-5), s)).2 ∧ hi h h' := by
    intro g bs kg W hb
    have Sg := SR_fw H (fw_kw kg)
    unfold f_M_cut_122
    by_cases q : n ≤ 1500
    · rw [if_pos (by rw [show (1500 : Int32) = iI 1500 from rfl, iI_le ⟨by omega, by omega⟩ ⟨by omega, by omega⟩]; omega), if_pos q]
      have Mg := isM_kw M kg
      have eh := M_high (z := 0) (by omega) Mg
      rw [bd_t (show f_M_high 0 g = _ from eh)]
      obtain ⟨h2, e2, S2, l2⟩ := M_fit (a := aA c e) (n := n) hr Sg ok Mg ⟨by omega, by omega⟩ W q ab (by omega)
      by_cases q2 : (mn c : Int) - 1 + e ≤ 0
      · rw [if_pos (by rw [i0, iI_le ⟨by omega, by omega⟩ ⟨by omega, by omega⟩]; omega)]
        unfold f_M_cut_151
        rw [aA_1 o3 q2] at e2 S2 ⊢
        exact ⟨h2, e2, S2, hi_t (hi_fw (fw_kw kg)) l2⟩
      · rw [if_neg (by rw [i0, iI_le ⟨by omega, by omega⟩ ⟨by omega, by omega⟩]; omega), bd_t (show f_M_high 0 g = _ from eh)]
        unfold f_M_cut_151
        rw [aA_2 o3 (by omega)]
        exact ⟨h2, e2, S2, hi_t (hi_fw (fw_kw kg)) l2⟩
    · rw [if_neg (by rw [show (1500 : Int32) = iI 1500 from rfl, iI_le ⟨by omega, by omega⟩ ⟨by omega, by omega⟩]; omega), if_neg q]
      exact ⟨g, rfl, Sg, hi_fw (fw_kw kg)⟩
  unfold f_M_cut_97
  rw [chk_t c5]
  simp only [cl0, up2_o h (i := 46) (j := 53) 13 0 0 (by omega), M.2.2.1]
  by_cases q : sg < 0
  · rw [if_neg (by rw [i0, iI_le ⟨by omega, by omega⟩ ⟨by omega, by omega⟩]; omega)]
    by_cases q2 : v = 0
    · rw [if_pos (by rw [q2]; rfl), if_pos (show sg < 0 ∧ v = 0 from ⟨q, q2⟩)]
      obtain ⟨h1, e1, W1, k1⟩ := M_letter (b := 45) (isW_0 h) (by simp)
      rw [bd_t (show f_M_letter 45 (up2 h 46 13 0) = _ from e1)]
      exact t122 h1 [45] (kw_t (kw_0 h 0) k1) W1 (by simp)
    · rw [if_neg (by rw [i0, iI_eq ⟨by omega, by omega⟩ ⟨by omega, by omega⟩]; omega), if_neg (show ¬ (sg < 0 ∧ v = 0) from fun z => q2 z.2)]
      exact t122 _ [] (kw_0 h 0) (isW_0 h) (by simp)
  · rw [if_pos (by rw [i0, iI_le ⟨by omega, by omega⟩ ⟨by omega, by omega⟩]; omega), if_neg (show ¬ (sg < 0 ∧ v = 0) from fun z => q z.1)]
    exact t122 _ [] (kw_0 h 0) (isW_0 h) (by simp)
theorem top_dig {c : Nat} (hc : 0 < c) : c / 10 ^ (nd c - 1) % 10 ≠ 0 := by
  have h1 := nd_le hc
  have h2 := nd_lt c
  have h3 := nd_pos hc
  have a : 0 < c / 10 ^ (nd c - 1) := Nat.div_pos h1 (p10 _)
  have b : c / 10 ^ (nd c - 1) < 10 := by
    apply Nat.div_lt_of_lt_mul
    rw [← Nat.pow_succ, show (nd c - 1).succ = nd c by omega]
    exact h2
  rw [Nat.mod_eq_of_lt b]
  omega
theorem dp_big {c : Nat} {e p : Int} (h : (nd c : Int) + e ≤ p) : dp c e p = 0 := by
  unfold dp
  rw [if_pos (by omega)]
  have : c < 10 ^ (p - e).toNat := Nat.lt_of_lt_of_le (nd_lt c) (Nat.pow_le_pow_right (by decide) (by omega))
  rw [Nat.div_eq_of_lt this]
theorem dA_big {c : Nat} {e : Int} (h : (nd c : Int) + e ≤ 0) : ∀ a, dA c e a = dA 0 0 a
  | 0 => rfl
  | a + 1 => by
    unfold dA
    rw [dp_big (by omega), dp_big (c := 0) (e := 0) (by rw [nd_0]; omega), dA_big h a]
theorem dB_big {c : Nat} {e : Int} {n : Nat} (h : (nd c : Int) + e ≤ -(n : Int)) : ∀ m k, k + m ≤ n + 1 → dB c e m k = dB 0 0 m k
  | 0, _, _ => rfl
  | m + 1, k, hk => by
    have z : dp 0 0 (-(k : Int)) = 0 := by
      unfold dp
      split
      · rw [Nat.zero_div]
      · rfl
    unfold dB
    rw [dp_big (by omega), z, dB_big h m (k + 1) (by omega)]
theorem plT_big {c n : Nat} {e : Int} (h : (nd c : Int) + e ≤ -(n : Int)) : plT c e 1 n = plT 0 0 1 n := by
  unfold plT
  rw [dA_big (by omega), dB_big h n 1 (by omega)]
theorem cut_eq {n r : Nat} {t : Int × Nat × Int} {s : St} : (if n ≤ 1500 then sp_fit (sgT t.1 ++ plT t.2.1 t.2.2 (aA t.2.1 t.2.2) n) r s else (iI (-5), s)) = sp_lay t (pA t) n r s := by
  unfold sp_lay sp_fit
  rw [lay_len, Nat.sub_self]
  by_cases q : n ≤ 1500
  · rw [if_pos q]
    rfl
  · rw [if_neg q, if_neg (by rw [if_neg (by omega)]; omega)]
theorem M_cut {a n b : Int} {s : St} {h : Hp} (ha : bI a) (hn : bI n) (hb : bI b) (H : SR h s) (ok : okS s) : ∃ h', f_M_cut (iI a) (iI n) (iI b) h = some ((sp_cut a n b s).1, h') ∧ SR h' (sp_cut a n b s).2 ∧ hi h h' := by
  have bad : ¬ (isReg a ∧ isReg b ∧ 0 ≤ n) → ∃ h', some ((-1 : Int32), h) = some ((sp_cut a n b s).1, h') ∧ SR h' (sp_cut a n b s).2 ∧ hi h h' := fun q => by
    unfold sp_cut
    rw [if_neg q]
    exact ⟨h, rfl, H, hi_r _⟩
  unfold f_M_cut
  rw [bd_t (M_isReg ha)]
  by_cases q3 : ¬ isReg a
  · rw [if_neg q3, if_pos (by rfl)]; exact bad (by omega)
  have q3 := Decidable.not_not.mp q3
  rw [if_pos q3, if_neg (by decide), bd_t (M_isReg hb)]
  by_cases q4 : ¬ isReg b
  · rw [if_neg q4, if_pos (by rfl)]; exact bad (by omega)
  have q4 := Decidable.not_not.mp q4
  rw [if_pos q4, if_neg (by decide)]
  by_cases q1 : n < 0
  · rw [if_neg (by rw [i0, iI_le ⟨by omega, by omega⟩ ⟨by omega, by omega⟩]; omega)]; exact bad (by omega)
  rw [if_pos (by rw [i0, iI_le ⟨by omega, by omega⟩ ⟨by omega, by omega⟩]; omega)]
  unfold sp_cut
  rw [if_pos (show isReg a ∧ isReg b ∧ 0 ≤ n by omega)]
  have hd := ok.2.2
  obtain ⟨a, rfl⟩ : ∃ k : Nat, a = k := ⟨a.toNat, by omega⟩
  obtain ⟨b, rfl⟩ : ∃ k : Nat, b = k := ⟨b.toNat, by omega⟩
  obtain ⟨n, rfl⟩ : ∃ k : Nat, n = k := ⟨n.toNat, by omega⟩
  simp only [Int.toNat_natCast]
  obtain ⟨h1, e1, k1, m1⟩ := M_load (n := s.2.2.1) (z := 0) (r := a) (by omega) (by omega) (by omega) (by omega) (H.2.1 a (by omega)) (ok.2.1 a (by omega))
  rw [bd_t (show f_M_read (iI (a : Int)) 0 h = _ from e1)]
  cases hx : ldN s.2.2.1 (s.2.1 a) with
  | none =>
    rw [if_pos (by simp; decide)]
    exact ⟨h1, rfl, SR_fw H (fw_km k1), hi_fw (fw_km k1)⟩
  | some t =>
    rw [if_neg (by simp; decide)]
    have okt := okN_w (ldN_ok (n := s.2.2.1) (by omega) (ok.2.1 a (by omega)).1 hx) (Nat.le_refl 1501) (show s.2.2.1 ≤ 20 by omega)
    obtain ⟨h2, e2, k2, M2⟩ := m1 t hx
    have f2 : fw h h2 := fw_t (fw_km k1) (fw_km k2)
    have e4 : h1 46 4 = iI (s.2.2.1 : Int) := (SR_fw H (fw_km k1)).2.2.1
    rw [e4, bd_t (show f_M_round 0 (iI (s.2.2.1 : Int)) h1 = _ from e2)]
    have eh := M_high (z := 0) (by omega) M2
    rw [bd_t (show f_M_high 0 h2 = _ from eh)]
    obtain ⟨o1, o2, o3, o4, o5, o6⟩ := id okt
    have c5 : inR 0 5 := inz (z := 0) (by omega)
    have cl0 : Int32.toNatClampNeg 0 = 0 := rfl
    have fin : ∀ v : Nat, v ≤ 1 → (sgT (ctT n t).1 = if t.1 < 0 ∧ v = 0 then [45] else []) → plT (ctT n t).2.1 (ctT n t).2.2 (aA (ctT n t).2.1 (ctT n t).2.2) n = plT t.2.1 t.2.2 (aA t.2.1 t.2.2) n → ∃ h', f_M_cut_97 (iI (n : Int)) (iI (b : Int)) (iI (v : Int)) h2 = some ((sp_lay (ctT n t) (pA (ctT n t)) n b s).1, h') ∧ SR h' (sp_lay (ctT n t) (pA (ctT n t)) n b s).2 ∧ hi h h' := by
      intro v hv g1 g2
      obtain ⟨h3, e3, S3, l3⟩ := M_c97 (r := b) (n := n) (v := v) (by omega) hv (by omega) (SR_fw H f2) ok M2 okt
      rw [← cut_eq, g1, g2]
      exact ⟨h3, e3, S3, hi_t (hi_fw f2) l3⟩
    show ∃ h', _ = some ((sp_lay (ctT n t) (pA (ctT n t)) n b s).1, h') ∧ SR h' (sp_lay (ctT n t) (pA (ctT n t)) n b s).2 ∧ _
    by_cases z : t.2.1 = 0
    · have ct : ctT n t = t ∨ ctT n t = (0, 0, 0) := by
        unfold ctT
        split
        · exact Or.inr rfl
        · exact Or.inl rfl
      have t0 : t = (0, 0, 0) := by
        obtain ⟨x, y, w⟩ := t
        have y0 : y = 0 := z
        have x0 : x = 0 := o2.mpr z
        have w0 : w = 0 := o3 z
        rw [y0, x0, w0]
      have ct0 : ctT n t = (0, 0, 0) := by
        rcases ct with c | c
        · rw [c, t0]
        · exact c
      have e0 : t.2.2 = 0 := o3 z
      have d0 := M_digit (z := 0) (p := 0) (by omega) M2 (by omega) (by omega)
      have dd : dp t.2.1 t.2.2 0 = 0 := by rw [z]; unfold dp; split <;> simp
      rw [z, mn_0, e0, show ((1 : Nat) : Int) - 1 + 0 = 0 by omega, show fuel = 999998 + 1 + 1 from rfl, f_M_cut_51, chk_t c5]
      simp only [cl0, M2.2.1, e0]
      rw [if_neg (by decide), iI_neg, if_neg (by rw [iI_lt ⟨by omega, by omega⟩ ⟨by omega, by omega⟩]; omega), if_neg (by decide), bd_t (show f_M_digit 0 (iI 0) h2 = _ from d0), dd, if_pos (by rfl), f_M_cut_51, chk_t c5]
      simp only [cl0, M2.2.1, e0]
      rw [if_pos (by decide)]
      refine fin 1 (by omega) ?_ ?_
      · rw [ct0, if_neg (by omega)]
        rfl
      · rw [ct0, t0]
    · have hm := mn_c (c := t.2.1) (by omega)
      by_cases q : (nd t.2.1 : Int) + t.2.2 ≤ -(n : Int)
      · have ct0 : ctT n t = (0, 0, 0) := if_pos q
        rw [hm, show fuel = 999999 + 1 from rfl, f_M_cut_51, chk_t c5]
        simp only [cl0, M2.2.1]
        have hp := nd_pos (c := t.2.1) (by omega)
        rw [if_neg (by rw [iI_lt ⟨by omega, by omega⟩ ⟨by omega, by omega⟩]; omega), iI_neg, if_pos (by rw [iI_lt ⟨by omega, by omega⟩ ⟨by omega, by omega⟩]; omega)]
        refine fin 1 (by omega) ?_ ?_
        · rw [ct0, if_neg (by omega)]
          rfl
        · rw [ct0, aA_1 o3 (by rw [hm]; omega), plT_big q]
          rfl
      · have ct0 : ctT n t = t := if_neg q
        have hp := nd_pos (c := t.2.1) (by omega)
        have d0 := M_digit (z := 0) (p := (nd t.2.1 : Int) - 1 + t.2.2) (by omega) M2 (by omega) (by omega)
        have dd : dp t.2.1 t.2.2 ((nd t.2.1 : Int) - 1 + t.2.2) ≠ 0 := by
          unfold dp
          rw [if_pos (by omega), show ((nd t.2.1 : Int) - 1 + t.2.2 - t.2.2).toNat = nd t.2.1 - 1 by omega]
          exact top_dig (by omega)
        have dl := dp_lt t.2.1 t.2.2 ((nd t.2.1 : Int) - 1 + t.2.2)
        rw [hm, show fuel = 999999 + 1 from rfl, f_M_cut_51, chk_t c5]
        simp only [cl0, M2.2.1]
        rw [if_neg (by rw [iI_lt ⟨by omega, by omega⟩ ⟨by omega, by omega⟩]; omega), iI_neg, if_neg (by rw [iI_lt ⟨by omega, by omega⟩ ⟨by omega, by omega⟩]; omega), if_neg (by decide), bd_t (show f_M_digit 0 (iI ((nd t.2.1 : Int) - 1 + t.2.2)) h2 = _ from d0), if_neg (by rw [i0, iI_eq ⟨by omega, by omega⟩ ⟨by omega, by omega⟩]; omega), im1, iI_add, show (nd t.2.1 : Int) - 1 + t.2.2 + -1 = t.2.2 - 1 + ((nd t.2.1 - 1 : Nat) : Int) by omega, M_c51 (by omega) (by omega) M2.2.1 _ _ (by omega) (by omega)]
        refine fin 0 (by omega) ?_ ?_
        · rw [ct0]
          unfold sgT
          by_cases y : t.1 < 0
          · rw [if_pos y, if_pos ⟨y, rfl⟩]
          · rw [if_neg y, if_neg (fun w => y w.1)]
        · rw [ct0]
end
section
/-! PURE 17: column -/
def rtp (t : Int × Nat × Int) (w : Nat) : Int × Nat × Int := if -t.2.2 ≤ (w : Int) then t else if 0 < (nd t.2.1 : Int) + t.2.2 + (w : Int) then rN ((nd t.2.1 : Int) + t.2.2 + (w : Int)).toNat t else if (nd t.2.1 : Int) + t.2.2 + (w : Int) = 0 ∧ 5 ≤ dz t.2.1 0 then (t.1, 1, -(w : Int)) else (0, 0, 0)
theorem rtp_ok {t : Int × Nat × Int} {w : Nat} (H : okN 1501 20 t) : okN 1600 20 (rtp t w) := by
  obtain ⟨o1, o2, o3, o4, o5, o6⟩ := id H
  unfold rtp
  by_cases q : -t.2.2 ≤ (w : Int)
  · rw [if_pos q]
    exact okN_w H (by omega) (by omega)
  rw [if_neg q]
  by_cases q2 : 0 < (nd t.2.1 : Int) + t.2.2 + (w : Int)
  · rw [if_pos q2]
    exact okN_w (rN_ok (by omega) H) (by omega) (by omega)
  rw [if_neg q2]
  by_cases q3 : (nd t.2.1 : Int) + t.2.2 + (w : Int) = 0 ∧ 5 ≤ dz t.2.1 0
  · rw [if_pos q3]
    have hc : t.2.1 ≠ 0 := fun z => by
      have := o3 z
      omega
    refine ⟨o1, ⟨fun z => absurd (o2.mp z) hc, fun z => absurd z Nat.one_ne_zero⟩, fun z => absurd z Nat.one_ne_zero, ?_, ?_, ?_⟩
    · show -((1600 : Nat) : Int) ≤ -(w : Int)
      omega
    · show -(w : Int) ≤ ((1600 : Nat) : Int)
      omega
    · show nd 1 ≤ 20
      rw [nd_1]
      omega
  · rw [if_neg q3]
    exact okN_0
theorem C_57 {w : Nat} {x : Int} {h : Hp} (hx : isS x) : ∃ h', f_N_roundToPlaces_57 29 (iI (w : Int)) (iI x) h = some ((), h') ∧ isN h' 29 x (if x = 0 then 0 else 1) (if x = 0 then 0 else -(w : Int)) ∧ kp h h' 29 30 := by
  unfold isS at hx
  obtain ⟨h1, e1, N1, k1⟩ := N_unit (h := h) (i := 29) (s := x) (by decide) ⟨by omega, by omega⟩
  obtain ⟨h2, e2, N2, k2⟩ := N_settle (s := x) (e := -(w : Int)) N1.1
  unfold f_N_roundToPlaces_57
  rw [bd_t e1, iI_neg, bd_t e2]
  refine ⟨h2, rfl, ?_, kp_t k1 k2⟩
  by_cases q : x = 0
  · rw [if_pos q] at N2 ⊢
    rw [if_pos rfl, if_pos rfl] at N2
    rw [if_pos q, q]
    exact N2
  · rw [if_neg q] at N2 ⊢
    rw [if_neg (by decide), if_neg (by decide)] at N2
    rw [if_neg q]
    exact N2
theorem C_rtp {t : Int × Nat × Int} {w : Nat} {h : Hp} (hw : w < 2147483648) (H : okN 1501 20 t) (N : isN h 29 t.1 t.2.1 t.2.2) : ∃ h', f_N_roundToPlaces 29 (iI (w : Int)) h = some ((), h') ∧ isN h' 29 (rtp t w).1 (rtp t w).2.1 (rtp t w).2.2 ∧ kp h h' 29 30 := by
  obtain ⟨o1, o2, o3, o4, o5, o6⟩ := id H
  obtain ⟨x, ex, hx1, hx2, hx3⟩ : ∃ x : Int, (if 0 ≤ t.2.2 then (0 : Int) else -t.2.2) = x ∧ (x ≤ (w : Int) ↔ -t.2.2 ≤ (w : Int)) ∧ 0 ≤ x ∧ x ≤ 1501 := by
    by_cases q : 0 ≤ t.2.2
    · exact ⟨0, if_pos q, by omega, by omega, by omega⟩
    · exact ⟨-t.2.2, if_neg q, by omega, by omega, by omega⟩
  unfold f_N_roundToPlaces
  rw [bd_t (N_places ⟨by omega, by omega⟩ N), ex]
  by_cases q : -t.2.2 ≤ (w : Int)
  · have er : rtp t w = t := if_pos q
    rw [if_neg (by rw [iI_lt ⟨by omega, by omega⟩ ⟨by omega, by omega⟩]; omega), er]
    exact ⟨h, rfl, N, kp_r _ _ _⟩
  rw [if_pos (by rw [iI_lt ⟨by omega, by omega⟩ ⟨by omega, by omega⟩]; omega), bd_t (N_ahead N), iI_add]
  have zero : (nd t.2.1 : Int) + t.2.2 + (w : Int) ≤ 0 → ¬ ((nd t.2.1 : Int) + t.2.2 + (w : Int) = 0 ∧ 5 ≤ dz t.2.1 0) → ∃ h', f_N_roundToPlaces_57 29 (iI (w : Int)) 0 h = some ((), h') ∧ isN h' 29 (rtp t w).1 (rtp t w).2.1 (rtp t w).2.2 ∧ kp h h' 29 30 := by
    intro q2 q3
    have er : rtp t w = (0, 0, 0) := by
      unfold rtp
      rw [if_neg q, if_neg (by omega), if_neg q3]
    obtain ⟨h1, e1, N1, k1⟩ := C_57 (w := w) (x := 0) (h := h) (Or.inl rfl)
    rw [er]
    exact ⟨h1, e1, N1, k1⟩
  by_cases q2 : 0 < (nd t.2.1 : Int) + t.2.2 + (w : Int)
  · have er : rtp t w = rN ((nd t.2.1 : Int) + t.2.2 + (w : Int)).toNat t := by
      unfold rtp
      rw [if_neg q, if_pos q2]
    rw [if_neg (by rw [i0, iI_le ⟨by omega, by omega⟩ ⟨by omega, by omega⟩]; omega)]
    obtain ⟨h1, e1, N1, k1⟩ := N_roundTo (n := ((nd t.2.1 : Int) + t.2.2 + (w : Int)).toNat) N (by omega) (by omega)
    rw [show ((((nd t.2.1 : Int) + t.2.2 + (w : Int)).toNat : Nat) : Int) = (nd t.2.1 : Int) + t.2.2 + (w : Int) by omega] at e1
    rw [bd_t e1, er]
    exact ⟨h1, rfl, N1, k1⟩
  rw [if_pos (by rw [i0, iI_le ⟨by omega, by omega⟩ ⟨by omega, by omega⟩]; omega)]
  by_cases q3 : (nd t.2.1 : Int) + t.2.2 + (w : Int) = 0
  · rw [if_pos (by rw [q3]; rfl)]
    have ed := N_digit (z := 0) N.1 ⟨by omega, by omega⟩
    rw [bd_t (show f_N_digit 29 0 h = _ from ed)]
    have dl := dz_lt t.2.1 0
    by_cases q4 : 5 ≤ dz t.2.1 0
    · rw [if_neg (by rw [show (5 : Int32) = iI 5 from rfl, iI_lt ⟨by omega, by omega⟩ ⟨by omega, by omega⟩]; omega), if_neg (by decide), N.2.2]
      have er : rtp t w = (t.1, 1, -(w : Int)) := by
        unfold rtp
        rw [if_neg q, if_neg q2, if_pos ⟨q3, q4⟩]
      have hs : t.1 ≠ 0 := fun z => by
        have := o3 (o2.mp z)
        omega
      obtain ⟨h1, e1, N1, k1⟩ := C_57 (w := w) (x := t.1) (h := h) o1
      rw [if_neg hs, if_neg hs] at N1
      rw [er]
      exact ⟨h1, e1, N1, k1⟩
    · rw [if_pos (by rw [show (5 : Int32) = iI 5 from rfl, iI_lt ⟨by omega, by omega⟩ ⟨by omega, by omega⟩]; omega), if_pos (by rfl)]
      exact zero (by omega) (by omega)
  · rw [if_neg (by rw [i0, iI_eq ⟨by omega, by omega⟩ ⟨by omega, by omega⟩]; omega), if_pos (by rfl)]
    exact zero (by omega) (by omega)
def cpl (n e : Int) : Nat := if n < 0 then (-e).toNat else n.toNat
def sp_col2 (u : Int × Nat × Int) (w : Nat) (m : Int) (b : Nat) (s : St) : Int32 × St := if 0 ≤ m ∧ m < (pA u : Int) then (iI (-40), s) else sp_lay u (if m < 0 then pA u else m.toNat) w b s
def sp_col (a m n b : Int) (s : St) : Int32 × St := if isReg a ∧ isReg b ∧ -1 ≤ m ∧ -1 ≤ n then (match ldN s.2.2.1 (s.2.1 a.toNat) with
  | none => (iI (-41), s)
  | some t => sp_col2 (rtp t (cpl n t.2.2)) (cpl n t.2.2) m b.toNat s) else (iI (-1), s)
theorem C_column {a m n b : Int} {s : St} {h : Hp} (ha : bI a) (hm : bI m) (hn : bI n) (hb : bI b) (H : SC h s) (ok : okS s) : ∃ h', f_D_column (iI a) (iI m) (iI n) (iI b) h = some ((sp_col a m n b s).1, h') ∧ SC h' (sp_col a m n b s).2 ∧ okS (sp_col a m n b s).2 ∧ lo h h' := by
  have bad : ¬ (isReg a ∧ isReg b ∧ -1 ≤ m ∧ -1 ≤ n) → ∃ h', some ((-1 : Int32), h) = some ((sp_col a m n b s).1, h') ∧ SC h' (sp_col a m n b s).2 ∧ okS (sp_col a m n b s).2 ∧ lo h h' := fun q => by
    unfold sp_col
    rw [if_neg q]
    exact ⟨h, rfl, H, ok, lo_r _⟩
  unfold f_D_column
  rw [bd_t (C_find ha), bd_t (C_find hb)]
  by_cases q3 : ¬ isReg a
  · rw [oq_n q3]; exact bad (by omega)
  have q3 := Decidable.not_not.mp q3
  by_cases q4 : ¬ isReg b
  · rw [oq_y q3, oq_n q4]; exact bad (by omega)
  have q4 := Decidable.not_not.mp q4
  rw [oq_y q3, oq_y q4]
  by_cases q1 : m < -1
  · rw [if_pos (by rw [im1, iI_lt ⟨by omega, by omega⟩ ⟨by omega, by omega⟩]; omega)]; exact bad (by omega)
  rw [if_neg (by rw [im1, iI_lt ⟨by omega, by omega⟩ ⟨by omega, by omega⟩]; omega)]
  by_cases q2 : n < -1
  · rw [if_neg (by rw [im1, iI_le ⟨by omega, by omega⟩ ⟨by omega, by omega⟩]; omega)]; exact bad (by omega)
  rw [if_pos (by rw [im1, iI_le ⟨by omega, by omega⟩ ⟨by omega, by omega⟩]; omega), H.2.2.1]
  unfold sp_col
  rw [if_pos (show isReg a ∧ isReg b ∧ -1 ≤ m ∧ -1 ≤ n by omega)]
  have hd := ok.2.2
  obtain ⟨h1, e1, k1, n1⟩ := C_load (i := 4 + 2 * a.toNat) (j := 29) (n := s.2.2.1) (by omega) (by omega) (ok.2.1 a.toNat (by omega)).1 rfl (by omega) (by omega) (H.2.1 a.toNat (by omega))
  rw [bd_t e1]
  have f1 : fr h h1 := fr_kr (by omega) (by omega) k1
  cases hx : ldN s.2.2.1 (s.2.1 a.toNat) with
  | none =>
    rw [if_pos (by simp; decide)]
    exact ⟨h1, rfl, SC_fr H f1, ok, lo_fr f1⟩
  | some t =>
    rw [if_neg (by simp; decide)]
    have okt := okN_w (ldN_ok (n := s.2.2.1) (by omega) (ok.2.1 a.toNat (by omega)).1 hx) (Nat.le_refl 1501) (show s.2.2.1 ≤ 20 by omega)
    have N := n1 t hx
    obtain ⟨o1, o2, o3, o4, o5, o6⟩ := id okt
    have tail : ∀ w : Nat, w < 2147483648 → ∃ h', f_D_column_72 (iI m) (4 + 2 * b.toNat) (iI (w : Int)) h1 = some ((sp_col2 (rtp t w) w m b.toNat s).1, h') ∧ SC h' (sp_col2 (rtp t w) w m b.toNat s).2 ∧ okS (sp_col2 (rtp t w) w m b.toNat s).2 ∧ lo h h' := by
      intro w hw
      obtain ⟨h2, e2, N2, k2⟩ := C_rtp hw okt N
      have f2 : fr h h2 := fr_t f1 (fr_kp (by omega) (by omega) (by omega) (by omega) k2)
      obtain ⟨p1, p2, p3, p4, p5, p6⟩ := rtp_ok (w := w) okt
      have pb : pA (rtp t w) ≤ 10000 := by
        unfold pA aA
        split <;> omega
      unfold f_D_column_72
      rw [bd_t e2, bd_t (C_ahead p1 (by omega) ⟨by omega, by omega⟩ N2)]
      unfold sp_col2
      by_cases g : m < 0
      · rw [if_neg (by rw [i0, iI_le ⟨by omega, by omega⟩ ⟨by omega, by omega⟩]; omega), if_neg (by omega), if_pos g]
        unfold f_D_column_102
        obtain ⟨h3, e3, S3, k3, l3⟩ := C_lay (t := rtp t w) (r := b.toNat) (A := pA (rtp t w)) (p := w) (by omega) (SC_fr H f2) ok p1 (by omega) ⟨by omega, by omega⟩ N2 (by omega) (by omega) (Nat.le_refl _)
        rw [if_pos (leN (by omega) (by omega) (Nat.le_refl _)), bd_t e3]
        exact ⟨h3, rfl, S3, k3, lo_t (lo_fr f2) l3⟩
      · rw [if_pos (by rw [i0, iI_le ⟨by omega, by omega⟩ ⟨by omega, by omega⟩]; omega)]
        unfold f_D_column_102
        by_cases g2 : m < (pA (rtp t w) : Int)
        · rw [if_neg (by rw [iI_le ⟨by omega, by omega⟩ ⟨by omega, by omega⟩]; omega), if_pos (by omega)]
          exact ⟨h2, rfl, SC_fr H f2, ok, lo_fr f2⟩
        · obtain ⟨h3, e3, S3, k3, l3⟩ := C_lay (t := rtp t w) (r := b.toNat) (A := m.toNat) (p := w) (by omega) (SC_fr H f2) ok p1 (by omega) ⟨by omega, by omega⟩ N2 (by omega) (by omega) (by omega)
          rw [show ((m.toNat : Nat) : Int) = m by omega] at e3
          rw [if_pos (by rw [iI_le ⟨by omega, by omega⟩ ⟨by omega, by omega⟩]; omega), if_neg (by omega), if_neg g, bd_t e3]
          exact ⟨h3, rfl, S3, k3, lo_t (lo_fr f2) l3⟩
    show ∃ h', _ = some ((sp_col2 (rtp t (cpl n t.2.2)) (cpl n t.2.2) m b.toNat s).1, h') ∧ SC h' (sp_col2 (rtp t (cpl n t.2.2)) (cpl n t.2.2) m b.toNat s).2 ∧ okS (sp_col2 (rtp t (cpl n t.2.2)) (cpl n t.2.2) m b.toNat s).2 ∧ _
    by_cases g : n < 0
    · have ec : cpl n t.2.2 = (-t.2.2).toNat := if_pos g
      have ex : (if 0 ≤ t.2.2 then (0 : Int) else -t.2.2) = ((-t.2.2).toNat : Int) := by split <;> omega
      rw [if_neg (by rw [i0, iI_le ⟨by omega, by omega⟩ ⟨by omega, by omega⟩]; omega), bd_t (N_places ⟨by omega, by omega⟩ N), ex, ec]
      exact tail _ (by omega)
    · have ec : cpl n t.2.2 = n.toNat := if_neg g
      have := tail n.toNat (by omega)
      rw [show ((n.toNat : Nat) : Int) = n by omega] at this
      rw [if_pos (by rw [i0, iI_le ⟨by omega, by omega⟩ ⟨by omega, by omega⟩]; omega), ec]
      exact this
-- ===== the reference =====
theorem M_311 {r w c : Nat} {sg e : Int} {s : St} {g : Hp} {bs : List Nat} (hr : r < 10) (hw : w ≤ 1500) (H : SR g s) (ok : okS s) (M : isM g 0 sg c e) (hz : c = 0 → e = 0) (hc : nd c ≤ 20) (he : -1600 ≤ e ∧ e ≤ 1600) (W : isW g bs) (hb : bs.length ≤ 5000) : ∃ h', f_M_column_311 (iI (r : Int)) (iI (w : Int)) g = some ((sp_fit (bs ++ plT c e (aA c e) w) r s).1, h') ∧ SR h' (sp_fit (bs ++ plT c e (aA c e) w) r s).2 ∧ hi g h' := by
  have hm : mn c ≤ 20 := by unfold mn; omega
  have ab : aA c e ≤ 5000 := by unfold aA; omega
  have eh := M_high (z := 0) (by omega) M
  obtain ⟨h2, e2, S2, l2⟩ := M_fit (a := aA c e) (n := w) hr H ok M ⟨by omega, by omega⟩ W hw ab hb
  unfold f_M_column_311
  rw [bd_t (show f_M_high 0 g = _ from eh)]
  by_cases q2 : (mn c : Int) - 1 + e ≤ 0
  · rw [if_pos (by rw [i0, iI_le ⟨by omega, by omega⟩ ⟨by omega, by omega⟩]; omega)]
    unfold f_M_column_330
    rw [aA_1 hz q2] at e2 S2 ⊢
    exact ⟨h2, e2, S2, l2⟩
  · rw [if_neg (by rw [i0, iI_le ⟨by omega, by omega⟩ ⟨by omega, by omega⟩]; omega), bd_t (show f_M_high 0 g = _ from eh)]
    unfold f_M_column_330
    rw [aA_2 hz (by omega)]
    exact ⟨h2, e2, S2, l2⟩
theorem M_278 {r w A : Nat} {m : Int} {u : Int × Nat × Int} {s : St} {g : Hp} (hr : r < 10) (hw : w ≤ 1500) (hA : A ≤ 2000) (hm : -1 ≤ m ∧ m ≤ (A : Int)) (H : SR g s) (ok : okS s) (M : isM g 0 u.1 u.2.1 u.2.2) (okt : okN 1600 20 u) : ∀ (k n : Nat) (g1 : Hp) (bs : List Nat), k < n → k ≤ A → (0 < k → m = (A : Int)) → kw g g1 → isW g1 bs → bs.length + k ≤ 4000 → ∃ h', f_M_column_278 n (iI m) (iI (r : Int)) (iI (w : Int)) (iI ((A - k : Nat) : Int)) g1 = some ((sp_fit (bs ++ (List.replicate k 32 ++ (sgT u.1 ++ plT u.2.1 u.2.2 (aA u.2.1 u.2.2) w))) r s).1, h') ∧ SR h' (sp_fit (bs ++ (List.replicate k 32 ++ (sgT u.1 ++ plT u.2.1 u.2.2 (aA u.2.1 u.2.2) w))) r s).2 ∧ hi g h' := by
  obtain ⟨o1, o2, o3, o4, o5, o6⟩ := okt
  have c5 : inR 0 5 := inz (z := 0) (by omega)
  have cl0 : Int32.toNatClampNeg 0 = 0 := rfl
  intro k
  induction k with
  | zero =>
    intro n g1 bs hn _ hk K W hb
    obtain ⟨n, rfl⟩ : ∃ q, n = q + 1 := ⟨n - 1, by omega⟩
    have M1 := isM_kw M K
    rw [f_M_column_278, if_pos (by rw [iI_le ⟨by omega, by omega⟩ ⟨by omega, by omega⟩]; omega), chk_t c5]
    simp only [cl0, M1.2.2.1]
    by_cases q : u.1 < 0
    · have es : sgT u.1 = [45] := if_pos q
      rw [if_neg (by rw [i0, iI_le ⟨by omega, by omega⟩ ⟨by unfold isS at o1; omega, by unfold isS at o1; omega⟩]; omega), es]
      obtain ⟨g2, e2, W2, k2⟩ := M_letter (b := 45) W (by omega)
      rw [bd_t (show f_M_letter 45 g1 = _ from e2)]
      obtain ⟨h3, e3, S3, l3⟩ := M_311 hr hw (SR_fw H (fw_kw (kw_t K k2))) ok (isM_kw M1 k2) o3 o6 ⟨by omega, by omega⟩ W2 (by rw [List.length_append]; simp only [List.length_cons, List.length_nil]; omega)
      rw [List.append_assoc] at e3 S3
      exact ⟨h3, e3, S3, hi_t (hi_fw (fw_kw (kw_t K k2))) l3⟩
    · have es : sgT u.1 = [] := if_neg q
      rw [if_pos (by rw [i0, iI_le ⟨by omega, by omega⟩ ⟨by unfold isS at o1; omega, by unfold isS at o1; omega⟩]; omega), es]
      obtain ⟨h3, e3, S3, l3⟩ := M_311 hr hw (SR_fw H (fw_kw K)) ok M1 o3 o6 ⟨by omega, by omega⟩ W (by omega)
      exact ⟨h3, e3, S3, hi_t (hi_fw (fw_kw K)) l3⟩
  | succ k ih =>
    intro n g1 bs hn hkA hk K W hb
    obtain ⟨n, rfl⟩ : ∃ q, n = q + 1 := ⟨n - 1, by omega⟩
    have := hk (by omega)
    rw [f_M_column_278, if_neg (by rw [iI_le ⟨by omega, by omega⟩ ⟨by omega, by omega⟩]; omega)]
    obtain ⟨g2, e2, W2, k2⟩ := M_letter (b := 32) W (by omega)
    rw [bd_t (show f_M_letter 32 g1 = _ from e2), scN, show A - (k + 1) + 1 = A - k by omega]
    obtain ⟨h3, e3, S3, l3⟩ := ih n g2 (bs ++ [32]) (by omega) (by omega) (fun _ => this) (kw_t K k2) W2 (by rw [List.length_append]; simp only [List.length_cons, List.length_nil]; omega)
    have ew : (bs ++ [32]) ++ (List.replicate k 32 ++ (sgT u.1 ++ plT u.2.1 u.2.2 (aA u.2.1 u.2.2) w)) = bs ++ (List.replicate (k + 1) 32 ++ (sgT u.1 ++ plT u.2.1 u.2.2 (aA u.2.1 u.2.2) w)) := by
      rw [List.replicate_succ, List.append_assoc]
      rfl
    rw [ew] at e3 S3
    exact ⟨h3, e3, S3, l3⟩
theorem fit_lay {u : Int × Nat × Int} {A w r : Nat} {s : St} (h : pA u ≤ A) : sp_fit (List.replicate (A - pA u) 32 ++ (sgT u.1 ++ plT u.2.1 u.2.2 (aA u.2.1 u.2.2) w)) r s = sp_lay u A w r s := by
  unfold sp_fit sp_lay
  rw [List.length_append, List.length_replicate, lay_len, show A - pA u + (pA u + (if w = 0 then 0 else w + 1)) = A + (if w = 0 then 0 else w + 1) by omega]
theorem M_230 {r w : Nat} {m : Int} {u : Int × Nat × Int} {s : St} {g : Hp} (hr : r < 10) (hw : w < 2147483648) (hm : bI m) (hm1 : -1 ≤ m) (hp : m < 0 ∨ (pA u : Int) ≤ m) (H : SR g s) (ok : okS s) (M : isM g 0 u.1 u.2.1 u.2.2) (okt : okN 1600 20 u) : ∃ h', f_M_column_230 (iI m) (iI (r : Int)) (iI (w : Int)) (iI (pA u : Int)) g = some ((sp_lay u (if m < 0 then pA u else m.toNat) w r s).1, h') ∧ SR h' (sp_lay u (if m < 0 then pA u else m.toNat) w r s).2 ∧ hi g h' := by
  obtain ⟨o1, o2, o3, o4, o5, o6⟩ := id okt
  have pb : pA u ≤ 10000 := by
    unfold pA aA
    split <;> omega
  obtain ⟨A, eA, hA⟩ : ∃ A : Nat, (if m < 0 then pA u else m.toNat) = A ∧ ((m < 0 ∧ A = pA u) ∨ (0 ≤ m ∧ A = m.toNat)) := by
    by_cases q : m < 0
    · exact ⟨_, if_pos q, Or.inl ⟨q, rfl⟩⟩
    · exact ⟨_, if_neg q, Or.inr ⟨by omega, rfl⟩⟩
  rw [eA]
  have hpA : pA u ≤ A := by omega
  have far : (1500 < m ∨ 1400 < w ∨ 200 < A + w) → sp_lay u A w r s = (iI (-5), s) := fun q => by
    unfold sp_lay
    by_cases z : w = 0
    · rw [if_neg (by rw [if_pos z]; omega)]
    · rw [if_neg (by rw [if_neg z]; omega)]
  unfold f_M_column_230
  by_cases q1 : 1500 < m
  · rw [if_pos (by rw [show (1500 : Int32) = iI 1500 from rfl, iI_lt ⟨by omega, by omega⟩ ⟨by omega, by omega⟩]; omega), far (Or.inl q1)]
    exact ⟨g, rfl, H, hi_r _⟩
  rw [if_neg (by rw [show (1500 : Int32) = iI 1500 from rfl, iI_lt ⟨by omega, by omega⟩ ⟨by omega, by omega⟩]; omega)]
  by_cases q2 : 1400 < w
  · rw [if_pos (by rw [show (1400 : Int32) = iI 1400 from rfl, iI_lt ⟨by omega, by omega⟩ ⟨by omega, by omega⟩]; omega), far (Or.inr (Or.inl q2))]
    exact ⟨g, rfl, H, hi_r _⟩
  rw [if_neg (by rw [show (1400 : Int32) = iI 1400 from rfl, iI_lt ⟨by omega, by omega⟩ ⟨by omega, by omega⟩]; omega)]
  have tail : ∃ h', f_M_column_257 (iI m) (iI (r : Int)) (iI (w : Int)) (iI (pA u : Int)) (iI (A : Int)) g = some ((sp_lay u A w r s).1, h') ∧ SR h' (sp_lay u A w r s).2 ∧ hi g h' := by
    unfold f_M_column_257
    rw [iI_add]
    by_cases q3 : 200 < A + w
    · rw [if_neg (by rw [show (200 : Int32) = iI 200 from rfl, iI_le ⟨by omega, by omega⟩ ⟨by omega, by omega⟩]; omega), far (Or.inr (Or.inr q3))]
      exact ⟨g, rfl, H, hi_r _⟩
    · rw [if_pos (by rw [show (200 : Int32) = iI 200 from rfl, iI_le ⟨by omega, by omega⟩ ⟨by omega, by omega⟩]; omega)]
      obtain ⟨h2, e2, S2, l2⟩ := M_278 (r := r) (w := w) (A := A) (m := m) hr (by omega) (by omega) ⟨hm1, by omega⟩ H ok M okt (A - pA u) fuel (up2 g 46 13 0) [] (by unfold fuel; omega) (by omega) (by omega) (kw_0 g 0) (isW_0 g) (by rw [List.length_nil]; omega)
      rw [show A - (A - pA u) = pA u by omega] at e2
      rw [← fit_lay hpA]
      exact ⟨h2, e2, S2, l2⟩
  by_cases q4 : m ≤ (pA u : Int)
  · rw [if_pos (by rw [iI_le ⟨by omega, by omega⟩ ⟨by omega, by omega⟩]; omega)]
    rw [show A = pA u by omega] at tail ⊢
    exact tail
  · rw [if_neg (by rw [iI_le ⟨by omega, by omega⟩ ⟨by omega, by omega⟩]; omega)]
    rw [show (A : Int) = m by omega] at tail
    exact tail
theorem M_195 {r w : Nat} {m : Int} {u : Int × Nat × Int} {s : St} {g : Hp} {x : Int32} (hr : r < 10) (hw : w < 2147483648) (hm : bI m) (hm1 : -1 ≤ m) (H : SR g s) (ok : okS s) (M : isM g 0 u.1 u.2.1 u.2.2) (okt : okN 1600 20 u) (hx : x = iI ((if u.1 < 0 then 1 else 0 : Nat) : Int)) : ∃ h', f_M_column_195 (iI m) (iI (r : Int)) (iI (w : Int)) x g = some ((sp_col2 u w m r s).1, h') ∧ SR h' (sp_col2 u w m r s).2 ∧ hi g h' := by
  obtain ⟨o1, o2, o3, o4, o5, o6⟩ := id okt
  have hmn : mn u.2.1 ≤ 20 := by unfold mn; omega
  have pb : pA u ≤ 10000 := by
    unfold pA aA
    split <;> omega
  have t214 : ∀ a b : Int32, a + b = iI (pA u : Int) → ∃ h', f_M_column_214 (iI m) (iI (r : Int)) (iI (w : Int)) a b g = some ((sp_col2 u w m r s).1, h') ∧ SR h' (sp_col2 u w m r s).2 ∧ hi g h' := by
    intro a b hab
    unfold f_M_column_214 sp_col2
    rw [hab]
    by_cases q : m < 0
    · rw [if_pos (by rw [i0, iI_lt ⟨by omega, by omega⟩ ⟨by omega, by omega⟩]; omega), if_neg (by omega)]
      exact M_230 hr hw hm hm1 (Or.inl q) H ok M okt
    · rw [if_neg (by rw [i0, iI_lt ⟨by omega, by omega⟩ ⟨by omega, by omega⟩]; omega)]
      by_cases q2 : (pA u : Int) ≤ m
      · rw [if_pos (by rw [iI_le ⟨by omega, by omega⟩ ⟨by omega, by omega⟩]; omega), if_neg (by omega)]
        exact M_230 hr hw hm hm1 (Or.inr q2) H ok M okt
      · rw [if_neg (by rw [iI_le ⟨by omega, by omega⟩ ⟨by omega, by omega⟩]; omega), if_pos (by omega)]
        exact ⟨g, rfl, H, hi_r _⟩
  have eh := M_high (z := 0) (by omega) M
  unfold f_M_column_195
  rw [bd_t (show f_M_high 0 g = _ from eh)]
  by_cases q2 : (mn u.2.1 : Int) - 1 + u.2.2 ≤ 0
  · rw [if_pos (by rw [i0, iI_le ⟨by omega, by omega⟩ ⟨by omega, by omega⟩]; omega)]
    refine t214 _ _ ?_
    unfold pA
    rw [aA_1 o3 q2, hx, scN, Nat.add_comm]
  · rw [if_neg (by rw [i0, iI_le ⟨by omega, by omega⟩ ⟨by omega, by omega⟩]; omega), bd_t (show f_M_high 0 g = _ from eh)]
    refine t214 _ _ ?_
    unfold pA
    rw [aA_2 o3 (by omega), hx, i1, iI_add, iI_add]
    congr 1
    omega
theorem M_col101 {r w : Nat} {m : Int} {t : Int × Nat × Int} {s : St} {h : Hp} (hr : r < 10) (hw : w < 2147483648) (hm : bI m) (hm1 : -1 ≤ m) (H : SR h s) (ok : okS s) (M : isM h 0 t.1 t.2.1 t.2.2) (okt : okN 1501 20 t) : ∃ h', f_M_column_76 (iI m) (iI (r : Int)) (iI (w : Int)) h = some ((sp_col2 (rtp t w) w m r s).1, h') ∧ SR h' (sp_col2 (rtp t w) w m r s).2 ∧ hi h h' := by
  obtain ⟨o1, o2, o3, o4, o5, o6⟩ := id okt
  have hmn : mn t.2.1 ≤ 20 := by unfold mn; omega
  have c5 : inR 0 5 := inz (z := 0) (by omega)
  have c13 : inR 0 13000 := iI_inR (a := 0) (by omega) (by omega) (by omega)
  have cl0 : Int32.toNatClampNeg 0 = 0 := rfl
  have fin : ∀ (g : Hp) (u : Int × Nat × Int), rtp t w = u → km h g 0 → isM g 0 u.1 u.2.1 u.2.2 → ∃ h', (if 0 ≤ (g 53 0) then f_M_column_195 (iI m) (iI (r : Int)) (iI (w : Int)) 0 g else f_M_column_195 (iI m) (iI (r : Int)) (iI (w : Int)) 1 g) = some ((sp_col2 (rtp t w) w m r s).1, h') ∧ SR h' (sp_col2 (rtp t w) w m r s).2 ∧ hi h h' := by
    intro g u eu kg Mg
    have ou := rtp_ok (w := w) okt
    rw [eu] at ou ⊢
    have ou1 := ou.1
    unfold isS at ou1
    rw [Mg.2.2.1]
    by_cases q : u.1 < 0
    · rw [if_neg (by rw [i0, iI_le ⟨by omega, by omega⟩ ⟨by omega, by omega⟩]; omega)]
      obtain ⟨h2, e2, S2, l2⟩ := M_195 (x := 1) (w := w) hr hw hm hm1 (SR_fw H (fw_km kg)) ok Mg ou (by rw [if_pos q]; rfl)
      exact ⟨h2, e2, S2, hi_t (hi_fw (fw_km kg)) l2⟩
    · rw [if_pos (by rw [i0, iI_le ⟨by omega, by omega⟩ ⟨by omega, by omega⟩]; omega)]
      obtain ⟨h2, e2, S2, l2⟩ := M_195 (x := 0) (w := w) hr hw hm hm1 (SR_fw H (fw_km kg)) ok Mg ou (by rw [if_neg q]; rfl)
      exact ⟨h2, e2, S2, hi_t (hi_fw (fw_km kg)) l2⟩
  have zero : rtp t w = (0, 0, 0) → ∃ h', f_M_column_124 (iI m) (iI (r : Int)) (iI (w : Int)) h = some ((sp_col2 (rtp t w) w m r s).1, h') ∧ SR h' (sp_col2 (rtp t w) w m r s).2 ∧ hi h h' := by
    intro eu
    obtain ⟨h1, e1, M1, k1⟩ := M_zero (h := h) (z := 0) (by omega)
    unfold f_M_column_124
    rw [bd_t (show f_M_zero 0 h = _ from e1), chk_t c5]
    exact fin h1 _ eu k1 M1
  have t132 : ∀ K : Int, 0 < K → K < 100000 → ((mn t.2.1 : Int) ≤ K → rtp t w = t) → (K < (mn t.2.1 : Int) → rtp t w = rN K.toNat t) → ∃ h', f_M_column_132 (iI m) (iI (r : Int)) (iI (w : Int)) (iI K) h = some ((sp_col2 (rtp t w) w m r s).1, h') ∧ SR h' (sp_col2 (rtp t w) w m r s).2 ∧ hi h h' := by
    intro K hK hK2 g1 g2
    unfold f_M_column_132
    rw [if_neg (by rw [i0, iI_eq ⟨by omega, by omega⟩ ⟨by omega, by omega⟩]; omega), chk_t c5]
    simp only [cl0, M.1]
    by_cases q : (mn t.2.1 : Int) ≤ K
    · rw [if_pos (by rw [iI_le ⟨by omega, by omega⟩ ⟨by omega, by omega⟩]; omega), chk_t c5]
      exact fin h t (g1 q) (km_r _ _) M
    · rw [if_neg (by rw [iI_le ⟨by omega, by omega⟩ ⟨by omega, by omega⟩]; omega)]
      obtain ⟨h1, e1, M1, k1⟩ := M_round (z := 0) (n := K.toNat) (by omega) M (by omega) (by omega)
      rw [show ((K.toNat : Nat) : Int) = K by omega] at e1
      rw [bd_t (show f_M_round 0 (iI K) h = _ from e1), chk_t c5]
      exact fin h1 _ (g2 (by omega)) k1 M1
  have eh := M_high (z := 0) (by omega) M
  have d0 : h 50 0 = iI (dg t.2.1 (mn t.2.1) 0 : Int) := M.2.2.2.2 0 (mn_pos _)
  have dl := dg_lt t.2.1 (mn t.2.1) 0
  have main : ∀ x y : Int32, x + y = iI ((mn t.2.1 : Int) - 1 + t.2.2 + 1 + (min w 5000 : Nat)) → ∃ h', f_M_column_101 (iI m) (iI (r : Int)) (iI (w : Int)) x y h = some ((sp_col2 (rtp t w) w m r s).1, h') ∧ SR h' (sp_col2 (rtp t w) w m r s).2 ∧ hi h h' := by
    intro x y hxy
    unfold f_M_column_101
    rw [hxy]
    simp only [cl0, d0]
    by_cases z : t.2.1 = 0
    · have e0 := o3 z
      rw [z, mn_0, e0]
      have er : rtp t w = t := if_pos (by omega)
      rw [if_neg (by rw [i0, iI_lt ⟨by omega, by omega⟩ ⟨by omega, by omega⟩]; omega), if_neg (by rw [i0, iI_eq ⟨by omega, by omega⟩ ⟨by omega, by omega⟩]; omega)]
      exact t132 _ (by omega) (by omega) (fun _ => er) (fun q => by rw [z, mn_0] at q; omega)
    have hmc := mn_c (c := t.2.1) (by omega)
    have hnp := nd_pos (c := t.2.1) (by omega)
    rw [hmc]
    by_cases q : -t.2.2 ≤ (w : Int)
    · have er : rtp t w = t := if_pos q
      rw [if_neg (by rw [i0, iI_lt ⟨by omega, by omega⟩ ⟨by omega, by omega⟩]; omega), if_neg (by rw [i0, iI_eq ⟨by omega, by omega⟩ ⟨by omega, by omega⟩]; omega)]
      exact t132 _ (by omega) (by omega) (fun _ => er) (fun q => by rw [hmc] at q; omega)
    have hK : (nd t.2.1 : Int) - 1 + t.2.2 + 1 + (min w 5000 : Nat) = (nd t.2.1 : Int) + t.2.2 + (w : Int) := by omega
    rw [hK]
    by_cases q2 : 0 < (nd t.2.1 : Int) + t.2.2 + (w : Int)
    · have er : rtp t w = rN ((nd t.2.1 : Int) + t.2.2 + (w : Int)).toNat t := by
        unfold rtp
        rw [if_neg q, if_pos q2]
      rw [if_neg (by rw [i0, iI_lt ⟨by omega, by omega⟩ ⟨by omega, by omega⟩]; omega), if_neg (by rw [i0, iI_eq ⟨by omega, by omega⟩ ⟨by omega, by omega⟩]; omega)]
      exact t132 _ (by omega) (by omega) (fun q => by rw [hmc] at q; omega) (fun _ => er)
    have edz : dz t.2.1 0 = dg t.2.1 (nd t.2.1) 0 := by
      unfold dz
      rw [if_pos (by omega)]
      rfl
    rw [hmc] at dl
    by_cases q3 : (nd t.2.1 : Int) + t.2.2 + (w : Int) = 0
    · rw [q3, if_neg (by decide), if_pos (by rfl), chk_t c13]
      by_cases q4 : 5 ≤ dz t.2.1 0
      · have er : rtp t w = (t.1, 1, -(w : Int)) := by
          unfold rtp
          rw [if_neg q, if_neg q2, if_pos ⟨q3, q4⟩]
        rw [if_pos (by rw [show (5 : Int32) = iI 5 from rfl, iI_le ⟨by omega, by omega⟩ ⟨by omega, by omega⟩]; omega)]
        unfold f_M_column_132
        rw [if_pos (by rfl), chk_t c13, chk_t c5, chk_t c5, chk_t c5]
        simp only [cl0]
        rw [iI_neg]
        refine fin _ _ er ?_ ?_
        · exact km_t (km_t (km_50 _ 0 0 _ (by omega)) (km_51 _ 0 _)) (km_52 _ 0 _)
        · refine ⟨?_, ?_, ?_, by show mn 1 ≤ 2600; decide, fun k hk => ?_⟩
          · rw [up2_o _ _ _ _ (by omega), up2_s]; rfl
          · rw [up2_s]
          · rw [up2_o _ _ _ _ (by omega), up2_o _ _ _ _ (by omega), up2_o _ _ _ _ (by omega)]; exact M.2.2.1
          · have hk : k < 1 := hk
            rw [show 2600 * 0 + k = 0 by omega, up2_o _ _ _ _ (by omega), up2_o _ _ _ _ (by omega), up2_s, show k = 0 by omega]
            show (1 : Int32) = iI ((dg 1 (mn 1) 0 : Nat) : Int)
            decide
      · have er : rtp t w = (0, 0, 0) := by
          unfold rtp
          rw [if_neg q, if_neg q2, if_neg (fun z => q4 z.2)]
        rw [if_neg (by rw [show (5 : Int32) = iI 5 from rfl, iI_le ⟨by omega, by omega⟩ ⟨by omega, by omega⟩]; omega)]
        exact zero er
    · have er : rtp t w = (0, 0, 0) := by
        unfold rtp
        rw [if_neg q, if_neg q2, if_neg (fun z => q3 z.1)]
      rw [if_pos (by rw [i0, iI_lt ⟨by omega, by omega⟩ ⟨by omega, by omega⟩]; omega)]
      exact zero er
  unfold f_M_column_76
  rw [bd_t (show f_M_high 0 h = _ from eh), i1, iI_add]
  by_cases q : w ≤ 5000
  · rw [if_pos (by rw [show (5000 : Int32) = iI 5000 from rfl, iI_le ⟨by omega, by omega⟩ ⟨by omega, by omega⟩]; omega)]
    refine main _ _ ?_
    rw [iI_add, Nat.min_eq_left q]
  · rw [if_neg (by rw [show (5000 : Int32) = iI 5000 from rfl, iI_le ⟨by omega, by omega⟩ ⟨by omega, by omega⟩]; omega)]
    refine main _ _ ?_
    rw [show (5000 : Int32) = iI 5000 from rfl, iI_add, Nat.min_eq_right (by omega)]
    rfl
theorem M_column {a m n b : Int} {s : St} {h : Hp} (ha : bI a) (hm : bI m) (hn : bI n) (hb : bI b) (H : SR h s) (ok : okS s) : ∃ h', f_M_column (iI a) (iI m) (iI n) (iI b) h = some ((sp_col a m n b s).1, h') ∧ SR h' (sp_col a m n b s).2 ∧ hi h h' := by
  have bad : ¬ (isReg a ∧ isReg b ∧ -1 ≤ m ∧ -1 ≤ n) → ∃ h', some ((-1 : Int32), h) = some ((sp_col a m n b s).1, h') ∧ SR h' (sp_col a m n b s).2 ∧ hi h h' := fun q => by
    unfold sp_col
    rw [if_neg q]
    exact ⟨h, rfl, H, hi_r _⟩
  unfold f_M_column
  rw [bd_t (M_isReg ha)]
  by_cases q3 : ¬ isReg a
  · rw [if_neg q3, if_pos (by rfl)]; exact bad (by omega)
  have q3 := Decidable.not_not.mp q3
  rw [if_pos q3, if_neg (by decide), bd_t (M_isReg hb)]
  by_cases q4 : ¬ isReg b
  · rw [if_neg q4, if_pos (by rfl)]; exact bad (by omega)
  have q4 := Decidable.not_not.mp q4
  rw [if_pos q4, if_neg (by decide)]
  by_cases q1 : n < -1
  · rw [if_pos (by rw [im1, iI_lt ⟨by omega, by omega⟩ ⟨by omega, by omega⟩]; omega)]; exact bad (by omega)
  rw [if_neg (by rw [im1, iI_lt ⟨by omega, by omega⟩ ⟨by omega, by omega⟩]; omega)]
  by_cases q2 : m < -1
  · rw [if_neg (by rw [im1, iI_le ⟨by omega, by omega⟩ ⟨by omega, by omega⟩]; omega)]; exact bad (by omega)
  rw [if_pos (by rw [im1, iI_le ⟨by omega, by omega⟩ ⟨by omega, by omega⟩]; omega)]
  unfold sp_col
  rw [if_pos (show isReg a ∧ isReg b ∧ -1 ≤ m ∧ -1 ≤ n by omega)]
  have hd := ok.2.2
  obtain ⟨a, rfl⟩ : ∃ k : Nat, a = k := ⟨a.toNat, by omega⟩
  obtain ⟨b, rfl⟩ : ∃ k : Nat, b = k := ⟨b.toNat, by omega⟩
  simp only [Int.toNat_natCast]
  obtain ⟨h1, e1, k1, m1⟩ := M_load (n := s.2.2.1) (z := 0) (r := a) (by omega) (by omega) (by omega) (by omega) (H.2.1 a (by omega)) (ok.2.1 a (by omega))
  rw [bd_t (show f_M_read (iI (a : Int)) 0 h = _ from e1)]
  cases hx : ldN s.2.2.1 (s.2.1 a) with
  | none =>
    rw [if_pos (by simp; decide)]
    exact ⟨h1, rfl, SR_fw H (fw_km k1), hi_fw (fw_km k1)⟩
  | some t =>
    rw [if_neg (by simp; decide)]
    have okt := okN_w (ldN_ok (n := s.2.2.1) (by omega) (ok.2.1 a (by omega)).1 hx) (Nat.le_refl 1501) (show s.2.2.1 ≤ 20 by omega)
    obtain ⟨h2, e2, k2, M2⟩ := m1 t hx
    have f2 : fw h h2 := fw_t (fw_km k1) (fw_km k2)
    have e4 : h1 46 4 = iI (s.2.2.1 : Int) := (SR_fw H (fw_km k1)).2.2.1
    rw [e4, bd_t (show f_M_round 0 (iI (s.2.2.1 : Int)) h1 = _ from e2)]
    obtain ⟨o1, o2, o3, o4, o5, o6⟩ := id okt
    have c5 : inR 0 5 := inz (z := 0) (by omega)
    have cl0 : Int32.toNatClampNeg 0 = 0 := rfl
    have tail : ∀ w : Nat, w < 2147483648 → ∃ h', f_M_column_76 (iI m) (iI (b : Int)) (iI (w : Int)) h2 = some ((sp_col2 (rtp t w) w m b s).1, h') ∧ SR h' (sp_col2 (rtp t w) w m b s).2 ∧ hi h h' := by
      intro w hw
      obtain ⟨h3, e3, S3, l3⟩ := M_col101 (r := b) (w := w) (by omega) hw hm (by omega) (SR_fw H f2) ok M2 okt
      exact ⟨h3, e3, S3, hi_t (hi_fw f2) l3⟩
    show ∃ h', _ = some ((sp_col2 (rtp t (cpl n t.2.2)) (cpl n t.2.2) m b s).1, h') ∧ SR h' (sp_col2 (rtp t (cpl n t.2.2)) (cpl n t.2.2) m b s).2 ∧ _
    by_cases g : n < 0
    · have ec : cpl n t.2.2 = (-t.2.2).toNat := if_pos g
      rw [if_pos (by rw [i0, iI_lt ⟨by omega, by omega⟩ ⟨by omega, by omega⟩]; omega), chk_t c5, ec]
      simp only [cl0, M2.2.1]
      have T := tail (-t.2.2).toNat (by omega)
      by_cases g2 : 0 ≤ t.2.2
      · rw [if_pos (by rw [i0, iI_le ⟨by omega, by omega⟩ ⟨by omega, by omega⟩]; omega)]
        rw [show (-t.2.2).toNat = 0 by omega] at T ⊢
        exact T
      · rw [if_neg (by rw [i0, iI_le ⟨by omega, by omega⟩ ⟨by omega, by omega⟩]; omega), chk_t c5, iI_neg]
        rw [show (((-t.2.2).toNat : Nat) : Int) = -t.2.2 by omega] at T
        exact T
    · have ec : cpl n t.2.2 = n.toNat := if_neg g
      have T := tail n.toNat (by omega)
      rw [show ((n.toNat : Nat) : Int) = n by omega] at T
      rw [if_neg (by rw [i0, iI_lt ⟨by omega, by omega⟩ ⟨by omega, by omega⟩]; omega), ec]
      exact T
end
section
/-! PURE 18: sums: digits with carries, and the class's sum -/
theorem rnd_hi {n c : Nat} {e : Int} (hn : 0 < n) : (nd (rnd n c e).1 : Int) + (rnd n c e).2 ≤ (nd c : Int) + e + 1 := by
  have hb := rnd_nd (n := n) (c := c) (e := e) hn
  unfold rnd at *
  by_cases q : nd c ≤ n
  · rw [if_pos q]
    show (nd c : Int) + e ≤ _
    omega
  · rw [if_neg q] at hb ⊢
    by_cases q2 : rup c (nd c - n) = 10 ^ n
    · rw [if_pos q2] at hb ⊢
      have hb : nd (10 ^ (n - 1)) ≤ n := hb
      show (nd (10 ^ (n - 1)) : Int) + (e + ((nd c - n : Nat) : Int) + 1) ≤ _
      omega
    · rw [if_neg q2] at hb ⊢
      have hb : nd (rup c (nd c - n)) ≤ n := hb
      show (nd (rup c (nd c - n)) : Int) + (e + ((nd c - n : Nat) : Int)) ≤ _
      omega
theorem rdN_okE {bs : List Nat} {t : Int × Nat × Int} (hl : bs.length ≤ 200) (ht : rdN bs = some t) : -1200 ≤ t.2.2 ∧ (nd t.2.1 : Int) + t.2.2 ≤ 1200 := by
  have hnd := (rdN_ok hl ht).2.2.2.2.2
  unfold rdN at ht
  cases hx : rdT (fun k => bAt bs (k : Int)) (bs.length - rdK2 bs) (rdK2 bs) with
  | none => rw [hx] at ht; cases ht
  | some r =>
    rw [hx] at ht
    have ht2 : (if skp bs (bs.length - r.1) r.1 = bs.length then some (nrm (if bAt bs (rdK bs : Int) = 45 then -1 else 1) r.2.1 r.2.2) else none) = some t := ht
    by_cases z : skp bs (bs.length - r.1) r.1 = bs.length
    · rw [if_pos z] at ht2
      have := (Option.some.inj ht2).symm
      subst this
      unfold rdT at hx
      have hD := rdD_k (fun k => bAt bs (k : Int)) (bs.length - rdK2 bs) (rdK2 bs) 0 0 0 0
      by_cases n0 : (rdD (fun k => bAt bs (k : Int)) (bs.length - rdK2 bs) (rdK2 bs) 0 0 0 0).2.2.1 = 0
      · rw [if_pos n0] at hx; cases hx
      · rw [if_neg n0] at hx
        have hX := rdX_ok hx
        have hp := hD.2.2.2.2 (by omega)
        unfold nrm at hnd ⊢
        by_cases c0 : r.2.1 = 0
        · rw [if_pos c0]
          exact ⟨by decide, by decide⟩
        · rw [if_neg c0] at hnd ⊢
          have hnd : nd r.2.1 ≤ 200 := hnd
          show -1200 ≤ r.2.2 ∧ (nd r.2.1 : Int) + r.2.2 ≤ 1200
          omega
    · rw [if_neg z] at ht2
      cases ht2
def okE (t : Int × Nat × Int) : Prop := -1200 ≤ t.2.2 ∧ (nd t.2.1 : Int) + t.2.2 ≤ 1201
theorem ldN_okE {n : Nat} {bs : List Nat} {t : Int × Nat × Int} (hn : 0 < n) (hl : bs.length ≤ 200) (ht : ldN n bs = some t) : okE t := by
  unfold ldN at ht
  cases hx : rdN bs with
  | none => rw [hx] at ht; cases ht
  | some u =>
    rw [hx] at ht
    have := (Option.some.inj ht).symm
    subst this
    have a := rdN_okE hl hx
    have b := rnd_hi (n := n) (c := u.2.1) (e := u.2.2) hn
    have c := rnd_e (n := n) (c := u.2.1) (e := u.2.2)
    show -1200 ≤ (rnd n u.2.1 u.2.2).2 ∧ (nd (rnd n u.2.1 u.2.2).1 : Int) + (rnd n u.2.1 u.2.2).2 ≤ 1201
    omega
theorem rnd_div {n c j : Nat} {e : Int} (h : n + 1 ≤ nd (c / 10 ^ j)) : rnd n c e = rnd n (c / 10 ^ j) (e + (j : Int)) := by
  have hj : j < nd c := by
    rcases Nat.lt_or_ge j (nd c) with q | q
    · exact q
    · rw [Nat.div_eq_of_lt (Nat.lt_of_lt_of_le (nd_lt c) (Nat.pow_le_pow_right (by decide) q)), nd_0] at h
      omega
  have hd := nd_divp hj
  rw [hd] at h
  have hr : rup (c / 10 ^ j) (nd c - j - n) = rup c (nd c - n) := by
    unfold rup
    rw [div_pp, div_pp, show j + (nd c - j - n) = nd c - n by omega, show j + (nd c - j - n - 1) = nd c - n - 1 by omega]
  unfold rnd
  rw [hd, hr, if_neg (show ¬ nd c ≤ n by omega), if_neg (show ¬ nd c - j ≤ n by omega), show e + (j : Int) + ((nd c - j - n : Nat) : Int) = e + ((nd c - n : Nat) : Int) by omega]
theorem dp_X {c : Nat} {e L : Int} (h : L ≤ e) (k : Nat) : dp c e (L + (k : Int)) = c * 10 ^ (e - L).toNat / 10 ^ k % 10 := by
  unfold dp
  by_cases q : e ≤ L + (k : Int)
  · rw [if_pos q]
    obtain ⟨a, ha⟩ : ∃ a, (e - L).toNat = a := ⟨_, rfl⟩
    obtain ⟨b, hb⟩ : ∃ b, (L + (k : Int) - e).toNat = b := ⟨_, rfl⟩
    have hk : k = a + b := by omega
    rw [ha, hb, hk, Nat.pow_add, ← Nat.div_div_eq_div_mul, Nat.mul_div_cancel _ (p10 a)]
  · rw [if_neg q]
    obtain ⟨a, ha⟩ : ∃ a, (e - L).toNat = k + (a + 1) := ⟨(e - L).toNat - k - 1, by omega⟩
    rw [ha, Nat.pow_add, Nat.mul_left_comm, Nat.mul_div_cancel_left _ (p10 k), Nat.pow_succ, ← Nat.mul_assoc, Nat.mul_mod_left]
def sX (c : Nat) (e L : Int) : Nat := c * 10 ^ (e - L).toNat
theorem sX_d {c : Nat} {e L : Int} (h : L ≤ e) (k : Nat) : dp c e (L + (k : Int)) = sX c e L / 10 ^ k % 10 := dp_X h k
theorem sX_lt {c : Nat} {e L : Int} {K : Nat} (h : L ≤ e) (hK : (nd c : Int) + e - L ≤ K) : sX c e L < 10 ^ K := by
  unfold sX
  have a : c * 10 ^ (e - L).toNat < 10 ^ nd c * 10 ^ (e - L).toNat := Nat.mul_lt_mul_of_pos_right (nd_lt c) (p10 _)
  rw [← Nat.pow_add] at a
  exact Nat.lt_of_lt_of_le a (Nat.pow_le_pow_right (by decide) (by omega))
theorem sX_ge {c : Nat} {e L : Int} {K : Nat} (hc : 0 < c) (h : L ≤ e) (hK : (K : Int) + 1 ≤ (nd c : Int) + e - L) : 10 ^ K ≤ sX c e L := by
  unfold sX
  have a : 10 ^ (nd c - 1) * 10 ^ (e - L).toNat ≤ c * 10 ^ (e - L).toNat := Nat.mul_le_mul_right _ (nd_le hc)
  rw [← Nat.pow_add] at a
  exact Nat.le_trans (Nat.pow_le_pow_right (by decide) (by have := nd_pos hc; omega)) a
theorem sX_pos {c : Nat} {e L : Int} (hc : 0 < c) : 0 < sX c e L := Nat.mul_pos hc (p10 _)
-- ===== digits with carries =====
def cyF (X Y : Nat) (g : Int) : Nat → Int
  | 0 => 0
  | k + 1 => if ((X / 10 ^ k % 10 : Nat) : Int) + g * ((Y / 10 ^ k % 10 : Nat) : Int) + cyF X Y g k < 0 then -1 else if ((X / 10 ^ k % 10 : Nat) : Int) + g * ((Y / 10 ^ k % 10 : Nat) : Int) + cyF X Y g k ≤ 9 then 0 else 1
def rkF (X Y : Nat) (g : Int) (k : Nat) : Int := ((X / 10 ^ k % 10 : Nat) : Int) + g * ((Y / 10 ^ k % 10 : Nat) : Int) + cyF X Y g k
theorem cyF_s (X Y : Nat) (g : Int) (k : Nat) : cyF X Y g (k + 1) = if rkF X Y g k < 0 then -1 else if rkF X Y g k ≤ 9 then 0 else 1 := rfl
def dgF (X Y : Nat) (g : Int) (k : Nat) : Nat := (rkF X Y g k - 10 * cyF X Y g (k + 1)).toNat
theorem cyF_b {X Y : Nat} {g : Int} (hg : g = 1 ∨ g = -1) : ∀ k, -1 ≤ cyF X Y g k ∧ cyF X Y g k ≤ 1 ∧ (g = 1 → 0 ≤ cyF X Y g k) ∧ (g = -1 → cyF X Y g k ≤ 0) ∧ -10 ≤ rkF X Y g k ∧ rkF X Y g k ≤ 19 ∧ (g = 1 → 0 ≤ rkF X Y g k) ∧ (g = -1 → rkF X Y g k ≤ 9) := by
  intro k
  have step : ∀ k, (-1 ≤ cyF X Y g k ∧ cyF X Y g k ≤ 1 ∧ (g = 1 → 0 ≤ cyF X Y g k) ∧ (g = -1 → cyF X Y g k ≤ 0)) → (-10 ≤ rkF X Y g k ∧ rkF X Y g k ≤ 19 ∧ (g = 1 → 0 ≤ rkF X Y g k) ∧ (g = -1 → rkF X Y g k ≤ 9)) := by
    intro k ih
    have a := Nat.mod_lt (X / 10 ^ k) (show 10 > 0 by decide)
    have b := Nat.mod_lt (Y / 10 ^ k) (show 10 > 0 by decide)
    unfold rkF
    rcases hg with q | q
    · rw [q] at ih ⊢
      rw [Int.one_mul]
      omega
    · rw [q] at ih ⊢
      rw [Int.neg_mul, Int.one_mul]
      omega
  induction k with
  | zero =>
    have z : cyF X Y g 0 = 0 := rfl
    have h0 : -1 ≤ cyF X Y g 0 ∧ cyF X Y g 0 ≤ 1 ∧ (g = 1 → 0 ≤ cyF X Y g 0) ∧ (g = -1 → cyF X Y g 0 ≤ 0) := by
      rw [z]
      omega
    have := step 0 h0
    omega
  | succ k ih =>
    have h1 : -1 ≤ cyF X Y g (k + 1) ∧ cyF X Y g (k + 1) ≤ 1 ∧ (g = 1 → 0 ≤ cyF X Y g (k + 1)) ∧ (g = -1 → cyF X Y g (k + 1) ≤ 0) := by
      rw [cyF_s]
      by_cases q : rkF X Y g k < 0
      · rw [if_pos q]
        omega
      · rw [if_neg q]
        by_cases q2 : rkF X Y g k ≤ 9
        · rw [if_pos q2]
          omega
        · rw [if_neg q2]
          omega
    have := step (k + 1) h1
    omega
theorem dgF_p {X Y : Nat} {g : Int} (hg : g = 1 ∨ g = -1) (k : Nat) : (dgF X Y g k : Int) = rkF X Y g k - 10 * cyF X Y g (k + 1) ∧ dgF X Y g k < 10 := by
  have a := cyF_b (X := X) (Y := Y) hg k
  unfold dgF
  rw [cyF_s]
  by_cases q : rkF X Y g k < 0
  · rw [if_pos q]
    omega
  · rw [if_neg q]
    by_cases q2 : rkF X Y g k ≤ 9
    · rw [if_pos q2]
      omega
    · rw [if_neg q2]
      omega
theorem alg1 (L cy P Xm Ym x y dg cy' g : Int) (h1 : L + cy * P = Xm + g * Ym) (h2 : dg = x + g * y + cy - 10 * cy') : L + dg * P + cy' * (P * 10) = Xm + P * x + g * (Ym + P * y) := by
  subst h2
  have e1 : (x + g * y + cy - 10 * cy') * P = x * P + g * y * P + cy * P - 10 * cy' * P := by rw [Int.sub_mul, Int.add_mul, Int.add_mul]
  have e2 : cy' * (P * 10) = 10 * cy' * P := by rw [Int.mul_comm P 10, ← Int.mul_assoc, Int.mul_comm cy' 10]
  have e3 : P * x = x * P := Int.mul_comm _ _
  have e4 : g * (Ym + P * y) = g * Ym + g * y * P := by rw [Int.mul_add, Int.mul_comm P y, ← Int.mul_assoc]
  rw [e1, e2, e3, e4]
  omega
theorem le_dgF {X Y : Nat} {g : Int} (hg : g = 1 ∨ g = -1) : ∀ k, (le (dgF X Y g) k : Int) + cyF X Y g k * ((10 ^ k : Nat) : Int) = ((X % 10 ^ k : Nat) : Int) + g * ((Y % 10 ^ k : Nat) : Int)
  | 0 => by
    have z : cyF X Y g 0 = 0 := rfl
    rw [z, Nat.pow_zero, Nat.mod_one, Nat.mod_one]
    show ((0 : Nat) : Int) + 0 * _ = ((0 : Nat) : Int) + g * ((0 : Nat) : Int)
    simp
  | k + 1 => by
    have ih := le_dgF (X := X) (Y := Y) hg k
    have hd := (dgF_p (X := X) (Y := Y) hg k).1
    have A := alg1 _ _ _ _ _ ((X / 10 ^ k % 10 : Nat) : Int) ((Y / 10 ^ k % 10 : Nat) : Int) (dgF X Y g k : Int) (cyF X Y g (k + 1)) _ ih (by rw [hd]; rfl)
    rw [le_s, Nat.mod_pow_succ, Nat.mod_pow_succ, Nat.pow_succ]
    simp only [Int.natCast_add, Int.natCast_mul] at A ⊢
    exact A
theorem le_sum {X Y K : Nat} {g : Int} (hg : g = 1 ∨ g = -1) (hX : X < 10 ^ K) (hY : Y < 10 ^ K) (h0 : 0 ≤ (X : Int) + g * (Y : Int)) (h1 : (X : Int) + g * (Y : Int) < ((10 ^ K : Nat) : Int)) : (le (dgF X Y g) K : Int) = (X : Int) + g * (Y : Int) := by
  have a := le_dgF (X := X) (Y := Y) hg K
  rw [Nat.mod_eq_of_lt hX, Nat.mod_eq_of_lt hY] at a
  have b := cyF_b (X := X) (Y := Y) hg K
  have c := le_lt (c := dgF X Y g) (n := K) (fun k _ => (dgF_p hg k).2)
  have d : cyF X Y g K = -1 ∨ cyF X Y g K = 0 ∨ cyF X Y g K = 1 := by omega
  rcases d with d | d | d
  · rw [d] at a
    omega
  · rw [d] at a
    omega
  · rw [d] at a
    omega
theorem le_dig {f : Nat → Nat} {k : Nat} : ∀ {w : Nat}, (∀ q, q < w → f q < 10) → k < w → le f w / 10 ^ k % 10 = f k
  | 0, _, hk => absurd hk (Nat.not_lt_zero k)
  | w + 1, hf, hk => by
    rw [le_s]
    have hw := le_lt (c := f) (n := w) (fun q hq => hf q (by omega))
    by_cases q : k = w
    · rw [q, Nat.add_mul_div_right _ _ (p10 w), Nat.div_eq_of_lt hw, Nat.zero_add, Nat.mod_eq_of_lt (hf w (by omega))]
    · have e : f w * 10 ^ w = f w * 10 ^ (w - k - 1) * 10 * 10 ^ k := by
        rw [Nat.mul_assoc, Nat.mul_assoc, ← Nat.pow_succ', ← Nat.pow_add]
        congr 2
        omega
      rw [e, Nat.add_mul_div_right _ _ (p10 k), Nat.add_mul_mod_self_right]
      exact le_dig (fun q hq => hf q (by omega)) (by omega)
-- ===== the first difference from the top =====
def cmpF (X Y : Nat) : Nat → Int
  | 0 => 0
  | m + 1 => if X / 10 ^ m % 10 = Y / 10 ^ m % 10 then cmpF X Y m else ((X / 10 ^ m % 10 : Nat) : Int) - ((Y / 10 ^ m % 10 : Nat) : Int)
theorem cmpF_b (X Y : Nat) : ∀ m, -9 ≤ cmpF X Y m ∧ cmpF X Y m ≤ 9
  | 0 => ⟨by show -9 ≤ (0 : Int); decide, by show (0 : Int) ≤ 9; decide⟩
  | m + 1 => by
    have a := Nat.mod_lt (X / 10 ^ m) (show 10 > 0 by decide)
    have b := Nat.mod_lt (Y / 10 ^ m) (show 10 > 0 by decide)
    unfold cmpF
    split
    · exact cmpF_b X Y m
    · omega
theorem cmpF_lt {X Y : Nat} : ∀ m, X / 10 ^ m = Y / 10 ^ m → (cmpF X Y m < 0 ↔ X < Y)
  | 0, h => by
    rw [Nat.pow_zero, Nat.div_one, Nat.div_one] at h
    show (0 : Int) < 0 ↔ _
    omega
  | m + 1, h => by
    have ex : X / 10 ^ (m + 1) = X / 10 ^ m / 10 := by rw [Nat.pow_succ, Nat.div_div_eq_div_mul]
    have ey : Y / 10 ^ (m + 1) = Y / 10 ^ m / 10 := by rw [Nat.pow_succ, Nat.div_div_eq_div_mul]
    rw [ex, ey] at h
    unfold cmpF
    by_cases q : X / 10 ^ m % 10 = Y / 10 ^ m % 10
    · rw [if_pos q]
      exact cmpF_lt m (by omega)
    · rw [if_neg q]
      constructor
      · intro z
        have : X / 10 ^ m < Y / 10 ^ m := by omega
        rcases Nat.lt_or_ge X Y with w | w
        · exact w
        · have := Nat.div_le_div_right (c := 10 ^ m) w
          omega
      · intro z
        have := Nat.div_le_div_right (c := 10 ^ m) (Nat.le_of_lt z)
        omega
-- ===== the sum =====
def lwE (t u : Int × Nat × Int) : Int := if u.2.2 ≤ t.2.2 then u.2.2 else t.2.2
theorem lwE_p (t u : Int × Nat × Int) : lwE t u ≤ t.2.2 ∧ lwE t u ≤ u.2.2 ∧ (lwE t u = t.2.2 ∨ lwE t u = u.2.2) := by
  unfold lwE
  split <;> omega
def exS (t u : Int × Nat × Int) : Int × Nat × Int := if u.2.1 = 0 then t else if t.2.1 = 0 then u else if t.1 = u.1 then nrm t.1 (sX t.2.1 t.2.2 (lwE t u) + sX u.2.1 u.2.2 (lwE t u)) (lwE t u) else if sX t.2.1 t.2.2 (lwE t u) < sX u.2.1 u.2.2 (lwE t u) then nrm u.1 (sX u.2.1 u.2.2 (lwE t u) - sX t.2.1 t.2.2 (lwE t u)) (lwE t u) else nrm t.1 (sX t.2.1 t.2.2 (lwE t u) - sX u.2.1 u.2.2 (lwE t u)) (lwE t u)
theorem isN_nrm {h : Hp} {i c : Nat} {s e : Int} (N : isN h i (if c = 0 then 0 else s) c (if c = 0 then 0 else e)) : isN h i (nrm s c e).1 (nrm s c e).2.1 (nrm s c e).2.2 := by
  unfold nrm
  by_cases q : c = 0
  · rw [if_pos q] at N ⊢
    rw [if_pos q, q] at N
    exact N
  · rw [if_neg q] at N ⊢
    rw [if_neg q] at N
    exact N
-- ===== the class: cells =====
theorem K_fill {i j c1 c2 K X Y : Nat} {s1 s2 e1 e2 L g : Int} (hi : i ≠ 35) (hi1 : i + 1 ≠ 35) (hj : j ≠ 35) (hj1 : j + 1 ≠ 35) (hg : g = 1 ∨ g = -1) (b1 : -1000000 ≤ e1 ∧ e1 ≤ 1000000) (b2 : -1000000 ≤ e2 ∧ e2 ≤ 1000000) (bL : -1000000 ≤ L ∧ L ≤ 1000000) (hX : ∀ k : Nat, dp c1 e1 (L + (k : Int)) = X / 10 ^ k % 10) (hY : ∀ k : Nat, dp c2 e2 (L + (k : Int)) = Y / 10 ^ k % 10) (hK : K ≤ 100) : ∀ (m k n : Nat) (h : Hp), k + m = K → m < n → isN h i s1 c1 e1 → isN h j s2 c2 e2 → (∀ q, q < k → h 35 q = iI (dgF X Y g q : Int)) → ∃ h', f_K_fillCells_6 n i j (iI g) (iI L) (iI (K : Int)) (iI (cyF X Y g k)) (iI (k : Int)) h = some ((), h') ∧ (∀ q, q < K → h' 35 q = iI (dgF X Y g q : Int)) ∧ ∀ y, y ≠ 35 → h' y = h y := by
  intro m
  induction m with
  | zero =>
    intro k n h hk hn N1 N2 F
    obtain ⟨n, rfl⟩ : ∃ q, n = q + 1 := ⟨n - 1, by omega⟩
    rw [f_K_fillCells_6, if_pos (leN (by omega) (by omega) (by omega))]
    exact ⟨h, rfl, fun q hq => F q (by omega), fun _ _ => rfl⟩
  | succ m ih =>
    intro k n h hk hn N1 N2 F
    obtain ⟨n, rfl⟩ : ∃ q, n = q + 1 := ⟨n - 1, by omega⟩
    have cb := cyF_b (X := X) (Y := Y) hg k
    rw [f_K_fillCells_6, if_neg (nleN (by omega) (by omega) (by omega)), iI_ofNat, if_neg (nleN (by omega) (by omega) (by omega)), iI_add, bd_t (N_digitAtPower N1 (by omega) (by omega)), bd_t (N_digitAtPower N2 (by omega) (by omega)), hX k, hY k, iI_mul, iI_add, iI_add, show ((X / 10 ^ k % 10 : Nat) : Int) + g * ((Y / 10 ^ k % 10 : Nat) : Int) + cyF X Y g k = rkF X Y g k from rfl]
    have go : ∀ s0 : Int32, s0 = iI (cyF X Y g (k + 1)) → ∃ h', f_K_fillCells_70 (fun v1 v2 v3 v4 v5 v6 v7 h => f_K_fillCells_6 n v1 v2 v3 v4 v5 v6 v7 h) i j (iI g) (iI L) (iI (K : Int)) (iI (k : Int)) (iI (rkF X Y g k)) s0 h = some ((), h') ∧ (∀ q, q < K → h' 35 q = iI (dgF X Y g q : Int)) ∧ ∀ y, y ≠ 35 → h' y = h y := by
      intro s0 hs
      unfold f_K_fillCells_70
      rw [chk_t (iI_inR (by omega) (by omega) (by omega)), hs, scN, clN (by omega), show (10 : Int32) = iI 10 from rfl, iI_mul, iI_sub, ← (dgF_p (X := X) (Y := Y) hg k).1]
      obtain ⟨h', e', a', b'⟩ := ih (k + 1) n (up2 h 35 k (iI (dgF X Y g k : Int))) (by omega) (by omega) (isN_eq N1 (up2_ne _ _ _ hi) (up2_ne _ _ _ hi1)) (isN_eq N2 (up2_ne _ _ _ hj) (up2_ne _ _ _ hj1)) (fun q hq => by
        by_cases z : q = k
        · rw [z, up2_s]
        · rw [up2_k _ _ _ z]
          exact F q (by omega))
      exact ⟨h', e', a', fun y hy => by rw [b' y hy, up2_ne _ _ _ hy]⟩
    by_cases q : rkF X Y g k < 0
    · rw [if_neg (by rw [i0, iI_le ⟨by omega, by omega⟩ ⟨by omega, by omega⟩]; omega)]
      exact go _ (by rw [cyF_s, if_pos q, im1])
    · rw [if_pos (by rw [i0, iI_le ⟨by omega, by omega⟩ ⟨by omega, by omega⟩]; omega)]
      by_cases q2 : rkF X Y g k ≤ 9
      · rw [if_pos (by rw [show (9 : Int32) = iI 9 from rfl, iI_le ⟨by omega, by omega⟩ ⟨by omega, by omega⟩]; omega)]
        exact go _ (by rw [cyF_s, if_neg q, if_pos q2]; rfl)
      · rw [if_neg (by rw [show (9 : Int32) = iI 9 from rfl, iI_le ⟨by omega, by omega⟩ ⟨by omega, by omega⟩]; omega)]
        exact go _ (by rw [cyF_s, if_neg q, if_neg q2]; rfl)
theorem K_take_loop {i w : Nat} {f : Nat → Nat} {s e : Int} (hf : ∀ q, q < w → f q < 10) (hw : w ≤ 100) (hl : 100 ≤ il (i + 1)) (hi : i ≠ 35) (hi1 : i + 1 ≠ 35) : ∀ (m n : Nat) (h : Hp), m ≤ w → m < n → isD h i (le f w / 10 ^ m) → (∀ q, q < w → h 35 q = iI (f q : Int)) → ∃ h', f_K_takeCells_18 n (iI e) (iI s) i (iI ((m : Int) - 1)) h = some ((), h') ∧ isN h' i (if le f w = 0 then 0 else s) (le f w) (if le f w = 0 then 0 else e) ∧ kp h h' i (i + 1) := by
  intro m
  induction m with
  | zero =>
    intro n h hm hn D F
    obtain ⟨n, rfl⟩ : ∃ q, n = q + 1 := ⟨n - 1, by omega⟩
    rw [f_K_takeCells_18, if_pos (by rw [i0, iI_lt ⟨by omega, by omega⟩ ⟨by omega, by omega⟩]; omega)]
    rw [Nat.pow_zero, Nat.div_one] at D
    obtain ⟨h1, e1, N1, k1⟩ := N_settle (s := s) (e := e) D
    rw [bd_t e1]
    exact ⟨h1, rfl, N1, k1⟩
  | succ m ih =>
    intro n h hm hn D F
    obtain ⟨n, rfl⟩ : ∃ q, n = q + 1 := ⟨n - 1, by omega⟩
    have em : ((m + 1 : Nat) : Int) - 1 = (m : Int) := by omega
    have en : 10 * (le f w / 10 ^ (m + 1)) + f m = le f w / 10 ^ m := by
      rw [← le_dig hf (show m < w by omega), Nat.pow_succ, ← Nat.div_div_eq_div_mul]
      exact Nat.div_add_mod _ _
    have hb : nd (10 * (le f w / 10 ^ (m + 1)) + f m) ≤ il (i + 1) := by
      rw [en]
      have a := nd_mono (Nat.div_le_self (le f w) (10 ^ m))
      have b := nd_le_of (le_lt hf)
      omega
    rw [f_K_takeCells_18, em, if_neg (by rw [i0, iI_lt ⟨by omega, by omega⟩ ⟨by omega, by omega⟩]; omega), chk_t (iI_inR (by omega) (by omega) (by omega)), clN (by omega), F m (by omega)]
    obtain ⟨h1, e1, D1, k1⟩ := N_push D (hf m (by omega)) hb
    rw [en] at D1
    rw [bd_t e1, im1, iI_add]
    obtain ⟨h2, e2, N2, k2⟩ := ih n h1 (by omega) (by omega) D1 (fun q hq => by rw [k1.1 35 (fun z => hi z.symm) (fun z => hi1 z.symm)]; exact F q hq)
    exact ⟨h2, e2, N2, kp_t k1.1 k2⟩
theorem K_take {i w : Nat} {f : Nat → Nat} {s e : Int} {h : Hp} (hf : ∀ q, q < w → f q < 10) (hw : w ≤ 100) (hl : 100 ≤ il (i + 1)) (hi : i ≠ 35) (hi1 : i + 1 ≠ 35) (F : ∀ q, q < w → h 35 q = iI (f q : Int)) : ∃ h', f_K_takeCells (iI (w : Int)) (iI e) (iI s) i h = some ((), h') ∧ isN h' i (nrm s (le f w) e).1 (nrm s (le f w) e).2.1 (nrm s (le f w) e).2.2 ∧ kp h h' i (i + 1) := by
  obtain ⟨h1, e1, N1, k1⟩ := N_clear h i
  unfold f_K_takeCells
  rw [bd_t e1, iI_ofNat, if_neg (by rw [iI_lt ⟨by omega, by omega⟩ ⟨by omega, by omega⟩]; omega), i1, iI_sub]
  obtain ⟨h2, e2, N2, k2⟩ := K_take_loop (s := s) (e := e) hf hw hl hi hi1 w fuel h1 (Nat.le_refl _) (by unfold fuel; omega) (by rw [Nat.div_eq_of_lt (le_lt hf)]; exact N1.1) (fun q hq => by rw [k1 35 (fun z => hi z.symm) (fun z => hi1 z.symm)]; exact F q hq)
  exact ⟨h2, e2, isN_nrm N2, kp_t k1 k2⟩
theorem dz_dp {c : Nat} {e : Int} (k : Nat) : dz c (k : Int) = dp c e ((nd c : Int) + e - 1 - (k : Int)) := by
  unfold dz dp dg
  by_cases q : k < nd c
  · rw [if_pos (by omega), if_pos (by omega), Int.toNat_natCast, show ((nd c : Int) + e - 1 - (k : Int) - e).toNat = nd c - 1 - k by omega]
  · rw [if_neg (by omega), if_neg (by omega)]
theorem K_below_loop {i j c1 c2 M X Y : Nat} {s1 s2 e1 e2 L : Int} {h : Hp} (hA : (nd c1 : Int) + e1 = (nd c2 : Int) + e2) (hM : (M : Int) = (nd c1 : Int) + e1 - L) (hM2 : M ≤ 1000) (hX : ∀ k : Nat, dp c1 e1 (L + (k : Int)) = X / 10 ^ k % 10) (hY : ∀ k : Nat, dp c2 e2 (L + (k : Int)) = Y / 10 ^ k % 10) (N1 : isN h i s1 c1 e1) (N2 : isN h j s2 c2 e2) : ∀ (m k n : Nat), k + m = M → m + 1 < n → f_K_isBelow_45 n i j (iI (M : Int)) 0 (iI (k : Int)) h = some (iI (if cmpF X Y m < 0 then 1 else 0), h) := by
  intro m
  induction m with
  | zero =>
    intro k n hk hn
    obtain ⟨n, rfl⟩ : ∃ q, n = q + 1 := ⟨n - 1, by omega⟩
    rw [f_K_isBelow_45, if_pos (leN (by omega) (by omega) (by omega)), if_pos (by decide), if_neg (show ¬ cmpF _ _ 0 < 0 from fun z => absurd (show (0 : Int) < 0 from z) (by decide))]
    rfl
  | succ m ih =>
    intro k n hk hn
    obtain ⟨n, rfl⟩ : ∃ q, n = q + 2 := ⟨n - 2, by omega⟩
    have a := Nat.mod_lt (X / 10 ^ m) (show 10 > 0 by decide)
    have b := Nat.mod_lt (Y / 10 ^ m) (show 10 > 0 by decide)
    have x1 : dz c1 (k : Int) = X / 10 ^ m % 10 := by
      rw [dz_dp (e := e1), ← hX m]
      congr 1
      omega
    have y1 : dz c2 (k : Int) = Y / 10 ^ m % 10 := by
      rw [dz_dp (e := e2), ← hY m]
      congr 1
      omega
    rw [f_K_isBelow_45, if_neg (nleN (by omega) (by omega) (by omega)), if_pos rfl, bd_t (N_digit N1.1 ⟨by omega, by omega⟩), bd_t (N_digit N2.1 ⟨by omega, by omega⟩), x1, y1, iI_sub, scN]
    by_cases q : X / 10 ^ m % 10 = Y / 10 ^ m % 10
    · have ec : cmpF X Y (m + 1) = cmpF X Y m := if_pos q
      rw [ec, q, Int.sub_self]
      exact ih (k + 1) (n + 1) (by omega) (by omega)
    · have ec : cmpF X Y (m + 1) = ((X / 10 ^ m % 10 : Nat) : Int) - ((Y / 10 ^ m % 10 : Nat) : Int) := if_neg q
      rw [ec, f_K_isBelow_45]
      have fin : (if 0 ≤ iI (((X / 10 ^ m % 10 : Nat) : Int) - ((Y / 10 ^ m % 10 : Nat) : Int)) then some ((0 : Int32), h) else some (1, h)) = some (iI (if ((X / 10 ^ m % 10 : Nat) : Int) - ((Y / 10 ^ m % 10 : Nat) : Int) < 0 then 1 else 0), h) := by
        by_cases z : ((X / 10 ^ m % 10 : Nat) : Int) - ((Y / 10 ^ m % 10 : Nat) : Int) < 0
        · rw [if_neg (by rw [i0, iI_le ⟨by omega, by omega⟩ ⟨by omega, by omega⟩]; omega), if_pos z]
          rfl
        · rw [if_pos (by rw [i0, iI_le ⟨by omega, by omega⟩ ⟨by omega, by omega⟩]; omega), if_neg z]
          rfl
      by_cases w : M ≤ k + 1
      · rw [if_pos (leN (by omega) (by omega) w)]
        exact fin
      · rw [if_neg (nleN (by omega) (by omega) (by omega)), if_neg (by rw [i0, iI_eq ⟨by omega, by omega⟩ ⟨by omega, by omega⟩]; omega)]
        exact fin
theorem K_below {i j : Nat} {t u : Int × Nat × Int} {s1 s2 : Int} {h : Hp} (ht : 0 < t.2.1) (hu : 0 < u.2.1) (bt1 : -1000000 ≤ t.2.2 ∧ t.2.2 ≤ 1000000) (bu1 : -1000000 ≤ u.2.2 ∧ u.2.2 ≤ 1000000) (nt : nd t.2.1 ≤ 500) (nu : nd u.2.1 ≤ 500) (N1 : isN h i s1 t.2.1 t.2.2) (N2 : isN h j s2 u.2.1 u.2.2) : f_K_isBelow i j h = some (iI (if sX t.2.1 t.2.2 (lwE t u) < sX u.2.1 u.2.2 (lwE t u) then 1 else 0), h) := by
  obtain ⟨l1, l2, l3⟩ := lwE_p t u
  have pt := nd_pos ht
  have pu := nd_pos hu
  unfold f_K_isBelow
  rw [bd_t (N_ahead N1), bd_t (N_ahead N2)]
  by_cases q : (nd t.2.1 : Int) + t.2.2 = (nd u.2.1 : Int) + u.2.2
  · rw [if_pos (by rw [q]), N1.1.1, N2.1.1, mx_iI (by omega) (by omega)]
    have hM : ((max (nd t.2.1) (nd u.2.1) : Nat) : Int) = (nd t.2.1 : Int) + t.2.2 - lwE t u := by omega
    have lp := K_below_loop (X := sX t.2.1 t.2.2 (lwE t u)) (Y := sX u.2.1 u.2.2 (lwE t u)) q hM (by omega) (sX_d l1) (sX_d l2) N1 N2 (max (nd t.2.1) (nd u.2.1)) 0 fuel (by omega) (by unfold fuel; omega)
    have c := cmpF_lt (X := sX t.2.1 t.2.2 (lwE t u)) (Y := sX u.2.1 u.2.2 (lwE t u)) (max (nd t.2.1) (nd u.2.1)) (by
      rw [Nat.div_eq_of_lt (sX_lt l1 (by omega)), Nat.div_eq_of_lt (sX_lt l2 (by omega))])
    rw [ifq c] at lp
    exact lp
  · rw [if_neg (by rw [iI_eq ⟨by omega, by omega⟩ ⟨by omega, by omega⟩]; exact q), bd_t (N_ahead N1), bd_t (N_ahead N2)]
    by_cases q2 : (nd u.2.1 : Int) + u.2.2 ≤ (nd t.2.1 : Int) + t.2.2
    · have a := sX_lt (c := u.2.1) (K := ((nd u.2.1 : Int) + u.2.2 - lwE t u).toNat) l2 (by omega)
      have b := sX_ge (c := t.2.1) (K := ((nd u.2.1 : Int) + u.2.2 - lwE t u).toNat) ht l1 (by omega)
      rw [if_pos (by rw [iI_le ⟨by omega, by omega⟩ ⟨by omega, by omega⟩]; exact q2), if_neg (by omega)]
      rfl
    · have a := sX_lt (c := t.2.1) (K := ((nd t.2.1 : Int) + t.2.2 - lwE t u).toNat) l1 (by omega)
      have b := sX_ge (c := u.2.1) (K := ((nd t.2.1 : Int) + t.2.2 - lwE t u).toNat) hu l2 (by omega)
      rw [if_neg (by rw [iI_le ⟨by omega, by omega⟩ ⟨by omega, by omega⟩]; exact q2), if_pos (by omega)]
      rfl
end
section
/-! PURE 19: the class's sum -/
theorem exS_comm {t u : Int × Nat × Int} (ht : 0 < t.2.1) (hu : 0 < u.2.1) : exS t u = exS u t := by
  have el : lwE u t = lwE t u := by
    unfold lwE
    split <;> split <;> omega
  unfold exS
  have ht' : ¬ t.2.1 = 0 := by omega
  have hu' : ¬ u.2.1 = 0 := by omega
  rw [if_neg hu', if_neg ht', if_neg ht', if_neg hu', el]
  by_cases q : t.1 = u.1
  · rw [if_pos q, if_pos q.symm, q, Nat.add_comm]
  · rw [if_neg q, if_neg (show ¬ u.1 = t.1 from fun z => q z.symm)]
    by_cases a : sX t.2.1 t.2.2 (lwE t u) < sX u.2.1 u.2.2 (lwE t u)
    · rw [if_pos a, if_neg (show ¬ sX u.2.1 u.2.2 (lwE t u) < sX t.2.1 t.2.2 (lwE t u) by omega)]
    · rw [if_neg a]
      by_cases b : sX u.2.1 u.2.2 (lwE t u) < sX t.2.1 t.2.2 (lwE t u)
      · rw [if_pos b]
      · rw [if_neg b, show sX u.2.1 u.2.2 (lwE t u) = sX t.2.1 t.2.2 (lwE t u) by omega, Nat.sub_self]
        rfl
theorem nd_30 {c : Nat} (hc : 0 < c) : 30 ≤ nd (c * 10 ^ 30 - 1) := by
  have a : 1 * 10 ^ 29 ≤ c * 10 ^ 30 - 1 := by
    have : 1 * 10 ^ 30 ≤ c * 10 ^ 30 := Nat.mul_le_mul_right _ hc
    omega
  have b := nd_mono a
  rw [nd_mulp (by decide), nd_1] at b
  omega
/-- the small number stands far below the big one's last digit: a speck does as well -/
theorem sum_far {t u : Int × Nat × Int} (ht : 0 < t.2.1) (hu : 0 < u.2.1) (hf : (nd u.2.1 : Int) + u.2.2 ≤ t.2.2 - 30) : (exS t (u.1, 1, t.2.2 - 31)).1 = (exS t u).1 ∧ ∀ n, 0 < n → n ≤ 20 → rN n (exS t (u.1, 1, t.2.2 - 31)) = rN n (exS t u) := by
  have pu := nd_pos hu
  have e1 : lwE t u = u.2.2 := if_pos (by omega)
  have e2 : lwE t (u.1, 1, t.2.2 - 31) = t.2.2 - 31 := if_pos (by show t.2.2 - 31 ≤ t.2.2; omega)
  obtain ⟨j, hj⟩ : ∃ j : Nat, (t.2.2 - u.2.2).toNat = 30 + j := ⟨(t.2.2 - u.2.2).toNat - 30, by omega⟩
  have X1 : sX t.2.1 t.2.2 u.2.2 = t.2.1 * 10 ^ 30 * 10 ^ j := by
    unfold sX
    rw [hj, Nat.pow_add, Nat.mul_assoc]
  have Y1 : sX u.2.1 u.2.2 u.2.2 = u.2.1 := by
    unfold sX
    rw [Int.sub_self]
    show u.2.1 * 10 ^ 0 = _
    rw [Nat.pow_zero, Nat.mul_one]
  have X2 : sX t.2.1 t.2.2 (t.2.2 - 31) = t.2.1 * 10 ^ 30 * 10 ^ 1 := by
    unfold sX
    rw [show (t.2.2 - (t.2.2 - 31)).toNat = 30 + 1 by omega, Nat.pow_add, Nat.mul_assoc]
  have Y2 : sX 1 (t.2.2 - 31) (t.2.2 - 31) = 1 := by
    unfold sX
    rw [Int.sub_self]
    rfl
  have hy : u.2.1 < 10 ^ j := Nat.lt_of_lt_of_le (nd_lt u.2.1) (Nat.pow_le_pow_right (by decide) (by omega))
  obtain ⟨Q, hQ⟩ : ∃ Q, t.2.1 * 10 ^ 30 = Q := ⟨_, rfl⟩
  have hQ1 : 31 ≤ nd Q := by
    rw [← hQ, nd_mulp ht]
    have := nd_pos ht
    omega
  have hQ2 : 30 ≤ nd (Q - 1) := by
    rw [← hQ]
    exact nd_30 ht
  have hQ0 : 0 < Q := by
    rw [← hQ]
    exact Nat.mul_pos ht (p10 _)
  obtain ⟨P, hP⟩ : ∃ P, 10 ^ j = P := ⟨_, rfl⟩
  have hP0 : 0 < P := by
    rw [← hP]
    exact p10 _
  rw [hQ] at X1 X2
  rw [hP] at X1 hy
  have QP : P ≤ Q * P := Nat.le_mul_of_pos_left _ hQ0
  have D1 : (Q * P + u.2.1) / P = Q := by rw [Nat.mul_comm, Nat.mul_add_div hP0, Nat.div_eq_of_lt hy, Nat.add_zero]
  have D2 : (Q * P - u.2.1) / P = Q - 1 := by
    have : Q * P - u.2.1 = P * (Q - 1) + (P - u.2.1) := by
      rw [Nat.mul_sub, Nat.mul_one, Nat.mul_comm P Q]
      omega
    rw [this, Nat.mul_add_div hP0, Nat.div_eq_of_lt (by omega), Nat.add_zero]
  have D3 : (Q * 10 ^ 1 + 1) / 10 ^ 1 = Q := by omega
  have D4 : (Q * 10 ^ 1 - 1) / 10 ^ 1 = Q - 1 := by omega
  have ee : t.2.2 - 31 + ((1 : Nat) : Int) = u.2.2 + (j : Int) := by omega
  have r1 : ∀ n, n ≤ 20 → rnd n (Q * 10 ^ 1 + 1) (t.2.2 - 31) = rnd n (Q * P + u.2.1) u.2.2 := fun n hn => by
    rw [rnd_div (c := Q * 10 ^ 1 + 1) (j := 1) (by rw [D3]; omega), D3, rnd_div (c := Q * P + u.2.1) (j := j) (by rw [hP, D1]; omega), hP, D1, ee]
  have r2 : ∀ n, n ≤ 20 → rnd n (Q * 10 ^ 1 - 1) (t.2.2 - 31) = rnd n (Q * P - u.2.1) u.2.2 := fun n hn => by
    rw [rnd_div (c := Q * 10 ^ 1 - 1) (j := 1) (by rw [D4]; omega), D4, rnd_div (c := Q * P - u.2.1) (j := j) (by rw [hP, D2]; omega), hP, D2, ee]
  have A : exS t u = if t.1 = u.1 then (t.1, Q * P + u.2.1, u.2.2) else (t.1, Q * P - u.2.1, u.2.2) := by
    unfold exS nrm
    rw [if_neg (by omega), if_neg (by omega), e1, X1, Y1]
    by_cases q : t.1 = u.1
    · rw [if_pos q, if_pos q, if_neg (by omega)]
    · rw [if_neg q, if_neg q, if_neg (by omega), if_neg (by omega)]
  have B : exS t (u.1, 1, t.2.2 - 31) = if t.1 = u.1 then (t.1, Q * 10 ^ 1 + 1, t.2.2 - 31) else (t.1, Q * 10 ^ 1 - 1, t.2.2 - 31) := by
    unfold exS nrm
    rw [e2]
    show (if (1 : Nat) = 0 then t else if t.2.1 = 0 then (u.1, 1, t.2.2 - 31) else if t.1 = u.1 then (if sX t.2.1 t.2.2 (t.2.2 - 31) + sX 1 (t.2.2 - 31) (t.2.2 - 31) = 0 then (0, 0, 0) else (t.1, sX t.2.1 t.2.2 (t.2.2 - 31) + sX 1 (t.2.2 - 31) (t.2.2 - 31), t.2.2 - 31)) else if sX t.2.1 t.2.2 (t.2.2 - 31) < sX 1 (t.2.2 - 31) (t.2.2 - 31) then _ else (if sX t.2.1 t.2.2 (t.2.2 - 31) - sX 1 (t.2.2 - 31) (t.2.2 - 31) = 0 then (0, 0, 0) else (t.1, sX t.2.1 t.2.2 (t.2.2 - 31) - sX 1 (t.2.2 - 31) (t.2.2 - 31), t.2.2 - 31))) = _
    rw [if_neg (by omega), if_neg (by omega), X2, Y2]
    by_cases q : t.1 = u.1
    · rw [if_pos q, if_pos q, if_neg (by omega)]
    · rw [if_neg q, if_neg q, if_neg (by omega), if_neg (by omega)]
  rw [A, B]
  by_cases q : t.1 = u.1
  · rw [if_pos q, if_pos q]
    refine ⟨rfl, fun n h0 hn => ?_⟩
    unfold rN
    show (t.1, (rnd n (Q * 10 ^ 1 + 1) (t.2.2 - 31)).1, (rnd n (Q * 10 ^ 1 + 1) (t.2.2 - 31)).2) = (t.1, (rnd n (Q * P + u.2.1) u.2.2).1, (rnd n (Q * P + u.2.1) u.2.2).2)
    rw [r1 n hn]
  · rw [if_neg q, if_neg q]
    refine ⟨rfl, fun n h0 hn => ?_⟩
    unfold rN
    show (t.1, (rnd n (Q * 10 ^ 1 - 1) (t.2.2 - 31)).1, (rnd n (Q * 10 ^ 1 - 1) (t.2.2 - 31)).2) = (t.1, (rnd n (Q * P - u.2.1) u.2.2).1, (rnd n (Q * P - u.2.1) u.2.2).2)
    rw [r2 n hn]
def nearT (a b : Int × Nat × Int) : Int × Nat × Int := if (nd b.2.1 : Int) + b.2.2 ≤ a.2.2 - 30 then (b.1, 1, a.2.2 - 31) else b
theorem sum_near {t u : Int × Nat × Int} (ht : 0 < t.2.1) (hu : 0 < u.2.1) : (exS (nearT u t) (nearT t u)).1 = (exS t u).1 ∧ ∀ n, 0 < n → n ≤ 20 → rN n (exS (nearT u t) (nearT t u)) = rN n (exS t u) := by
  have pt := nd_pos ht
  have pu := nd_pos hu
  by_cases q : (nd u.2.1 : Int) + u.2.2 ≤ t.2.2 - 30
  · have e1 : nearT t u = (u.1, 1, t.2.2 - 31) := if_pos q
    have e2 : nearT u t = t := if_neg (by omega)
    rw [e1, e2]
    exact sum_far ht hu q
  · have e1 : nearT t u = u := if_neg q
    rw [e1]
    by_cases q2 : (nd t.2.1 : Int) + t.2.2 ≤ u.2.2 - 30
    · have e2 : nearT u t = (t.1, 1, u.2.2 - 31) := if_pos q2
      have := sum_far hu ht q2
      rw [e2, exS_comm (t := (t.1, 1, u.2.2 - 31)) Nat.one_pos hu, exS_comm ht hu]
      exact this
    · have e2 : nearT u t = t := if_neg q2
      rw [e2]
      exact ⟨rfl, fun _ _ _ => rfl⟩
theorem K_near {i j : Nat} {a b : Int × Nat × Int} {sa sb : Int} {h : Hp} (hj : j ≠ 38) (hj1 : j ≠ 39) (ba : -1000000 ≤ a.2.2 ∧ a.2.2 ≤ 1000000) (bb : -1000000 ≤ b.2.2 ∧ b.2.2 ≤ 1000000) (nb : nd b.2.1 ≤ 500) (Na : isN h i sa a.2.1 a.2.2) (Nb : isN h j sb b.2.1 b.2.2) : ∃ h' x σ, f_K_nearTo i j h = some (x, h') ∧ ((x = j ∧ h' = h ∧ nearT a b = b) ∨ (x = 38 ∧ (nd b.2.1 : Int) + b.2.2 ≤ a.2.2 - 30)) ∧ isN h' x σ (nearT a b).2.1 (nearT a b).2.2 ∧ kp h h' 38 39 := by
  unfold f_K_nearTo
  rw [bd_t (N_ahead Nb), Na.2.1, show (30 : Int32) = iI 30 from rfl, iI_sub]
  by_cases q : (nd b.2.1 : Int) + b.2.2 ≤ a.2.2 - 30
  · have en : nearT a b = (b.1, 1, a.2.2 - 31) := if_pos q
    rw [if_pos (by rw [iI_le ⟨by omega, by omega⟩ ⟨by omega, by omega⟩]; exact q), en]
    obtain ⟨h1, e1, N1, k1⟩ := N_unit (h := h) (i := 38) (s := 1) (by decide) ⟨by omega, by omega⟩
    rw [bd_t (show f_N_becomeUnit 38 1 h = _ from e1), i1, iI_sub]
    refine ⟨_, 38, 1, rfl, Or.inr ⟨rfl, q⟩, ?_, kp_t k1 (kp_up _ _ _ _ _)⟩
    rw [if_neg (by decide)] at N1
    refine ⟨isD_eq N1.1 (up2_k _ _ _ (by omega)) (up2_ne _ _ _ (by omega)), ?_, ?_⟩
    · rw [up2_s]
      show iI _ = iI (a.2.2 - 31)
      congr 1
      omega
    · rw [up2_k _ _ _ (by omega)]
      exact N1.2.2
  · have en : nearT a b = b := if_neg q
    rw [if_neg (by rw [iI_le ⟨by omega, by omega⟩ ⟨by omega, by omega⟩]; exact q), en]
    exact ⟨h, j, sb, rfl, Or.inl ⟨rfl, rfl, rfl⟩, Nb, kp_r _ _ _⟩
/-- fill and take -/
theorem K_both {r q K : Nat} {t u : Int × Nat × Int} {s1 s2 s L g : Int} {h : Hp} (hr : r ≠ 35) (hr1 : r + 1 ≠ 35) (hq : q ≠ 35) (hq1 : q + 1 ≠ 35) (hg : g = 1 ∨ g = -1) (b1 : -1000000 ≤ t.2.2 ∧ t.2.2 ≤ 1000000) (b2 : -1000000 ≤ u.2.2 ∧ u.2.2 ≤ 1000000) (bL : -1000000 ≤ L ∧ L ≤ 1000000) (l1 : L ≤ t.2.2) (l2 : L ≤ u.2.2) (hK : K ≤ 100) (hX : sX t.2.1 t.2.2 L < 10 ^ K) (hY : sX u.2.1 u.2.2 L < 10 ^ K) (h0 : 0 ≤ (sX t.2.1 t.2.2 L : Int) + g * (sX u.2.1 u.2.2 L : Int)) (h1 : (sX t.2.1 t.2.2 L : Int) + g * (sX u.2.1 u.2.2 L : Int) < ((10 ^ K : Nat) : Int)) (N1 : isN h r s1 t.2.1 t.2.2) (N2 : isN h q s2 u.2.1 u.2.2) : ∃ h1 h2, f_K_fillCells r q (iI g) (iI L) (iI (K : Int)) h = some ((), h1) ∧ (∀ y, y ≠ 35 → h1 y = h y) ∧ f_K_takeCells (iI (K : Int)) (iI L) (iI s) 33 h1 = some ((), h2) ∧ isN h2 33 (nrm s ((sX t.2.1 t.2.2 L : Int) + g * (sX u.2.1 u.2.2 L : Int)).toNat L).1 (nrm s ((sX t.2.1 t.2.2 L : Int) + g * (sX u.2.1 u.2.2 L : Int)).toNat L).2.1 (nrm s ((sX t.2.1 t.2.2 L : Int) + g * (sX u.2.1 u.2.2 L : Int)).toNat L).2.2 ∧ kp h1 h2 33 34 := by
  obtain ⟨g1, e1, F1, k1⟩ := K_fill (X := sX t.2.1 t.2.2 L) (Y := sX u.2.1 u.2.2 L) hr hr1 hq hq1 hg b1 b2 bL (sX_d l1) (sX_d l2) hK K 0 fuel h (by omega) (by unfold fuel; omega) N1 N2 (fun q hq => absurd hq (Nat.not_lt_zero q))
  obtain ⟨g2, e2, N3, k2⟩ := K_take (i := 33) (s := s) (e := L) (h := g1) (fun q _ => (dgF_p (X := sX t.2.1 t.2.2 L) (Y := sX u.2.1 u.2.2 L) hg q).2) hK (by decide) (by omega) (by omega) F1
  have el := le_sum hg hX hY h0 h1
  rw [show le (dgF (sX t.2.1 t.2.2 L) (sX u.2.1 u.2.2 L) g) K = ((sX t.2.1 t.2.2 L : Int) + g * (sX u.2.1 u.2.2 L : Int)).toNat by omega] at N3
  exact ⟨g1, g2, e1, k1, e2, N3, k2⟩
/-- what the class's sum touches -/
def kS (h h' : Hp) : Prop := ∀ y, y ≠ 33 → y ≠ 34 → y ≠ 35 → y ≠ 38 → y ≠ 39 → h' y = h y
theorem lw_iI {a b : Int} (ha : bI a) (hb : bI b) : (if iI b < iI a then iI b else iI a) = iI (if b ≤ a then b else a) := by
  by_cases q : b < a
  · rw [if_pos (by rw [iI_lt hb ha]; exact q), if_pos (by omega)]
  · rw [if_neg (by rw [iI_lt hb ha]; exact q)]
    by_cases z : b ≤ a
    · rw [if_pos z, show a = b by omega]
    · rw [if_neg z]
theorem mx_Int {a b : Int} (ha : bI a) (hb : bI b) : (if iI a < iI b then iI b else iI a) = iI (max a b) := by
  by_cases q : a < b
  · rw [if_pos (by rw [iI_lt ha hb]; exact q), show max a b = b by omega]
  · rw [if_neg (by rw [iI_lt ha hb]; exact q), show max a b = a by omega]
def sumTail (v1 v4 : Nat) (s0 L K : Int32) (r q : Nat) (h : Hp) : Option (Unit × Hp) := if (h v1 3) = s0 then bd (f_K_fillCells r q 1 L K h) (fun _u123 h123 => bd (f_K_takeCells K L (h123 v1 3) v4 h123) (fun _u137 h137 => some ((), h137))) else bd (f_K_isBelow r q h) (fun r147 h147 => if r147 = 0 then bd (f_K_fillCells r q (-1) L K h147) (fun _u191 h191 => bd (f_K_takeCells K L (h191 v1 3) v4 h191) (fun _u205 h205 => some ((), h205))) else bd (f_K_fillCells q r (-1) L K h147) (fun _u163 h163 => bd (f_K_takeCells K L s0 v4 h163) (fun _u175 h175 => some ((), h175))))
theorem C_tail {r q K : Nat} {T U : Int × Nat × Int} {σ1 σ2 : Int} {h : Hp} (hr : r ≠ 35 ∧ r + 1 ≠ 35) (hq : q ≠ 35 ∧ q + 1 ≠ 35) (sT : -1 ≤ T.1 ∧ T.1 ≤ 1) (sU : -1 ≤ U.1 ∧ U.1 ≤ 1) (cT : 0 < T.2.1) (cU : 0 < U.2.1) (nT : nd T.2.1 ≤ 40) (nU : nd U.2.1 ≤ 40) (bT : -20000 ≤ T.2.2 ∧ T.2.2 ≤ 20000) (bU : -20000 ≤ U.2.2 ∧ U.2.2 ≤ 20000) (hK : max ((nd T.2.1 : Int) + T.2.2) ((nd U.2.1 : Int) + U.2.2) - lwE T U + 1 = (K : Int)) (hK2 : K ≤ 100) (h3 : h 29 3 = iI T.1) (N1 : isN h r σ1 T.2.1 T.2.2) (N2 : isN h q σ2 U.2.1 U.2.2) : ∃ h', sumTail 29 33 (iI U.1) (iI (lwE T U)) (iI (K : Int)) r q h = some ((), h') ∧ isN h' 33 (exS T U).1 (exS T U).2.1 (exS T U).2.2 ∧ ∀ y, y ≠ 33 → y ≠ 34 → y ≠ 35 → h' y = h y := by
  obtain ⟨l1, l2, l3⟩ := lwE_p T U
  have pT := nd_pos cT
  have pU := nd_pos cU
  have X1 := sX_lt (c := T.2.1) (K := K - 1) l1 (by omega)
  have Y1 := sX_lt (c := U.2.1) (K := K - 1) l2 (by omega)
  have P1 : 10 ^ K = 10 ^ (K - 1) * 10 := by
    rw [← Nat.pow_succ]
    congr 1
    omega
  have bL : -1000000 ≤ lwE T U ∧ lwE T U ≤ 1000000 := by omega
  have bT2 : -1000000 ≤ T.2.2 ∧ T.2.2 ≤ 1000000 := by omega
  have bU2 : -1000000 ≤ U.2.2 ∧ U.2.2 ≤ 1000000 := by omega
  have X2 : sX T.2.1 T.2.2 (lwE T U) < 10 ^ K := by omega
  have Y2 : sX U.2.1 U.2.2 (lwE T U) < 10 ^ K := by omega
  have XY : sX T.2.1 T.2.2 (lwE T U) + sX U.2.1 U.2.2 (lwE T U) < 10 ^ K := by omega
  have exTU : exS T U = if T.1 = U.1 then nrm T.1 (sX T.2.1 T.2.2 (lwE T U) + sX U.2.1 U.2.2 (lwE T U)) (lwE T U) else if sX T.2.1 T.2.2 (lwE T U) < sX U.2.1 U.2.2 (lwE T U) then nrm U.1 (sX U.2.1 U.2.2 (lwE T U) - sX T.2.1 T.2.2 (lwE T U)) (lwE T U) else nrm T.1 (sX T.2.1 T.2.2 (lwE T U) - sX U.2.1 U.2.2 (lwE T U)) (lwE T U) := by
    unfold exS
    rw [if_neg (show ¬ U.2.1 = 0 by omega), if_neg (show ¬ T.2.1 = 0 by omega)]
  have fin : ∀ (g1 g2 : Hp), (∀ y, y ≠ 35 → g1 y = h y) → kp g1 g2 33 34 → ∀ y, y ≠ 33 → y ≠ 34 → y ≠ 35 → g2 y = h y := fun g1 g2 a b y y1 y2 y3 => by rw [b y y1 y2, a y y3]
  clear l3 hK X1 Y1 P1
  obtain ⟨X, hX⟩ : ∃ X, sX T.2.1 T.2.2 (lwE T U) = X := ⟨_, rfl⟩
  obtain ⟨Y, hY⟩ : ∃ Y, sX U.2.1 U.2.2 (lwE T U) = Y := ⟨_, rfl⟩
  rw [hX, hY] at exTU XY
  rw [hX] at X2
  rw [hY] at Y2
  unfold sumTail
  rw [h3]
  by_cases q3 : T.1 = U.1
  · rw [if_pos (by rw [q3])]
    rw [if_pos q3] at exTU
    obtain ⟨g1, g2, a1, a2, a3, a4, a5⟩ := K_both (r := r) (q := q) (K := K) (t := T) (u := U) (s := T.1) (L := lwE T U) (g := 1) hr.1 hr.2 hq.1 hq.2 (Or.inl rfl) bT2 bU2 bL l1 l2 hK2 (by rw [hX]; exact X2) (by rw [hY]; exact Y2) (by omega) (by rw [hX, hY]; omega) N1 N2
    rw [bd_t (show f_K_fillCells r q 1 (iI (lwE T U)) (iI (K : Int)) h = _ from a1), a2 29 (by omega), h3, bd_t a3]
    rw [hX, hY, show ((X : Int) + 1 * (Y : Int)).toNat = X + Y by omega, ← exTU] at a4
    exact ⟨g2, rfl, a4, fin g1 g2 a2 a5⟩
  rw [if_neg (by rw [iI_eq ⟨by omega, by omega⟩ ⟨by omega, by omega⟩]; exact q3)]
  rw [if_neg q3] at exTU
  have kb := K_below (t := T) (u := U) cT cU bT2 bU2 (by omega) (by omega) N1 N2
  rw [hX, hY] at kb
  rw [bd_t kb]
  by_cases q4 : X < Y
  · rw [if_pos q4] at exTU
    rw [if_neg (by rw [if_pos q4]; decide)]
    obtain ⟨g1, g2, a1, a2, a3, a4, a5⟩ := K_both (r := q) (q := r) (K := K) (t := U) (u := T) (s := U.1) (L := lwE T U) (g := -1) hq.1 hq.2 hr.1 hr.2 (Or.inr rfl) bU2 bT2 bL l2 l1 hK2 (by rw [hY]; exact Y2) (by rw [hX]; exact X2) (by rw [hX, hY]; omega) (by rw [hX, hY]; omega) N2 N1
    rw [bd_t (show f_K_fillCells q r (-1) (iI (lwE T U)) (iI (K : Int)) h = _ from a1), bd_t a3]
    rw [hX, hY, show ((Y : Int) + -1 * (X : Int)).toNat = Y - X by omega, ← exTU] at a4
    exact ⟨g2, rfl, a4, fin g1 g2 a2 a5⟩
  · rw [if_neg q4] at exTU
    rw [if_pos (by rw [if_neg q4]; rfl)]
    obtain ⟨g1, g2, a1, a2, a3, a4, a5⟩ := K_both (r := r) (q := q) (K := K) (t := T) (u := U) (s := T.1) (L := lwE T U) (g := -1) hr.1 hr.2 hq.1 hq.2 (Or.inr rfl) bT2 bU2 bL l1 l2 hK2 (by rw [hX]; exact X2) (by rw [hY]; exact Y2) (by rw [hX, hY]; omega) (by rw [hX, hY]; omega) N1 N2
    rw [bd_t (show f_K_fillCells r q (-1) (iI (lwE T U)) (iI (K : Int)) h = _ from a1), a2 29 (by omega), h3, bd_t a3]
    rw [hX, hY, show ((X : Int) + -1 * (Y : Int)).toNat = X - Y by omega, ← exTU] at a4
    exact ⟨g2, rfl, a4, fin g1 g2 a2 a5⟩
theorem nearT_f {a b : Int × Nat × Int} {n : Nat} (hn : 0 < n) (hb : 0 < b.2.1) (nb : nd b.2.1 ≤ n) (ea : -10000 ≤ a.2.2 ∧ a.2.2 ≤ 10000) (eb : -10000 ≤ b.2.2 ∧ b.2.2 ≤ 10000) : (nearT a b).1 = b.1 ∧ 0 < (nearT a b).2.1 ∧ nd (nearT a b).2.1 ≤ n ∧ -20000 ≤ (nearT a b).2.2 ∧ (nearT a b).2.2 ≤ 20000 := by
  unfold nearT
  split
  · refine ⟨rfl, Nat.one_pos, by show nd 1 ≤ n; rw [nd_1]; omega, ?_, ?_⟩
    · show -20000 ≤ a.2.2 - 31
      omega
    · show a.2.2 - 31 ≤ 20000
      omega
  · exact ⟨rfl, hb, nb, by omega, by omega⟩
theorem near_g {t u : Int × Nat × Int} (ht : 0 < t.2.1) (hu : 0 < u.2.1) : (nd (nearT u t).2.1 : Int) + (nearT u t).2.2 > (nearT t u).2.2 - 33 ∧ (nd (nearT t u).2.1 : Int) + (nearT t u).2.2 > (nearT u t).2.2 - 33 := by
  have pt := nd_pos ht
  have pu := nd_pos hu
  by_cases a : (nd u.2.1 : Int) + u.2.2 ≤ t.2.2 - 30
  · rw [show nearT t u = (u.1, 1, t.2.2 - 31) from if_pos a, show nearT u t = t from if_neg (by omega)]
    show (nd t.2.1 : Int) + t.2.2 > t.2.2 - 31 - 33 ∧ (nd 1 : Int) + (t.2.2 - 31) > t.2.2 - 33
    rw [nd_1]
    omega
  · rw [show nearT t u = u from if_neg a]
    by_cases b : (nd t.2.1 : Int) + t.2.2 ≤ u.2.2 - 30
    · rw [show nearT u t = (t.1, 1, u.2.2 - 31) from if_pos b]
      show (nd 1 : Int) + (u.2.2 - 31) > u.2.2 - 33 ∧ (nd u.2.1 : Int) + u.2.2 > u.2.2 - 31 - 33
      rw [nd_1]
      omega
    · rw [show nearT u t = t from if_neg b]
      omega
theorem C_mid {j : Nat} {t u : Int × Nat × Int} {su : Int} {h : Hp} (hj : j = 31 ∨ j = 42) (t1 : -1 ≤ t.1 ∧ t.1 ≤ 1) (u1 : -1 ≤ u.1 ∧ u.1 ≤ 1) (et : -10000 ≤ t.2.2 ∧ t.2.2 ≤ 10000) (eu : -10000 ≤ u.2.2 ∧ u.2.2 ≤ 10000) (nt : nd t.2.1 ≤ 20) (nu : nd u.2.1 ≤ 40) (ht : 0 < t.2.1) (hu : 0 < u.2.1) (Nt : isN h 29 t.1 t.2.1 t.2.2) (Nu : isN h j su u.2.1 u.2.2) : ∃ h', bd (f_K_nearTo j 29 h) (fun r56 h56 => chk (cNum r56) (bd (f_K_nearTo 29 j h56) (fun r64 h64 => chk (cNum r64) (bd (f_N_ahead r56 h64) (fun r86 h86 => bd (f_N_ahead r64 h86) (fun r91 h91 => sumTail 29 33 (iI u.1) (if (h64 r64 2) < (h64 r56 2) then (h64 r64 2) else (h64 r56 2)) (((if r86 < r91 then r91 else r86) - (if (h64 r64 2) < (h64 r56 2) then (h64 r64 2) else (h64 r56 2))) + 1) r56 r64 h91)))))) = some ((), h') ∧ isN h' 33 (exS (nearT u t) (nearT t u)).1 (exS (nearT u t) (nearT t u)).2.1 (exS (nearT u t) (nearT t u)).2.2 ∧ kS h h' := by
  have pt := nd_pos ht
  have pu := nd_pos hu
  obtain ⟨h1, r, σ1, e1, d1, N1, k1⟩ := K_near (i := j) (j := 29) (a := u) (b := t) (by omega) (by omega) ⟨by omega, by omega⟩ ⟨by omega, by omega⟩ (by omega) Nu Nt
  have Nt1 : isN h1 29 t.1 t.2.1 t.2.2 := isN_eq Nt (k1 29 (by omega) (by omega)) (k1 30 (by omega) (by omega))
  have Nu1 : isN h1 j su u.2.1 u.2.2 := isN_eq Nu (k1 j (by omega) (by omega)) (k1 (j + 1) (by omega) (by omega))
  obtain ⟨h2, q, σ2, e2, d2, N2, k2⟩ := K_near (i := 29) (j := j) (a := t) (b := u) (by omega) (by omega) ⟨by omega, by omega⟩ ⟨by omega, by omega⟩ (by omega) Nt1 Nu1
  have N1' : isN h2 r σ1 (nearT u t).2.1 (nearT u t).2.2 := by
    rcases d1 with ⟨a, b, c⟩ | ⟨a, b⟩
    · rw [a] at N1 ⊢
      exact isN_eq N1 (k2 29 (by omega) (by omega)) (k2 30 (by omega) (by omega))
    · rcases d2 with ⟨a2, b2, c2⟩ | ⟨a2, b2⟩
      · rw [b2]
        exact N1
      · omega
  have Nt2 : h2 29 3 = iI t.1 := by
    rw [k2 29 (by omega) (by omega)]
    exact Nt1.2.2
  have k12 : kp h h2 38 39 := kp_t k1 k2
  have hr : r = 29 ∨ r = 38 := by
    rcases d1 with ⟨a, b, c⟩ | ⟨a, b⟩
    · exact Or.inl a
    · exact Or.inr a
  have hq : q = j ∨ q = 38 := by
    rcases d2 with ⟨a, b, c⟩ | ⟨a, b⟩
    · exact Or.inl a
    · exact Or.inr a
  have near := near_g ht hu
  have ft := nearT_f (a := u) (b := t) (n := 20) (by omega) ht nt eu et
  have fu := nearT_f (a := t) (b := u) (n := 40) (by omega) hu nu et eu
  clear d1 d2 N1 k1 k2 Nt1 Nu1 Nt Nu pt pu
  rw [bd_t e1, chk_t (show cNum r by omega), bd_t e2, chk_t (show cNum q by omega), bd_t (N_ahead N1'), bd_t (N_ahead N2), N1'.2.1, N2.2.1]
  rw [← ft.1] at t1 Nt2
  rw [← fu.1] at u1 ⊢
  have ft := ft.2
  have fu := fu.2
  obtain ⟨T, hT⟩ : ∃ T, nearT u t = T := ⟨_, rfl⟩
  obtain ⟨U, hU⟩ : ∃ U, nearT t u = U := ⟨_, rfl⟩
  rw [hT, hU] at near
  rw [hT] at N1' ft t1 Nt2 ⊢
  rw [hU] at N2 fu u1 ⊢
  clear e1 e2 hT hU et eu nt nu ht hu
  obtain ⟨l1, l2, l3⟩ := lwE_p T U
  have pT := nd_pos ft.1
  have pU := nd_pos fu.1
  have eL : (if iI U.2.2 < iI T.2.2 then iI U.2.2 else iI T.2.2) = iI (lwE T U) := lw_iI ⟨by omega, by omega⟩ ⟨by omega, by omega⟩
  have eA : (if iI ((nd T.2.1 : Int) + T.2.2) < iI ((nd U.2.1 : Int) + U.2.2) then iI ((nd U.2.1 : Int) + U.2.2) else iI ((nd T.2.1 : Int) + T.2.2)) = iI (max ((nd T.2.1 : Int) + T.2.2) ((nd U.2.1 : Int) + U.2.2)) := mx_Int ⟨by omega, by omega⟩ ⟨by omega, by omega⟩
  obtain ⟨K, hK⟩ : ∃ K : Nat, max ((nd T.2.1 : Int) + T.2.2) ((nd U.2.1 : Int) + U.2.2) - lwE T U + 1 = (K : Int) := ⟨(max ((nd T.2.1 : Int) + T.2.2) ((nd U.2.1 : Int) + U.2.2) - lwE T U + 1).toNat, by omega⟩
  have hK2 : K ≤ 100 := by omega
  rw [eL, eA, iI_sub, i1, iI_add, hK]
  obtain ⟨h3, e3, N3, k3⟩ := C_tail (r := r) (q := q) (K := K) (T := T) (U := U) (by omega) (by omega) t1 u1 ft.1 fu.1 (by omega) (by omega) ⟨by omega, by omega⟩ ⟨by omega, by omega⟩ hK hK2 Nt2 N1' N2
  exact ⟨h3, e3, N3, fun y y1 y2 y3 y4 y5 => by rw [k3 y y1 y2 y3, k12 y y4 y5]⟩
theorem C_sum16 {j : Nat} {t u : Int × Nat × Int} {su : Int} {h : Hp} (hj : j = 31 ∨ j = 42) (ot : okN 10000 20 t) (ou : okN 10000 40 u) (hsu : su = 0 ↔ u.1 = 0) (hbu : bI su) (Nt : isN h 29 t.1 t.2.1 t.2.2) (Nu : isN h j su u.2.1 u.2.2) : ∃ h' w, f_K_sum_16 29 j 33 (iI u.1) h = some ((), h') ∧ isN h' 33 w.1 w.2.1 w.2.2 ∧ w.1 = (exS t u).1 ∧ (∀ n, 0 < n → n ≤ 20 → rN n w = rN n (exS t u)) ∧ kS h h' := by
  obtain ⟨t1, t2, t3, t4, t5, t6⟩ := ot
  obtain ⟨u1, u2, u3, u4, u5, u6⟩ := ou
  unfold isS at t1 u1
  unfold f_K_sum_16
  rw [Nu.2.2, Nt.2.2]
  by_cases q1 : u.2.1 = 0
  · have ex : exS t u = t := if_pos q1
    have s0 : su = 0 := hsu.mpr (u2.mpr q1)
    rw [if_pos (by rw [s0]; rfl), ex]
    obtain ⟨h1, e1, N1, k1⟩ := N_copy (i := 33) (j := 29) (by omega) (by omega) (by omega) (by show _ ≤ 100; omega) (fun z => ⟨t2.mpr z, t3 z⟩) Nt
    rw [bd_t e1]
    exact ⟨h1, t, rfl, N1, rfl, fun _ _ _ => rfl, fun y a b _ _ _ => k1 y a b⟩
  have s0 : su ≠ 0 := fun z => q1 (u2.mp (hsu.mp z))
  rw [if_neg (by rw [i0, iI_eq hbu ⟨by omega, by omega⟩]; exact s0)]
  by_cases q2 : t.2.1 = 0
  · have ex : exS t u = u := by
      unfold exS
      rw [if_neg q1, if_pos q2]
    rw [if_pos (by rw [t2.mpr q2]; rfl), ex]
    obtain ⟨h1, e1, N1, k1⟩ := N_copy (i := 33) (j := j) (by omega) (by omega) (by omega) (by show _ ≤ 100; omega) (fun z => absurd z q1) Nu
    rw [bd_t e1]
    refine ⟨_, u, rfl, ?_, rfl, fun _ _ _ => rfl, fun y a b _ _ _ => by rw [up2_ne _ _ _ a]; exact k1 y a b⟩
    exact ⟨isD_eq N1.1 (up2_k _ _ _ (by omega)) (up2_ne _ _ _ (by omega)), by rw [up2_k _ _ _ (by omega)]; exact N1.2.1, up2_s _ _ _ _⟩
  have s1 : t.1 ≠ 0 := fun z => q2 (t2.mp z)
  rw [if_neg (by rw [i0, iI_eq ⟨by omega, by omega⟩ ⟨by omega, by omega⟩]; exact s1)]
  obtain ⟨h1, e1, N1, k1⟩ := C_mid (j := j) (t := t) (u := u) hj (by omega) (by omega) ⟨by omega, by omega⟩ ⟨by omega, by omega⟩ t6 u6 (by omega) (by omega) Nt Nu
  obtain ⟨w1, w2⟩ := sum_near (t := t) (u := u) (by omega) (by omega)
  exact ⟨h1, _, e1, N1, w1, w2, k1⟩
/-- the second operand with the sign that it has in a sum or a difference -/
def ngT (fl : Nat) (u : Int × Nat × Int) : Int × Nat × Int := if fl = 0 then u else (-u.1, u.2.1, u.2.2)
theorem ngT_ok {b n fl : Nat} {u : Int × Nat × Int} (H : okN b n u) : okN b n (ngT fl u) := by
  unfold ngT
  split
  · exact H
  · obtain ⟨h1, h2, h3⟩ := H
    unfold isS at h1
    refine ⟨?_, ⟨fun z => h2.mp ?_, fun z => ?_⟩, h3⟩
    · show isS (-u.1)
      unfold isS
      omega
    · have z : -u.1 = 0 := z
      omega
    · have := h2.mpr z
      show -u.1 = 0
      omega
theorem C_sum {j fl : Nat} {t u : Int × Nat × Int} {h : Hp} (hj : j = 31 ∨ j = 42) (hf : fl ≤ 1) (ot : okN 10000 20 t) (ou : okN 10000 40 u) (Nt : isN h 29 t.1 t.2.1 t.2.2) (Nu : isN h j u.1 u.2.1 u.2.2) : ∃ h' w, f_K_sum 29 j (iI (fl : Int)) 33 h = some ((), h') ∧ isN h' 33 w.1 w.2.1 w.2.2 ∧ w.1 = (exS t (ngT fl u)).1 ∧ (∀ n, 0 < n → n ≤ 20 → rN n w = rN n (exS t (ngT fl u))) ∧ kS h h' := by
  have u1 := ou.1
  unfold isS at u1
  unfold f_K_sum
  rw [Nu.2.2]
  by_cases q : fl = 0
  · have e : ngT fl u = u := if_pos q
    rw [if_pos (by rw [q]; rfl), e]
    exact C_sum16 hj ot ou Iff.rfl ⟨by omega, by omega⟩ Nt Nu
  · have e : ngT fl u = (-u.1, u.2.1, u.2.2) := if_neg q
    rw [if_neg (by rw [i0, iI_eq ⟨by omega, by omega⟩ ⟨by omega, by omega⟩]; omega), iI_neg]
    have on := ngT_ok (fl := fl) ou
    rw [e] at on ⊢
    exact C_sum16 (u := (-u.1, u.2.1, u.2.2)) (su := u.1) hj ot on (by show u.1 = 0 ↔ -u.1 = 0; omega) ⟨by omega, by omega⟩ Nt Nu
end
section
/-! PURE 20: the reference's sum -/
theorem isM_nrm {h : Hp} {z c : Nat} {s e : Int} (M : isM h z (if c = 0 then 0 else s) c (if c = 0 then 0 else e)) : isM h z (nrm s c e).1 (nrm s c e).2.1 (nrm s c e).2.2 := by
  unfold nrm
  by_cases q : c = 0
  · rw [if_pos q] at M ⊢
    rw [if_pos q, q] at M
    exact M
  · rw [if_neg q] at M ⊢
    rw [if_neg q] at M
    exact M
theorem M_cmp {x y X Y : Nat} {t u : Int × Nat × Int} {L : Int} {v4 v5 v7 : Int32} {h : Hp} (hx : x < 5) (hy : y < 5) (b1 : -100000 ≤ t.2.2 ∧ t.2.2 ≤ 100000) (b2 : -100000 ≤ u.2.2 ∧ u.2.2 ≤ 100000) (bL : -100000 ≤ L ∧ L ≤ 100000) (hX : ∀ k : Nat, dp t.2.1 t.2.2 (L + (k : Int)) = X / 10 ^ k % 10) (hY : ∀ k : Nat, dp u.2.1 u.2.2 (L + (k : Int)) = Y / 10 ^ k % 10) (M1 : isM h x t.1 t.2.1 t.2.2) (M2 : isM h y u.1 u.2.1 u.2.2) : ∀ (m n : Nat), m < 100000 → m + 1 < n → f_M_add_134 n (iI (x : Int)) (iI (y : Int)) v4 v5 (iI L) v7 0 (iI (L + (m : Int) - 1)) h = f_M_add_169 (iI (x : Int)) (iI (y : Int)) v4 v5 (iI L) v7 (iI (cmpF X Y m)) h := by
  intro m
  induction m with
  | zero =>
    intro n hm hn
    obtain ⟨n, rfl⟩ : ∃ q, n = q + 1 := ⟨n - 1, by omega⟩
    rw [f_M_add_134, if_pos (by rw [iI_lt ⟨by omega, by omega⟩ ⟨by omega, by omega⟩]; omega)]
    rfl
  | succ m ih =>
    intro n hm hn
    obtain ⟨n, rfl⟩ : ∃ q, n = q + 2 := ⟨n - 2, by omega⟩
    have a := Nat.mod_lt (X / 10 ^ m) (show 10 > 0 by decide)
    have b := Nat.mod_lt (Y / 10 ^ m) (show 10 > 0 by decide)
    have em : L + ((m + 1 : Nat) : Int) - 1 = L + (m : Int) := by omega
    rw [f_M_add_134, em, if_neg (by rw [iI_lt ⟨by omega, by omega⟩ ⟨by omega, by omega⟩]; omega), if_pos rfl, bd_t (M_digit hx M1 (by omega) (by omega)), bd_t (M_digit hy M2 (by omega) (by omega)), hX m, hY m, iI_sub, im1, iI_add, show L + (m : Int) + -1 = L + (m : Int) - 1 by omega]
    by_cases q : X / 10 ^ m % 10 = Y / 10 ^ m % 10
    · have ec : cmpF X Y (m + 1) = cmpF X Y m := if_pos q
      rw [ec, q, Int.sub_self]
      exact ih (n + 1) (by omega) (by omega)
    · have ec : cmpF X Y (m + 1) = ((X / 10 ^ m % 10 : Nat) : Int) - ((Y / 10 ^ m % 10 : Nat) : Int) := if_neg q
      rw [ec, f_M_add_134]
      by_cases w : m = 0
      · rw [if_pos (by rw [iI_lt ⟨by omega, by omega⟩ ⟨by omega, by omega⟩]; omega)]
      · rw [if_neg (by rw [iI_lt ⟨by omega, by omega⟩ ⟨by omega, by omega⟩]; omega), if_neg (by rw [i0, iI_eq ⟨by omega, by omega⟩ ⟨by omega, by omega⟩]; omega)]
theorem M_351 {z K : Nat} {f : Nat → Nat} {s L : Int} {h : Hp} (hz : z < 5) (hK : 0 < K) (hK2 : K ≤ 2600) (hf : ∀ q, q < K → f q < 10) (F : ∀ q, q < K → h 50 (2600 * z + (K - 1 - q)) = iI (f q : Int)) : ∃ h', f_M_add_351 (iI (z : Int)) (iI L) (iI (L + (K : Int) - 1)) (iI (z : Int)) (iI s) h = some ((), h') ∧ isM h' z (nrm s (le f K) L).1 (nrm s (le f K) L).2.1 (nrm s (le f K) L).2.2 ∧ km h h' z := by
  unfold f_M_add_351
  rw [chk_t (inz hz), chk_t (inz hz), chk_t (inz hz), clz hz, iI_sub, i1, iI_add, show L + (K : Int) - 1 - L + 1 = (K : Int) by omega]
  have kk : km h (up2 (up2 (up2 h 53 z (iI s)) 51 z (iI (K : Int))) 52 z (iI L)) z := km_t (km_t (km_53 _ _ _) (km_51 _ _ _)) (km_52 _ _ _)
  obtain ⟨h1, e1, M1, k1⟩ := M_settle (h := up2 (up2 (up2 h 53 z (iI s)) 51 z (iI (K : Int))) 52 z (iI L)) (f := fun q => f (K - 1 - q)) (n := K) (s := s) (e := L) hz hK ⟨by rw [up2_o _ _ _ _ (by omega), up2_s], hK2, fun k hk => hf _ (by omega), fun k hk => by
    rw [up2_o _ _ _ _ (by omega), up2_o _ _ _ _ (by omega), up2_o _ _ _ _ (by omega)]
    have := F (K - 1 - k) (by omega)
    rw [show K - 1 - (K - 1 - k) = k by omega] at this
    exact this⟩ (by rw [up2_s]) (by rw [up2_o _ _ _ _ (by omega), up2_o _ _ _ _ (by omega), up2_s])
  rw [bd_t e1]
  rw [← le_dv] at M1
  exact ⟨h1, rfl, isM_nrm M1, km_t kk k1⟩
theorem M_194 {x y z K X Y : Nat} {t u : Int × Nat × Int} {g s L : Int} {v5 v8 v9 : Int32} (hz : z < 5) (hxz : x ≠ z) (hyz : y ≠ z) (hg : g = 1 ∨ g = -1) (hK : 0 < K) (hK2 : K ≤ 2600) (bL : -100000 ≤ L ∧ L ≤ 100000)
  (body : ∀ (n k : Nat) (h : Hp) (cy : Int32), k < K → isM h x t.1 t.2.1 t.2.2 → isM h y u.1 u.2.1 u.2.2 → f_M_add_194 (n + 1) (iI (x : Int)) (iI (y : Int)) (iI (z : Int)) v5 (iI L) (iI (L + (K : Int) - 1)) v8 v9 cy (iI (L + (k : Int))) h = f_M_add_264 (fun v1 v2 v4 v5 v6 v7 v8 v9 v10 v11 h => f_M_add_194 n v1 v2 v4 v5 v6 v7 v8 v9 v10 v11 h) (iI (x : Int)) (iI (y : Int)) (iI (z : Int)) v5 (iI L) (iI (L + (K : Int) - 1)) v8 v9 (iI (L + (k : Int))) cy (iI (((X / 10 ^ k % 10 : Nat) : Int) + g * ((Y / 10 ^ k % 10 : Nat) : Int))) h)
  (hend : ∀ (n : Nat) (h : Hp) (cy : Int32), isM h x t.1 t.2.1 t.2.2 → f_M_add_194 (n + 1) (iI (x : Int)) (iI (y : Int)) (iI (z : Int)) v5 (iI L) (iI (L + (K : Int) - 1)) v8 v9 cy (iI (L + (K : Int))) h = f_M_add_351 (iI (z : Int)) (iI L) (iI (L + (K : Int) - 1)) (iI (z : Int)) (iI s) h) :
  ∀ (m k n : Nat) (h : Hp), k + m = K → m < n → isM h x t.1 t.2.1 t.2.2 → isM h y u.1 u.2.1 u.2.2 → (∀ q, q < k → h 50 (2600 * z + (K - 1 - q)) = iI (dgF X Y g q : Int)) → ∃ h', f_M_add_194 n (iI (x : Int)) (iI (y : Int)) (iI (z : Int)) v5 (iI L) (iI (L + (K : Int) - 1)) v8 v9 (iI (cyF X Y g k)) (iI (L + (k : Int))) h = some ((), h') ∧ isM h' z (nrm s (le (dgF X Y g) K) L).1 (nrm s (le (dgF X Y g) K) L).2.1 (nrm s (le (dgF X Y g) K) L).2.2 ∧ km h h' z := by
  intro m
  induction m with
  | zero =>
    intro k n h hk hn M1 M2 F
    obtain ⟨n, rfl⟩ : ∃ q, n = q + 1 := ⟨n - 1, by omega⟩
    rw [show k = K by omega, hend n h _ M1]
    exact M_351 hz hK hK2 (fun q _ => (dgF_p hg q).2) (fun q hq => F q (by omega))
  | succ m ih =>
    intro k n h hk hn M1 M2 F
    obtain ⟨n, rfl⟩ : ∃ q, n = q + 1 := ⟨n - 1, by omega⟩
    have cb := cyF_b (X := X) (Y := Y) hg k
    have hd := dgF_p (X := X) (Y := Y) hg k
    rw [body n k h _ (by omega) M1 M2]
    unfold f_M_add_264 f_M_add_281
    rw [iI_add, show cyF X Y g k + (((X / 10 ^ k % 10 : Nat) : Int) + g * ((Y / 10 ^ k % 10 : Nat) : Int)) = rkF X Y g k by unfold rkF; omega]
    have go : ∀ (cy dv : Int32), cy = iI (cyF X Y g (k + 1)) → dv = iI (dgF X Y g k : Int) → ∃ h', chk (inR (((2600 * iI (z : Int)) + iI (L + (K : Int) - 1)) - iI (L + (k : Int))) 13000) (f_M_add_194 n (iI (x : Int)) (iI (y : Int)) (iI (z : Int)) v5 (iI L) (iI (L + (K : Int) - 1)) v8 v9 cy (iI (L + (k : Int)) + 1) (up2 h 50 (Int32.toNatClampNeg (((2600 * iI (z : Int)) + iI (L + (K : Int) - 1)) - iI (L + (k : Int)))) dv)) = some ((), h') ∧ isM h' z (nrm s (le (dgF X Y g) K) L).1 (nrm s (le (dgF X Y g) K) L).2.1 (nrm s (le (dgF X Y g) K) L).2.2 ∧ km h h' z := by
      intro cy dv e1 e2
      have ei : ((2600 * iI (z : Int)) + iI (L + (K : Int) - 1)) - iI (L + (k : Int)) = iI ((2600 * z + (K - 1 - k) : Nat) : Int) := by
        rw [show (2600 : Int32) = iI 2600 from rfl, iI_mul, iI_add, iI_sub]
        congr 1
        omega
      rw [ei, chk_t (ixR hz (by omega)), clN (by omega), e1, e2, i1, iI_add, show L + (k : Int) + 1 = L + ((k + 1 : Nat) : Int) by omega]
      have kk : km h (up2 h 50 (2600 * z + (K - 1 - k)) (iI (dgF X Y g k : Int))) z := km_50 _ _ _ _ (by omega)
      obtain ⟨h', e', a', b'⟩ := ih (k + 1) n _ (by omega) (by omega) (isM_km hxz M1 kk) (isM_km hyz M2 kk) (fun q hq => by
        by_cases w : q = k
        · rw [w, up2_s]
        · rw [up2_k _ _ _ (by omega)]
          exact F q (by omega))
      exact ⟨h', e', a', km_t kk b'⟩
    have hs := cyF_s X Y g k
    by_cases q : rkF X Y g k < 0
    · rw [if_pos q] at hs
      rw [hs] at hd
      rw [if_neg (by rw [i0, iI_le ⟨by omega, by omega⟩ ⟨by omega, by omega⟩]; omega), if_neg (by rw [i0, iI_le ⟨by omega, by omega⟩ ⟨by omega, by omega⟩]; omega)]
      exact go _ _ (by rw [hs, im1]) (by rw [show (10 : Int32) = iI 10 from rfl, iI_add, hd.1]; congr 1)
    · rw [if_neg q] at hs
      rw [if_pos (by rw [i0, iI_le ⟨by omega, by omega⟩ ⟨by omega, by omega⟩]; omega), if_pos (by rw [i0, iI_le ⟨by omega, by omega⟩ ⟨by omega, by omega⟩]; omega)]
      have er : cyF X Y g (k + 1) = rkF X Y g k / 10 := by
        rw [hs]
        split <;> omega
      refine go _ _ ?_ ?_
      · rw [show (10 : Int32) = iI 10 from rfl, iI_div (by omega) (by omega) (by omega) (by omega), er]
      · rw [show (10 : Int32) = iI 10 from rfl, iI_div (by omega) (by omega) (by omega) (by omega), iI_mul, iI_sub, hd.1, er]
        congr 1
        omega
theorem M_add {x y z fl : Nat} {t u : Int × Nat × Int} {h : Hp} (hx : x < 5) (hy : y < 5) (hz : z < 5) (hxz : x ≠ z) (hyz : y ≠ z) (hf : fl ≤ 1) (ot : okN 10000 100 t) (ou : okN 10000 100 u) (et : okE t) (eu : okE u) (M1 : isM h x t.1 t.2.1 t.2.2) (M2 : isM h y u.1 u.2.1 u.2.2) : ∃ h', f_M_add (iI (x : Int)) (iI (y : Int)) (iI (fl : Int)) (iI (z : Int)) h = some ((), h') ∧ isM h' z (exS t (ngT fl u)).1 (exS t (ngT fl u)).2.1 (exS t (ngT fl u)).2.2 ∧ km h h' z := by
  obtain ⟨t1, t2, t3, t4, t5, t6⟩ := id ot
  obtain ⟨u1, u2, u3, u4, u5, u6⟩ := id ou
  obtain ⟨w1, w2, w3, w4, w5, w6⟩ := ngT_ok (fl := fl) ou
  unfold okE at et eu
  unfold isS at t1 u1 w1
  have n2 : (ngT fl u).2 = u.2 := by
    unfold ngT
    split <;> rfl
  have m20 : f_M_add (iI (x : Int)) (iI (y : Int)) (iI (fl : Int)) (iI (z : Int)) h = f_M_add_20 (iI (x : Int)) (iI (y : Int)) (iI (z : Int)) (iI (ngT fl u).1) h := by
    unfold f_M_add ngT
    simp only [chk_t (inz hy), clz hy, M2.2.2.1]
    by_cases q : fl = 0
    · rw [if_pos (by rw [q]; rfl), if_pos q]
    · rw [if_neg (by rw [i0, iI_eq ⟨by omega, by omega⟩ ⟨by omega, by omega⟩]; omega), if_neg q, iI_neg]
  rw [m20]
  unfold f_M_add_20
  simp only [chk_t (inz hy), chk_t (inz hx), chk_t (inz hz), clz hy, clz hx, clz hz, M2.2.2.1, M1.2.2.1, M1.2.1, M2.2.1]
  by_cases q1 : u.2.1 = 0
  · have ex : exS t (ngT fl u) = t := if_pos (by rw [n2]; exact q1)
    obtain ⟨h1, e1, M3, k1⟩ := M_copy hx hz hxz M1
    rw [if_pos (by rw [u2.mpr q1]; rfl), bd_t e1, ex]
    exact ⟨h1, rfl, M3, k1⟩
  have s2 : u.1 ≠ 0 := fun a => q1 (u2.mp a)
  rw [if_neg (by rw [i0, iI_eq ⟨by omega, by omega⟩ ⟨by omega, by omega⟩]; exact s2)]
  by_cases q2 : t.2.1 = 0
  · have ex : exS t (ngT fl u) = ngT fl u := by
      unfold exS
      rw [if_neg (by rw [n2]; exact q1), if_pos q2]
    obtain ⟨h1, e1, M3, k1⟩ := M_copy hy hz hyz M2
    rw [if_pos (by rw [t2.mpr q2]; rfl), bd_t e1, ex, n2]
    refine ⟨_, rfl, ⟨by rw [up2_o _ _ _ _ (by omega)]; exact M3.1, by rw [up2_o _ _ _ _ (by omega)]; exact M3.2.1, up2_s _ _ _ _, M3.2.2.2.1, fun k hk => by rw [up2_o _ _ _ _ (by omega)]; exact M3.2.2.2.2 k hk⟩, km_t k1 (km_53 _ _ _)⟩
  have s1 : t.1 ≠ 0 := fun a => q2 (t2.mp a)
  rw [if_neg (by rw [i0, iI_eq ⟨by omega, by omega⟩ ⟨by omega, by omega⟩]; exact s1)]
  have ht : 0 < t.2.1 := by omega
  have hu : 0 < u.2.1 := by omega
  have pt := nd_pos ht
  have pu := nd_pos hu
  have mt := mn_c ht
  have mu := mn_c hu
  have el : lwE t (ngT fl u) = lwE t u := by
    unfold lwE
    rw [n2]
  obtain ⟨l1, l2, l3⟩ := lwE_p t u
  obtain ⟨K, hK⟩ : ∃ K : Nat, max ((nd t.2.1 : Int) + t.2.2) ((nd u.2.1 : Int) + u.2.2) - lwE t u + 1 = (K : Int) := ⟨(max ((nd t.2.1 : Int) + t.2.2) ((nd u.2.1 : Int) + u.2.2) - lwE t u + 1).toNat, by omega⟩
  have X1 := sX_lt (c := t.2.1) (K := K - 1) l1 (by omega)
  have Y1 := sX_lt (c := u.2.1) (K := K - 1) l2 (by omega)
  have P1 : 10 ^ K = 10 ^ (K - 1) * 10 := by
    rw [← Nat.pow_succ]
    congr 1
    omega
  obtain ⟨X, hX⟩ : ∃ X, sX t.2.1 t.2.2 (lwE t u) = X := ⟨_, rfl⟩
  obtain ⟨Y, hY⟩ : ∃ Y, sX u.2.1 u.2.2 (lwE t u) = Y := ⟨_, rfl⟩
  rw [hX] at X1
  rw [hY] at Y1
  have dX : ∀ k : Nat, dp t.2.1 t.2.2 (lwE t u + (k : Int)) = X / 10 ^ k % 10 := fun k => by rw [← hX]; exact sX_d l1 k
  have dY : ∀ k : Nat, dp u.2.1 u.2.2 (lwE t u + (k : Int)) = Y / 10 ^ k % 10 := fun k => by rw [← hY]; exact sX_d l2 k
  have exTU : exS t (ngT fl u) = if t.1 = (ngT fl u).1 then nrm t.1 (X + Y) (lwE t u) else if X < Y then nrm (ngT fl u).1 (Y - X) (lwE t u) else nrm t.1 (X - Y) (lwE t u) := by
    unfold exS
    rw [el, n2, if_neg q1, if_neg q2, hX, hY]
  -- the digits
  have t169 : ∃ h', f_M_add_169 (iI (x : Int)) (iI (y : Int)) (iI (z : Int)) (iI (ngT fl u).1) (iI (lwE t u)) (iI (lwE t u + (K : Int) - 1)) (iI (cmpF X Y K)) h = some ((), h') ∧ isM h' z (exS t (ngT fl u)).1 (exS t (ngT fl u)).2.1 (exS t (ngT fl u)).2.2 ∧ km h h' z := by
    have cb := cmpF_b X Y K
    have cl := cmpF_lt (X := X) (Y := Y) K (by rw [Nat.div_eq_of_lt (by omega), Nat.div_eq_of_lt (by omega)])
    unfold f_M_add_169
    rw [chk_t (inz hx)]
    simp only [clz hx, M1.2.2.1]
    by_cases q3 : t.1 = (ngT fl u).1
    · rw [if_pos q3] at exTU
      rw [if_pos (by rw [q3]), exTU]
      obtain ⟨h', e', a', b'⟩ := M_194 (x := x) (y := y) (t := t) (u := u) (X := X) (Y := Y) (g := 1) (s := t.1) (L := lwE t u) (K := K) (v5 := iI (ngT fl u).1) (v8 := iI (cmpF X Y K)) (v9 := 1) hz hxz hyz (Or.inl rfl) (by omega) (by omega) ⟨by omega, by omega⟩ (fun n k h cy hk A B => by
        rw [f_M_add_194, if_neg (by rw [iI_lt ⟨by omega, by omega⟩ ⟨by omega, by omega⟩]; omega), if_neg (by decide), bd_t (M_digit hx A (by omega) (by omega)), bd_t (M_digit hy B (by omega) (by omega)), dX k, dY k, iI_add, Int.one_mul]) (fun n h cy A => by
        rw [f_M_add_194, if_pos (by rw [iI_lt ⟨by omega, by omega⟩ ⟨by omega, by omega⟩]; omega), if_neg (by decide), chk_t (inz hx), clz hx, A.2.2.1]) K 0 fuel h (by omega) (by unfold fuel; omega) M1 M2 (fun q hq => absurd hq (Nat.not_lt_zero q))
      have es := le_sum (X := X) (Y := Y) (K := K) (Or.inl (rfl : (1 : Int) = 1)) (by omega) (by omega) (by omega) (by omega)
      rw [show le (dgF X Y 1) K = X + Y by omega] at a'
      rw [show lwE t u + ((0 : Nat) : Int) = lwE t u by omega] at e'
      exact ⟨h', e', a', b'⟩
    rw [if_neg q3] at exTU
    rw [if_neg (by rw [iI_eq ⟨by omega, by omega⟩ ⟨by omega, by omega⟩]; exact q3), exTU]
    by_cases q4 : X < Y
    · rw [if_pos q4]
      have c0 := cl.mpr q4
      obtain ⟨h', e', a', b'⟩ := M_194 (x := x) (y := y) (t := t) (u := u) (X := Y) (Y := X) (g := -1) (s := (ngT fl u).1) (L := lwE t u) (K := K) (v5 := iI (ngT fl u).1) (v8 := iI (cmpF X Y K)) (v9 := 0) hz hxz hyz (Or.inr rfl) (by omega) (by omega) ⟨by omega, by omega⟩ (fun n k h cy hk A B => by
        rw [f_M_add_194, if_neg (by rw [iI_lt ⟨by omega, by omega⟩ ⟨by omega, by omega⟩]; omega), if_pos rfl, if_pos (by rw [i0, iI_lt ⟨by omega, by omega⟩ ⟨by omega, by omega⟩]; exact c0), bd_t (M_digit hy B (by omega) (by omega)), bd_t (M_digit hx A (by omega) (by omega)), dX k, dY k, iI_sub, Int.neg_mul, Int.one_mul, ← Int.sub_eq_add_neg]) (fun n h cy A => by
        rw [f_M_add_194, if_pos (by rw [iI_lt ⟨by omega, by omega⟩ ⟨by omega, by omega⟩]; omega), if_pos rfl, if_pos (by rw [i0, iI_lt ⟨by omega, by omega⟩ ⟨by omega, by omega⟩]; exact c0)]) K 0 fuel h (by omega) (by unfold fuel; omega) M1 M2 (fun q hq => absurd hq (Nat.not_lt_zero q))
      have es := le_sum (X := Y) (Y := X) (K := K) (Or.inr (rfl : (-1 : Int) = -1)) (by omega) (by omega) (by omega) (by omega)
      rw [show le (dgF Y X (-1)) K = Y - X by omega] at a'
      rw [show lwE t u + ((0 : Nat) : Int) = lwE t u by omega] at e'
      exact ⟨h', e', a', b'⟩
    · rw [if_neg q4]
      have c0 : ¬ cmpF X Y K < 0 := fun a => q4 (cl.mp a)
      obtain ⟨h', e', a', b'⟩ := M_194 (x := x) (y := y) (t := t) (u := u) (X := X) (Y := Y) (g := -1) (s := t.1) (L := lwE t u) (K := K) (v5 := iI (ngT fl u).1) (v8 := iI (cmpF X Y K)) (v9 := 0) hz hxz hyz (Or.inr rfl) (by omega) (by omega) ⟨by omega, by omega⟩ (fun n k h cy hk A B => by
        rw [f_M_add_194, if_neg (by rw [iI_lt ⟨by omega, by omega⟩ ⟨by omega, by omega⟩]; omega), if_pos rfl, if_neg (by rw [i0, iI_lt ⟨by omega, by omega⟩ ⟨by omega, by omega⟩]; exact c0), bd_t (M_digit hx A (by omega) (by omega)), bd_t (M_digit hy B (by omega) (by omega)), dX k, dY k, iI_sub, Int.neg_mul, Int.one_mul, ← Int.sub_eq_add_neg]) (fun n h cy A => by
        rw [f_M_add_194, if_pos (by rw [iI_lt ⟨by omega, by omega⟩ ⟨by omega, by omega⟩]; omega), if_pos rfl, if_neg (by rw [i0, iI_lt ⟨by omega, by omega⟩ ⟨by omega, by omega⟩]; exact c0), chk_t (inz hx), clz hx, A.2.2.1]) K 0 fuel h (by omega) (by unfold fuel; omega) M1 M2 (fun q hq => absurd hq (Nat.not_lt_zero q))
      have es := le_sum (X := X) (Y := Y) (K := K) (Or.inr (rfl : (-1 : Int) = -1)) (by omega) (by omega) (by omega) (by omega)
      rw [show le (dgF X Y (-1)) K = X - Y by omega] at a'
      rw [show lwE t u + ((0 : Nat) : Int) = lwE t u by omega] at e'
      exact ⟨h', e', a', b'⟩
  have c134 := M_cmp (x := x) (y := y) (t := t) (u := u) (X := X) (Y := Y) (L := lwE t u) (v4 := iI (z : Int)) (v5 := iI (ngT fl u).1) (v7 := iI (lwE t u + (K : Int) - 1)) hx hy ⟨by omega, by omega⟩ ⟨by omega, by omega⟩ ⟨by omega, by omega⟩ dX dY M1 M2 K fuel (by omega) (by unfold fuel; omega)
  have t95 : ∃ h', f_M_add_95 (iI (x : Int)) (iI (y : Int)) (iI (z : Int)) (iI (ngT fl u).1) (iI (lwE t u)) h = some ((), h') ∧ isM h' z (exS t (ngT fl u)).1 (exS t (ngT fl u)).2.1 (exS t (ngT fl u)).2.2 ∧ km h h' z := by
    unfold f_M_add_95
    rw [bd_t (M_high hx M1), bd_t (M_high hy M2), mt, mu]
    by_cases q3 : (nd t.2.1 : Int) - 1 + t.2.2 ≤ (nd u.2.1 : Int) - 1 + u.2.2
    · rw [if_pos (by rw [iI_le ⟨by omega, by omega⟩ ⟨by omega, by omega⟩]; exact q3), bd_t (M_high hy M2), mu, i1, iI_add, show (nd u.2.1 : Int) - 1 + u.2.2 + 1 = lwE t u + (K : Int) - 1 by omega, c134]
      exact t169
    · rw [if_neg (by rw [iI_le ⟨by omega, by omega⟩ ⟨by omega, by omega⟩]; exact q3), bd_t (M_high hx M1), mt, i1, iI_add, show (nd t.2.1 : Int) - 1 + t.2.2 + 1 = lwE t u + (K : Int) - 1 by omega, c134]
      exact t169
  by_cases q3 : u.2.2 ≤ t.2.2
  · rw [show lwE t u = u.2.2 from if_pos q3] at t95
    rw [if_pos (by rw [iI_le ⟨by omega, by omega⟩ ⟨by omega, by omega⟩]; exact q3)]
    exact t95
  · rw [show lwE t u = t.2.2 from if_neg q3] at t95
    rw [if_neg (by rw [iI_le ⟨by omega, by omega⟩ ⟨by omega, by omega⟩]; exact q3)]
    exact t95
end
section
/-! PURE 21: products -/
def xd (c i : Nat) : Nat := c / 10 ^ i % 10
theorem xd_lt (c i : Nat) : xd c i < 10 := Nat.mod_lt _ (by decide)
theorem xd_0 {c n i : Nat} (hc : c < 10 ^ n) (h : n ≤ i) : xd c i = 0 := by
  unfold xd
  rw [Nat.div_eq_of_lt (Nat.lt_of_lt_of_le hc (Nat.pow_le_pow_right (by decide) h))]
theorem le_xd (c : Nat) : ∀ n, le (xd c) n = c % 10 ^ n
  | 0 => by rw [Nat.pow_zero, Nat.mod_one]; rfl
  | n + 1 => by
    rw [le_s, le_xd c n, Nat.mod_pow_succ]
    unfold xd
    rw [Nat.mul_comm (10 ^ n)]
theorem le_plus (f g : Nat → Nat) : ∀ n, le (fun k => f k + g k) n = le f n + le g n
  | 0 => rfl
  | n + 1 => by
    rw [le_s, le_s, le_s, le_plus f g n, Nat.add_mul]
    omega
theorem le_shift (y : Nat → Nat) (c a : Nat) : ∀ k, le (fun j => if a ≤ j then c * y (j - a) else 0) k = c * 10 ^ a * le y (k - a)
  | 0 => by
    rw [show 0 - a = 0 by omega]
    rfl
  | k + 1 => by
    rw [le_s, le_shift y c a k]
    by_cases q : a ≤ k
    · rw [if_pos q, show k + 1 - a = (k - a) + 1 by omega, le_s, Nat.mul_add]
      congr 1
      have e : 10 ^ k = 10 ^ a * 10 ^ (k - a) := by
        rw [← Nat.pow_add]
        congr 1
        omega
      rw [e, Nat.mul_mul_mul_comm]
    · rw [if_neg q, show k + 1 - a = k - a by omega, Nat.zero_mul, Nat.add_zero]
def csF (x y : Nat → Nat) (k : Nat) : Nat → Nat
  | 0 => 0
  | a + 1 => csF x y k a + (if a ≤ k then x a * y (k - a) else 0)
theorem le_cs {x y : Nat → Nat} {N n2 C : Nat} (hy : ∀ m, n2 ≤ m → le y m = C) : ∀ a, a + n2 ≤ N + 1 → le (fun k => csF x y k a) N = le x a * C
  | 0, _ => by
    have : ∀ n, le (fun k => csF x y k 0) n = 0 := fun n => by
      induction n with
      | zero => rfl
      | succ n ih =>
        rw [le_s, ih]
        show 0 + 0 * _ = 0
        rw [Nat.zero_mul]
    rw [this]
    show 0 = 0 * C
    rw [Nat.zero_mul]
  | a + 1, h => by
    have e : (fun k => csF x y k (a + 1)) = fun k => csF x y k a + (fun j => if a ≤ j then x a * y (j - a) else 0) k := rfl
    rw [e, le_plus, le_cs hy a (by omega), le_shift, hy (N - a) (by omega), le_s, Nat.add_mul]
theorem cs_stop (x y : Nat → Nat) {k a : Nat} (h : k < a) : ∀ m, csF x y k (a + m) = csF x y k a
  | 0 => rfl
  | m + 1 => by
    show csF x y k (a + m) + (if a + m ≤ k then x (a + m) * y (k - (a + m)) else 0) = _
    rw [if_neg (by omega), cs_stop x y h m, Nat.add_zero]
theorem cs_zero {x : Nat → Nat} {c2 n2 k : Nat} (hc : c2 < 10 ^ n2) : ∀ a, a + n2 ≤ k + 1 → csF x (xd c2) k a = 0
  | 0, _ => rfl
  | a + 1, h => by
    show csF x (xd c2) k a + (if a ≤ k then x a * xd c2 (k - a) else 0) = 0
    rw [cs_zero hc a (by omega), xd_0 hc (by omega)]
    split <;> simp
theorem cs_le {c1 c2 k : Nat} : ∀ a, csF (xd c1) (xd c2) k a ≤ 81 * a
  | 0 => Nat.le_refl _
  | a + 1 => by
    have ih := cs_le (c1 := c1) (c2 := c2) (k := k) a
    have p : xd c1 a * xd c2 (k - a) ≤ 9 * 9 := Nat.mul_le_mul (by have := xd_lt c1 a; omega) (by have := xd_lt c2 (k - a); omega)
    show csF (xd c1) (xd c2) k a + (if a ≤ k then xd c1 a * xd c2 (k - a) else 0) ≤ _
    split <;> omega
def cq (f : Nat → Nat) : Nat → Nat
  | 0 => 0
  | k + 1 => (cq f k + f k) / 10
def cdg (f : Nat → Nat) (k : Nat) : Nat := (cq f k + f k) % 10
theorem cq_le (f : Nat → Nat) : ∀ n, le (cdg f) n + cq f n * 10 ^ n = le f n
  | 0 => rfl
  | n + 1 => by
    have ih := cq_le f n
    have e : cq f (n + 1) = (cq f n + f n) / 10 := rfl
    have d := Nat.div_add_mod (cq f n + f n) 10
    rw [le_s, le_s, e, Nat.pow_succ]
    have h1 : cdg f n * 10 ^ n + (cq f n + f n) / 10 * (10 ^ n * 10) = (cq f n + f n) * 10 ^ n := by
      rw [Nat.mul_comm (10 ^ n) 10, ← Nat.mul_assoc, ← Nat.add_mul]
      congr 1
      unfold cdg
      omega
    rw [Nat.add_mul] at h1
    omega
theorem cq_b {f : Nat → Nat} (hf : ∀ k, f k ≤ 8100) : ∀ k, cq f k ≤ 900
  | 0 => Nat.zero_le _
  | k + 1 => by
    have a := cq_b hf k
    have b := hf k
    show (cq f k + f k) / 10 ≤ 900
    omega
theorem dz_low {c a : Nat} (h : a < nd c) : dz c ((nd c : Int) - 1 - (a : Int)) = xd c a := by
  unfold dz dg xd
  rw [if_pos (by omega), show nd c - 1 - ((nd c : Int) - 1 - (a : Int)).toNat = a by omega]
theorem K_cross_loop {i j c1 c2 k : Nat} {h : Hp} (h1 : nd c1 ≤ 100) (h2 : nd c2 ≤ 100) (hk : k < 1000) (D1 : isD h i c1) (D2 : isD h j c2) : ∀ (m a n : Nat), a + m = min (k + 1) (nd c1) → k < a + nd c2 → m < n → f_K_crossSum_16 n i j (iI (k : Int)) (iI (csF (xd c1) (xd c2) k a : Int)) (iI (a : Int)) h = some (iI (csF (xd c1) (xd c2) k (nd c1) : Int), h) := by
  intro m
  induction m with
  | zero =>
    intro a n ha hk2 hn
    obtain ⟨n, rfl⟩ : ∃ q, n = q + 1 := ⟨n - 1, by omega⟩
    rw [f_K_crossSum_16]
    by_cases q : k < a
    · rw [if_pos (by rw [iI_lt ⟨by omega, by omega⟩ ⟨by omega, by omega⟩]; omega)]
      rw [show nd c1 = a + (nd c1 - a) by omega, cs_stop _ _ q]
    · rw [if_neg (by rw [iI_lt ⟨by omega, by omega⟩ ⟨by omega, by omega⟩]; omega), D1.1, if_pos (leN (by omega) (by omega) (by omega)), show a = nd c1 by omega]
  | succ m ih =>
    intro a n ha hk2 hn
    obtain ⟨n, rfl⟩ : ∃ q, n = q + 1 := ⟨n - 1, by omega⟩
    rw [f_K_crossSum_16, if_neg (by rw [iI_lt ⟨by omega, by omega⟩ ⟨by omega, by omega⟩]; omega), D1.1, if_neg (nleN (by omega) (by omega) (by omega)), i1, iI_sub, iI_sub, bd_t (N_digit D1 ⟨by omega, by omega⟩), dz_low (by omega), D2.1, iI_sub, iI_sub, iI_sub, bd_t (N_digit D2 ⟨by omega, by omega⟩), show (nd c2 : Int) - 1 - ((k : Int) - (a : Int)) = (nd c2 : Int) - 1 - ((k - a : Nat) : Int) by omega, dz_low (by omega), iI_mul, iI_add, iI_add]
    have e : (csF (xd c1) (xd c2) k a : Int) + (xd c1 a : Int) * (xd c2 (k - a) : Int) = (csF (xd c1) (xd c2) k (a + 1) : Int) := by
      show _ = ((csF (xd c1) (xd c2) k a + (if a ≤ k then xd c1 a * xd c2 (k - a) else 0) : Nat) : Int)
      rw [if_pos (by omega), Int.natCast_add, Int.natCast_mul]
    rw [e]
    exact ih (a + 1) n (by omega) (by omega) (by omega)
theorem K_cross {i j c1 c2 k : Nat} {h : Hp} (h1 : nd c1 ≤ 100) (h2 : nd c2 ≤ 100) (hk : k < nd c1 + nd c2) (D1 : isD h i c1) (D2 : isD h j c2) : f_K_crossSum i j (iI (k : Int)) h = some (iI (csF (xd c1) (xd c2) k (nd c1) : Int), h) := by
  unfold f_K_crossSum
  rw [D2.1, iI_sub, i1, iI_add]
  have e : (if 0 < iI ((k : Int) - (nd c2 : Int) + 1) then iI ((k : Int) - (nd c2 : Int) + 1) else 0) = iI ((k + 1 - nd c2 : Nat) : Int) := by
    by_cases q : 0 < (k : Int) - (nd c2 : Int) + 1
    · rw [if_pos (by rw [i0, iI_lt ⟨by omega, by omega⟩ ⟨by omega, by omega⟩]; exact q)]
      congr 1
      omega
    · rw [if_neg (by rw [i0, iI_lt ⟨by omega, by omega⟩ ⟨by omega, by omega⟩]; exact q), show k + 1 - nd c2 = 0 by omega]
      rfl
  rw [e]
  have z : csF (xd c1) (xd c2) k (k + 1 - nd c2) = 0 := by
    by_cases q : nd c2 ≤ k + 1
    · exact cs_zero (nd_lt c2) _ (by omega)
    · rw [show k + 1 - nd c2 = 0 by omega]
      rfl
  have L := K_cross_loop (c1 := c1) (c2 := c2) h1 h2 (show k < 1000 by omega) D1 D2 (min (k + 1) (nd c1) - (k + 1 - nd c2)) (k + 1 - nd c2) fuel (by omega) (by omega) (by unfold fuel; omega)
  rw [z] at L
  exact L
theorem K_prod_loop {i j z c1 c2 : Nat} {s1 s2 e1 e2 : Int} (hi : i ≠ 35) (hi1 : i + 1 ≠ 35) (hj : j ≠ 35) (hj1 : j + 1 ≠ 35) (hz : z ≠ 35) (hz1 : z + 1 ≠ 35) (hl : 100 ≤ il (z + 1)) (hW : nd c1 + nd c2 ≤ 100) : ∀ (m k n : Nat) (h : Hp), k + m = nd c1 + nd c2 → m < n → isN h i s1 c1 e1 → isN h j s2 c2 e2 → (∀ q, q < k → h 35 q = iI (cdg (fun k => csF (xd c1) (xd c2) k (nd c1)) q : Int)) → ∃ h', f_K_product_25 n i j z (iI ((nd c1 + nd c2 : Nat) : Int)) (iI (cq (fun k => csF (xd c1) (xd c2) k (nd c1)) k : Int)) (iI (k : Int)) h = some ((), h') ∧ isN h' z (nrm (s1 * s2) (c1 * c2) (e1 + e2)).1 (nrm (s1 * s2) (c1 * c2) (e1 + e2)).2.1 (nrm (s1 * s2) (c1 * c2) (e1 + e2)).2.2 ∧ ∀ y, y ≠ 35 → y ≠ z → y ≠ z + 1 → h' y = h y := by
  have hb : ∀ k, (fun k => csF (xd c1) (xd c2) k (nd c1)) k ≤ 8100 := fun k => by
    have := cs_le (c1 := c1) (c2 := c2) (k := k) (nd c1)
    show csF (xd c1) (xd c2) k (nd c1) ≤ 8100
    omega
  intro m
  induction m with
  | zero =>
    intro k n h hk hn N1 N2 F
    obtain ⟨n, rfl⟩ : ∃ q, n = q + 1 := ⟨n - 1, by omega⟩
    rw [f_K_product_25, if_pos (leN (by omega) (by omega) (by omega)), N1.2.1, N2.2.1, N1.2.2, N2.2.2, iI_add, iI_mul]
    obtain ⟨h1, e1', N3, k1⟩ := K_take (i := z) (w := nd c1 + nd c2) (f := cdg (fun k => csF (xd c1) (xd c2) k (nd c1))) (s := s1 * s2) (e := e1 + e2) (h := h) (fun q _ => Nat.mod_lt _ (by decide)) hW hl hz hz1 (fun q hq => F q (by omega))
    have ev : le (cdg (fun k => csF (xd c1) (xd c2) k (nd c1))) (nd c1 + nd c2) = c1 * c2 := by
      have a := cq_le (fun k => csF (xd c1) (xd c2) k (nd c1)) (nd c1 + nd c2)
      have b := le_cs (x := xd c1) (y := xd c2) (N := nd c1 + nd c2) (n2 := nd c2) (C := c2) (fun m hm => by rw [le_xd, Nat.mod_eq_of_lt (Nat.lt_of_lt_of_le (nd_lt c2) (Nat.pow_le_pow_right (by decide) hm))]) (nd c1) (by omega)
      rw [le_xd, Nat.mod_eq_of_lt (nd_lt c1)] at b
      rw [b] at a
      have c : c1 * c2 < 10 ^ (nd c1 + nd c2) := by
        rw [Nat.pow_add]
        exact Nat.mul_lt_mul'' (nd_lt c1) (nd_lt c2)
      have d : cq (fun k => csF (xd c1) (xd c2) k (nd c1)) (nd c1 + nd c2) = 0 := by
        rcases Nat.eq_zero_or_pos (cq (fun k => csF (xd c1) (xd c2) k (nd c1)) (nd c1 + nd c2)) with w | w
        · exact w
        · have := Nat.le_mul_of_pos_left (10 ^ (nd c1 + nd c2)) w
          omega
      rw [d, Nat.zero_mul] at a
      omega
    rw [ev] at N3
    rw [bd_t e1']
    exact ⟨h1, rfl, N3, fun y a b c => k1 y b c⟩
  | succ m ih =>
    intro k n h hk hn N1 N2 F
    obtain ⟨n, rfl⟩ : ∃ q, n = q + 1 := ⟨n - 1, by omega⟩
    have b1 := cq_b hb k
    have b2 := hb k
    have b2 : csF (xd c1) (xd c2) k (nd c1) ≤ 8100 := b2
    rw [f_K_product_25, if_neg (nleN (by omega) (by omega) (by omega)), bd_t (K_cross (by omega) (by omega) (by omega) N1.1 N2.1), chk_t (iI_inR (by omega) (by omega) (by omega)), iI_add, show (10 : Int32) = iI 10 from rfl, iI_div (by omega) (by omega) (by omega) (by omega), iI_mul, iI_sub, scN, clN (by omega)]
    have ec : ((cq (fun k => csF (xd c1) (xd c2) k (nd c1)) k : Nat) : Int) + ((csF (xd c1) (xd c2) k (nd c1) : Nat) : Int) = ((cq (fun k => csF (xd c1) (xd c2) k (nd c1)) k + csF (xd c1) (xd c2) k (nd c1) : Nat) : Int) := by omega
    have e1' : (((cq (fun k => csF (xd c1) (xd c2) k (nd c1)) k : Nat) : Int) + ((csF (xd c1) (xd c2) k (nd c1) : Nat) : Int)) / 10 = (cq (fun k => csF (xd c1) (xd c2) k (nd c1)) (k + 1) : Int) := by
      show _ = (((cq (fun k => csF (xd c1) (xd c2) k (nd c1)) k + csF (xd c1) (xd c2) k (nd c1)) / 10 : Nat) : Int)
      omega
    have e2' : ((cq (fun k => csF (xd c1) (xd c2) k (nd c1)) k : Nat) : Int) + ((csF (xd c1) (xd c2) k (nd c1) : Nat) : Int) - (((cq (fun k => csF (xd c1) (xd c2) k (nd c1)) k : Nat) : Int) + ((csF (xd c1) (xd c2) k (nd c1) : Nat) : Int)) / 10 * 10 = (cdg (fun k => csF (xd c1) (xd c2) k (nd c1)) k : Int) := by
      show _ = (((cq (fun k => csF (xd c1) (xd c2) k (nd c1)) k + csF (xd c1) (xd c2) k (nd c1)) % 10 : Nat) : Int)
      omega
    rw [e2', e1']
    obtain ⟨h', e', a', b'⟩ := ih (k + 1) n (up2 h 35 k (iI (cdg (fun k => csF (xd c1) (xd c2) k (nd c1)) k : Int))) (by omega) (by omega) (isN_eq N1 (up2_ne _ _ _ hi) (up2_ne _ _ _ hi1)) (isN_eq N2 (up2_ne _ _ _ hj) (up2_ne _ _ _ hj1)) (fun q hq => by
      by_cases w : q = k
      · rw [w, up2_s]
      · rw [up2_k _ _ _ w]
        exact F q (by omega))
    exact ⟨h', e', a', fun y y1 y2 y3 => by rw [b' y y1 y2 y3, up2_ne _ _ _ y1]⟩
theorem K_prod {i j z : Nat} {t u : Int × Nat × Int} {h : Hp} (hi : i ≠ 35) (hi1 : i + 1 ≠ 35) (hj : j ≠ 35) (hj1 : j + 1 ≠ 35) (hz : z ≠ 35) (hz1 : z + 1 ≠ 35) (hl : 100 ≤ il (z + 1)) (hW : nd t.2.1 + nd u.2.1 ≤ 100) (N1 : isN h i t.1 t.2.1 t.2.2) (N2 : isN h j u.1 u.2.1 u.2.2) : ∃ h', f_K_product i j z h = some ((), h') ∧ isN h' z (nrm (t.1 * u.1) (t.2.1 * u.2.1) (t.2.2 + u.2.2)).1 (nrm (t.1 * u.1) (t.2.1 * u.2.1) (t.2.2 + u.2.2)).2.1 (nrm (t.1 * u.1) (t.2.1 * u.2.1) (t.2.2 + u.2.2)).2.2 ∧ ∀ y, y ≠ 35 → y ≠ z → y ≠ z + 1 → h' y = h y := by
  unfold f_K_product
  rw [N1.1.1, N2.1.1, iI_add, iI_ofNat, if_neg (by rw [iI_lt ⟨by omega, by omega⟩ ⟨by omega, by omega⟩]; omega), show (nd t.2.1 : Int) + (nd u.2.1 : Int) = ((nd t.2.1 + nd u.2.1 : Nat) : Int) by omega]
  exact K_prod_loop (z := z) hi hi1 hj hj1 hz hz1 hl hW (nd t.2.1 + nd u.2.1) 0 fuel h (by omega) (by unfold fuel; omega) N1 N2 (fun q hq => absurd hq (Nat.not_lt_zero q))
end
section
/-! PURE 22: the reference's product -/
-- ===== the reference =====
def ud (g : Nat → Nat) (p v : Nat) : Nat → Nat := fun q => if q = p then v else g q
theorem dv_ud (g : Nat → Nat) {p : Nat} (v : Nat) : ∀ {N : Nat}, p < N → dv (ud g p v) N + g p * 10 ^ (N - 1 - p) = dv g N + v * 10 ^ (N - 1 - p)
  | 0, h => absurd h (Nat.not_lt_zero p)
  | N + 1, h => by
    rw [dv_s, dv_s]
    by_cases q : p = N
    · have e : dv (ud g p v) N = dv g N := dv_congr (fun k hk => if_neg (by omega))
      have e2 : ud g p v N = v := if_pos q.symm
      rw [e, e2, show N + 1 - 1 - p = 0 by omega, q, Nat.pow_zero]
      omega
    · have ih := dv_ud g (p := p) v (N := N) (by omega)
      have e2 : ud g p v N = g N := if_neg (fun z => q z.symm)
      have e3 : 10 ^ (N + 1 - 1 - p) = 10 ^ (N - 1 - p) * 10 := by
        rw [← Nat.pow_succ]
        congr 1
        omega
      rw [e2, e3, ← Nat.mul_assoc, ← Nat.mul_assoc]
      omega
/-- the digits of a product as they grow -/
def isG (h : Hp) (z N : Nat) (g : Nat → Nat) : Prop := ∀ q, q < N → h 50 (2600 * z + q) = iI (g q : Int)
theorem isG_up {h : Hp} {z N p v : Nat} {g : Nat → Nat} (G : isG h z N g) : isG (up2 h 50 (2600 * z + p) (iI (v : Int))) z N (ud g p v) := by
  intro q hq
  unfold ud
  by_cases w : q = p
  · rw [w, up2_s, if_pos rfl]
  · rw [up2_k _ _ _ (by omega), if_neg w]
    exact G q hq
theorem M_row {x y z i N c1 c2 V : Nat} {t u : Int × Nat × Int} {v4 : Int32} {k77 : Int32 → Int32 → Int32 → Int32 → Int32 → Hp → Option (Unit × Hp)} (hx : x < 5) (hy : y < 5) (hz : z < 5) (hxz : x ≠ z) (hyz : y ≠ z) (ht : t.2.1 = c1) (hu : u.2.1 = c2) (hi : i < mn c1) (hN : N = mn c1 + mn c2) (hN2 : N ≤ 2600) : ∀ (m n : Nat) (h : Hp) (g : Nat → Nat), m < n → m ≤ mn c2 → isM h x t.1 t.2.1 t.2.2 → isM h y u.1 u.2.1 u.2.2 → isG h z N g → (∀ q, q < N → q ≠ i + m → g q < 10) → g (i + m) ≤ 18 → (m = 0 → g i < 10) → (∀ q, q < i → g q = 0) → (0 < m → g i = 0) → dv g N = V + dg c1 (mn c1) i * 10 ^ (mn c1 - 1 - i) * (c2 % 10 ^ (mn c2 - m)) → ∃ h' g', f_M_multiply_92 k77 n (iI (x : Int)) (iI (y : Int)) (iI (z : Int)) v4 (iI (i : Int)) (iI ((m : Int) - 1)) h = k77 (iI (x : Int)) (iI (y : Int)) (iI (z : Int)) v4 (iI ((i : Int) - 1)) h' ∧ isG h' z N g' ∧ (∀ q, q < N → g' q < 10) ∧ (∀ q, q < i → g' q = 0) ∧ dv g' N = V + dg c1 (mn c1) i * 10 ^ (mn c1 - 1 - i) * c2 ∧ km h h' z := by
  intro m
  induction m with
  | zero =>
    intro n h g hn hm M1 M2 G g1 g2 g3 g4 g5 ev
    obtain ⟨n, rfl⟩ : ∃ q, n = q + 1 := ⟨n - 1, by omega⟩
    rw [f_M_multiply_92, if_pos (by rw [i0, iI_lt ⟨by omega, by omega⟩ ⟨by omega, by omega⟩]; omega), im1, iI_add]
    refine ⟨h, g, rfl, G, fun q hq => ?_, g4, ?_, km_r _ _⟩
    · by_cases w : q = i
      · rw [w]; exact g3 rfl
      · exact g1 q hq (by omega)
    · rw [ev, Nat.sub_zero, Nat.mod_eq_of_lt (mn_lt c2)]
  | succ m ih =>
    intro n h g hn hm M1 M2 G g1 g2 g3 g4 g5 ev
    obtain ⟨n, rfl⟩ : ∃ q, n = q + 1 := ⟨n - 1, by omega⟩
    have g5 := g5 (by omega)
    have d1 := dg_lt c1 (mn c1) i
    have d2 := dg_lt c2 (mn c2) m
    have em : ((m + 1 : Nat) : Int) - 1 = (m : Int) := by omega
    have i1' : ((2600 * iI (z : Int)) + iI (i : Int)) + iI (m : Int) = iI ((2600 * z + (i + m) : Nat) : Int) := by
      rw [show (2600 : Int32) = iI 2600 from rfl, iI_mul, iI_add, iI_add]
      congr 1
      omega
    have i2' : iI ((2600 * z + (i + m) : Nat) : Int) + 1 = iI ((2600 * z + (i + (m + 1)) : Nat) : Int) := by
      rw [scN]
      rfl
    have p : dg c1 (mn c1) i * dg c2 (mn c2) m ≤ 9 * 9 := Nat.mul_le_mul (by omega) (by omega)
    rw [f_M_multiply_92, em, if_neg (by rw [i0, iI_lt ⟨by omega, by omega⟩ ⟨by omega, by omega⟩]; omega), i1', i2', ixN x i, ixN y m]
    simp only [chk_t (ixR (k := i + (m + 1)) hz (by omega)), chk_t (ixR (k := i + m) hz (by omega)), chk_t (ixR (k := i) hx (by have := M1.2.2.2.1; rw [ht] at this; omega)), chk_t (ixR (k := m) hy (by have := M2.2.2.2.1; rw [hu] at this; omega))]
    rw [clN (n := 2600 * z + (i + (m + 1))) (by omega), clN (n := 2600 * z + (i + m)) (by omega), clN (n := 2600 * x + i) (by omega), clN (n := 2600 * y + m) (by omega)]
    have a1 := M1.2.2.2.2 i (by rw [ht]; exact hi)
    have a2 := M2.2.2.2.2 m (by rw [hu]; omega)
    rw [ht] at a1
    rw [hu] at a2
    rw [G (i + (m + 1)) (by omega), a1, a2, iI_mul, iI_add]
    have er : ((g (i + (m + 1)) : Nat) : Int) + ((dg c1 (mn c1) i : Nat) : Int) * ((dg c2 (mn c2) m : Nat) : Int) = ((g (i + (m + 1)) + dg c1 (mn c1) i * dg c2 (mn c2) m : Nat) : Int) := by
      rw [Int.natCast_add, Int.natCast_mul]
    obtain ⟨r, hr⟩ : ∃ r, g (i + (m + 1)) + dg c1 (mn c1) i * dg c2 (mn c2) m = r := ⟨_, rfl⟩
    have rb : r ≤ 99 := by omega
    rw [er, hr, dq (by omega), show (10 : Int32) = iI 10 from rfl, iI_mul, iI_sub, show (r : Int) - ((r / 10 : Nat) : Int) * 10 = ((r % 10 : Nat) : Int) by omega, up2_k _ _ _ (show 2600 * z + (i + m) ≠ 2600 * z + (i + (m + 1)) by omega), G (i + m) (by omega), iI_add, show ((g (i + m) : Nat) : Int) + ((r / 10 : Nat) : Int) = ((g (i + m) + r / 10 : Nat) : Int) by omega, im1, iI_add, show (m : Int) + -1 = (m : Int) - 1 by omega]
    have G2 := isG_up (p := i + m) (v := g (i + m) + r / 10) (isG_up (p := i + (m + 1)) (v := r % 10) G)
    have kk : km h (up2 (up2 h 50 (2600 * z + (i + (m + 1))) (iI ((r % 10 : Nat) : Int))) 50 (2600 * z + (i + m)) (iI ((g (i + m) + r / 10 : Nat) : Int))) z := km_t (km_50 _ _ _ _ (by omega)) (km_50 _ _ _ _ (by omega))
    have gm : g (i + m) < 10 := g1 _ (by omega) (by omega)
    have e1 : ud (ud g (i + (m + 1)) (r % 10)) (i + m) (g (i + m) + r / 10) (i + m) = g (i + m) + r / 10 := if_pos rfl
    have ev2 : dv (ud (ud g (i + (m + 1)) (r % 10)) (i + m) (g (i + m) + r / 10)) N = V + dg c1 (mn c1) i * 10 ^ (mn c1 - 1 - i) * (c2 % 10 ^ (mn c2 - m)) := by
      have s1 := dv_ud g (p := i + (m + 1)) (r % 10) (N := N) (by omega)
      have s2 := dv_ud (ud g (i + (m + 1)) (r % 10)) (p := i + m) (g (i + m) + r / 10) (N := N) (by omega)
      have u1 : ud g (i + (m + 1)) (r % 10) (i + m) = g (i + m) := if_neg (by omega)
      rw [u1] at s2
      have w1 : 10 ^ (N - 1 - (i + m)) = 10 * 10 ^ (N - 1 - (i + (m + 1))) := by
        rw [← Nat.pow_succ']
        congr 1
        omega
      have w2 : 10 ^ (N - 1 - (i + (m + 1))) = 10 ^ (mn c1 - 1 - i) * 10 ^ (mn c2 - (m + 1)) := by
        rw [← Nat.pow_add]
        congr 1
        omega
      have w3 : c2 % 10 ^ (mn c2 - m) = c2 % 10 ^ (mn c2 - (m + 1)) + 10 ^ (mn c2 - (m + 1)) * dg c2 (mn c2) m := by
        rw [show mn c2 - m = (mn c2 - (m + 1)) + 1 by omega, Nat.mod_pow_succ]
        unfold dg
        rw [show mn c2 - 1 - m = mn c2 - (m + 1) by omega]
      rw [w3, Nat.mul_add, ← Nat.add_assoc V, ← ev]
      have w4 : dg c1 (mn c1) i * 10 ^ (mn c1 - 1 - i) * (10 ^ (mn c2 - (m + 1)) * dg c2 (mn c2) m) = dg c1 (mn c1) i * dg c2 (mn c2) m * 10 ^ (N - 1 - (i + (m + 1))) := by
        rw [w2, Nat.mul_mul_mul_comm, Nat.mul_comm (10 ^ (mn c1 - 1 - i)) (dg c2 (mn c2) m), ← Nat.mul_assoc]
        rw [show dg c1 (mn c1) i * 10 ^ (mn c2 - (m + 1)) * dg c2 (mn c2) m = dg c1 (mn c1) i * dg c2 (mn c2) m * 10 ^ (mn c2 - (m + 1)) from Nat.mul_right_comm _ _ _, Nat.mul_assoc, Nat.mul_comm (10 ^ (mn c2 - (m + 1)))]
      rw [w4]
      obtain ⟨W, hW⟩ : ∃ W, 10 ^ (N - 1 - (i + (m + 1))) = W := ⟨_, rfl⟩
      rw [w1, hW, Nat.add_mul, ← Nat.mul_assoc (r / 10) 10 W] at s2
      rw [hW] at s1 ⊢
      have w5 : r % 10 * W + r / 10 * 10 * W = g (i + (m + 1)) * W + dg c1 (mn c1) i * dg c2 (mn c2) m * W := by
        rw [← Nat.add_mul, ← Nat.add_mul, hr, show r % 10 + r / 10 * 10 = r by omega]
      omega
    obtain ⟨h', g', e', b1, b2, b3, b4, b5⟩ := ih n _ _ (by omega) (by omega) (isM_km hxz M1 kk) (isM_km hyz M2 kk) G2 (fun q hq hne => by
      show (if q = i + m then _ else if q = i + (m + 1) then _ else _) < 10
      rw [if_neg hne]
      split
      · omega
      · exact g1 q hq (by omega)) (by rw [e1]; omega) (fun m0 => by
      have : ud (ud g (i + (m + 1)) (r % 10)) (i + m) (g (i + m) + r / 10) i = g (i + m) + r / 10 := if_pos (by omega)
      rw [this, show i + m = i by omega, g5]
      omega) (fun q hq => by
      show (if q = i + m then _ else if q = i + (m + 1) then _ else _) = 0
      rw [if_neg (by omega), if_neg (by omega)]
      exact g4 q hq) (fun m0 => by
      show (if i = i + m then _ else if i = i + (m + 1) then _ else _) = 0
      rw [if_neg (by omega), if_neg (by omega)]
      exact g5) ev2
    exact ⟨h', g', e', b1, b2, b3, b4, km_t kk b5⟩
theorem up_a (h : Hp) (k l : Nat) (v : Int32) : up2 h 51 k v 52 l = h 52 l := up2_o _ _ _ _ (by decide)
theorem up_b (h : Hp) (k l : Nat) (v : Int32) : up2 h 53 k v 52 l = h 52 l := up2_o _ _ _ _ (by decide)
theorem up_c (h : Hp) (k l : Nat) (v : Int32) : up2 h 53 k v 51 l = h 51 l := up2_o _ _ _ _ (by decide)
theorem M_rows {x y z N c1 c2 : Nat} {t u : Int × Nat × Int} (hx : x < 5) (hy : y < 5) (hz : z < 5) (hxz : x ≠ z) (hyz : y ≠ z) (ht : t.2.1 = c1) (hu : u.2.1 = c2) (hN : N = mn c1 + mn c2) (hN2 : N ≤ 2600) : ∀ (m n : Nat) (h : Hp) (g : Nat → Nat), m < n → m ≤ mn c1 → isM h x t.1 t.2.1 t.2.2 → isM h y u.1 u.2.1 u.2.2 → isG h z N g → (∀ q, q < N → g q < 10) → (∀ q, q < m → g q = 0) → dv g N = c1 % 10 ^ (mn c1 - m) * c2 → ∃ h', f_M_multiply_77 n (iI (x : Int)) (iI (y : Int)) (iI (z : Int)) (iI (N : Int)) (iI ((m : Int) - 1)) h = some ((), h') ∧ isM h' z (nrm (t.1 * u.1) (c1 * c2) (t.2.2 + u.2.2)).1 (nrm (t.1 * u.1) (c1 * c2) (t.2.2 + u.2.2)).2.1 (nrm (t.1 * u.1) (c1 * c2) (t.2.2 + u.2.2)).2.2 ∧ km h h' z := by
  have p1 := mn_pos c1
  have p2 := mn_pos c2
  intro m
  induction m with
  | zero =>
    intro n h g hn hm M1 M2 G g1 g2 ev
    obtain ⟨n, rfl⟩ : ∃ q, n = q + 1 := ⟨n - 1, by omega⟩
    rw [f_M_multiply_77, if_pos (by rw [i0, iI_lt ⟨by omega, by omega⟩ ⟨by omega, by omega⟩]; omega)]
    simp only [chk_t (inz hx), chk_t (inz hy), chk_t (inz hz), clz hx, clz hy, clz hz, M1.2.2.1, M2.2.2.1, up_a, up_b, M1.2.1, M2.2.1, iI_mul, iI_add]
    have kk : km h (up2 (up2 (up2 h 53 z (iI (t.1 * u.1))) 51 z (iI (N : Int))) 52 z (iI (t.2.2 + u.2.2))) z := km_t (km_t (km_53 _ _ _) (km_51 _ _ _)) (km_52 _ _ _)
    obtain ⟨h1, e1, M3, k1⟩ := M_settle (h := up2 (up2 (up2 h 53 z (iI (t.1 * u.1))) 51 z (iI (N : Int))) 52 z (iI (t.2.2 + u.2.2))) (f := g) (n := N) (s := t.1 * u.1) (e := t.2.2 + u.2.2) hz (by omega) ⟨by rw [up2_o _ _ _ _ (by omega), up2_s], hN2, g1, fun k hk => by
      rw [up2_o _ _ _ _ (by omega), up2_o _ _ _ _ (by omega), up2_o _ _ _ _ (by omega)]
      exact G k hk⟩ (by rw [up2_s]) (by rw [up2_o _ _ _ _ (by omega), up2_o _ _ _ _ (by omega), up2_s])
    rw [ev, Nat.sub_zero, Nat.mod_eq_of_lt (mn_lt c1)] at M3
    rw [bd_t e1]
    exact ⟨h1, rfl, isM_nrm M3, km_t kk k1⟩
  | succ m ih =>
    intro n h g hn hm M1 M2 G g1 g2 ev
    obtain ⟨n, rfl⟩ : ∃ q, n = q + 1 := ⟨n - 1, by omega⟩
    have em : ((m + 1 : Nat) : Int) - 1 = (m : Int) := by omega
    rw [f_M_multiply_77, em, if_neg (by rw [i0, iI_lt ⟨by omega, by omega⟩ ⟨by omega, by omega⟩]; omega), chk_t (inz hy), clz hy, M2.1, hu, i1, iI_sub]
    obtain ⟨h1, g', e1, G1, b1, b2, b3, k1⟩ := M_row (x := x) (y := y) (z := z) (i := m) (N := N) (c1 := c1) (c2 := c2) (V := c1 % 10 ^ (mn c1 - (m + 1)) * c2) (t := t) (u := u) (v4 := iI (N : Int)) (k77 := fun v1 v2 v3 v4 v5 h => f_M_multiply_77 n v1 v2 v3 v4 v5 h) hx hy hz hxz hyz ht hu (by omega) hN hN2 (mn c2) fuel h g (by unfold fuel; omega) (Nat.le_refl _) M1 M2 G (fun q hq _ => g1 q hq) (by have := g1 (m + mn c2) (by omega); omega) (fun z => by omega) (fun q hq => g2 q (by omega)) (fun _ => g2 m (by omega)) (by rw [ev, Nat.sub_self, Nat.pow_zero, Nat.mod_one, Nat.mul_zero]; rfl)
    rw [e1]
    obtain ⟨h2, e2, M3, k2⟩ := ih n h1 g' (by omega) (by omega) (isM_km hxz M1 k1) (isM_km hyz M2 k1) G1 b1 b2 (by
      rw [b3, ← Nat.add_mul]
      congr 1
      rw [show mn c1 - m = (mn c1 - (m + 1)) + 1 by omega, Nat.mod_pow_succ]
      unfold dg
      rw [show mn c1 - 1 - m = mn c1 - (m + 1) by omega, Nat.mul_comm (10 ^ (mn c1 - (m + 1)))])
    exact ⟨h2, e2, M3, km_t k1 k2⟩
theorem M_m40 {x y z N : Nat} {t : Int × Nat × Int} (hx : x < 5) (hz : z < 5) (hxz : x ≠ z) (hN2 : N ≤ 2600) : ∀ (m k n : Nat) (h : Hp), k + m = N → m < n → isM h x t.1 t.2.1 t.2.2 → (∀ q, q < k → h 50 (2600 * z + q) = iI ((0 : Nat) : Int)) → ∃ h', f_M_multiply_40 n (iI (x : Int)) (iI (y : Int)) (iI (z : Int)) (iI (N : Int)) (iI (k : Int)) h = f_M_multiply_77 fuel (iI (x : Int)) (iI (y : Int)) (iI (z : Int)) (iI (N : Int)) (iI ((mn t.2.1 : Int) - 1)) h' ∧ isG h' z N (fun _ => 0) ∧ km h h' z := by
  intro m
  induction m with
  | zero =>
    intro k n h hk hn M1 F
    obtain ⟨n, rfl⟩ : ∃ q, n = q + 1 := ⟨n - 1, by omega⟩
    rw [f_M_multiply_40, if_pos (leN (by omega) (by omega) (by omega)), chk_t (inz hx), clz hx, M1.1, i1, iI_sub]
    exact ⟨h, rfl, fun q hq => F q (by omega), km_r _ _⟩
  | succ m ih =>
    intro k n h hk hn M1 F
    obtain ⟨n, rfl⟩ : ∃ q, n = q + 1 := ⟨n - 1, by omega⟩
    rw [f_M_multiply_40, if_neg (nleN (by omega) (by omega) (by omega)), ixN, chk_t (ixR hz (by omega)), clN (by omega), scN]
    have kk : km h (up2 h 50 (2600 * z + k) 0) z := km_50 _ _ _ _ (by omega)
    obtain ⟨h1, e1, G1, k1⟩ := ih (k + 1) n (up2 h 50 (2600 * z + k) 0) (by omega) (by omega) (isM_km hxz M1 kk) (fun q hq => by
      by_cases w : q = k
      · rw [w, up2_s]
        rfl
      · rw [up2_k _ _ _ (by omega)]
        exact F q (by omega))
    exact ⟨h1, e1, G1, km_t kk k1⟩
theorem M_mul {x y z : Nat} {t u : Int × Nat × Int} {h : Hp} (hx : x < 5) (hy : y < 5) (hz : z < 5) (hxz : x ≠ z) (hyz : y ≠ z) (b1 : isS t.1) (b2 : isS u.1) (z1 : t.1 = 0 ↔ t.2.1 = 0) (z2 : u.1 = 0 ↔ u.2.1 = 0) (hW : mn t.2.1 + mn u.2.1 ≤ 2600) (M1 : isM h x t.1 t.2.1 t.2.2) (M2 : isM h y u.1 u.2.1 u.2.2) : ∃ h', f_M_multiply (iI (x : Int)) (iI (y : Int)) (iI (z : Int)) h = some ((), h') ∧ isM h' z (nrm (t.1 * u.1) (t.2.1 * u.2.1) (t.2.2 + u.2.2)).1 (nrm (t.1 * u.1) (t.2.1 * u.2.1) (t.2.2 + u.2.2)).2.1 (nrm (t.1 * u.1) (t.2.1 * u.2.1) (t.2.2 + u.2.2)).2.2 ∧ km h h' z := by
  unfold isS at b1 b2
  have sg : -1 ≤ t.1 * u.1 ∧ t.1 * u.1 ≤ 1 ∧ (t.1 * u.1 = 0 ↔ t.1 = 0 ∨ u.1 = 0) := by
    rcases b1 with a | a | a <;> rcases b2 with b | b | b <;> rw [a, b] <;> decide
  unfold f_M_multiply
  simp only [chk_t (inz hx), chk_t (inz hy), clz hx, clz hy, M1.2.2.1, M2.2.2.1, M1.1, M2.1, iI_mul, iI_add]
  by_cases q : t.1 * u.1 = 0
  · have c0 : t.2.1 * u.2.1 = 0 := by
      rcases sg.2.2.mp q with a | a
      · rw [z1.mp a, Nat.zero_mul]
      · rw [z2.mp a, Nat.mul_zero]
    obtain ⟨h1, e1, M3, k1⟩ := M_zero (h := h) hz
    rw [if_pos (by rw [q]; rfl), bd_t e1, c0]
    exact ⟨h1, rfl, M3, k1⟩
  · rw [if_neg (by rw [i0, iI_eq ⟨by omega, by omega⟩ ⟨by omega, by omega⟩]; exact q), show (mn t.2.1 : Int) + (mn u.2.1 : Int) = ((mn t.2.1 + mn u.2.1 : Nat) : Int) by omega]
    obtain ⟨h1, e1, G1, k1⟩ := M_m40 (x := x) (y := y) (z := z) (N := mn t.2.1 + mn u.2.1) (t := t) hx hz hxz hW (mn t.2.1 + mn u.2.1) 0 fuel h (by omega) (by unfold fuel; omega) M1 (fun q hq => absurd hq (Nat.not_lt_zero q))
    have e1 : f_M_multiply_40 fuel (iI (x : Int)) (iI (y : Int)) (iI (z : Int)) (iI ((mn t.2.1 + mn u.2.1 : Nat) : Int)) 0 h = _ := e1
    rw [e1]
    have p1 := mn_pos t.2.1
    obtain ⟨h2, e2, M3, k2⟩ := M_rows (x := x) (y := y) (z := z) (t := t) (u := u) hx hy hz hxz hyz rfl rfl rfl hW (mn t.2.1) fuel h1 (fun _ => 0) (by unfold fuel; omega) (Nat.le_refl _) (isM_km hxz M1 k1) (isM_km hyz M2 k1) G1 (fun _ _ => by decide) (fun _ _ => rfl) (by
      rw [Nat.sub_self, Nat.pow_zero, Nat.mod_one, Nat.zero_mul]
      exact dv_z (fun _ _ => rfl))
    exact ⟨h2, e2, M3, km_t k1 k2⟩
end
section
/-! PURE 23: the class's long division -/
/-- the first T digits of c, with zeros behind them -/
def pfx (c T : Nat) : Nat := if T ≤ nd c then c / 10 ^ (nd c - T) else c * 10 ^ (T - nd c)
theorem pfx_0 (c : Nat) : pfx c 0 = 0 := by
  unfold pfx
  rw [if_pos (Nat.zero_le _), Nat.sub_zero, Nat.div_eq_of_lt (nd_lt c)]
theorem pfx_s (c T : Nat) : pfx c (T + 1) = 10 * pfx c T + dz c (T : Int) := by
  unfold pfx dz dg
  by_cases q : T + 1 ≤ nd c
  · rw [if_pos q, if_pos (by omega), if_pos (by omega), Int.toNat_natCast, show nd c - 1 - T = nd c - (T + 1) by omega, show nd c - T = (nd c - (T + 1)) + 1 by omega, Nat.pow_succ, ← Nat.div_div_eq_div_mul]
    exact (Nat.div_add_mod _ _).symm
  · rw [if_neg q, if_neg (show ¬ ((0 : Int) ≤ (T : Int) ∧ (T : Int) < (nd c : Int)) by omega), Nat.add_zero]
    by_cases w : T ≤ nd c
    · rw [if_pos w, show nd c - T = 0 by omega, show T + 1 - nd c = 1 by omega, Nat.pow_zero, Nat.div_one, Nat.pow_one, Nat.mul_comm]
      rfl
    · rw [if_neg w, show T + 1 - nd c = (T - nd c) + 1 by omega, Nat.pow_succ, ← Nat.mul_assoc, Nat.mul_comm]
      rfl
theorem pfx_ge {c T : Nat} (hc : 0 < c) (hT : 0 < T) : 10 ^ (T - 1) ≤ pfx c T := by
  have a := nd_le hc
  have p := nd_pos hc
  unfold pfx
  by_cases q : T ≤ nd c
  · rw [if_pos q, Nat.le_div_iff_mul_le (p10 _), ← Nat.pow_add, show T - 1 + (nd c - T) = nd c - 1 by omega]
    exact a
  · rw [if_neg q, show T - 1 = (nd c - 1) + (T - nd c) by omega, Nat.pow_add]
    exact Nat.mul_le_mul_right _ a
theorem pfx_div {c T : Nat} (k : Nat) : pfx c (T + k) / 10 ^ k = pfx c T := by
  induction k with
  | zero => rw [Nat.pow_zero, Nat.div_one, Nat.add_zero]
  | succ k ih =>
    rw [show T + (k + 1) = (T + k) + 1 by omega, pfx_s, Nat.pow_succ', ← Nat.div_div_eq_div_mul, Nat.mul_add_div (by decide), Nat.div_eq_of_lt (dz_lt c _), Nat.add_zero, ih]
/-- the first T from there on with most digits of quotient; at most m further -/
def qT (most c1 c2 : Nat) : Nat → Nat → Nat
  | 0, T => T
  | m + 1, T => if most ≤ nd (pfx c1 T / c2) then T else qT most c1 c2 m (T + 1)
theorem qT_le (most c1 c2 : Nat) : ∀ m T, T ≤ qT most c1 c2 m T ∧ qT most c1 c2 m T ≤ T + m
  | 0, T => ⟨Nat.le_refl _, Nat.le_refl _⟩
  | m + 1, T => by
    unfold qT
    split
    · omega
    · have := qT_le most c1 c2 m (T + 1)
      omega
/-- the two rows of the division -/
def isB (h : Hp) (i w c : Nat) : Prop := c < 10 ^ w ∧ ∀ k, k < w → h i k = iI (dg c w k : Int)
theorem isB_eq {h h' : Hp} {i w c : Nat} (B : isB h i w c) (e : h' i = h i) : isB h' i w c := ⟨B.1, fun k hk => by rw [e]; exact B.2 k hk⟩
theorem isB_of {h : Hp} {i w c : Nat} {f : Nat → Nat} (hf : ∀ k, k < w → f k < 10) (ha : ∀ k, k < w → h i k = iI (f k : Int)) (hc : dv f w = c) : isB h i w c := by
  refine ⟨by rw [← hc]; exact dv_lt hf, fun k hk => ?_⟩
  rw [ha k hk, ← hc, ← dv_dg hk hf]
theorem dg_top {c w k : Nat} (hk : k < w) : dg c w k = c / 10 ^ (w - (k + 1)) % 10 := by
  unfold dg
  rw [show w - 1 - k = w - (k + 1) by omega]
-- ===== is it enough? =====
theorem K_holds_loop {w A B : Nat} {h : Hp} (hw : w ≤ 100) (B1 : isB h 37 w A) (B2 : isB h 36 w B) : ∀ (m k n : Nat), k + m = w → m + 1 < n → f_K_holdsDivisor_4 n (iI (w : Int)) 0 (iI (k : Int)) h = some (iI (if cmpF A B m < 0 then 0 else 1), h) := by
  intro m
  induction m with
  | zero =>
    intro k n hk hn
    obtain ⟨n, rfl⟩ : ∃ q, n = q + 1 := ⟨n - 1, by omega⟩
    rw [f_K_holdsDivisor_4, if_pos (leN (by omega) (by omega) (by omega)), if_neg (by decide), if_neg (show ¬ cmpF _ _ 0 < 0 from fun z => absurd (show (0 : Int) < 0 from z) (by decide))]
    rfl
  | succ m ih =>
    intro k n hk hn
    obtain ⟨n, rfl⟩ : ∃ q, n = q + 2 := ⟨n - 2, by omega⟩
    have a := Nat.mod_lt (A / 10 ^ m) (show 10 > 0 by decide)
    have b := Nat.mod_lt (B / 10 ^ m) (show 10 > 0 by decide)
    have x1 : dg A w k = A / 10 ^ m % 10 := by rw [dg_top (by omega), show w - (k + 1) = m by omega]
    have y1 : dg B w k = B / 10 ^ m % 10 := by rw [dg_top (by omega), show w - (k + 1) = m by omega]
    rw [f_K_holdsDivisor_4, if_neg (nleN (by omega) (by omega) (by omega)), if_pos rfl, chk_t (iI_inR (by omega) (by omega) (by omega)), chk_t (iI_inR (by omega) (by omega) (by omega)), clN (by omega), B1.2 k (by omega), B2.2 k (by omega), x1, y1, iI_sub, scN]
    by_cases q : A / 10 ^ m % 10 = B / 10 ^ m % 10
    · have ec : cmpF A B (m + 1) = cmpF A B m := if_pos q
      rw [ec, q, Int.sub_self]
      exact ih (k + 1) (n + 1) (by omega) (by omega)
    · have ec : cmpF A B (m + 1) = ((A / 10 ^ m % 10 : Nat) : Int) - ((B / 10 ^ m % 10 : Nat) : Int) := if_neg q
      rw [ec, f_K_holdsDivisor_4]
      have fin : (if iI (((A / 10 ^ m % 10 : Nat) : Int) - ((B / 10 ^ m % 10 : Nat) : Int)) < 0 then some ((0 : Int32), h) else some (1, h)) = some (iI (if ((A / 10 ^ m % 10 : Nat) : Int) - ((B / 10 ^ m % 10 : Nat) : Int) < 0 then 0 else 1), h) := by
        by_cases z : ((A / 10 ^ m % 10 : Nat) : Int) - ((B / 10 ^ m % 10 : Nat) : Int) < 0
        · rw [if_pos (by rw [i0, iI_lt ⟨by omega, by omega⟩ ⟨by omega, by omega⟩]; omega), if_pos z]
          rfl
        · rw [if_neg (by rw [i0, iI_lt ⟨by omega, by omega⟩ ⟨by omega, by omega⟩]; omega), if_neg z]
          rfl
      by_cases v : w ≤ k + 1
      · rw [if_pos (leN (by omega) (by omega) v)]
        exact fin
      · rw [if_neg (nleN (by omega) (by omega) (by omega)), if_neg (by rw [i0, iI_eq ⟨by omega, by omega⟩ ⟨by omega, by omega⟩]; omega)]
        exact fin
theorem K_holds {w A B : Nat} {h : Hp} (hw : w ≤ 100) (B1 : isB h 37 w A) (B2 : isB h 36 w B) : f_K_holdsDivisor (iI (w : Int)) h = some (iI (if A < B then 0 else 1), h) := by
  have c := cmpF_lt (X := A) (Y := B) w (by rw [Nat.div_eq_of_lt B1.1, Nat.div_eq_of_lt B2.1])
  unfold f_K_holdsDivisor
  have := K_holds_loop hw B1 B2 w 0 fuel (by omega) (by unfold fuel; omega)
  rw [ifq c] at this
  exact this
-- ===== take away once =====
theorem dgF_dg {A B w k : Nat} (h : A ≤ B) (hB : B < 10 ^ w) (hk : k < w) : dgF B A (-1) k = dg (B - A) w (w - 1 - k) := by
  have hg : (-1 : Int) = 1 ∨ (-1 : Int) = -1 := Or.inr rfl
  have l := le_sum (X := B) (Y := A) (K := w) hg hB (by omega) (by omega) (by omega)
  have d := le_dig (f := dgF B A (-1)) (w := w) (fun q _ => (dgF_p hg q).2) hk
  rw [show le (dgF B A (-1)) w = B - A by omega] at d
  unfold dg
  rw [show w - 1 - (w - 1 - k) = k by omega, d]
theorem K_once_loop {w A B : Nat} (hw : w ≤ 100) (hAB : B ≤ A) (hA : A < 10 ^ w) : ∀ (m k n : Nat) (h : Hp), k + m = w → m < n → (∀ q, q < m → h 37 q = iI (dg A w q : Int)) → (∀ q, q < w → h 36 q = iI (dg B w q : Int)) → (∀ q, m ≤ q → q < w → h 37 q = iI (dg (A - B) w q : Int)) → ∃ h', f_K_takeAwayOnce_6 n (iI (-(cyF A B (-1) k))) (iI ((m : Int) - 1)) h = some ((), h') ∧ (∀ q, q < w → h' 37 q = iI (dg (A - B) w q : Int)) ∧ ∀ y, y ≠ 37 → h' y = h y := by
  have hg : (-1 : Int) = 1 ∨ (-1 : Int) = -1 := Or.inr rfl
  intro m
  induction m with
  | zero =>
    intro k n h hk hn F1 F2 F3
    obtain ⟨n, rfl⟩ : ∃ q, n = q + 1 := ⟨n - 1, by omega⟩
    rw [f_K_takeAwayOnce_6, if_pos (by rw [i0, iI_lt ⟨by omega, by omega⟩ ⟨by omega, by omega⟩]; omega)]
    exact ⟨h, rfl, fun q hq => F3 q (by omega) hq, fun _ _ => rfl⟩
  | succ m ih =>
    intro k n h hk hn F1 F2 F3
    obtain ⟨n, rfl⟩ : ∃ q, n = q + 1 := ⟨n - 1, by omega⟩
    have em : ((m + 1 : Nat) : Int) - 1 = (m : Int) := by omega
    have cb := cyF_b (X := A) (Y := B) hg k
    have hd := dgF_p (X := A) (Y := B) hg k
    have hs := cyF_s A B (-1) k
    have x1 : dg A w m = A / 10 ^ k % 10 := by rw [dg_top (by omega), show w - (m + 1) = k by omega]
    have y1 : dg B w m = B / 10 ^ k % 10 := by rw [dg_top (by omega), show w - (m + 1) = k by omega]
    have er : ((A / 10 ^ k % 10 : Nat) : Int) - ((B / 10 ^ k % 10 : Nat) : Int) - -(cyF A B (-1) k) = rkF A B (-1) k := by
      unfold rkF
      omega
    have ed : dgF A B (-1) k = dg (A - B) w m := by
      rw [dgF_dg hAB hA (by omega), show w - 1 - k = m by omega]
    rw [f_K_takeAwayOnce_6, em, if_neg (by rw [i0, iI_lt ⟨by omega, by omega⟩ ⟨by omega, by omega⟩]; omega), chk_t (iI_inR (by omega) (by omega) (by omega)), chk_t (iI_inR (by omega) (by omega) (by omega)), clN (by omega), F1 m (by omega), F2 m (by omega), x1, y1, iI_sub, iI_sub, er]
    have go : ∀ s0 : Int32, s0 = iI (-(cyF A B (-1) (k + 1))) → ∃ h', f_K_takeAwayOnce_37 (fun v2 v3 h => f_K_takeAwayOnce_6 n v2 v3 h) (iI (m : Int)) (iI (rkF A B (-1) k)) s0 h = some ((), h') ∧ (∀ q, q < w → h' 37 q = iI (dg (A - B) w q : Int)) ∧ ∀ y, y ≠ 37 → h' y = h y := by
      intro s0 e0
      unfold f_K_takeAwayOnce_37
      rw [chk_t (iI_inR (by omega) (by omega) (by omega)), e0, clN (by omega), show (10 : Int32) = iI 10 from rfl, iI_mul, iI_add, im1, iI_add, show rkF A B (-1) k + 10 * -(cyF A B (-1) (k + 1)) = (dg (A - B) w m : Int) by rw [← ed]; omega, show (m : Int) + -1 = (m : Int) - 1 by omega]
      obtain ⟨h', e', a', b'⟩ := ih (k + 1) n (up2 h 37 m (iI (dg (A - B) w m : Int))) (by omega) (by omega) (fun q hq => by rw [up2_k _ _ _ (by omega)]; exact F1 q (by omega)) (fun q hq => by rw [up2_o _ _ _ _ (by omega)]; exact F2 q hq) (fun q h1 h2 => by
        by_cases z : q = m
        · rw [z, up2_s]
        · rw [up2_k _ _ _ z]
          exact F3 q (by omega) h2)
      exact ⟨h', e', a', fun y hy => by rw [b' y hy, up2_ne _ _ _ hy]⟩
    by_cases q : rkF A B (-1) k < 0
    · rw [if_neg (by rw [i0, iI_le ⟨by omega, by omega⟩ ⟨by omega, by omega⟩]; omega)]
      exact go _ (by rw [hs, if_pos q]; rfl)
    · rw [if_pos (by rw [i0, iI_le ⟨by omega, by omega⟩ ⟨by omega, by omega⟩]; omega)]
      exact go _ (by rw [hs, if_neg q, if_pos (by omega)]; rfl)
theorem K_once {w A B : Nat} {h : Hp} (hw : w ≤ 100) (hAB : B ≤ A) (B1 : isB h 37 w A) (B2 : isB h 36 w B) : ∃ h', f_K_takeAwayOnce (iI (w : Int)) h = some ((), h') ∧ isB h' 37 w (A - B) ∧ ∀ y, y ≠ 37 → h' y = h y := by
  unfold f_K_takeAwayOnce
  rw [i1, iI_sub]
  obtain ⟨h', e', a', b'⟩ := K_once_loop hw hAB B1.1 w 0 fuel h (by omega) (by unfold fuel; omega) (fun q hq => B1.2 q hq) (fun q hq => B2.2 q hq) (fun q h1 h2 => by omega)
  exact ⟨h', e', ⟨Nat.lt_of_le_of_lt (Nat.sub_le _ _) B1.1, a'⟩, b'⟩
theorem K_all_loop {w B : Nat} (hw : w ≤ 100) (hB : 0 < B) : ∀ (m k n A : Nat) (h : Hp), k + m = 9 → m < n → A < B * (m + 1) → isB h 37 w A → isB h 36 w B → ∃ h', f_K_takeAwayAll_2 n (iI (w : Int)) (iI (k : Int)) h = some (iI ((k + A / B : Nat) : Int), h') ∧ isB h' 37 w (A % B) ∧ ∀ y, y ≠ 37 → h' y = h y := by
  intro m
  induction m with
  | zero =>
    intro k n A h hk hn hA B1 B2
    obtain ⟨n, rfl⟩ : ∃ q, n = q + 1 := ⟨n - 1, by omega⟩
    rw [Nat.zero_add, Nat.mul_one] at hA
    rw [f_K_takeAwayAll_2, if_pos (by rw [show (9 : Int32) = iI 9 from rfl, iI_le ⟨by omega, by omega⟩ ⟨by omega, by omega⟩]; omega), Nat.div_eq_of_lt hA, Nat.mod_eq_of_lt hA]
    exact ⟨h, rfl, B1, fun _ _ => rfl⟩
  | succ m ih =>
    intro k n A h hk hn hA B1 B2
    obtain ⟨n, rfl⟩ : ∃ q, n = q + 1 := ⟨n - 1, by omega⟩
    rw [f_K_takeAwayAll_2, if_neg (by rw [show (9 : Int32) = iI 9 from rfl, iI_le ⟨by omega, by omega⟩ ⟨by omega, by omega⟩]; omega), bd_t (K_holds hw B1 B2)]
    by_cases q : A < B
    · rw [if_pos (by rw [if_pos q]; rfl), Nat.div_eq_of_lt q, Nat.mod_eq_of_lt q]
      exact ⟨h, rfl, B1, fun _ _ => rfl⟩
    · rw [if_neg (by rw [if_neg q]; decide)]
      obtain ⟨h1, e1, B3, k1⟩ := K_once hw (by omega) B1 B2
      rw [bd_t e1, scN]
      have e2 : B * (m + 1 + 1) = B * (m + 1) + B := Nat.mul_succ _ _
      obtain ⟨h2, e3, B4, k2⟩ := ih (k + 1) n (A - B) h1 (by omega) (by omega) (by omega) B3 (isB_eq B2 (k1 36 (by omega)))
      have d1 : A / B = (A - B) / B + 1 := by
        rw [Nat.div_eq A B, if_pos ⟨hB, by omega⟩]
      have d2 : A % B = (A - B) % B := Nat.mod_eq_sub_mod (by omega)
      rw [d1, d2, show k + ((A - B) / B + 1) = k + 1 + (A - B) / B by omega]
      exact ⟨h2, e3, B4, fun y hy => by rw [k2 y hy, k1 y hy]⟩
theorem K_down_loop {w A d : Nat} (hw : w ≤ 100) (hw0 : 0 < w) : ∀ (m k n : Nat) (h : Hp), k + m = w → 0 < k → m < n → (∀ q, q < w → h 37 q = iI ((if q + 1 < k then dg A w (q + 1) else dg A w q : Nat) : Int)) → ∃ h', f_K_bringDown_2 n (iI (d : Int)) (iI (w : Int)) (iI (k : Int)) h = some ((), h') ∧ (∀ q, q < w → h' 37 q = iI ((if q + 1 < w then dg A w (q + 1) else d : Nat) : Int)) ∧ ∀ y, y ≠ 37 → h' y = h y := by
  intro m
  induction m with
  | zero =>
    intro k n h hk k0 hn F
    obtain ⟨n, rfl⟩ : ∃ q, n = q + 1 := ⟨n - 1, by omega⟩
    rw [f_K_bringDown_2, if_pos (leN (by omega) (by omega) (by omega)), if_neg (by rw [i0, iI_le ⟨by omega, by omega⟩ ⟨by omega, by omega⟩]; omega), i1, iI_sub, show (w : Int) - 1 = ((w - 1 : Nat) : Int) by omega, chk_t (iI_inR (by omega) (by omega) (by omega)), clN (by omega)]
    refine ⟨_, rfl, fun q hq => ?_, fun y hy => up2_ne _ _ _ hy⟩
    by_cases z : q = w - 1
    · rw [z, up2_s, if_neg (by omega)]
    · rw [up2_k _ _ _ z, F q hq, show k = w by omega]
      rw [if_pos (by omega), if_pos (by omega)]
  | succ m ih =>
    intro k n h hk k0 hn F
    obtain ⟨n, rfl⟩ : ∃ q, n = q + 1 := ⟨n - 1, by omega⟩
    rw [f_K_bringDown_2, if_neg (nleN (by omega) (by omega) (by omega)), i1, iI_sub, show (k : Int) - 1 = ((k - 1 : Nat) : Int) by omega, chk_t (iI_inR (by omega) (by omega) (by omega)), chk_t (iI_inR (by omega) (by omega) (by omega)), clN (n := k - 1) (by omega), clN (n := k) (by omega), F k (by omega), if_neg (by omega), iI_add]
    obtain ⟨h', e', a', b'⟩ := ih (k + 1) n (up2 h 37 (k - 1) (iI (dg A w k : Int))) (by omega) (by omega) (by omega) (fun q hq => by
      by_cases z : q = k - 1
      · rw [z, up2_s, if_pos (by omega), show k - 1 + 1 = k by omega]
      · rw [up2_k _ _ _ z, F q hq]
        by_cases y : q + 1 < k
        · rw [if_pos y, if_pos (by omega)]
        · rw [if_neg y, if_neg (by omega)])
    exact ⟨h', e', a', fun y hy => by rw [b' y hy, up2_ne _ _ _ hy]⟩
theorem K_down {w A d : Nat} {h : Hp} (hw : w ≤ 100) (hw0 : 0 < w) (hd : d < 10) (hA : A < 10 ^ (w - 1)) (B1 : isB h 37 w A) : ∃ h', f_K_bringDown (iI (d : Int)) (iI (w : Int)) h = some ((), h') ∧ isB h' 37 w (10 * A + d) ∧ ∀ y, y ≠ 37 → h' y = h y := by
  obtain ⟨h', e', a', b'⟩ := K_down_loop (A := A) (d := d) hw hw0 (w - 1) 1 fuel h (by omega) (by omega) (by unfold fuel; omega) (fun q hq => by rw [if_neg (by omega)]; exact B1.2 q hq)
  have P : 10 ^ w = 10 ^ (w - 1) * 10 := by
    rw [← Nat.pow_succ]
    congr 1
    omega
  refine ⟨h', e', ⟨by omega, fun k hk => ?_⟩, b'⟩
  rw [a' k hk]
  congr 2
  by_cases z : k + 1 < w
  · rw [if_pos z]
    unfold dg
    rw [show w - 1 - k = (w - 1 - (k + 1)) + 1 by omega, Nat.pow_succ', ← Nat.div_div_eq_div_mul, Nat.mul_add_div (by decide), Nat.div_eq_of_lt hd]
    rfl
  · rw [if_neg z]
    unfold dg
    rw [show w - 1 - k = 0 by omega, Nat.pow_zero, Nat.div_one]
    omega
end
section
/-! PURE 24: the class's quotient and part -/
theorem qT_stop {most c1 c2 : Nat} : ∀ m T, qT most c1 c2 m T < T + m → most ≤ nd (pfx c1 (qT most c1 c2 m T) / c2)
  | 0, T, h => by
    have : qT most c1 c2 0 T = T := rfl
    omega
  | m + 1, T, h => by
    unfold qT at h ⊢
    by_cases q : most ≤ nd (pfx c1 T / c2)
    · rw [if_pos q]
      exact q
    · rw [if_neg q] at h ⊢
      exact qT_stop m (T + 1) (by omega)
theorem pfx_big {c1 c2 n T : Nat} (h1 : 0 < c1) (h2 : 0 < c2) (hT : n + nd c2 + 1 ≤ T) : n + 1 ≤ nd (pfx c1 T / c2) := by
  have a := pfx_ge (T := T) h1 (by omega)
  have b : 10 ^ (n + nd c2) ≤ pfx c1 T := Nat.le_trans (Nat.pow_le_pow_right (by decide) (by omega)) a
  have c : 10 ^ n * c2 ≤ pfx c1 T := by
    rw [Nat.pow_add] at b
    exact Nat.le_trans (Nat.mul_le_mul_left _ (Nat.le_of_lt (nd_lt c2))) b
  have d : 1 * 10 ^ n ≤ pfx c1 T / c2 := by
    rw [Nat.one_mul, Nat.le_div_iff_mul_le h2]
    exact c
  have e := nd_mono d
  rw [nd_mulp (by decide), nd_1] at e
  omega
theorem pfx_step {c1 c2 T : Nat} (h2 : 0 < c2) : pfx c1 (T + 1) / c2 = 10 * (pfx c1 T / c2) + (10 * (pfx c1 T % c2) + dz c1 (T : Int)) / c2 ∧ pfx c1 (T + 1) % c2 = (10 * (pfx c1 T % c2) + dz c1 (T : Int)) % c2 := by
  have e : pfx c1 (T + 1) = c2 * (10 * (pfx c1 T / c2)) + (10 * (pfx c1 T % c2) + dz c1 (T : Int)) := by
    rw [pfx_s]
    have := Nat.div_add_mod (pfx c1 T) c2
    have e2 : c2 * (10 * (pfx c1 T / c2)) = 10 * (c2 * (pfx c1 T / c2)) := Nat.mul_left_comm _ _ _
    omega
  rw [e, Nat.mul_add_div h2, Nat.mul_add_mod]
  exact ⟨rfl, rfl⟩
theorem dz_div {c2 k : Nat} (hk : k ≤ nd c2) : dz c2 ((k : Int) - 1) = dg c2 (nd c2 + 1) k := by
  unfold dz
  by_cases q : k = 0
  · rw [if_neg (by omega), q]
    unfold dg
    rw [show nd c2 + 1 - 1 - 0 = nd c2 by omega, Nat.div_eq_of_lt (nd_lt c2)]
  · rw [if_pos (by omega)]
    unfold dg
    rw [show nd c2 - 1 - ((k : Int) - 1).toNat = nd c2 + 1 - 1 - k by omega]
theorem K_d16 {i j z c2 : Nat} {v3 v4 : Int32} (hj : j ≠ 36) (hj1 : j + 1 ≠ 36) (hj2 : j ≠ 37) (hj3 : j + 1 ≠ 37) (hw : nd c2 ≤ 60) : ∀ (m k n : Nat) (h : Hp), k + m = nd c2 + 1 → m < n → isD h j c2 → (∀ q, q < k → h 36 q = iI (dg c2 (nd c2 + 1) q : Int)) → (∀ q, q < k → h 37 q = iI (dg 0 (nd c2 + 1) q : Int)) → ∃ h', f_K_divide_16 n i j v3 v4 z (iI ((nd c2 + 1 : Nat) : Int)) (iI (k : Int)) h = bd (f_N_clear z h') (fun _ h54 => f_K_divide_60 fuel i v3 v4 z (iI ((nd c2 + 1 : Nat) : Int)) 0 h54) ∧ isB h' 36 (nd c2 + 1) c2 ∧ isB h' 37 (nd c2 + 1) 0 ∧ ∀ y, y ≠ 36 → y ≠ 37 → h' y = h y := by
  intro m
  induction m with
  | zero =>
    intro k n h hk hn D F1 F2
    obtain ⟨n, rfl⟩ : ∃ q, n = q + 1 := ⟨n - 1, by omega⟩
    rw [f_K_divide_16, if_pos (leN (by omega) (by omega) (by omega))]
    refine ⟨h, rfl, ⟨?_, fun q hq => F1 q (by omega)⟩, ⟨p10 _, fun q hq => F2 q (by omega)⟩, fun _ _ _ => rfl⟩
    exact Nat.lt_of_lt_of_le (nd_lt c2) (Nat.pow_le_pow_right (by decide) (by omega))
  | succ m ih =>
    intro k n h hk hn D F1 F2
    obtain ⟨n, rfl⟩ : ∃ q, n = q + 1 := ⟨n - 1, by omega⟩
    rw [f_K_divide_16, if_neg (nleN (by omega) (by omega) (by omega)), i1, iI_sub, bd_t (N_digit D ⟨by omega, by omega⟩), dz_div (by omega), chk_t (iI_inR (by omega) (by omega) (by omega)), chk_t (iI_inR (by omega) (by omega) (by omega)), clN (by omega), iI_add]
    have z0 : dg 0 (nd c2 + 1) k = 0 := by
      unfold dg
      rw [Nat.zero_div]
    obtain ⟨h', e', a', b', c'⟩ := ih (k + 1) n (up2 (up2 h 36 k (iI (dg c2 (nd c2 + 1) k : Int))) 37 k 0) (by omega) (by omega) (isD_eq D (by rw [up2_o _ _ _ _ (by omega), up2_o _ _ _ _ (by omega)]) (by rw [up2_ne _ _ _ (by omega), up2_ne _ _ _ (by omega)])) (fun q hq => by
      rw [up2_o _ _ _ _ (by omega)]
      by_cases w : q = k
      · rw [w, up2_s]
      · rw [up2_k _ _ _ w]
        exact F1 q (by omega)) (fun q hq => by
      by_cases w : q = k
      · rw [w, up2_s, z0]
        rfl
      · rw [up2_k _ _ _ w, up2_o _ _ _ _ (by omega)]
        exact F2 q (by omega))
    exact ⟨h', e', a', b', fun y y1 y2 => by rw [c' y y1 y2, up2_ne _ _ _ y2, up2_ne _ _ _ y1]⟩
theorem K_d60 {i z c1 c2 most : Nat} {lim : Int} (hi : i ≠ 37) (hi1 : i + 1 ≠ 37) (hiz : i ≠ z) (hiz1 : i ≠ z + 1) (hiz2 : i + 1 ≠ z) (hz : z ≠ 36) (hz1 : z + 1 ≠ 36) (hz2 : z ≠ 37) (hz3 : z + 1 ≠ 37) (hl : il (z + 1) = 100) (h2 : 0 < c2) (hw : nd c2 ≤ 60) (hm : most ≤ 60) (hlim : -1000000 ≤ lim ∧ lim ≤ 1000000) : ∀ (m T n : Nat) (h : Hp), (m : Int) = max 0 (lim - (T : Int)) → T ≤ 1000000 → m < n → isD h i c1 → isD h z (pfx c1 T / c2) → isB h 37 (nd c2 + 1) (pfx c1 T % c2) → isB h 36 (nd c2 + 1) c2 → ∃ h', f_K_divide_60 n i (iI lim) (iI (most : Int)) z (iI ((nd c2 + 1 : Nat) : Int)) (iI (T : Int)) h = some (iI (qT most c1 c2 m T : Int), h') ∧ isD h' z (pfx c1 (qT most c1 c2 m T) / c2) ∧ ∀ y, y ≠ 37 → y ≠ z → y ≠ z + 1 → h' y = h y := by
  intro m
  induction m with
  | zero =>
    intro T n h hT hT2 hn D1 D2 B1 B2
    obtain ⟨n, rfl⟩ : ∃ q, n = q + 1 := ⟨n - 1, by omega⟩
    rw [f_K_divide_60, if_pos (by rw [iI_le ⟨by omega, by omega⟩ ⟨by omega, by omega⟩]; omega)]
    exact ⟨h, rfl, D2, fun _ _ _ _ => rfl⟩
  | succ m ih =>
    intro T n h hT hT2 hn D1 D2 B1 B2
    obtain ⟨n, rfl⟩ : ∃ q, n = q + 1 := ⟨n - 1, by omega⟩
    rw [f_K_divide_60, if_neg (by rw [iI_le ⟨by omega, by omega⟩ ⟨by omega, by omega⟩]; omega), D2.1]
    have hnd := D2.2.1
    rw [hl] at hnd
    by_cases q : most ≤ nd (pfx c1 T / c2)
    · have e : qT most c1 c2 (m + 1) T = T := if_pos q
      rw [if_pos (leN (by omega) (by omega) q), e]
      exact ⟨h, rfl, D2, fun _ _ _ _ => rfl⟩
    · have e : qT most c1 c2 (m + 1) T = qT most c1 c2 m (T + 1) := if_neg q
      rw [if_neg (nleN (by omega) (by omega) (by omega)), bd_t (N_digit D1 ⟨by omega, by omega⟩), e]
      have dl := dz_lt c1 (T : Int)
      have ml := Nat.mod_lt (pfx c1 T) h2
      obtain ⟨s1, s2⟩ := pfx_step (c1 := c1) (T := T) h2
      have A1 : pfx c1 T % c2 < 10 ^ (nd c2 + 1 - 1) := Nat.lt_trans ml (nd_lt c2)
      obtain ⟨g1, e1, C1, k1⟩ := K_down (w := nd c2 + 1) (d := dz c1 (T : Int)) (by omega) (by omega) dl A1 B1
      rw [bd_t e1]
      obtain ⟨g2, e2, C2, k2⟩ := K_all_loop (w := nd c2 + 1) (by omega) h2 9 0 fuel (10 * (pfx c1 T % c2) + dz c1 (T : Int)) g1 (by omega) (by unfold fuel; omega) (by omega) C1 (isB_eq B2 (k1 36 (by omega)))
      have e2 : f_K_takeAwayAll (iI ((nd c2 + 1 : Nat) : Int)) g1 = some (iI (((10 * (pfx c1 T % c2) + dz c1 (T : Int)) / c2 : Nat) : Int), g2) := by
        unfold f_K_takeAwayAll
        rw [Nat.zero_add] at e2
        exact e2
      rw [bd_t e2]
      have ql : (10 * (pfx c1 T % c2) + dz c1 (T : Int)) / c2 < 10 := by
        rw [Nat.div_lt_iff_lt_mul h2]
        omega
      have Dz : isD g2 z (pfx c1 T / c2) := isD_eq D2 (by rw [k2 z hz2, k1 z hz2]) (by rw [k2 _ hz3, k1 _ hz3])
      have nb : nd (10 * (pfx c1 T / c2) + (10 * (pfx c1 T % c2) + dz c1 (T : Int)) / c2) ≤ il (z + 1) := by
        rw [hl]
        have : 10 * (pfx c1 T / c2) + (10 * (pfx c1 T % c2) + dz c1 (T : Int)) / c2 < 10 ^ (nd (pfx c1 T / c2) + 1) := by
          have := nd_lt (pfx c1 T / c2)
          rw [Nat.pow_succ]
          omega
        have := nd_le_of this
        omega
      obtain ⟨g3, e3, D3, k3⟩ := N_push Dz ql nb
      rw [bd_t e3, scN]
      rw [← s1] at D3
      rw [← s2] at C2
      obtain ⟨g4, e4, D4, k4⟩ := ih (T + 1) n g3 (by omega) (by omega) (by omega) (isD_eq D1 (by rw [k3.1 i hiz hiz1, k2 i hi, k1 i hi]) (by rw [k3.1 (i + 1) hiz2 (by omega), k2 _ hi1, k1 _ hi1])) D3 (isB_eq C2 (k3.1 37 (fun w => hz2 w.symm) (fun w => hz3 w.symm))) (isB_eq B2 (by rw [k3.1 36 (fun w => hz w.symm) (fun w => hz1 w.symm), k2 36 (by omega), k1 36 (by omega)]))
      exact ⟨g4, e4, D4, fun y y1 y2 y3 => by rw [k4 y y1 y2 y3, k3.1 y y2 y3, k2 y y1, k1 y y1]⟩
theorem K_div {i j z c1 c2 most : Nat} {lim : Int} {h : Hp} (hi : i ≠ 36 ∧ i ≠ 37 ∧ i + 1 ≠ 36 ∧ i + 1 ≠ 37) (hj : j ≠ 36 ∧ j ≠ 37 ∧ j + 1 ≠ 36 ∧ j + 1 ≠ 37) (hz : z ≠ 36 ∧ z ≠ 37 ∧ z + 1 ≠ 36 ∧ z + 1 ≠ 37) (hiz : i ≠ z ∧ i ≠ z + 1 ∧ i + 1 ≠ z) (hl : il (z + 1) = 100) (h2 : 0 < c2) (hw : nd c2 ≤ 60) (hm : most ≤ 60) (hlim : -1000000 ≤ lim ∧ lim ≤ 900000) (D1 : isD h i c1) (D2 : isD h j c2) : ∃ h', f_K_divide i j (iI lim) (iI (most : Int)) z h = some (iI (qT most c1 c2 lim.toNat 0 : Int), h') ∧ isD h' z (pfx c1 (qT most c1 c2 lim.toNat 0) / c2) ∧ ∀ y, y ≠ 36 → y ≠ 37 → y ≠ z → y ≠ z + 1 → h' y = h y := by
  unfold f_K_divide
  rw [D2.1, scN, if_neg (by rw [show (100 : Int32) = iI 100 from rfl, iI_lt ⟨by omega, by omega⟩ ⟨by omega, by omega⟩]; omega)]
  obtain ⟨g1, e1, B1, B2, k1⟩ := K_d16 (i := i) (j := j) (z := z) (c2 := c2) (v3 := iI lim) (v4 := iI (most : Int)) hj.1 hj.2.2.1 hj.2.1 hj.2.2.2 hw (nd c2 + 1) 0 fuel h (by omega) (by unfold fuel; omega) D2 (fun q hq => absurd hq (Nat.not_lt_zero q)) (fun q hq => absurd hq (Nat.not_lt_zero q))
  have e1 : f_K_divide_16 fuel i j (iI lim) (iI (most : Int)) z (iI ((nd c2 + 1 : Nat) : Int)) 0 h = _ := e1
  rw [e1]
  obtain ⟨g2, e2, N2, k2⟩ := N_clear g1 z
  rw [bd_t e2]
  have p0 : pfx c1 0 / c2 = 0 := by rw [pfx_0, Nat.zero_div]
  have p1 : pfx c1 0 % c2 = 0 := by rw [pfx_0, Nat.zero_mod]
  obtain ⟨g3, e3, D3, k3⟩ := K_d60 (i := i) (z := z) (c1 := c1) (c2 := c2) (most := most) (lim := lim) hi.2.1 hi.2.2.2 hiz.1 hiz.2.1 hiz.2.2 hz.1 hz.2.2.1 hz.2.1 hz.2.2.2 hl h2 hw hm ⟨by omega, by omega⟩ lim.toNat 0 fuel g2 (by omega) (by omega) (by unfold fuel; omega) (isD_eq D1 (by rw [k2 i hiz.1 hiz.2.1, k1 i hi.1 hi.2.1]) (by rw [k2 (i + 1) hiz.2.2 (by omega), k1 _ hi.2.2.1 hi.2.2.2])) (by rw [p0]; exact N2.1) (by rw [p1]; exact isB_eq B2 (k2 37 (fun w => hz.2.1 w.symm) (fun w => hz.2.2.2 w.symm))) (isB_eq B1 (k2 36 (fun w => hz.1 w.symm) (fun w => hz.2.2.1 w.symm)))
  exact ⟨g3, e3, D3, fun y y1 y2 y3 y4 => by rw [k3 y y2 y3 y4, k2 y y3 y4, k1 y y1 y2]⟩
/-- a quotient, rounded -/
def quS (n : Nat) (t u : Int × Nat × Int) : Nat := qT (n + 1) t.2.1 u.2.1 (nd u.2.1 + n + 2) 0
def quT (n : Nat) (t u : Int × Nat × Int) : Int × Nat × Int := rN n (nrm (t.1 * u.1) (pfx t.2.1 (quS n t u) / u.2.1) ((nd t.2.1 : Int) + t.2.2 - (quS n t u : Int) - u.2.2))
def stT (t : Int × Nat × Int) : Int × Nat × Int := (t.1, (strip t.2.1 t.2.2).1, (strip t.2.1 t.2.2).2)
theorem K_quot {i j z n : Nat} {t u : Int × Nat × Int} {h : Hp} (hi : i ≠ 36 ∧ i ≠ 37 ∧ i + 1 ≠ 36 ∧ i + 1 ≠ 37) (hj : j ≠ 36 ∧ j ≠ 37 ∧ j + 1 ≠ 36 ∧ j + 1 ≠ 37) (hz : z ≠ 36 ∧ z ≠ 37 ∧ z + 1 ≠ 36 ∧ z + 1 ≠ 37) (hiz : i ≠ z ∧ i ≠ z + 1 ∧ i + 1 ≠ z) (hjz : j ≠ z ∧ j ≠ z + 1 ∧ j + 1 ≠ z) (hl : il (z + 1) = 100) (h2 : 0 < u.2.1) (hn : 0 < n) (hn2 : n ≤ 40) (hw : nd u.2.1 ≤ 40) (N1 : isN h i t.1 t.2.1 t.2.2) (N2 : isN h j u.1 u.2.1 u.2.2) : ∃ h', f_K_quotient i j (iI (n : Int)) z h = some ((), h') ∧ isN h' z (stT (quT n t u)).1 (stT (quT n t u)).2.1 (stT (quT n t u)).2.2 ∧ ∀ y, y ≠ 36 → y ≠ 37 → y ≠ z → y ≠ z + 1 → h' y = h y := by
  unfold f_K_quotient
  obtain ⟨g1, e1, D1, k1⟩ := K_div (i := i) (j := j) (z := z) (most := n + 1) (lim := ((nd u.2.1 + n + 2 : Nat) : Int)) hi hj hz hiz hl h2 (by omega) (by omega) ⟨by omega, by omega⟩ N1.1 N2.1
  rw [Int.toNat_natCast] at e1 D1
  have e0 : ((h j 1) + iI (n : Int)) + 2 = iI ((nd u.2.1 + n + 2 : Nat) : Int) := by
    rw [N2.1.1, iI_add, show (2 : Int32) = iI 2 from rfl, iI_add]
    congr 1
  have N1' : isN g1 i t.1 t.2.1 t.2.2 := isN_eq N1 (k1 i hi.1 hi.2.1 hiz.1 hiz.2.1) (k1 (i + 1) hi.2.2.1 hi.2.2.2 hiz.2.2 (by omega))
  have N2' : isN g1 j u.1 u.2.1 u.2.2 := isN_eq N2 (k1 j hj.1 hj.2.1 hjz.1 hjz.2.1) (k1 (j + 1) hj.2.2.1 hj.2.2.2 hjz.2.2 (by omega))
  rw [e0, scN, bd_t e1, bd_t (N_ahead N1'), N1'.2.2, N2'.2.2, N2'.2.1, iI_mul, iI_sub, iI_sub]
  obtain ⟨g2, e2, N3, k2⟩ := N_settle (s := t.1 * u.1) (e := (nd t.2.1 : Int) + t.2.2 - (quS n t u : Int) - u.2.2) D1
  rw [bd_t (show f_N_settle z (iI (t.1 * u.1)) (iI ((nd t.2.1 : Int) + t.2.2 - (qT (n + 1) t.2.1 u.2.1 (nd u.2.1 + n + 2) 0 : Int) - u.2.2)) g1 = _ from e2)]
  obtain ⟨g3, e3, N4, k3⟩ := N_roundTo (isN_nrm N3) hn (by omega)
  rw [bd_t e3]
  obtain ⟨g4, e4, N5, k4⟩ := N_drop N4
  rw [bd_t e4]
  exact ⟨g4, rfl, N5, fun y y1 y2 y3 y4 => by rw [k4 y y3 y4, k3 y y3 y4, k2 y y3 y4, k1 y y1 y2 y3 y4]⟩
/-- the whole part of a quotient -/
def ptW (t u : Int × Nat × Int) : Nat := pfx t.2.1 ((nd t.2.1 : Int) + t.2.2 - u.2.2).toNat / u.2.1
theorem pfx_00 (T : Nat) : pfx 0 T = 0 := by
  unfold pfx
  split
  · rw [Nat.zero_div]
  · rw [Nat.zero_mul]
theorem K_part {i j z n : Nat} {t u : Int × Nat × Int} {h : Hp} (hi : i ≠ 36 ∧ i ≠ 37 ∧ i + 1 ≠ 36 ∧ i + 1 ≠ 37) (hj : j ≠ 36 ∧ j ≠ 37 ∧ j + 1 ≠ 36 ∧ j + 1 ≠ 37) (hz : z ≠ 36 ∧ z ≠ 37 ∧ z + 1 ≠ 36 ∧ z + 1 ≠ 37) (hiz : i ≠ z ∧ i ≠ z + 1 ∧ i + 1 ≠ z) (hjz : j ≠ z ∧ j ≠ z + 1 ∧ j + 1 ≠ z) (hl : il (z + 1) = 100) (h2 : 0 < u.2.1) (hn : 0 < n) (hn2 : n ≤ 20) (ot : okN 10000 20 t) (ou : okN 10000 20 u) (N1 : isN h i t.1 t.2.1 t.2.2) (N2 : isN h j u.1 u.2.1 u.2.2) : ∃ h', f_K_partOf i j (iI (n : Int)) z h = some (iI (if nd (ptW t u) ≤ n then 0 else 26), h') ∧ (nd (ptW t u) ≤ n → isN h' z (nrm (t.1 * u.1) (ptW t u) 0).1 (nrm (t.1 * u.1) (ptW t u) 0).2.1 (nrm (t.1 * u.1) (ptW t u) 0).2.2) ∧ ∀ y, y ≠ 36 → y ≠ 37 → y ≠ z → y ≠ z + 1 → h' y = h y := by
  obtain ⟨t1, t2, t3, t4, t5, t6⟩ := ot
  obtain ⟨u1, u2, u3, u4, u5, u6⟩ := ou
  unfold isS at t1
  unfold f_K_partOf
  obtain ⟨g1, e1, N3, k1⟩ := N_clear h z
  have N1' : isN g1 i t.1 t.2.1 t.2.2 := isN_eq N1 (k1 i hiz.1 hiz.2.1) (k1 (i + 1) hiz.2.2 (by omega))
  have N2' : isN g1 j u.1 u.2.1 u.2.2 := isN_eq N2 (k1 j hjz.1 hjz.2.1) (k1 (j + 1) hjz.2.2 (by omega))
  rw [bd_t e1, N1'.2.2]
  by_cases q : t.2.1 = 0
  · have W0 : ptW t u = 0 := by
      unfold ptW
      rw [q, pfx_00, Nat.zero_div]
    rw [if_pos (by rw [t2.mpr q]; rfl), W0, if_pos (by rw [nd_0]; omega)]
    exact ⟨g1, rfl, fun _ => N3, fun y _ _ y3 y4 => k1 y y3 y4⟩
  have s1 : t.1 ≠ 0 := fun a => q (t2.mp a)
  have hc : 0 < t.2.1 := by omega
  rw [if_neg (by rw [i0, iI_eq ⟨by omega, by omega⟩ ⟨by omega, by omega⟩]; exact s1), bd_t (N_ahead N1'), bd_t (N_ahead N2'), iI_sub]
  by_cases q2 : (nd t.2.1 : Int) + t.2.2 - ((nd u.2.1 : Int) + u.2.2) ≤ n
  · rw [if_pos (by rw [iI_le ⟨by omega, by omega⟩ ⟨by omega, by omega⟩]; exact q2), bd_t (N_ahead N1'), N2'.2.1, iI_sub, scN]
    obtain ⟨g2, e2, D2, k2⟩ := K_div (i := i) (j := j) (z := z) (most := n + 1) (lim := (nd t.2.1 : Int) + t.2.2 - u.2.2) hi hj hz hiz hl h2 (by omega) (by omega) ⟨by omega, by omega⟩ N1'.1 N2'.1
    rw [bd_t e2, k2 i hi.1 hi.2.1 hiz.1 hiz.2.1, k2 j hj.1 hj.2.1 hjz.1 hjz.2.1, N1'.2.2, N2'.2.2, iI_mul]
    obtain ⟨g3, e3, N4, k3⟩ := N_settle (s := t.1 * u.1) (e := 0) D2
    rw [bd_t (show f_N_settle z (iI (t.1 * u.1)) 0 g2 = _ from e3), N4.1.1]
    have fr : ∀ y, y ≠ 36 → y ≠ 37 → y ≠ z → y ≠ z + 1 → g3 y = h y := fun y y1 y2 y3 y4 => by rw [k3 y y3 y4, k2 y y1 y2 y3 y4, k1 y y3 y4]
    have hT := qT_le (n + 1) t.2.1 u.2.1 ((nd t.2.1 : Int) + t.2.2 - u.2.2).toNat 0
    have hS := qT_stop (most := n + 1) (c1 := t.2.1) (c2 := u.2.1) ((nd t.2.1 : Int) + t.2.2 - u.2.2).toNat 0
    have hb := N4.1.2.1
    rw [hl] at hb
    obtain ⟨T, eT⟩ : ∃ T, qT (n + 1) t.2.1 u.2.1 ((nd t.2.1 : Int) + t.2.2 - u.2.2).toNat 0 = T := ⟨_, rfl⟩
    rw [eT] at hT hS hb N4 ⊢
    rw [Nat.zero_add] at hT hS
    by_cases q3 : T = ((nd t.2.1 : Int) + t.2.2 - u.2.2).toNat
    · have eW : pfx t.2.1 T / u.2.1 = ptW t u := by rw [q3]; rfl
      rw [eW] at N4 hb ⊢
      by_cases q4 : nd (ptW t u) ≤ n
      · rw [if_pos (leN (by omega) (by omega) q4), if_pos q4]
        exact ⟨g3, rfl, fun _ => isN_nrm N4, fr⟩
      · rw [if_neg (nleN (by omega) (by omega) (by omega)), if_neg q4]
        exact ⟨g3, rfl, fun a => absurd a q4, fr⟩
    · have h5 := hS (by omega)
      have h6 : pfx t.2.1 T / u.2.1 ≤ ptW t u := by
        unfold ptW
        obtain ⟨k, hk⟩ : ∃ k, ((nd t.2.1 : Int) + t.2.2 - u.2.2).toNat = T + k := ⟨((nd t.2.1 : Int) + t.2.2 - u.2.2).toNat - T, by omega⟩
        rw [hk]
        apply Nat.div_le_div_right
        have := pfx_div (c := t.2.1) (T := T) k
        rw [← this]
        exact Nat.div_le_self _ _
      have h7 := nd_mono h6
      rw [if_neg (nleN (by omega) (by omega) (by omega)), if_neg (by omega)]
      exact ⟨g3, rfl, fun a => by omega, fr⟩
  · have h5 : n + 1 ≤ nd (ptW t u) := pfx_big hc h2 (by omega)
    rw [if_neg (by rw [iI_le ⟨by omega, by omega⟩ ⟨by omega, by omega⟩]; exact q2), if_neg (by omega)]
    exact ⟨g1, rfl, fun a => by omega, fun y _ _ y3 y4 => k1 y y3 y4⟩
/-- rounding never fails, whatever stands there -/
theorem N_any_loop : ∀ (m n : Nat) (h : Hp), m ≤ 100 → m < n → ∃ h', f_N_countUp_15 n 33 (iI ((m : Int) - 1)) h = some ((), h') ∧ kp h h' 33 34 := by
  have c43 : ∀ (z : Int) (h : Hp), -1 ≤ z → z < 100 → ∃ h', f_N_countUp_43 33 (iI z) h = some ((), h') ∧ kp h h' 33 34 := by
    intro z h h1 h2
    unfold f_N_countUp_43
    by_cases q : z < 0
    · rw [if_pos (by rw [i0, iI_lt ⟨by omega, by omega⟩ ⟨by omega, by omega⟩]; exact q), chk_t (show inR 0 (il (33 + 1)) from iI_inR (a := 0) (n := 100) (by omega) (by omega) (by omega))]
      refine ⟨_, rfl, fun j a b => ?_⟩
      rw [up2_ne _ _ _ a, up2_ne _ _ _ b]
    · rw [if_neg (by rw [i0, iI_lt ⟨by omega, by omega⟩ ⟨by omega, by omega⟩]; exact q), chk_t (show inR (iI z) (il (33 + 1)) from iI_inR (n := 100) (by omega) (by omega) (by omega)), chk_t (show inR (iI z) (il (33 + 1)) from iI_inR (n := 100) (by omega) (by omega) (by omega))]
      refine ⟨_, rfl, fun j a b => ?_⟩
      rw [up2_ne _ _ _ b]
  intro m
  induction m with
  | zero =>
    intro n h hm hn
    obtain ⟨n, rfl⟩ : ∃ q, n = q + 1 := ⟨n - 1, by omega⟩
    rw [f_N_countUp_15, if_pos (by rw [i0, iI_lt ⟨by omega, by omega⟩ ⟨by omega, by omega⟩]; omega)]
    exact c43 _ h (by omega) (by omega)
  | succ m ih =>
    intro n h hm hn
    obtain ⟨n, rfl⟩ : ∃ q, n = q + 1 := ⟨n - 1, by omega⟩
    have em : ((m + 1 : Nat) : Int) - 1 = (m : Int) := by omega
    have ir : inR (iI (m : Int)) (il (33 + 1)) := iI_inR (n := 100) (by omega) (by omega) (by omega)
    rw [f_N_countUp_15, em, if_neg (by rw [i0, iI_lt ⟨by omega, by omega⟩ ⟨by omega, by omega⟩]; omega), chk_t ir]
    by_cases q : h (33 + 1) (Int32.toNatClampNeg (iI (m : Int))) = 9
    · rw [if_pos q, chk_t ir, im1, iI_add]
      obtain ⟨h1, e1, k1⟩ := ih n (up2 h (33 + 1) (Int32.toNatClampNeg (iI (m : Int))) 0) (by omega) (by omega)
      exact ⟨h1, e1, fun j a b => by rw [k1 j a b, up2_ne _ _ _ b]⟩
    · rw [if_neg q]
      exact c43 _ h (by omega) (by omega)
theorem N_any {h : Hp} {n : Nat} (hn : 0 < n) (hn2 : n ≤ 20) : ∃ h', f_N_roundTo 33 (iI (n : Int)) h = some ((), h') ∧ kp h h' 33 34 := by
  unfold f_N_roundTo
  rw [if_neg (by rw [i1, iI_lt ⟨by omega, by omega⟩ ⟨by omega, by omega⟩]; omega)]
  have t28 : ∀ s0 : Int32, ∃ h', f_N_roundTo_28 33 (iI (n : Int)) s0 h = some ((), h') ∧ kp h h' 33 34 := by
    intro s0
    unfold f_N_roundTo_28
    by_cases q : s0 = 0
    · rw [if_pos q]
      refine ⟨_, rfl, fun j a b => ?_⟩
      rw [up2_ne _ _ _ a, up2_ne _ _ _ a]
    · rw [if_neg q]
      unfold f_N_countUp
      rw [up2_s, show il (33 + 1) = 100 from rfl, iI_ofNat, if_neg (by rw [iI_lt ⟨by omega, by omega⟩ ⟨by omega, by omega⟩]; omega), i1, iI_sub]
      obtain ⟨h1, e1, k1⟩ := N_any_loop n fuel (up2 (up2 h 33 2 ((h 33 2) + ((h 33 1) - iI (n : Int)))) 33 1 (iI (n : Int))) (by omega) (by unfold fuel; omega)
      rw [bd_t e1]
      exact ⟨h1, rfl, fun j a b => by rw [k1 j a b, up2_ne _ _ _ a, up2_ne _ _ _ a]⟩
  by_cases q : iI (n : Int) < h 33 1
  · rw [if_pos q]
    have dg : ∃ d, f_N_digit 33 (iI (n : Int)) h = some (d, h) := by
      unfold f_N_digit
      by_cases a : iI (n : Int) < 0
      · rw [if_pos a]
        exact ⟨_, rfl⟩
      · rw [if_neg a]
        by_cases b : h 33 1 ≤ iI (n : Int)
        · rw [if_pos b]
          exact ⟨_, rfl⟩
        · rw [if_neg b]
          by_cases c : iI (n : Int) < Int32.ofNat (il (33 + 1))
          · rw [if_pos c, chk_t (show inR (iI (n : Int)) (il (33 + 1)) from iI_inR (n := 100) (by omega) (by omega) (by omega))]
            exact ⟨_, rfl⟩
          · rw [if_neg c]
            exact ⟨_, rfl⟩
    obtain ⟨d, ed⟩ := dg
    rw [bd_t ed]
    split
    · exact t28 0
    · exact t28 1
  · rw [if_neg q]
    exact ⟨h, rfl, kp_r _ _ _⟩
end
section
/-! PURE 25: the reference's long division -/
def kd (h h' : Hp) (z : Nat) : Prop := (∀ j, j ≠ 50 → j ≠ 51 → j ≠ 52 → j ≠ 53 → j ≠ 54 → h' j = h j) ∧ (∀ k, k ≠ z → h' 51 k = h 51 k ∧ h' 52 k = h 52 k ∧ h' 53 k = h 53 k) ∧ ∀ q, q < 2600 * z ∨ 2600 * z + 2600 ≤ q → h' 50 q = h 50 q
theorem kd_km {h h' : Hp} {z : Nat} (x : km h h' z) : kd h h' z := ⟨fun j a b c d _ => x.1 j a b c d, x.2.1, x.2.2⟩
theorem kd_r (h : Hp) (z : Nat) : kd h h z := kd_km (km_r h z)
theorem kd_t {h h1 h2 : Hp} {z : Nat} (x : kd h h1 z) (y : kd h1 h2 z) : kd h h2 z := ⟨fun j a b c d e => (y.1 j a b c d e).trans (x.1 j a b c d e), fun k hk => ⟨(y.2.1 k hk).1.trans (x.2.1 k hk).1, (y.2.1 k hk).2.1.trans (x.2.1 k hk).2.1, (y.2.1 k hk).2.2.trans (x.2.1 k hk).2.2⟩, fun q hq => (y.2.2 q hq).trans (x.2.2 q hq)⟩
theorem kd_f {h h' : Hp} {z : Nat} (x : ∀ y, y ≠ 54 → h' y = h y) : kd h h' z := ⟨fun j _ _ _ _ e => x j e, fun k _ => ⟨by rw [x 51 (by omega)], by rw [x 52 (by omega)], by rw [x 53 (by omega)]⟩, fun q _ => by rw [x 50 (by omega)]⟩
theorem isM_kd {h h' : Hp} {z y c : Nat} {s e : Int} (hy : y ≠ z) (H : isM h y s c e) (k : kd h h' z) : isM h' y s c e := by
  obtain ⟨h1, h2, h3, h4, h5⟩ := H
  have a := k.2.1 y hy
  exact ⟨a.1.trans h1, a.2.1.trans h2, a.2.2.trans h3, h4, fun q hq => by rw [k.2.2 _ (by omega)]; exact h5 q hq⟩
theorem isM_54 {h h' : Hp} {y c : Nat} {s e : Int} (H : isM h y s c e) (k : ∀ y, y ≠ 54 → h' y = h y) : isM h' y s c e := by
  obtain ⟨h1, h2, h3, h4, h5⟩ := H
  exact ⟨by rw [k 51 (by omega)]; exact h1, by rw [k 52 (by omega)]; exact h2, by rw [k 53 (by omega)]; exact h3, h4, fun q hq => by rw [k 50 (by omega)]; exact h5 q hq⟩
theorem fw_kd {h h' : Hp} {z : Nat} (x : kd h h' z) : fw h h' := ⟨fun j a b => x.1 j (by omega) (by omega) (by omega) (by omega) (by omega), fun k _ => by rw [x.1 46 (by omega) (by omega) (by omega) (by omega) (by omega)]⟩
theorem in300 {n : Nat} (h : n < 300) : inR (iI (n : Int)) 300 := iI_inR (by omega) (by omega) (by omega)
-- ===== is it enough? =====
theorem M_en_loop {y L : Nat} {u : Int × Nat × Int} {h : Hp} (hy : y < 5) (hu : 0 < u.2.1) (hw : nd u.2.1 ≤ 60) (M : isM h y u.1 u.2.1 u.2.2) (B : isB h 54 (nd u.2.1 + 1) L) : ∀ (m k n : Nat), k + m = nd u.2.1 → m < n → f_M_isEnough_13 n (iI (y : Int)) (iI (k : Int)) h = some (iI (if cmpF L u.2.1 m < 0 then 0 else 1), h) := by
  have mu := mn_c hu
  intro m
  induction m with
  | zero =>
    intro k n hk hn
    obtain ⟨n, rfl⟩ : ∃ q, n = q + 1 := ⟨n - 1, by omega⟩
    rw [f_M_isEnough_13, chk_t (inz hy), clz hy, M.1, mu, if_pos (leN (by omega) (by omega) (by omega)), if_neg (show ¬ cmpF _ _ 0 < 0 from fun z => absurd (show (0 : Int) < 0 from z) (by decide))]
    rfl
  | succ m ih =>
    intro k n hk hn
    obtain ⟨n, rfl⟩ : ∃ q, n = q + 1 := ⟨n - 1, by omega⟩
    have a := Nat.mod_lt (L / 10 ^ m) (show 10 > 0 by decide)
    have b := Nat.mod_lt (u.2.1 / 10 ^ m) (show 10 > 0 by decide)
    have x1 : dg L (nd u.2.1 + 1) (k + 1) = L / 10 ^ m % 10 := by rw [dg_top (by omega), show nd u.2.1 + 1 - (k + 1 + 1) = m by omega]
    have y1 : dg u.2.1 (mn u.2.1) k = u.2.1 / 10 ^ m % 10 := by rw [mu, dg_top (by omega), show nd u.2.1 - (k + 1) = m by omega]
    have ch1 : ∀ {β : Type} (X : Option β), chk (inR (iI ((k + 1 : Nat) : Int)) 300) X = X := fun X => chk_t (in300 (by omega))
    have ch2 : ∀ {β : Type} (X : Option β), chk (inR (iI ((2600 * y + k : Nat) : Int)) 13000) X = X := fun X => chk_t (ixR hy (by omega))
    rw [f_M_isEnough_13, chk_t (inz hy), clz hy, M.1, mu, if_neg (nleN (by omega) (by omega) (by omega)), scN, ixN]
    simp only [ch1, ch2]
    rw [clN (n := k + 1) (by omega), clN (n := 2600 * y + k) (by omega), B.2 (k + 1) (by omega), M.2.2.2.2 k (by omega), x1, y1]
    by_cases q : L / 10 ^ m % 10 = u.2.1 / 10 ^ m % 10
    · have ec : cmpF L u.2.1 (m + 1) = cmpF L u.2.1 m := if_pos q
      rw [if_pos (by rw [q]), ec]
      exact ih (k + 1) n (by omega) (by omega)
    · have ec : cmpF L u.2.1 (m + 1) = ((L / 10 ^ m % 10 : Nat) : Int) - ((u.2.1 / 10 ^ m % 10 : Nat) : Int) := if_neg q
      rw [if_neg (by rw [iI_eq ⟨by omega, by omega⟩ ⟨by omega, by omega⟩]; omega), ec]
      by_cases z : ((L / 10 ^ m % 10 : Nat) : Int) - ((u.2.1 / 10 ^ m % 10 : Nat) : Int) < 0
      · rw [if_pos (leN (by omega) (by omega) (by omega)), if_pos z]
        rfl
      · rw [if_neg (nleN (by omega) (by omega) (by omega)), if_neg z]
        rfl
theorem M_en {y L : Nat} {u : Int × Nat × Int} {h : Hp} (hy : y < 5) (hu : 0 < u.2.1) (hw : nd u.2.1 ≤ 60) (M : isM h y u.1 u.2.1 u.2.2) (B : isB h 54 (nd u.2.1 + 1) L) : f_M_isEnough (iI (y : Int)) h = some (iI (if L < u.2.1 then 0 else 1), h) := by
  have P : 10 ^ (nd u.2.1 + 1) = 10 ^ nd u.2.1 * 10 := Nat.pow_succ _ _
  have d0 : dg L (nd u.2.1 + 1) 0 = L / 10 ^ nd u.2.1 := by
    unfold dg
    rw [show nd u.2.1 + 1 - 1 - 0 = nd u.2.1 by omega]
    exact Nat.mod_eq_of_lt (Nat.div_lt_of_lt_mul (by rw [← P]; exact B.1))
  have dl := dg_lt L (nd u.2.1 + 1) 0
  have nl := nd_lt u.2.1
  have e0 : h 54 0 = iI (dg L (nd u.2.1 + 1) 0 : Int) := B.2 0 (by omega)
  unfold f_M_isEnough
  rw [chk_t (show inR 0 300 from iI_inR (a := 0) (by omega) (by omega) (by omega)), show Int32.toNatClampNeg 0 = 0 from rfl, e0]
  by_cases q : L < 10 ^ nd u.2.1
  · have z : dg L (nd u.2.1 + 1) 0 = 0 := by rw [d0, Nat.div_eq_of_lt q]
    rw [if_pos (by rw [z]; decide)]
    have c := cmpF_lt (X := L) (Y := u.2.1) (nd u.2.1) (by rw [Nat.div_eq_of_lt q, Nat.div_eq_of_lt nl])
    have l := M_en_loop hy hu hw M B (nd u.2.1) 0 fuel (by omega) (by unfold fuel; omega)
    rw [ifq c] at l
    exact l
  · have z : 0 < dg L (nd u.2.1 + 1) 0 := by
      rw [d0]
      exact Nat.div_pos (by omega) (p10 _)
    rw [if_neg (by rw [i0, iI_le ⟨by omega, by omega⟩ ⟨by omega, by omega⟩]; omega), if_neg (by omega)]
    rfl
-- ===== take away once =====
theorem M_sub_loop {y A : Nat} {u : Int × Nat × Int} {v1 v3 v4 v5 v6 v7 : Int32} {k137 : Int32 → Int32 → Int32 → Int32 → Int32 → Int32 → Int32 → Hp → Option (Unit × Hp)} (hy : y < 5) (hu : 0 < u.2.1) (hw : nd u.2.1 ≤ 60) (hAB : u.2.1 ≤ A) (hA : A < 10 ^ (nd u.2.1 + 1)) : ∀ (m k n : Nat) (h : Hp), k + m = nd u.2.1 + 1 → m < n → isM h y u.1 u.2.1 u.2.2 → (∀ q, q < m → h 54 q = iI (dg A (nd u.2.1 + 1) q : Int)) → (∀ q, m ≤ q → q < nd u.2.1 + 1 → h 54 q = iI (dg (A - u.2.1) (nd u.2.1 + 1) q : Int)) → ∃ h', f_M_divide_156 k137 n v1 (iI (y : Int)) v3 v4 v5 v6 v7 (iI (cyF A u.2.1 (-1) k)) (iI ((m : Int) - 1)) h = k137 v1 (iI (y : Int)) v3 v4 v5 v6 (v7 + 1) h' ∧ (∀ q, q < nd u.2.1 + 1 → h' 54 q = iI (dg (A - u.2.1) (nd u.2.1 + 1) q : Int)) ∧ ∀ y, y ≠ 54 → h' y = h y := by
  have mu := mn_c hu
  have hg : (-1 : Int) = 1 ∨ (-1 : Int) = -1 := Or.inr rfl
  intro m
  induction m with
  | zero =>
    intro k n h hk hn M F1 F3
    obtain ⟨n, rfl⟩ : ∃ q, n = q + 1 := ⟨n - 1, by omega⟩
    rw [f_M_divide_156, if_pos (by rw [i0, iI_lt ⟨by omega, by omega⟩ ⟨by omega, by omega⟩]; omega)]
    exact ⟨h, rfl, fun q hq => F3 q (by omega) hq, fun _ _ => rfl⟩
  | succ m ih =>
    intro k n h hk hn M F1 F3
    obtain ⟨n, rfl⟩ : ∃ q, n = q + 1 := ⟨n - 1, by omega⟩
    have em : ((m + 1 : Nat) : Int) - 1 = (m : Int) := by omega
    have cb := cyF_b (X := A) (Y := u.2.1) hg k
    have hd := dgF_p (X := A) (Y := u.2.1) hg k
    have hs := cyF_s A u.2.1 (-1) k
    have x1 : dg A (nd u.2.1 + 1) m = A / 10 ^ k % 10 := by rw [dg_top (by omega), show nd u.2.1 + 1 - (m + 1) = k by omega]
    have ed : dgF A u.2.1 (-1) k = dg (A - u.2.1) (nd u.2.1 + 1) m := by
      rw [dgF_dg hAB hA (by omega), show nd u.2.1 + 1 - 1 - k = m by omega]
    have go : ∀ (s0 : Int32), s0 = iI (cyF A u.2.1 (-1) (k + 1)) → ∃ h', f_M_divide_208 (fun v1 v2 v3 v4 v5 v6 v7 v8 v9 h => f_M_divide_156 k137 n v1 v2 v3 v4 v5 v6 v7 v8 v9 h) v1 (iI (y : Int)) v3 v4 v5 v6 v7 (iI (m : Int)) (iI (rkF A u.2.1 (-1) k)) s0 h = k137 v1 (iI (y : Int)) v3 v4 v5 v6 (v7 + 1) h' ∧ (∀ q, q < nd u.2.1 + 1 → h' 54 q = iI (dg (A - u.2.1) (nd u.2.1 + 1) q : Int)) ∧ ∀ y, y ≠ 54 → h' y = h y := by
      intro s0 e0
      have dd : ∀ v : Int32, v = iI (dg (A - u.2.1) (nd u.2.1 + 1) m : Int) → ∃ h', chk (inR (iI (m : Int)) 300) (f_M_divide_156 k137 n v1 (iI (y : Int)) v3 v4 v5 v6 v7 s0 (iI (m : Int) + (-1)) (up2 h 54 (Int32.toNatClampNeg (iI (m : Int))) v)) = k137 v1 (iI (y : Int)) v3 v4 v5 v6 (v7 + 1) h' ∧ (∀ q, q < nd u.2.1 + 1 → h' 54 q = iI (dg (A - u.2.1) (nd u.2.1 + 1) q : Int)) ∧ ∀ y, y ≠ 54 → h' y = h y := by
        intro v ev
        rw [chk_t (in300 (by omega)), clN (by omega), im1, iI_add, show (m : Int) + -1 = (m : Int) - 1 by omega, e0, ev]
        obtain ⟨h', e', a', b'⟩ := ih (k + 1) n (up2 h 54 m (iI (dg (A - u.2.1) (nd u.2.1 + 1) m : Int))) (by omega) (by omega) (isM_54 M (fun y hy => up2_ne _ _ _ hy)) (fun q hq => by rw [up2_k _ _ _ (by omega)]; exact F1 q (by omega)) (fun q h1 h2 => by
          by_cases z : q = m
          · rw [z, up2_s]
          · rw [up2_k _ _ _ z]
            exact F3 q (by omega) h2)
        exact ⟨h', e', a', fun y hy => by rw [b' y hy, up2_ne _ _ _ hy]⟩
      unfold f_M_divide_208
      by_cases q : rkF A u.2.1 (-1) k < 0
      · rw [if_pos q] at hs
        rw [if_neg (by rw [i0, iI_le ⟨by omega, by omega⟩ ⟨by omega, by omega⟩]; omega)]
        exact dd _ (by rw [← ed, show (10 : Int32) = iI 10 from rfl, iI_add, hd.1, hs]; congr 1)
      · rw [if_neg q, if_pos (by omega)] at hs
        rw [if_pos (by rw [i0, iI_le ⟨by omega, by omega⟩ ⟨by omega, by omega⟩]; omega)]
        exact dd _ (by rw [← ed, hd.1, hs]; congr 1; omega)
    have fin : ∃ h', (if 0 ≤ iI (rkF A u.2.1 (-1) k) then f_M_divide_208 (fun v1 v2 v3 v4 v5 v6 v7 v8 v9 h => f_M_divide_156 k137 n v1 v2 v3 v4 v5 v6 v7 v8 v9 h) v1 (iI (y : Int)) v3 v4 v5 v6 v7 (iI (m : Int)) (iI (rkF A u.2.1 (-1) k)) 0 h else f_M_divide_208 (fun v1 v2 v3 v4 v5 v6 v7 v8 v9 h => f_M_divide_156 k137 n v1 v2 v3 v4 v5 v6 v7 v8 v9 h) v1 (iI (y : Int)) v3 v4 v5 v6 v7 (iI (m : Int)) (iI (rkF A u.2.1 (-1) k)) (-1) h) = k137 v1 (iI (y : Int)) v3 v4 v5 v6 (v7 + 1) h' ∧ (∀ q, q < nd u.2.1 + 1 → h' 54 q = iI (dg (A - u.2.1) (nd u.2.1 + 1) q : Int)) ∧ ∀ y, y ≠ 54 → h' y = h y := by
      by_cases q : rkF A u.2.1 (-1) k < 0
      · rw [if_neg (by rw [i0, iI_le ⟨by omega, by omega⟩ ⟨by omega, by omega⟩]; omega)]
        exact go _ (by rw [hs, if_pos q, im1])
      · rw [if_pos (by rw [i0, iI_le ⟨by omega, by omega⟩ ⟨by omega, by omega⟩]; omega)]
        exact go _ (by rw [hs, if_neg q, if_pos (by omega)]; rfl)
    rw [f_M_divide_156, em, if_neg (by rw [i0, iI_lt ⟨by omega, by omega⟩ ⟨by omega, by omega⟩]; omega), chk_t (in300 (by omega)), clN (n := m) (by omega), F1 m (by omega), x1, iI_add]
    by_cases m0 : m = 0
    · have y1 : u.2.1 / 10 ^ k % 10 = 0 := by
        rw [Nat.div_eq_of_lt (Nat.lt_of_lt_of_le (nd_lt u.2.1) (Nat.pow_le_pow_right (by decide) (by omega)))]
      rw [if_pos (by rw [i0, iI_le ⟨by omega, by omega⟩ ⟨by omega, by omega⟩]; omega), Int32.sub_zero, show ((A / 10 ^ k % 10 : Nat) : Int) + cyF A u.2.1 (-1) k = rkF A u.2.1 (-1) k by unfold rkF; rw [y1]; omega]
      exact fin
    · have y1 : dg u.2.1 (mn u.2.1) (m - 1) = u.2.1 / 10 ^ k % 10 := by rw [mu, dg_top (by omega), show nd u.2.1 - (m - 1 + 1) = k by omega]
      have ix : ((2600 * iI (y : Int)) + iI (m : Int)) - 1 = iI ((2600 * y + (m - 1) : Nat) : Int) := by
        rw [show (2600 : Int32) = iI 2600 from rfl, iI_mul, iI_add, i1, iI_sub]
        congr 1
        omega
      rw [if_neg (by rw [i0, iI_le ⟨by omega, by omega⟩ ⟨by omega, by omega⟩]; omega), ix, chk_t (ixR hy (by omega)), clN (n := 2600 * y + (m - 1)) (by omega), M.2.2.2.2 (m - 1) (by omega), y1, iI_sub, show ((A / 10 ^ k % 10 : Nat) : Int) + cyF A u.2.1 (-1) k - ((u.2.1 / 10 ^ k % 10 : Nat) : Int) = rkF A u.2.1 (-1) k by unfold rkF; omega]
      exact fin
theorem M_all_loop {y : Nat} {u : Int × Nat × Int} {v1 v3 v4 v5 v6 : Int32} {k50 : Int32 → Int32 → Int32 → Int32 → Int32 → Int32 → Hp → Option (Unit × Hp)} (hy : y < 5) (hu : 0 < u.2.1) (hw : nd u.2.1 ≤ 60) : ∀ (m k n A : Nat) (h : Hp), m < n → A < u.2.1 * (m + 1) → isM h y u.1 u.2.1 u.2.2 → isB h 54 (nd u.2.1 + 1) A → ∃ h', f_M_divide_137 k50 n v1 (iI (y : Int)) v3 v4 v5 v6 (iI (k : Int)) h = (if v5 = 0 then if iI ((k + A / u.2.1 : Nat) : Int) = 0 then k50 v1 (iI (y : Int)) v3 v4 v5 v6 h' else f_M_divide_257 k50 v1 (iI (y : Int)) v3 v4 v5 v6 (iI ((k + A / u.2.1 : Nat) : Int)) h' else f_M_divide_257 k50 v1 (iI (y : Int)) v3 v4 v5 v6 (iI ((k + A / u.2.1 : Nat) : Int)) h') ∧ isB h' 54 (nd u.2.1 + 1) (A % u.2.1) ∧ ∀ y, y ≠ 54 → h' y = h y := by
  have mu := mn_c hu
  have small : ∀ (k n A : Nat) (h : Hp), 0 < n → A < u.2.1 → isM h y u.1 u.2.1 u.2.2 → isB h 54 (nd u.2.1 + 1) A → ∃ h', f_M_divide_137 k50 n v1 (iI (y : Int)) v3 v4 v5 v6 (iI (k : Int)) h = (if v5 = 0 then if iI ((k + A / u.2.1 : Nat) : Int) = 0 then k50 v1 (iI (y : Int)) v3 v4 v5 v6 h' else f_M_divide_257 k50 v1 (iI (y : Int)) v3 v4 v5 v6 (iI ((k + A / u.2.1 : Nat) : Int)) h' else f_M_divide_257 k50 v1 (iI (y : Int)) v3 v4 v5 v6 (iI ((k + A / u.2.1 : Nat) : Int)) h') ∧ isB h' 54 (nd u.2.1 + 1) (A % u.2.1) ∧ ∀ y, y ≠ 54 → h' y = h y := by
    intro k n A h hn hA M B
    obtain ⟨n, rfl⟩ : ∃ q, n = q + 1 := ⟨n - 1, by omega⟩
    rw [f_M_divide_137, bd_t (M_en hy hu hw M B), if_pos (by rw [if_pos hA]; rfl), Nat.div_eq_of_lt hA, Nat.mod_eq_of_lt hA, Nat.add_zero]
    exact ⟨h, rfl, B, fun _ _ => rfl⟩
  intro m
  induction m with
  | zero =>
    intro k n A h hn hA M B
    rw [Nat.zero_add, Nat.mul_one] at hA
    exact small k n A h (by omega) hA M B
  | succ m ih =>
    intro k n A h hn hA M B
    by_cases q : A < u.2.1
    · exact small k n A h (by omega) q M B
    · obtain ⟨n, rfl⟩ : ∃ q, n = q + 1 := ⟨n - 1, by omega⟩
      rw [f_M_divide_137, bd_t (M_en hy hu hw M B), if_neg (by rw [if_neg q]; decide), chk_t (inz hy), clz hy, M.1, mu]
      obtain ⟨h1, e1, F1, k1⟩ := M_sub_loop (y := y) (A := A) (u := u) (v1 := v1) (v3 := v3) (v4 := v4) (v5 := v5) (v6 := v6) (v7 := iI (k : Int)) (k137 := fun v1 v2 v3 v4 v5 v6 v7 h => f_M_divide_137 k50 n v1 v2 v3 v4 v5 v6 v7 h) hy hu hw (by omega) B.1 (nd u.2.1 + 1) 0 fuel h (by omega) (by unfold fuel; omega) M (fun q hq => B.2 q hq) (fun q h1 h2 => by omega)
      have e1 : f_M_divide_156 (fun v1 v2 v3 v4 v5 v6 v7 h => f_M_divide_137 k50 n v1 v2 v3 v4 v5 v6 v7 h) fuel v1 (iI (y : Int)) v3 v4 v5 v6 (iI (k : Int)) 0 (iI (nd u.2.1 : Int)) h = f_M_divide_137 k50 n v1 (iI (y : Int)) v3 v4 v5 v6 (iI (k : Int) + 1) h1 := by
        rw [show ((nd u.2.1 + 1 : Nat) : Int) - 1 = (nd u.2.1 : Int) by omega] at e1
        exact e1
      rw [e1, scN]
      have e2 : u.2.1 * (m + 1 + 1) = u.2.1 * (m + 1) + u.2.1 := Nat.mul_succ _ _
      obtain ⟨h2, e3, B4, k2⟩ := ih (k + 1) n (A - u.2.1) h1 (by omega) (by omega) (isM_54 M k1) ⟨Nat.lt_of_le_of_lt (Nat.sub_le _ _) B.1, F1⟩
      have d1 : A / u.2.1 = (A - u.2.1) / u.2.1 + 1 := by
        rw [Nat.div_eq A u.2.1, if_pos ⟨hu, by omega⟩]
      have d2 : A % u.2.1 = (A - u.2.1) % u.2.1 := Nat.mod_eq_sub_mod (by omega)
      rw [d1, d2, show k + ((A - u.2.1) / u.2.1 + 1) = k + 1 + (A - u.2.1) / u.2.1 by omega]
      exact ⟨h2, e3, B4, fun y hy => by rw [k2 y hy, k1 y hy]⟩
theorem M_down_loop {x y A T : Nat} {t u : Int × Nat × Int} {v3 v4 v5 : Int32} {k50 : Int32 → Int32 → Int32 → Int32 → Int32 → Int32 → Hp → Option (Unit × Hp)} (hx : x < 5) (hy : y < 5) (ht : 0 < t.2.1) (hu : 0 < u.2.1) (hw : nd u.2.1 ≤ 60) (hwt : nd t.2.1 ≤ 2600) (hT : T ≤ 100000) : ∀ (m k n : Nat) (h : Hp), k + m = nd u.2.1 → m < n → isM h x t.1 t.2.1 t.2.2 → isM h y u.1 u.2.1 u.2.2 → (∀ q, q < nd u.2.1 + 1 → h 54 q = iI ((if q < k then dg A (nd u.2.1 + 1) (q + 1) else dg A (nd u.2.1 + 1) q : Nat) : Int)) → ∃ h', f_M_divide_59 k50 n (iI (x : Int)) (iI (y : Int)) v3 v4 v5 (iI (T : Int)) (iI (k : Int)) h = f_M_divide_137 k50 fuel (iI (x : Int)) (iI (y : Int)) v3 v4 v5 (iI ((T + 1 : Nat) : Int)) 0 h' ∧ (∀ q, q < nd u.2.1 + 1 → h' 54 q = iI ((if q < nd u.2.1 then dg A (nd u.2.1 + 1) (q + 1) else dz t.2.1 (T : Int) : Nat) : Int)) ∧ ∀ y, y ≠ 54 → h' y = h y := by
  have mu := mn_c hu
  have mt := mn_c ht
  intro m
  induction m with
  | zero =>
    intro k n h hk hn M1 M2 F
    obtain ⟨n, rfl⟩ : ∃ q, n = q + 1 := ⟨n - 1, by omega⟩
    rw [f_M_divide_59]
    simp only [chk_t (inz hy), chk_t (inz hx), clz hy, clz hx, M2.1, M1.1, mu, mt]
    rw [if_pos (leN (by omega) (by omega) (by omega)), scN]
    have ch : ∀ {β : Type} (X : Option β), chk (inR (iI (nd u.2.1 : Int)) 300) X = X := fun X => chk_t (in300 (by omega))
    have fin : ∀ v : Int32, v = iI (dz t.2.1 (T : Int) : Int) → (∀ q, q < nd u.2.1 + 1 → (up2 h 54 (nd u.2.1) v) 54 q = iI ((if q < nd u.2.1 then dg A (nd u.2.1 + 1) (q + 1) else dz t.2.1 (T : Int) : Nat) : Int)) ∧ ∀ y, y ≠ 54 → (up2 h 54 (nd u.2.1) v) y = h y := fun v ev => ⟨fun q hq => by
      by_cases z : q = nd u.2.1
      · rw [z, up2_s, if_neg (by omega), ev]
      · rw [up2_k _ _ _ z, F q hq, if_pos (by omega), if_pos (by omega)], fun y hy => up2_ne _ _ _ hy⟩
    by_cases q : nd t.2.1 ≤ T
    · rw [if_pos (leN (by omega) (by omega) q), ch, clN (n := nd u.2.1) (by omega)]
      refine ⟨_, rfl, fin 0 ?_⟩
      have : dz t.2.1 (T : Int) = 0 := if_neg (by omega)
      rw [this]
      rfl
    · rw [if_neg (nleN (by omega) (by omega) (by omega)), ixN, chk_t (ixR hx (by omega)), ch, clN (n := nd u.2.1) (by omega), clN (n := 2600 * x + T) (by omega), M1.2.2.2.2 T (by omega)]
      refine ⟨_, rfl, fin _ ?_⟩
      have : dz t.2.1 (T : Int) = dg t.2.1 (nd t.2.1) (T : Int).toNat := if_pos (by omega)
      rw [this, mt, Int.toNat_natCast]
  | succ m ih =>
    intro k n h hk hn M1 M2 F
    obtain ⟨n, rfl⟩ : ∃ q, n = q + 1 := ⟨n - 1, by omega⟩
    rw [f_M_divide_59]
    simp only [chk_t (inz hy), chk_t (inz hx), clz hy, clz hx, M2.1, M1.1, mu, mt]
    rw [if_neg (nleN (by omega) (by omega) (by omega)), scN, chk_t (in300 (by omega)), chk_t (in300 (by omega)), clN (n := k) (by omega), clN (n := k + 1) (by omega), F (k + 1) (by omega), if_neg (by omega)]
    have k0 : ∀ y, y ≠ 54 → (up2 h 54 k (iI (dg A (nd u.2.1 + 1) (k + 1) : Int))) y = h y := fun y hy => up2_ne _ _ _ hy
    obtain ⟨h', e', a', b'⟩ := ih (k + 1) n (up2 h 54 k (iI (dg A (nd u.2.1 + 1) (k + 1) : Int))) (by omega) (by omega) (isM_54 M1 k0) (isM_54 M2 k0) (fun q hq => by
      by_cases z : q = k
      · rw [z, up2_s, if_pos (by omega)]
      · rw [up2_k _ _ _ z, F q hq]
        by_cases w : q < k
        · rw [if_pos w, if_pos (by omega)]
        · rw [if_neg w, if_neg (by omega)])
    exact ⟨h', e', a', fun y hy => by rw [b' y hy, k0 y hy]⟩
theorem isB_down {h : Hp} {w A d : Nat} (hw0 : 0 < w) (hd : d < 10) (hA : A < 10 ^ (w - 1)) (F : ∀ q, q < w → h 54 q = iI ((if q < w - 1 then dg A w (q + 1) else d : Nat) : Int)) : isB h 54 w (10 * A + d) := by
  have P : 10 ^ w = 10 ^ (w - 1) * 10 := by
    rw [← Nat.pow_succ]
    congr 1
    omega
  refine ⟨by omega, fun k hk => ?_⟩
  rw [F k hk]
  congr 2
  by_cases z : k < w - 1
  · rw [if_pos z]
    unfold dg
    rw [show w - 1 - k = (w - 1 - (k + 1)) + 1 by omega, Nat.pow_succ', ← Nat.div_div_eq_div_mul, Nat.mul_add_div (by decide), Nat.div_eq_of_lt hd]
    rfl
  · rw [if_neg z]
    unfold dg
    rw [show w - 1 - k = 0 by omega, Nat.pow_zero, Nat.div_one]
    omega
end
section
/-! PURE 26: the reference's quotient and part -/
def qu0 (n : Nat) (t u : Int × Nat × Int) : Int × Nat × Int := nrm (t.1 * u.1) (pfx t.2.1 (quS n t u) / u.2.1) ((nd t.2.1 : Int) + t.2.2 - (quS n t u : Int) - u.2.2)
theorem quT_eq (n : Nat) (t u : Int × Nat × Int) : quT n t u = rN n (qu0 n t u) := rfl
theorem quS_nd {n : Nat} {t u : Int × Nat × Int} (ht : 0 < t.2.1) (hu : 0 < u.2.1) : n + 1 ≤ nd (pfx t.2.1 (quS n t u) / u.2.1) := by
  have a := qT_le (n + 1) t.2.1 u.2.1 (nd u.2.1 + n + 2) 0
  have b := qT_stop (most := n + 1) (c1 := t.2.1) (c2 := u.2.1) (nd u.2.1 + n + 2) 0
  unfold quS
  by_cases q : qT (n + 1) t.2.1 u.2.1 (nd u.2.1 + n + 2) 0 < 0 + (nd u.2.1 + n + 2)
  · exact b q
  · exact pfx_big ht hu (by omega)
theorem M_d50 {x y z n : Nat} {t u : Int × Nat × Int} (hx : x < 5) (hy : y < 5) (hz : z < 5) (hxz : x ≠ z) (hyz : y ≠ z) (ht : 0 < t.2.1) (hu : 0 < u.2.1) (hw : nd u.2.1 ≤ 60) (hwt : nd t.2.1 ≤ 2600) (hn : n ≤ 60) : ∀ (m T j : Nat) (h : Hp), T + m = nd u.2.1 + n + 2 → m < j → isM h x t.1 t.2.1 t.2.2 → isM h y u.1 u.2.1 u.2.2 → isB h 54 (nd u.2.1 + 1) (pfx t.2.1 T % u.2.1) → (∀ q, q < nd (pfx t.2.1 T / u.2.1) → h 50 (2600 * z + q) = iI (dg (pfx t.2.1 T / u.2.1) (nd (pfx t.2.1 T / u.2.1)) q : Int)) → nd (pfx t.2.1 T / u.2.1) ≤ n + 1 → ∃ h', f_M_divide_50 j (iI (x : Int)) (iI (y : Int)) (iI (n : Int)) (iI (z : Int)) (iI (nd (pfx t.2.1 T / u.2.1) : Int)) (iI (T : Int)) h = some ((), h') ∧ isM h' z (t.1 * u.1) (pfx t.2.1 (qT (n + 1) t.2.1 u.2.1 m T) / u.2.1) ((nd t.2.1 : Int) + t.2.2 - (qT (n + 1) t.2.1 u.2.1 m T : Int) - u.2.2) ∧ kd h h' z := by
  have mu := mn_c hu
  have mt := mn_c ht
  have stop : ∀ (m T j : Nat) (h : Hp), 0 < j → qT (n + 1) t.2.1 u.2.1 m T = T → n + 1 ≤ nd (pfx t.2.1 T / u.2.1) → isM h x t.1 t.2.1 t.2.2 → isM h y u.1 u.2.1 u.2.2 → (∀ q, q < nd (pfx t.2.1 T / u.2.1) → h 50 (2600 * z + q) = iI (dg (pfx t.2.1 T / u.2.1) (nd (pfx t.2.1 T / u.2.1)) q : Int)) → nd (pfx t.2.1 T / u.2.1) ≤ n + 1 → ∃ h', f_M_divide_50 j (iI (x : Int)) (iI (y : Int)) (iI (n : Int)) (iI (z : Int)) (iI (nd (pfx t.2.1 T / u.2.1) : Int)) (iI (T : Int)) h = some ((), h') ∧ isM h' z (t.1 * u.1) (pfx t.2.1 (qT (n + 1) t.2.1 u.2.1 m T) / u.2.1) ((nd t.2.1 : Int) + t.2.2 - (qT (n + 1) t.2.1 u.2.1 m T : Int) - u.2.2) ∧ kd h h' z := by
    intro m T j h hj eq hq M1 M2 F hb
    obtain ⟨j, rfl⟩ : ∃ q, j = q + 1 := ⟨j - 1, by omega⟩
    have hQ : 0 < pfx t.2.1 T / u.2.1 := by
      rcases Nat.eq_zero_or_pos (pfx t.2.1 T / u.2.1) with w | w
      · rw [w, nd_0] at hq
        omega
      · exact w
    have mq := mn_c hQ
    rw [eq, f_M_divide_50, if_pos (by rw [iI_lt ⟨by omega, by omega⟩ ⟨by omega, by omega⟩]; omega)]
    simp only [chk_t (inz hx), chk_t (inz hy), chk_t (inz hz), clz hx, clz hy, clz hz, up_a, up_b]
    rw [up2_k _ _ _ hxz, up_c, M1.2.2.1, M2.2.2.1, M1.2.1, M2.2.1, M1.1, mt, iI_mul, iI_sub, iI_add, iI_sub]
    refine ⟨_, rfl, ⟨?_, ?_, ?_, by omega, fun k hk => ?_⟩, kd_km (km_t (km_t (km_53 _ _ _) (km_51 _ _ _)) (km_52 _ _ _))⟩
    · rw [up2_o _ _ _ _ (by omega), up2_s, mq]
    · rw [up2_s]
      congr 1
      omega
    · rw [up2_o _ _ _ _ (by omega), up2_o _ _ _ _ (by omega), up2_s]
    · rw [up2_o _ _ _ _ (by omega), up2_o _ _ _ _ (by omega), up2_o _ _ _ _ (by omega)]
      rw [mq] at hk ⊢
      exact F k hk
  intro m
  induction m with
  | zero =>
    intro T j h hT hj M1 M2 B F hb
    exact stop 0 T j h (by omega) rfl (pfx_big ht hu (by omega)) M1 M2 F hb
  | succ m ih =>
    intro T j h hT hj M1 M2 B F hb
    by_cases q : n + 1 ≤ nd (pfx t.2.1 T / u.2.1)
    · exact stop (m + 1) T j h (by omega) (if_pos q) q M1 M2 F hb
    have eq : qT (n + 1) t.2.1 u.2.1 (m + 1) T = qT (n + 1) t.2.1 u.2.1 m (T + 1) := if_neg q
    obtain ⟨j, rfl⟩ : ∃ q, j = q + 1 := ⟨j - 1, by omega⟩
    rw [eq, f_M_divide_50, if_neg (by rw [iI_lt ⟨by omega, by omega⟩ ⟨by omega, by omega⟩]; omega)]
    have dl := dz_lt t.2.1 (T : Int)
    have ml := Nat.mod_lt (pfx t.2.1 T) hu
    obtain ⟨s1, s2⟩ := pfx_step (c1 := t.2.1) (T := T) hu
    obtain ⟨g1, e1, F1, k1⟩ := M_down_loop (x := x) (y := y) (A := pfx t.2.1 T % u.2.1) (T := T) (t := t) (u := u) (v3 := iI (n : Int)) (v4 := iI (z : Int)) (v5 := iI (nd (pfx t.2.1 T / u.2.1) : Int)) (k50 := fun v1 v2 v3 v4 v5 v6 h => f_M_divide_50 j v1 v2 v3 v4 v5 v6 h) hx hy ht hu hw hwt (by omega) (nd u.2.1) 0 fuel h (by omega) (by unfold fuel; omega) M1 M2 (fun q hq => by rw [if_neg (by omega)]; exact B.2 q hq)
    have e1 : f_M_divide_59 (fun v1 v2 v3 v4 v5 v6 h => f_M_divide_50 j v1 v2 v3 v4 v5 v6 h) fuel (iI (x : Int)) (iI (y : Int)) (iI (n : Int)) (iI (z : Int)) (iI (nd (pfx t.2.1 T / u.2.1) : Int)) (iI (T : Int)) 0 h = _ := e1
    rw [e1]
    have B1 := isB_down (h := g1) (w := nd u.2.1 + 1) (A := pfx t.2.1 T % u.2.1) (d := dz t.2.1 (T : Int)) (by omega) dl (Nat.lt_trans ml (nd_lt _)) F1
    obtain ⟨g2, e2, B2, k2⟩ := M_all_loop (y := y) (u := u) (v1 := iI (x : Int)) (v3 := iI (n : Int)) (v4 := iI (z : Int)) (v5 := iI (nd (pfx t.2.1 T / u.2.1) : Int)) (v6 := iI ((T + 1 : Nat) : Int)) (k50 := fun v1 v2 v3 v4 v5 v6 h => f_M_divide_50 j v1 v2 v3 v4 v5 v6 h) hy hu hw 9 0 fuel (10 * (pfx t.2.1 T % u.2.1) + dz t.2.1 (T : Int)) g1 (by unfold fuel; omega) (by omega) (isM_54 M2 k1) B1
    have e2 : f_M_divide_137 (fun v1 v2 v3 v4 v5 v6 h => f_M_divide_50 j v1 v2 v3 v4 v5 v6 h) fuel (iI (x : Int)) (iI (y : Int)) (iI (n : Int)) (iI (z : Int)) (iI (nd (pfx t.2.1 T / u.2.1) : Int)) (iI ((T + 1 : Nat) : Int)) 0 g1 = _ := e2
    rw [e2]
    rw [← s2] at B2
    have k12 : ∀ y, y ≠ 54 → g2 y = h y := fun y hy => by rw [k2 y hy, k1 y hy]
    have ql : (10 * (pfx t.2.1 T % u.2.1) + dz t.2.1 (T : Int)) / u.2.1 < 10 := by
      rw [Nat.div_lt_iff_lt_mul hu]
      omega
    rw [Nat.zero_add]
    obtain ⟨d, hd⟩ : ∃ d, (10 * (pfx t.2.1 T % u.2.1) + dz t.2.1 (T : Int)) / u.2.1 = d := ⟨_, rfl⟩
    rw [hd] at s1 ql ⊢
    obtain ⟨Q, hQ⟩ : ∃ Q, pfx t.2.1 T / u.2.1 = Q := ⟨_, rfl⟩
    rw [hQ] at s1 F hb q ⊢
    by_cases z0 : Q = 0 ∧ d = 0
    · have s3 : pfx t.2.1 (T + 1) / u.2.1 = 0 := by rw [s1, z0.1, z0.2]
      obtain ⟨h', e', a', b'⟩ := ih (T + 1) j g2 (by omega) (by omega) (isM_54 M1 k12) (isM_54 M2 k12) B2 (fun q hq => by rw [s3, nd_0] at hq; omega) (by rw [s3, nd_0]; omega)
      rw [s3, nd_0] at e'
      rw [z0.1, z0.2, nd_0, if_pos (by rfl), if_pos (by rfl)]
      exact ⟨h', e', a', kd_t (kd_f k12) b'⟩
    · have np : nd (10 * Q + d) = nd Q + 1 := nd_push ql (by omega)
      have t257 : ∃ h', f_M_divide_257 (fun v1 v2 v3 v4 v5 v6 h => f_M_divide_50 j v1 v2 v3 v4 v5 v6 h) (iI (x : Int)) (iI (y : Int)) (iI (n : Int)) (iI (z : Int)) (iI (nd Q : Int)) (iI ((T + 1 : Nat) : Int)) (iI (d : Int)) g2 = some ((), h') ∧ isM h' z (t.1 * u.1) (pfx t.2.1 (qT (n + 1) t.2.1 u.2.1 m (T + 1)) / u.2.1) ((nd t.2.1 : Int) + t.2.2 - (qT (n + 1) t.2.1 u.2.1 m (T + 1) : Int) - u.2.2) ∧ kd h h' z := by
        unfold f_M_divide_257
        rw [ixN, chk_t (ixR hz (by omega)), clN (by omega), scN]
        have kk : km g2 (up2 g2 50 (2600 * z + nd Q) (iI (d : Int))) z := km_50 _ _ _ _ (by omega)
        obtain ⟨h', e', a', b'⟩ := ih (T + 1) j (up2 g2 50 (2600 * z + nd Q) (iI (d : Int))) (by omega) (by omega) (isM_km hxz (isM_54 M1 k12) kk) (isM_km hyz (isM_54 M2 k12) kk) (isB_eq B2 (up2_ne _ _ _ (by omega))) (fun q hq => by
          rw [s1, np] at hq ⊢
          by_cases w : q = nd Q
          · rw [w, up2_s]
            have := dg_last (c := 10 * Q + d) (n := nd Q + 1) (by omega)
            rw [show nd Q + 1 - 1 = nd Q by omega] at this
            rw [this]
            congr 2
            omega
          · rw [up2_k _ _ _ (by omega), dg_push ql (by omega), k12 50 (by omega)]
            exact F q (by omega)) (by rw [s1, np]; omega)
        rw [s1, np] at e'
        exact ⟨h', e', a', kd_t (kd_f k12) (kd_t (kd_km kk) b')⟩
      by_cases w : Q = 0
      · rw [if_pos (by rw [w, nd_0]; rfl), if_neg (by rw [i0, iI_eq ⟨by omega, by omega⟩ ⟨by omega, by omega⟩]; omega)]
        exact t257
      · have := nd_pos (c := Q) (by omega)
        rw [if_neg (by rw [i0, iI_eq ⟨by omega, by omega⟩ ⟨by omega, by omega⟩]; omega)]
        exact t257
theorem M_d19 {x y z : Nat} {u : Int × Nat × Int} {v3 : Int32} (hy : y < 5) (hu : 0 < u.2.1) (hw : nd u.2.1 ≤ 60) : ∀ (m k n : Nat) (h : Hp), k + m = nd u.2.1 + 1 → m < n → isM h y u.1 u.2.1 u.2.2 → (∀ q, q < k → h 54 q = iI ((0 : Nat) : Int)) → ∃ h', f_M_divide_19 n (iI (x : Int)) (iI (y : Int)) v3 (iI (z : Int)) (iI (k : Int)) h = f_M_divide_50 fuel (iI (x : Int)) (iI (y : Int)) v3 (iI (z : Int)) 0 0 h' ∧ isB h' 54 (nd u.2.1 + 1) 0 ∧ ∀ y, y ≠ 54 → h' y = h y := by
  have mu := mn_c hu
  intro m
  induction m with
  | zero =>
    intro k n h hk hn M F
    obtain ⟨n, rfl⟩ : ∃ q, n = q + 1 := ⟨n - 1, by omega⟩
    rw [f_M_divide_19, chk_t (inz hy), clz hy, M.1, mu, if_pos (by rw [iI_lt ⟨by omega, by omega⟩ ⟨by omega, by omega⟩]; omega)]
    refine ⟨h, rfl, ⟨p10 _, fun q hq => ?_⟩, fun _ _ => rfl⟩
    have z0 : dg 0 (nd u.2.1 + 1) q = 0 := by
      unfold dg
      rw [Nat.zero_div]
    rw [z0]
    exact F q (by omega)
  | succ m ih =>
    intro k n h hk hn M F
    obtain ⟨n, rfl⟩ : ∃ q, n = q + 1 := ⟨n - 1, by omega⟩
    rw [f_M_divide_19, chk_t (inz hy), clz hy, M.1, mu, if_neg (by rw [iI_lt ⟨by omega, by omega⟩ ⟨by omega, by omega⟩]; omega), chk_t (in300 (by omega)), clN (by omega), scN]
    obtain ⟨h', e', a', b'⟩ := ih (k + 1) n (up2 h 54 k 0) (by omega) (by omega) (isM_54 M (fun y hy => up2_ne _ _ _ hy)) (fun q hq => by
      by_cases w : q = k
      · rw [w, up2_s]
        rfl
      · rw [up2_k _ _ _ w]
        exact F q (by omega))
    exact ⟨h', e', a', fun y hy => by rw [b' y hy, up2_ne _ _ _ hy]⟩
theorem M_div {x y z n : Nat} {t u : Int × Nat × Int} {h : Hp} (hx : x < 5) (hy : y < 5) (hz : z < 5) (hxz : x ≠ z) (hyz : y ≠ z) (hs : isS t.1) (z1 : t.1 = 0 ↔ t.2.1 = 0) (hu : 0 < u.2.1) (hw : nd u.2.1 ≤ 60) (hwt : nd t.2.1 ≤ 2600) (hn : n ≤ 60) (M1 : isM h x t.1 t.2.1 t.2.2) (M2 : isM h y u.1 u.2.1 u.2.2) : ∃ h', f_M_divide (iI (x : Int)) (iI (y : Int)) (iI (n : Int)) (iI (z : Int)) h = some ((), h') ∧ isM h' z (qu0 n t u).1 (qu0 n t u).2.1 (qu0 n t u).2.2 ∧ kd h h' z := by
  unfold isS at hs
  unfold f_M_divide
  rw [chk_t (inz hx), clz hx, M1.2.2.1]
  by_cases q : t.2.1 = 0
  · have e0 : qu0 n t u = (0, 0, 0) := by
      unfold qu0 nrm
      rw [q, pfx_00, Nat.zero_div, if_pos rfl]
    obtain ⟨h1, e1, M3, k1⟩ := M_zero (h := h) hz
    rw [if_pos (by rw [z1.mpr q]; rfl), bd_t e1, e0]
    exact ⟨h1, rfl, M3, kd_km k1⟩
  have s1 : t.1 ≠ 0 := fun a => q (z1.mp a)
  have ht : 0 < t.2.1 := by omega
  rw [if_neg (by rw [i0, iI_eq ⟨by omega, by omega⟩ ⟨by omega, by omega⟩]; exact s1)]
  obtain ⟨g1, e1, B1, k1⟩ := M_d19 (x := x) (y := y) (z := z) (u := u) (v3 := iI (n : Int)) hy hu hw (nd u.2.1 + 1) 0 fuel h (by omega) (by unfold fuel; omega) M2 (fun q hq => absurd hq (Nat.not_lt_zero q))
  have e1 : f_M_divide_19 fuel (iI (x : Int)) (iI (y : Int)) (iI (n : Int)) (iI (z : Int)) 0 h = _ := e1
  rw [e1]
  have p0 : pfx t.2.1 0 / u.2.1 = 0 := by rw [pfx_0, Nat.zero_div]
  have p1 : pfx t.2.1 0 % u.2.1 = 0 := by rw [pfx_0, Nat.zero_mod]
  obtain ⟨g2, e2, M3, k2⟩ := M_d50 (x := x) (y := y) (z := z) (n := n) (t := t) (u := u) hx hy hz hxz hyz ht hu hw hwt hn (nd u.2.1 + n + 2) 0 fuel g1 (by omega) (by unfold fuel; omega) (isM_54 M1 k1) (isM_54 M2 k1) (by rw [p1]; exact B1) (fun q hq => by rw [p0, nd_0] at hq; omega) (by rw [p0, nd_0]; omega)
  rw [p0, nd_0] at e2
  have hq := quS_nd (n := n) ht hu
  have e0 : qu0 n t u = (t.1 * u.1, pfx t.2.1 (quS n t u) / u.2.1, (nd t.2.1 : Int) + t.2.2 - (quS n t u : Int) - u.2.2) := by
    unfold qu0 nrm
    rw [if_neg (fun w => by rw [w, nd_0] at hq; omega)]
  rw [e0]
  exact ⟨g2, e2, M3, kd_t (kd_f k1) k2⟩
end
section
/-! PURE 27: the reference's part -/
theorem ptW_eq {t u : Int × Nat × Int} : ptW t u = sX t.2.1 t.2.2 (lwE t u) / sX u.2.1 u.2.2 (lwE t u) := by
  unfold ptW lwE sX pfx
  by_cases q : u.2.2 ≤ t.2.2
  · rw [if_pos q, Int.sub_self]
    show _ = _ / (u.2.1 * 10 ^ 0)
    rw [Nat.pow_zero, Nat.mul_one]
    by_cases w : t.2.2 = u.2.2
    · rw [if_pos (by omega), show nd t.2.1 - ((nd t.2.1 : Int) + t.2.2 - u.2.2).toNat = 0 by omega, show (t.2.2 - u.2.2).toNat = 0 by omega, Nat.pow_zero, Nat.div_one, Nat.mul_one]
    · rw [if_neg (by omega), show ((nd t.2.1 : Int) + t.2.2 - u.2.2).toNat - nd t.2.1 = (t.2.2 - u.2.2).toNat by omega]
  · rw [if_neg q, Int.sub_self, if_pos (by omega)]
    show _ = t.2.1 * 10 ^ 0 / _
    rw [Nat.pow_zero, Nat.mul_one, Nat.mul_comm, ← Nat.div_div_eq_div_mul]
    by_cases w : (nd t.2.1 : Int) + t.2.2 - u.2.2 ≤ 0
    · rw [Nat.div_eq_of_lt (Nat.lt_of_lt_of_le (nd_lt t.2.1) (Nat.pow_le_pow_right (by decide) (show nd t.2.1 ≤ nd t.2.1 - ((nd t.2.1 : Int) + t.2.2 - u.2.2).toNat by omega))), Nat.div_eq_of_lt (Nat.lt_of_lt_of_le (nd_lt t.2.1) (Nat.pow_le_pow_right (by decide) (show nd t.2.1 ≤ (u.2.2 - t.2.2).toNat by omega)))]
    · rw [show nd t.2.1 - ((nd t.2.1 : Int) + t.2.2 - u.2.2).toNat = (u.2.2 - t.2.2).toNat by omega]
theorem pfx_lt (c T : Nat) : pfx c T < 10 ^ T := by
  induction T with
  | zero => rw [pfx_0]; decide
  | succ T ih =>
    rw [pfx_s, Nat.pow_succ]
    have := dz_lt c (T : Int)
    omega
theorem M_cmp2 {x y X Y : Nat} {t u : Int × Nat × Int} {L : Int} {v3 : Int32} {h : Hp} (hx : x < 5) (hy : y < 5) (b1 : -100000 ≤ t.2.2 ∧ t.2.2 ≤ 100000) (b2 : -100000 ≤ u.2.2 ∧ u.2.2 ≤ 100000) (bL : -100000 ≤ L ∧ L ≤ 100000) (hX : ∀ k : Nat, dp t.2.1 t.2.2 (L + (k : Int)) = X / 10 ^ k % 10) (hY : ∀ k : Nat, dp u.2.1 u.2.2 (L + (k : Int)) = Y / 10 ^ k % 10) (M1 : isM h x t.1 t.2.1 t.2.2) (M2 : isM h y u.1 u.2.1 u.2.2) : ∀ (m n : Nat), m < 100000 → m + 1 < n → f_M_part_67 n (iI (x : Int)) (iI (y : Int)) v3 0 (iI L) (iI (L + (m : Int) - 1)) h = f_M_part_102 (iI (x : Int)) (iI (y : Int)) v3 (iI (cmpF X Y m)) h := by
  intro m
  induction m with
  | zero =>
    intro n hm hn
    obtain ⟨n, rfl⟩ : ∃ q, n = q + 1 := ⟨n - 1, by omega⟩
    rw [f_M_part_67, if_pos (by rw [iI_lt ⟨by omega, by omega⟩ ⟨by omega, by omega⟩]; omega)]
    rfl
  | succ m ih =>
    intro n hm hn
    obtain ⟨n, rfl⟩ : ∃ q, n = q + 2 := ⟨n - 2, by omega⟩
    have a := Nat.mod_lt (X / 10 ^ m) (show 10 > 0 by decide)
    have b := Nat.mod_lt (Y / 10 ^ m) (show 10 > 0 by decide)
    have em : L + ((m + 1 : Nat) : Int) - 1 = L + (m : Int) := by omega
    rw [f_M_part_67, em, if_neg (by rw [iI_lt ⟨by omega, by omega⟩ ⟨by omega, by omega⟩]; omega), if_pos rfl, bd_t (M_digit hx M1 (by omega) (by omega)), bd_t (M_digit hy M2 (by omega) (by omega)), hX m, hY m, iI_sub, im1, iI_add, show L + (m : Int) + -1 = L + (m : Int) - 1 by omega]
    by_cases q : X / 10 ^ m % 10 = Y / 10 ^ m % 10
    · have ec : cmpF X Y (m + 1) = cmpF X Y m := if_pos q
      rw [ec, q, Int.sub_self]
      exact ih (n + 1) (by omega) (by omega)
    · have ec : cmpF X Y (m + 1) = ((X / 10 ^ m % 10 : Nat) : Int) - ((Y / 10 ^ m % 10 : Nat) : Int) := if_neg q
      rw [ec, f_M_part_67]
      by_cases w : m = 0
      · rw [if_pos (by rw [iI_lt ⟨by omega, by omega⟩ ⟨by omega, by omega⟩]; omega)]
      · rw [if_neg (by rw [iI_lt ⟨by omega, by omega⟩ ⟨by omega, by omega⟩]; omega), if_neg (by rw [i0, iI_eq ⟨by omega, by omega⟩ ⟨by omega, by omega⟩]; omega)]
theorem M_part {x y z n : Nat} {t u : Int × Nat × Int} {h : Hp} (hx : x < 5) (hy : y < 5) (hz : z < 5) (hxz : x ≠ z) (hyz : y ≠ z) (hn : 0 < n) (hn2 : n ≤ 20) (h4 : h 46 4 = iI (n : Int)) (ot : okN 10000 20 t) (ou : okN 10000 20 u) (hu : 0 < u.2.1) (M1 : isM h x t.1 t.2.1 t.2.2) (M2 : isM h y u.1 u.2.1 u.2.2) : ∃ h', f_M_part (iI (x : Int)) (iI (y : Int)) (iI (z : Int)) h = some (iI (if nd (ptW t u) ≤ n then 1 else 0), h') ∧ (nd (ptW t u) ≤ n → isM h' z (nrm (t.1 * u.1) (ptW t u) 0).1 (nrm (t.1 * u.1) (ptW t u) 0).2.1 (nrm (t.1 * u.1) (ptW t u) 0).2.2) ∧ kd h h' z := by
  obtain ⟨t1, t2, t3, t4, t5, t6⟩ := id ot
  obtain ⟨u1, u2, u3, u4, u5, u6⟩ := id ou
  unfold isS at t1
  obtain ⟨l1, l2, l3⟩ := lwE_p t u
  have mu := mn_c hu
  have pu := nd_pos hu
  have mt : mn t.2.1 ≤ 20 := by unfold mn; omega
  have mt1 : nd t.2.1 ≤ mn t.2.1 ∧ 0 < mn t.2.1 := by unfold mn; omega
  obtain ⟨K, hK⟩ : ∃ K : Nat, max ((mn t.2.1 : Int) + t.2.2) ((nd u.2.1 : Int) + u.2.2) - lwE t u = (K : Int) := ⟨(max ((mn t.2.1 : Int) + t.2.2) ((nd u.2.1 : Int) + u.2.2) - lwE t u).toNat, by omega⟩
  have X1 := sX_lt (c := t.2.1) (K := K) l1 (by omega)
  have Y1 := sX_lt (c := u.2.1) (K := K) l2 (by omega)
  have Yp := sX_pos (e := u.2.2) (L := lwE t u) hu
  have eW := ptW_eq (t := t) (u := u)
  obtain ⟨X, hX⟩ : ∃ X, sX t.2.1 t.2.2 (lwE t u) = X := ⟨_, rfl⟩
  obtain ⟨Y, hY⟩ : ∃ Y, sX u.2.1 u.2.2 (lwE t u) = Y := ⟨_, rfl⟩
  have dX : ∀ k : Nat, dp t.2.1 t.2.2 (lwE t u + (k : Int)) = X / 10 ^ k % 10 := fun k => by rw [← hX]; exact sX_d l1 k
  have dY : ∀ k : Nat, dp u.2.1 u.2.2 (lwE t u + (k : Int)) = Y / 10 ^ k % 10 := fun k => by rw [← hY]; exact sX_d l2 k
  rw [hX, hY] at eW
  rw [hX] at X1
  rw [hY] at Y1 Yp
  have cb := cmpF_b X Y K
  have cl := cmpF_lt (X := X) (Y := Y) K (by rw [Nat.div_eq_of_lt X1, Nat.div_eq_of_lt Y1])
  have zero : ptW t u = 0 → ∃ h', bd (f_M_zero (iI (z : Int)) h) (fun _ h118 => some ((1 : Int32), h118)) = some (iI (if nd (ptW t u) ≤ n then 1 else 0), h') ∧ (nd (ptW t u) ≤ n → isM h' z (nrm (t.1 * u.1) (ptW t u) 0).1 (nrm (t.1 * u.1) (ptW t u) 0).2.1 (nrm (t.1 * u.1) (ptW t u) 0).2.2) ∧ kd h h' z := by
    intro W0
    obtain ⟨h1, e1, M3, k1⟩ := M_zero (h := h) hz
    rw [W0, bd_t e1, if_pos (by rw [nd_0]; omega)]
    exact ⟨h1, rfl, fun _ => M3, kd_km k1⟩
  have t102 : ∃ h', f_M_part_102 (iI (x : Int)) (iI (y : Int)) (iI (z : Int)) (iI (cmpF X Y K)) h = some (iI (if nd (ptW t u) ≤ n then 1 else 0), h') ∧ (nd (ptW t u) ≤ n → isM h' z (nrm (t.1 * u.1) (ptW t u) 0).1 (nrm (t.1 * u.1) (ptW t u) 0).2.1 (nrm (t.1 * u.1) (ptW t u) 0).2.2) ∧ kd h h' z := by
    unfold f_M_part_102
    rw [chk_t (inz hx), clz hx, M1.2.2.1]
    by_cases q : t.2.1 = 0
    · rw [if_pos (by rw [t2.mpr q]; rfl)]
      refine zero ?_
      unfold ptW
      rw [q, pfx_00, Nat.zero_div]
    have s1 : t.1 ≠ 0 := fun a => q (t2.mp a)
    have ht : 0 < t.2.1 := by omega
    have mt2 := mn_c ht
    have pt := nd_pos ht
    rw [if_neg (by rw [i0, iI_eq ⟨by omega, by omega⟩ ⟨by omega, by omega⟩]; exact s1)]
    by_cases q2 : X < Y
    · have := cl.mpr q2
      rw [if_neg (by rw [i0, iI_le ⟨by omega, by omega⟩ ⟨by omega, by omega⟩]; omega)]
      refine zero ?_
      rw [eW, Nat.div_eq_of_lt q2]
    have nc : ¬ cmpF X Y K < 0 := fun a => q2 (cl.mp a)
    have W1 : 0 < ptW t u := by
      rw [eW]
      exact Nat.div_pos (by omega) Yp
    -- the big one stands as high as the small one
    have hA : (nd u.2.1 : Int) + u.2.2 ≤ (nd t.2.1 : Int) + t.2.2 := by
      rcases Int.lt_or_le ((nd t.2.1 : Int) + t.2.2) ((nd u.2.1 : Int) + u.2.2) with w | w
      · have a := sX_lt (c := t.2.1) (K := ((nd t.2.1 : Int) + t.2.2 - lwE t u).toNat) l1 (by omega)
        have b := sX_ge (c := u.2.1) (K := ((nd t.2.1 : Int) + t.2.2 - lwE t u).toNat) hu l2 (by omega)
        rw [hX] at a
        rw [hY] at b
        omega
      · exact w
    rw [if_pos (by rw [i0, iI_le ⟨by omega, by omega⟩ ⟨by omega, by omega⟩]; omega), bd_t (M_high hx M1), bd_t (M_high hy M2), mt2, mu, h4, iI_sub, i1, iI_add, iI_add, iI_add]
    obtain ⟨w, hw⟩ : ∃ w : Nat, (nd t.2.1 : Int) - 1 + t.2.2 - ((nd u.2.1 : Int) - 1 + u.2.2) + 1 = (w : Int) := ⟨((nd t.2.1 : Int) - 1 + t.2.2 - ((nd u.2.1 : Int) - 1 + u.2.2) + 1).toNat, by omega⟩
    rw [hw]
    obtain ⟨T0, hT0⟩ : ∃ T0 : Nat, (nd t.2.1 : Int) + t.2.2 - u.2.2 = (T0 : Int) := ⟨((nd t.2.1 : Int) + t.2.2 - u.2.2).toNat, by omega⟩
    have eW2 : ptW t u = pfx t.2.1 T0 / u.2.1 := by
      unfold ptW
      rw [hT0, Int.toNat_natCast]
    by_cases q3 : w ≤ n + 1
    · rw [if_pos (by rw [iI_le ⟨by omega, by omega⟩ ⟨by omega, by omega⟩]; omega), show (w : Int) + 1 = ((w + 1 : Nat) : Int) by omega]
      obtain ⟨g1, e1, M3, k1⟩ := M_div (x := x) (y := y) (z := z) (n := w + 1) (t := t) (u := u) hx hy hz hxz hyz t1 t2 hu (by omega) (by omega) (by omega) M1 M2
      rw [bd_t e1]
      have hq := quS_nd (n := w + 1) ht hu
      obtain ⟨T, hT⟩ : ∃ T, quS (w + 1) t u = T := ⟨_, rfl⟩
      have e0 : qu0 (w + 1) t u = (t.1 * u.1, pfx t.2.1 T / u.2.1, (nd t.2.1 : Int) + t.2.2 - (T : Int) - u.2.2) := by
        unfold qu0 nrm
        rw [hT] at hq ⊢
        rw [if_neg (fun w => by rw [w, nd_0] at hq; omega)]
      rw [hT] at hq
      rw [e0] at M3
      obtain ⟨Q, hQ⟩ : ∃ Q, pfx t.2.1 T / u.2.1 = Q := ⟨_, rfl⟩
      rw [hQ] at hq M3
      have M3 : isM g1 z (t.1 * u.1) Q ((nd t.2.1 : Int) + t.2.2 - (T : Int) - u.2.2) := M3
      -- W has at most w digits
      have Wb : nd (ptW t u) ≤ w := by
        apply nd_le_of
        rw [eW2]
        have a := pfx_lt t.2.1 T0
        have b := nd_le hu
        rw [Nat.div_lt_iff_lt_mul hu]
        refine Nat.lt_of_lt_of_le a ?_
        rw [show T0 = w + (nd u.2.1 - 1) by omega, Nat.pow_add]
        exact Nat.mul_le_mul_left _ b
      have hTT : T0 < T := by
        rcases Nat.lt_or_ge T0 T with c | c
        · exact c
        · obtain ⟨k, hk⟩ : ∃ k, T0 = T + k := ⟨T0 - T, by omega⟩
          have d : Q ≤ ptW t u := by
            rw [eW2, ← hQ, hk]
            apply Nat.div_le_div_right
            have := pfx_div (c := t.2.1) (T := T) k
            rw [← this]
            exact Nat.div_le_self _ _
          have := nd_mono d
          omega
      obtain ⟨k, hk⟩ : ∃ k, T = T0 + k := ⟨T - T0, by omega⟩
      have WQ : ptW t u = Q / 10 ^ k := by
        rw [eW2, ← hQ, hk, Nat.div_div_eq_div_mul, Nat.mul_comm, ← Nat.div_div_eq_div_mul, pfx_div]
      have kQ : k < nd Q := by
        rcases Nat.lt_or_ge k (nd Q) with c | c
        · exact c
        · rw [Nat.div_eq_of_lt (Nat.lt_of_lt_of_le (nd_lt Q) (Nat.pow_le_pow_right (by decide) c))] at WQ
          omega
      have WN : nd (ptW t u) = nd Q - k := by rw [WQ, nd_divp kQ]
      have mQ := mn_c (c := Q) (by
        rcases Nat.eq_zero_or_pos Q with c | c
        · rw [c, nd_0] at hq
          omega
        · exact c)
      have mW := mn_c W1
      have Wp := nd_pos W1
      have bQ := M3.2.2.2.1
      have f4 : g1 46 4 = iI (n : Int) := by rw [k1.1 46 (by omega) (by omega) (by omega) (by omega) (by omega)]; exact h4
      have es : iI (mn Q : Int) + iI ((nd t.2.1 : Int) + t.2.2 - (T : Int) - u.2.2) = iI (nd (ptW t u) : Int) := by
        rw [iI_add]
        congr 1
        omega
      simp only [chk_t (inz hz), clz hz, M3.1, M3.2.1, f4, es]
      by_cases q4 : nd (ptW t u) ≤ n
      · rw [if_pos (leN (by omega) (by omega) q4), if_pos (by rw [i0, iI_lt ⟨by omega, by omega⟩ ⟨by omega, by omega⟩]; omega), if_pos q4]
        refine ⟨_, rfl, fun _ => ?_, kd_t k1 (kd_km (km_t (km_51 _ _ _) (km_52 _ _ _)))⟩
        have en : nrm (t.1 * u.1) (ptW t u) 0 = (t.1 * u.1, ptW t u, 0) := if_neg (by omega)
        rw [en]
        refine ⟨?_, ?_, ?_, by show mn (ptW t u) ≤ 2600; omega, fun q hq => ?_⟩
        · rw [up2_o _ _ _ _ (by omega), up2_s, mW]
        · rw [up2_s]
          rfl
        · rw [up2_o _ _ _ _ (by omega), up2_o _ _ _ _ (by omega)]
          exact M3.2.2.1
        · rw [mW] at hq ⊢
          rw [up2_o _ _ _ _ (by omega), up2_o _ _ _ _ (by omega), M3.2.2.2.2 q (by omega), mQ]
          congr 2
          unfold dg
          rw [WN, WQ, div_pp, show k + (nd Q - k - 1 - q) = nd Q - 1 - q by omega]
      · rw [if_neg (nleN (by omega) (by omega) (by omega)), if_neg q4]
        exact ⟨g1, rfl, fun a => absurd a q4, k1⟩
    · rw [if_neg (by rw [iI_le ⟨by omega, by omega⟩ ⟨by omega, by omega⟩]; omega)]
      have : n + 1 ≤ nd (ptW t u) := by
        rw [eW2]
        exact pfx_big ht hu (by omega)
      rw [if_neg (by omega)]
      exact ⟨h, rfl, fun a => by omega, kd_r _ _⟩
  have c67 := M_cmp2 (x := x) (y := y) (t := t) (u := u) (X := X) (Y := Y) (L := lwE t u) (v3 := iI (z : Int)) hx hy ⟨by omega, by omega⟩ ⟨by omega, by omega⟩ ⟨by omega, by omega⟩ dX dY M1 M2 K fuel (by omega) (by unfold fuel; omega)
  have t29 : ∃ h', f_M_part_29 (iI (x : Int)) (iI (y : Int)) (iI (z : Int)) 0 (iI (lwE t u + (K : Int) - 1)) h = some (iI (if nd (ptW t u) ≤ n then 1 else 0), h') ∧ (nd (ptW t u) ≤ n → isM h' z (nrm (t.1 * u.1) (ptW t u) 0).1 (nrm (t.1 * u.1) (ptW t u) 0).2.1 (nrm (t.1 * u.1) (ptW t u) 0).2.2) ∧ kd h h' z := by
    unfold f_M_part_29
    simp only [chk_t (inz hx), chk_t (inz hy), clz hx, clz hy, M1.2.1, M2.2.1]
    by_cases q3 : u.2.2 ≤ t.2.2
    · have el : lwE t u = u.2.2 := if_pos q3
      rw [if_pos (by rw [iI_le ⟨by omega, by omega⟩ ⟨by omega, by omega⟩]; exact q3)]
      rw [el] at c67 ⊢
      rw [c67]
      exact t102
    · have el : lwE t u = t.2.2 := if_neg q3
      rw [if_neg (by rw [iI_le ⟨by omega, by omega⟩ ⟨by omega, by omega⟩]; exact q3)]
      rw [el] at c67 ⊢
      rw [c67]
      exact t102
  unfold f_M_part
  rw [bd_t (M_high hx M1), bd_t (M_high hy M2), mu]
  by_cases q3 : (mn t.2.1 : Int) - 1 + t.2.2 ≤ (nd u.2.1 : Int) - 1 + u.2.2
  · rw [if_pos (by rw [iI_le ⟨by omega, by omega⟩ ⟨by omega, by omega⟩]; exact q3), bd_t (M_high hy M2), mu, show (nd u.2.1 : Int) - 1 + u.2.2 = lwE t u + (K : Int) - 1 by omega]
    exact t29
  · rw [if_neg (by rw [iI_le ⟨by omega, by omega⟩ ⟨by omega, by omega⟩]; exact q3), bd_t (M_high hx M1), show (mn t.2.1 : Int) - 1 + t.2.2 = lwE t u + (K : Int) - 1 by omega]
    exact t29
end
section
/-! PURE 28: powers -/
def mulR (m : Nat) (t u : Int × Nat × Int) : Int × Nat × Int := rN m (nrm (t.1 * u.1) (t.2.1 * u.2.1) (t.2.2 + u.2.2))
theorem nd_mul (a b : Nat) : nd (a * b) ≤ nd a + nd b := by
  apply nd_le_of
  rw [Nat.pow_add]
  exact Nat.mul_lt_mul'' (nd_lt a) (nd_lt b)
theorem nrm_ok {b n : Nat} {s e : Int} {c : Nat} (hs : isS s) (hz : s = 0 → c = 0) (he : -(b : Int) ≤ e ∧ e ≤ b) (hc : nd c ≤ n) : okN b n (nrm s c e) := by
  unfold nrm
  by_cases q : c = 0
  · rw [if_pos q]
    exact okN_0
  · rw [if_neg q]
    exact ⟨hs, ⟨fun z => hz z, fun z => absurd z q⟩, fun z => absurd z q, he.1, he.2, hc⟩
theorem sg_mul {a b : Int} (ha : isS a) (hb : isS b) : isS (a * b) ∧ (a * b = 0 → a = 0 ∨ b = 0) := by
  unfold isS at *
  rcases ha with a | a | a <;> rcases hb with b | b | b <;> rw [a, b] <;> decide
theorem pr_ok {b1 b2 n1 n2 : Nat} {t u : Int × Nat × Int} (H1 : okN b1 n1 t) (H2 : okN b2 n2 u) : okN (b1 + b2) (n1 + n2) (nrm (t.1 * u.1) (t.2.1 * u.2.1) (t.2.2 + u.2.2)) := by
  obtain ⟨t1, t2, t3, t4, t5, t6⟩ := H1
  obtain ⟨u1, u2, u3, u4, u5, u6⟩ := H2
  have s := sg_mul t1 u1
  refine nrm_ok s.1 (fun z => ?_) ⟨by omega, by omega⟩ (by have := nd_mul t.2.1 u.2.1; omega)
  rcases s.2 z with a | a
  · rw [t2.mp a, Nat.zero_mul]
  · rw [u2.mp a, Nat.mul_zero]
theorem mulR_ok {b1 b2 n1 n2 m : Nat} {t u : Int × Nat × Int} (hm : 0 < m) (H1 : okN b1 n1 t) (H2 : okN b2 n2 u) : okN (b1 + b2 + (n1 + n2) + 1) m (mulR m t u) := rN_ok hm (pr_ok H1 H2)
theorem mulR_pos {m : Nat} {t u : Int × Nat × Int} (hm : 0 < m) (ht : 0 < t.2.1) (hu : 0 < u.2.1) : 0 < (mulR m t u).2.1 := by
  have : 0 < t.2.1 * u.2.1 := Nat.mul_pos ht hu
  unfold mulR nrm
  rw [if_neg (by omega)]
  exact rnd_pos hm this
/-- the power: squares and products from the top bit down -/
def pwL (m v : Nat) (b : Int × Nat × Int) : Nat → (Int × Nat × Int) → Int × Nat × Int
  | 0, p => p
  | k + 1, p => if v / 2 ^ k = 0 then pwL m v b k p else if v / 2 ^ k % 2 = 0 then pwL m v b k (mulR m p p) else pwL m v b k (mulR m (mulR m p p) b)
theorem sh_tab : ∀ k, k < 10 → ∀ v, v < 1000 → (iI ((v : Nat) : Int)) >>> (iI ((k : Nat) : Int) &&& 31) = iI ((v / 2 ^ k : Nat) : Int) := by decide +kernel
theorem b1_tab : ∀ v, v < 1000 → (iI ((v : Nat) : Int)) &&& 1 = iI ((v % 2 : Nat) : Int) := by decide +kernel
theorem one_ok {b n : Nat} (hn : 0 < n) : okN b n (1, 1, 0) := ⟨Or.inr (Or.inl rfl), ⟨fun z => absurd z (by decide), fun z => absurd z (by decide)⟩, fun _ => rfl, by show -(b : Int) ≤ 0; omega, by show (0 : Int) ≤ b; omega, by show nd 1 ≤ n; rw [nd_1]; exact hn⟩
def pwM (n : Nat) (v : Int) : Nat := n + 1 + (if v.natAbs ≤ 9 then 1 else if v.natAbs ≤ 99 then 2 else 3)
theorem pwM_b (n : Nat) (v : Int) : n + 2 ≤ pwM n v ∧ pwM n v ≤ n + 4 := by
  unfold pwM
  split
  · omega
  · split <;> omega
def pwP (n : Nat) (v : Int) (b : Int × Nat × Int) : Int × Nat × Int := pwL (pwM n v) v.natAbs b 10 (1, 1, 0)
def pwT (n : Nat) (v : Int) (b : Int × Nat × Int) : Int × Nat × Int := if 0 ≤ v then stT (rN n (pwP n v b)) else stT (rN n (stT (quT (pwM n v) (1, 1, 0) (pwP n v b))))
theorem pwL_pos {m v : Nat} {b : Int × Nat × Int} (hm : 0 < m) (hb : 0 < b.2.1) : ∀ k p, 0 < p.2.1 → 0 < (pwL m v b k p).2.1
  | 0, _, h => h
  | k + 1, p, h => by
    unfold pwL
    split
    · exact pwL_pos hm hb k p h
    · split
      · exact pwL_pos hm hb k _ (mulR_pos hm h h)
      · exact pwL_pos hm hb k _ (mulR_pos hm (mulR_pos hm h h) hb)
theorem pwL_ok {m v : Nat} {b : Int × Nat × Int} (hm : 0 < m) (hm2 : m ≤ 24) (hb : okN 1501 20 b) : ∀ (k : Nat) (p : Int × Nat × Int), k ≤ 10 → okN (4000 * 2 ^ (10 - k) - 2000) m p → okN 5000000 m (pwL m v b k p) := by
  intro k
  induction k with
  | zero =>
    intro p _ h
    have e0 : pwL m v b 0 p = p := rfl
    have e : (2 : Nat) ^ (10 - 0) = 1024 := by decide
    rw [e] at h
    rw [e0]
    exact okN_w h (by omega) (Nat.le_refl _)
  | succ k ih =>
    intro p hk h
    have P : 2 ^ (10 - k) = 2 * 2 ^ (10 - (k + 1)) := by
      rw [← Nat.pow_succ']
      congr 1
      omega
    have Q : 0 < 2 ^ (10 - (k + 1)) := Nat.pow_pos (by decide)
    have s1 := mulR_ok hm h h
    have s2 := mulR_ok hm s1 hb
    unfold pwL
    split
    · exact ih p (by omega) (okN_w h (by omega) (Nat.le_refl _))
    · split
      · exact ih _ (by omega) (okN_w s1 (by omega) (Nat.le_refl _))
      · exact ih _ (by omega) (okN_w s2 (by omega) (Nat.le_refl _))
-- ===== the class =====
def kP (h h' : Hp) : Prop := ∀ y, y ≠ 33 → y ≠ 34 → y ≠ 35 → y ≠ 36 → y ≠ 37 → y ≠ 42 → y ≠ 43 → y ≠ 44 → y ≠ 45 → h' y = h y
theorem kP_t {h h1 h2 : Hp} (x : kP h h1) (y : kP h1 h2) : kP h h2 := fun j a b c d e f g i k => (y j a b c d e f g i k).trans (x j a b c d e f g i k)
theorem K_mulInto {j m b2 n2 : Nat} {p u : Int × Nat × Int} {b1 : Nat} {h : Hp} (hj : j = 29 ∨ j = 33) (hm : 0 < m) (hm2 : m ≤ 24) (n2b : n2 ≤ 24) (op : okN b1 m p) (ou : okN b2 n2 u) (N1 : isN h 33 p.1 p.2.1 p.2.2) (N2 : isN h j u.1 u.2.1 u.2.2) : ∃ h', f_K_multiplyInto 33 j (iI (m : Int)) h = some ((), h') ∧ isN h' 33 (mulR m p u).1 (mulR m p u).2.1 (mulR m p u).2.2 ∧ kP h h' := by
  have hp := op.2.2.2.2.2
  have hu := ou.2.2.2.2.2
  unfold f_K_multiplyInto
  obtain ⟨g1, e1, N3, k1⟩ := K_prod (i := 33) (j := j) (z := 42) (t := p) (u := u) (by omega) (by omega) (by omega) (by omega) (by omega) (by omega) (by decide) (by omega) N1 N2
  rw [bd_t e1]
  obtain ⟨g2, e2, N4, k2⟩ := N_roundTo N3 hm (by omega)
  rw [bd_t e2]
  have ok := mulR_ok hm op ou
  obtain ⟨o1, o2, o3, o4, o5, o6⟩ := ok
  obtain ⟨g3, e3, N5, k3⟩ := N_copy (i := 33) (j := 42) (s := (mulR m p u).1) (c := (mulR m p u).2.1) (e := (mulR m p u).2.2) (by omega) (by omega) (by omega) (by show _ ≤ 100; omega) (fun z => ⟨o2.mpr z, o3 z⟩) N4
  rw [bd_t e3]
  exact ⟨g3, rfl, N5, fun y a b c d e f g i k => by rw [k3 y a b, k2 y f g, k1 y c f g]⟩
theorem K_pow_loop {m n v : Nat} {vv : Int} {b : Int × Nat × Int} (hm : 0 < m) (hm2 : m ≤ 24) (hn : 0 < n) (hn2 : n ≤ 20) (hv : v < 1000) (hvv : -1000 ≤ vv ∧ vv ≤ 1000) (hb : okN 1501 20 b) (hz : vv < 0 → 0 < b.2.1) : ∀ (k f : Nat) (h : Hp) (p : Int × Nat × Int), k < f → k ≤ 10 → okN (4000 * 2 ^ (10 - k) - 2000) m p → 0 < p.2.1 ∨ b.2.1 = 0 → isN h 29 b.1 b.2.1 b.2.2 → isN h 33 p.1 p.2.1 p.2.2 → ∃ h', f_K_powerOf_76 f 29 (iI vv) (iI (n : Int)) 33 (iI (v : Int)) (iI (m : Int)) (iI ((k : Int) - 1)) h = some (0, h') ∧ isN h' 33 (if 0 ≤ vv then stT (rN n (pwL m v b k p)) else stT (rN n (stT (quT m (1, 1, 0) (pwL m v b k p))))).1 (if 0 ≤ vv then stT (rN n (pwL m v b k p)) else stT (rN n (stT (quT m (1, 1, 0) (pwL m v b k p))))).2.1 (if 0 ≤ vv then stT (rN n (pwL m v b k p)) else stT (rN n (stT (quT m (1, 1, 0) (pwL m v b k p))))).2.2 ∧ kP h h' := by
  intro k
  induction k with
  | zero =>
    intro f h p hf hk op pz N1 N2
    obtain ⟨f, rfl⟩ : ∃ q, f = q + 1 := ⟨f - 1, by omega⟩
    have e0 : pwL m v b 0 p = p := rfl
    have np := op.2.2.2.2.2
    rw [f_K_powerOf_76, if_pos (by rw [i0, iI_lt ⟨by omega, by omega⟩ ⟨by omega, by omega⟩]; omega), e0]
    by_cases q : 0 ≤ vv
    · rw [if_pos (by rw [i0, iI_le ⟨by omega, by omega⟩ ⟨by omega, by omega⟩]; exact q), if_pos q]
      obtain ⟨g1, e1, N3, k1⟩ := N_roundTo N2 hn (by omega)
      rw [bd_t e1]
      obtain ⟨g2, e2, N4, k2⟩ := N_drop N3
      rw [bd_t e2]
      exact ⟨g2, rfl, N4, fun y a b c d e f g i k => by rw [k2 y a b, k1 y a b]⟩
    · have pp : 0 < p.2.1 := by
        rcases pz with a | a
        · exact a
        · have := hz (by omega)
          omega
      rw [if_neg (by rw [i0, iI_le ⟨by omega, by omega⟩ ⟨by omega, by omega⟩]; exact q), if_neg q]
      obtain ⟨g1, e1, N3, k1⟩ := N_unit (h := h) (i := 44) (s := 1) (by decide) ⟨by omega, by omega⟩
      rw [bd_t (show f_N_becomeUnit 44 1 h = _ from e1)]
      rw [if_neg (by decide)] at N3
      have N2' : isN g1 33 p.1 p.2.1 p.2.2 := isN_eq N2 (k1 33 (by omega) (by omega)) (k1 34 (by omega) (by omega))
      obtain ⟨g2, e2, N4, k2⟩ := K_quot (i := 44) (j := 33) (z := 42) (n := m) (t := (1, 1, 0)) (u := p) (by omega) (by omega) (by omega) (by omega) (by omega) rfl pp hm (by omega) (by omega) N3 N2'
      rw [bd_t e2]
      have hq : nd (stT (quT m (1, 1, 0) p)).2.1 ≤ 24 := by
        have a := (strp_nd (nd (quT m (1, 1, 0) p).2.1) (quT m (1, 1, 0) p).2.1 (quT m (1, 1, 0) p).2.2).1
        have c := rnd_nd (n := m) (c := (qu0 m (1, 1, 0) p).2.1) (e := (qu0 m (1, 1, 0) p).2.2) hm
        have a : nd (stT (quT m (1, 1, 0) p)).2.1 ≤ nd (quT m (1, 1, 0) p).2.1 := a
        have c : nd (quT m (1, 1, 0) p).2.1 ≤ m := c
        omega
      have h0 := quS_nd (n := m) (t := (1, 1, 0)) (u := p) Nat.one_pos pp
      have hq0 : 0 < (stT (quT m (1, 1, 0) p)).2.1 := by
        have a := (strp_nd (nd (quT m (1, 1, 0) p).2.1) (quT m (1, 1, 0) p).2.1 (quT m (1, 1, 0) p).2.2).2
        apply a
        have e : (qu0 m (1, 1, 0) p).2.1 = pfx 1 (quS m (1, 1, 0) p) / p.2.1 := by
          unfold qu0 nrm
          rw [if_neg (fun w => by rw [w, nd_0] at h0; omega)]
        have c := rnd_pos (n := m) (c := (qu0 m (1, 1, 0) p).2.1) (e := (qu0 m (1, 1, 0) p).2.2) hm (by
          rw [e]
          rcases Nat.eq_zero_or_pos (pfx 1 (quS m (1, 1, 0) p) / p.2.1) with w | w
          · have h0 : m + 1 ≤ nd (pfx 1 (quS m (1, 1, 0) p) / p.2.1) := h0
            rw [w, nd_0] at h0
            omega
          · exact w)
        exact c
      obtain ⟨g3, e3, N5, k3⟩ := N_copy (i := 33) (j := 42) (by omega) (by omega) (by omega) (by show _ ≤ 100; omega) (fun z => by omega) N4
      rw [bd_t e3]
      obtain ⟨g4, e4, N6, k4⟩ := N_roundTo N5 hn (by omega)
      rw [bd_t e4]
      obtain ⟨g5, e5, N7, k5⟩ := N_drop N6
      rw [bd_t e5]
      exact ⟨g5, rfl, N7, fun y a b c d e f g i k => by rw [k5 y a b, k4 y a b, k3 y a b, k2 y d e f g, k1 y i k]⟩
  | succ k ih =>
    intro f h p hf hk op pz N1 N2
    obtain ⟨f, rfl⟩ : ∃ q, f = q + 1 := ⟨f - 1, by omega⟩
    have em : ((k + 1 : Nat) : Int) - 1 = (k : Int) := by omega
    have P : 2 ^ (10 - k) = 2 * 2 ^ (10 - (k + 1)) := by
      rw [← Nat.pow_succ']
      congr 1
      omega
    have Q : 0 < 2 ^ (10 - (k + 1)) := Nat.pow_pos (by decide)
    have s1 := mulR_ok hm op op
    have s2 := mulR_ok hm s1 hb
    have vb : v / 2 ^ k < 1000 := Nat.lt_of_le_of_lt (Nat.div_le_self _ _) hv
    rw [f_K_powerOf_76, em, if_neg (by rw [i0, iI_lt ⟨by omega, by omega⟩ ⟨by omega, by omega⟩]; omega), sh_tab k (by omega) v hv]
    unfold f_K_powerOf_103
    rw [b1_tab _ vb, im1, iI_add, show (k : Int) + -1 = (k : Int) - 1 by omega]
    obtain ⟨w, hw⟩ : ∃ w, v / 2 ^ k = w := ⟨_, rfl⟩
    rw [hw] at vb ⊢
    by_cases q1 : w = 0
    · have e0 : pwL m v b (k + 1) p = pwL m v b k p := if_pos (by rw [hw]; exact q1)
      rw [q1, if_pos (by rfl), if_neg (by decide), e0]
      exact ih f h p (by omega) (by omega) (okN_w op (by omega) (Nat.le_refl _)) pz N1 N2
    · rw [if_neg (by rw [i0, iI_eq ⟨by omega, by omega⟩ ⟨by omega, by omega⟩]; omega)]
      obtain ⟨g1, e1, N3, k1⟩ := K_mulInto (j := 33) (p := p) (u := p) (Or.inr rfl) hm hm2 hm2 op op N2 N2
      have N1' : isN g1 29 b.1 b.2.1 b.2.2 := isN_eq N1 (k1 29 (by omega) (by omega) (by omega) (by omega) (by omega) (by omega) (by omega) (by omega) (by omega)) (k1 30 (by omega) (by omega) (by omega) (by omega) (by omega) (by omega) (by omega) (by omega) (by omega))
      rw [bd_t e1]
      by_cases q2 : w % 2 = 0
      · have e0 : pwL m v b (k + 1) p = pwL m v b k (mulR m p p) := by
          show (if v / 2 ^ k = 0 then _ else if v / 2 ^ k % 2 = 0 then _ else _) = _
          rw [hw, if_neg q1, if_pos q2]
        rw [if_neg (by rw [i1, iI_eq ⟨by omega, by omega⟩ ⟨by omega, by omega⟩]; omega), e0]
        obtain ⟨g2, e2, N4, k2⟩ := ih f g1 (mulR m p p) (by omega) (by omega) (okN_w s1 (by omega) (Nat.le_refl _)) (by
          rcases pz with a | a
          · exact Or.inl (mulR_pos hm a a)
          · exact Or.inr a) N1' N3
        exact ⟨g2, e2, N4, kP_t k1 k2⟩
      · have e0 : pwL m v b (k + 1) p = pwL m v b k (mulR m (mulR m p p) b) := by
          show (if v / 2 ^ k = 0 then _ else if v / 2 ^ k % 2 = 0 then _ else _) = _
          rw [hw, if_neg q1, if_neg q2]
        rw [if_pos (by rw [i1, iI_eq ⟨by omega, by omega⟩ ⟨by omega, by omega⟩]; omega), e0]
        obtain ⟨g2, e2, N4, k2⟩ := K_mulInto (j := 29) (p := mulR m p p) (u := b) (Or.inl rfl) hm hm2 (by decide) s1 hb N3 N1'
        have N1'' : isN g2 29 b.1 b.2.1 b.2.2 := isN_eq N1' (k2 29 (by omega) (by omega) (by omega) (by omega) (by omega) (by omega) (by omega) (by omega) (by omega)) (k2 30 (by omega) (by omega) (by omega) (by omega) (by omega) (by omega) (by omega) (by omega) (by omega))
        rw [bd_t e2]
        obtain ⟨g3, e3, N5, k3⟩ := ih f g2 (mulR m (mulR m p p) b) (by omega) (by omega) (okN_w s2 (by omega) (Nat.le_refl _)) (by
          rcases Nat.eq_zero_or_pos b.2.1 with y | y
          · exact Or.inr y
          · rcases pz with a | a
            · exact Or.inl (mulR_pos hm (mulR_pos hm a a) y)
            · omega) N1'' N4
        exact ⟨g3, e3, N5, kP_t k1 (kP_t k2 k3)⟩
/-- what a power answers: 26 too big an exponent, 42 nothing to a negative one -/
def pwC (v : Int) (b : Int × Nat × Int) : Int := if v < -999 ∨ 999 < v then 26 else if v < 0 ∧ b.2.1 = 0 then 42 else 0
theorem K_pow {n : Nat} {v : Int} {b : Int × Nat × Int} {h : Hp} (hn : 0 < n) (hn2 : n ≤ 20) (hv : bI v) (hb : okN 1501 20 b) (N : isN h 29 b.1 b.2.1 b.2.2) : ∃ h', f_K_powerOf 29 (iI v) (iI (n : Int)) 33 h = some (iI (pwC v b), h') ∧ (pwC v b = 0 → isN h' 33 (pwT n v b).1 (pwT n v b).2.1 (pwT n v b).2.2) ∧ kP h h' := by
  unfold f_K_powerOf pwC
  have o1 := hb.1
  unfold isS at o1
  have o2 := hb.2.1
  by_cases q1 : v < -999
  · rw [if_pos (by rw [show (-999 : Int32) = iI (-999) by decide +kernel, iI_lt ⟨by omega, by omega⟩ ⟨by omega, by omega⟩]; exact q1), if_pos (Or.inl q1)]
    exact ⟨h, rfl, fun z => absurd z (by decide), fun _ _ _ _ _ _ _ _ _ _ => rfl⟩
  rw [if_neg (by rw [show (-999 : Int32) = iI (-999) by decide +kernel, iI_lt ⟨by omega, by omega⟩ ⟨by omega, by omega⟩]; exact q1)]
  by_cases q2 : 999 < v
  · rw [if_neg (by rw [show (999 : Int32) = iI 999 from rfl, iI_le ⟨by omega, by omega⟩ ⟨by omega, by omega⟩]; omega), if_pos (Or.inr q2)]
    exact ⟨h, rfl, fun z => absurd z (by decide), fun _ _ _ _ _ _ _ _ _ _ => rfl⟩
  rw [if_pos (by rw [show (999 : Int32) = iI 999 from rfl, iI_le ⟨by omega, by omega⟩ ⟨by omega, by omega⟩]; omega), if_neg (show ¬ (v < -999 ∨ 999 < v) by omega), N.2.2]
  have pm := pwM_b n v
  have t31 : (v < 0 → 0 < b.2.1) → ∃ h', f_K_powerOf_31 29 (iI v) (iI (n : Int)) 33 h = some (0, h') ∧ isN h' 33 (pwT n v b).1 (pwT n v b).2.1 (pwT n v b).2.2 ∧ kP h h' := by
    intro hz
    obtain ⟨g1, e1, N1, k1⟩ := N_unit (h := h) (i := 33) (s := 1) (by decide) ⟨by omega, by omega⟩
    have e1 : f_N_becomeUnit 33 1 h = _ := e1
    rw [if_neg (by decide)] at N1
    have kk : kP h g1 := fun y a b _ _ _ _ _ _ _ => k1 y a b
    have t76 : ∃ h', f_K_powerOf_76 fuel 29 (iI v) (iI (n : Int)) 33 (iI (v.natAbs : Int)) (iI (pwM n v : Int)) 9 g1 = some (0, h') ∧ isN h' 33 (pwT n v b).1 (pwT n v b).2.1 (pwT n v b).2.2 ∧ kP h h' := by
      obtain ⟨g2, e2, N2, k2⟩ := K_pow_loop (m := pwM n v) (n := n) (v := v.natAbs) (vv := v) (b := b) (by omega) (by omega) hn hn2 (by omega) ⟨by omega, by omega⟩ hb hz 10 fuel g1 (1, 1, 0) (by unfold fuel; omega) (by omega) (one_ok (by omega)) (Or.inl Nat.one_pos) (isN_eq N (k1 29 (by omega) (by omega)) (k1 30 (by omega) (by omega))) N1
      exact ⟨g2, e2, N2, kP_t kk k2⟩
    unfold f_K_powerOf_31
    rw [abs_iI ⟨by omega, by omega⟩]
    by_cases a1 : v.natAbs ≤ 99
    · rw [if_pos (by rw [show (99 : Int32) = iI 99 from rfl, iI_le ⟨by omega, by omega⟩ ⟨by omega, by omega⟩]; omega)]
      by_cases a2 : v.natAbs ≤ 9
      · rw [if_pos (by rw [show (9 : Int32) = iI 9 from rfl, iI_le ⟨by omega, by omega⟩ ⟨by omega, by omega⟩]; omega), bd_t e1, scN, scN, show n + 1 + 1 = pwM n v by unfold pwM; rw [if_pos a2]]
        exact t76
      · rw [if_neg (by rw [show (9 : Int32) = iI 9 from rfl, iI_le ⟨by omega, by omega⟩ ⟨by omega, by omega⟩]; omega), bd_t e1, scN, show (2 : Int32) = iI 2 from rfl, iI_add, show ((n + 1 : Nat) : Int) + 2 = (pwM n v : Int) by unfold pwM; rw [if_neg a2, if_pos a1]; omega]
        exact t76
    · rw [if_neg (by rw [show (99 : Int32) = iI 99 from rfl, iI_le ⟨by omega, by omega⟩ ⟨by omega, by omega⟩]; omega), bd_t e1, scN, show (3 : Int32) = iI 3 from rfl, iI_add, show ((n + 1 : Nat) : Int) + 3 = (pwM n v : Int) by unfold pwM; rw [if_neg (show ¬ v.natAbs ≤ 9 by omega), if_neg a1]; omega]
      exact t76
  by_cases q3 : 0 ≤ v
  · rw [if_pos (by rw [i0, iI_le ⟨by omega, by omega⟩ ⟨by omega, by omega⟩]; exact q3), if_neg (show ¬ (v < 0 ∧ b.2.1 = 0) by omega)]
    obtain ⟨g, e, N1, k⟩ := t31 (fun z => by omega)
    exact ⟨g, e, fun _ => N1, k⟩
  · rw [if_neg (by rw [i0, iI_le ⟨by omega, by omega⟩ ⟨by omega, by omega⟩]; exact q3)]
    by_cases q4 : b.2.1 = 0
    · rw [if_pos (by rw [o2.mpr q4]; rfl), if_pos (show v < 0 ∧ b.2.1 = 0 from ⟨by omega, q4⟩)]
      exact ⟨h, rfl, fun z => absurd z (by decide), fun _ _ _ _ _ _ _ _ _ _ => rfl⟩
    · have s0 : b.1 ≠ 0 := fun z => q4 (o2.mp z)
      rw [if_neg (by rw [i0, iI_eq ⟨by omega, by omega⟩ ⟨by omega, by omega⟩]; exact s0), if_neg (show ¬ (v < 0 ∧ b.2.1 = 0) from fun z => q4 z.2)]
      obtain ⟨g, e, N1, k⟩ := t31 (fun z => by omega)
      exact ⟨g, e, fun _ => N1, k⟩
end
section
/-! PURE 29: the reference's power -/
theorem M_unit {z : Nat} {h : Hp} (hz : z < 5) : ∃ h', f_M_zero (iI (z : Int)) h = some ((), h') ∧ km h h' z ∧ ∀ k, k = 2600 * z → isM (up2 (up2 h' 53 z 1) 50 k 1) z 1 1 0 ∧ km h (up2 (up2 h' 53 z 1) 50 k 1) z := by
  obtain ⟨h1, e1, M1, k1⟩ := M_zero (h := h) hz
  refine ⟨h1, e1, k1, fun k hk => ⟨⟨?_, ?_, ?_, by decide, fun q hq => ?_⟩, ?_⟩⟩
  · rw [up2_o _ _ _ _ (by omega), up2_o _ _ _ _ (by omega)]
    exact M1.1
  · rw [up2_o _ _ _ _ (by omega), up2_o _ _ _ _ (by omega)]
    exact M1.2.1
  · rw [up2_o _ _ _ _ (by omega), up2_s]
    rfl
  · have hq : q < 1 := hq
    rw [hk, show 2600 * z + q = 2600 * z by omega, up2_s, show q = 0 by omega]
    decide
  · rw [hk]
    exact km_t k1 (km_t (km_53 _ _ _) (km_50 _ z 0 _ (by omega)))
theorem M_202 {n : Nat} {p : Int × Nat × Int} {h : Hp} (hn : 0 < n) (hn2 : n ≤ 20) (h4 : h 46 4 = iI (n : Int)) (M : isM h 2 p.1 p.2.1 p.2.2) : ∃ h', f_M_raise_202 h = some (0, h') ∧ isM h' 2 (stT (rN n p)).1 (stT (rN n p)).2.1 (stT (rN n p)).2.2 ∧ fw h h' := by
  unfold f_M_raise_202
  obtain ⟨g1, e1, M1, k1⟩ := M_round (z := 2) (n := n) (by omega) M hn (by omega)
  rw [h4, bd_t (show f_M_round 2 (iI (n : Int)) h = _ from e1)]
  obtain ⟨g2, e2, M2, k2⟩ := M_noZeros (z := 2) (by omega) M1
  rw [bd_t (show f_M_noZeros 2 g1 = _ from e2)]
  exact ⟨g2, rfl, M2, fw_t (fw_km k1) (fw_km k2)⟩
/-- a product, rounded, back in its place -/
theorem M_sq {y m b1 b2 n2 : Nat} {p u : Int × Nat × Int} {h : Hp} (hy : y < 3) (hm : 0 < m) (hm2 : m ≤ 24) (hn2 : n2 ≤ 24) (op : okN b1 m p) (ou : okN b2 n2 u) (M1 : isM h 2 p.1 p.2.1 p.2.2) (M2 : isM h y u.1 u.2.1 u.2.2) : ∃ g1 g2 g3, f_M_multiply 2 (iI (y : Int)) 3 h = some ((), g1) ∧ f_M_round 3 (iI (m : Int)) g1 = some ((), g2) ∧ f_M_copy 3 2 g2 = some ((), g3) ∧ isM g3 2 (mulR m p u).1 (mulR m p u).2.1 (mulR m p u).2.2 ∧ fw h g3 ∧ ∀ (c : Nat) (s e : Int), isM h 0 s c e → isM g3 0 s c e := by
  obtain ⟨o1, o2, o3, o4, o5, o6⟩ := op
  obtain ⟨u1, u2, u3, u4, u5, u6⟩ := ou
  obtain ⟨g1, e1, M3, k1⟩ := M_mul (x := 2) (y := y) (z := 3) (t := p) (u := u) (by omega) (by omega) (by omega) (by omega) (by omega) o1 u1 o2 u2 (by unfold mn; omega) M1 M2
  obtain ⟨g2, e2, M4, k2⟩ := M_round (z := 3) (n := m) (by omega) M3 hm (by omega)
  obtain ⟨g3, e3, M5, k3⟩ := M_copy (x := 3) (z := 2) (by omega) (by omega) (by omega) M4
  exact ⟨g1, g2, g3, e1, e2, e3, M5, fw_t (fw_km k1) (fw_t (fw_km k2) (fw_km k3)), fun c s e M0 => isM_km (by omega) (isM_km (by omega) (isM_km (by omega) M0 k1) k2) k3⟩
theorem M_pow_loop {m n v : Nat} {vv : Int} {b : Int × Nat × Int} (hm : 0 < m) (hm2 : m ≤ 24) (hn : 0 < n) (hn2 : n ≤ 20) (hv : v < 1000) (hvv : -1000 ≤ vv ∧ vv ≤ 1000) (hb : okN 1501 20 b) (hz : vv < 0 → 0 < b.2.1) : ∀ (k f : Nat) (h : Hp) (p : Int × Nat × Int), k < f → k ≤ 10 → okN (4000 * 2 ^ (10 - k) - 2000) m p → 0 < p.2.1 ∨ b.2.1 = 0 → isM h 0 b.1 b.2.1 b.2.2 → isM h 2 p.1 p.2.1 p.2.2 → h 46 4 = iI (n : Int) → ∃ h', f_M_raise_81 f (iI vv) (iI (v : Int)) (iI (m : Int)) (iI ((k : Int) - 1)) h = some (0, h') ∧ isM h' 2 (if 0 ≤ vv then stT (rN n (pwL m v b k p)) else stT (rN n (stT (quT m (1, 1, 0) (pwL m v b k p))))).1 (if 0 ≤ vv then stT (rN n (pwL m v b k p)) else stT (rN n (stT (quT m (1, 1, 0) (pwL m v b k p))))).2.1 (if 0 ≤ vv then stT (rN n (pwL m v b k p)) else stT (rN n (stT (quT m (1, 1, 0) (pwL m v b k p))))).2.2 ∧ fw h h' := by
  intro k
  induction k with
  | zero =>
    intro f h p hf hk op pz M1 M2 h4
    obtain ⟨f, rfl⟩ : ∃ q, f = q + 1 := ⟨f - 1, by omega⟩
    have e0 : pwL m v b 0 p = p := rfl
    have np := op.2.2.2.2.2
    rw [f_M_raise_81, if_pos (by rw [i0, iI_lt ⟨by omega, by omega⟩ ⟨by omega, by omega⟩]; omega), e0]
    by_cases q : 0 ≤ vv
    · rw [if_pos (by rw [i0, iI_le ⟨by omega, by omega⟩ ⟨by omega, by omega⟩]; exact q), if_pos q]
      exact M_202 hn hn2 h4 M2
    · have pp : 0 < p.2.1 := by
        rcases pz with a | a
        · exact a
        · have := hz (by omega)
          omega
      rw [if_neg (by rw [i0, iI_le ⟨by omega, by omega⟩ ⟨by omega, by omega⟩]; exact q), if_neg q]
      obtain ⟨g1, e1, k1, U⟩ := M_unit (z := 4) (h := h) (by omega)
      obtain ⟨M3, k1'⟩ := U 10400 (by omega)
      rw [bd_t (show f_M_zero 4 h = _ from e1), chk_t (show inR 4 5 from inz (z := 4) (by omega)), chk_t (show inR 10400 13000 from iI_inR (a := 10400) (by omega) (by omega) (by omega)), show Int32.toNatClampNeg 4 = 4 from rfl, show Int32.toNatClampNeg 10400 = 10400 from rfl]
      obtain ⟨g2, e2, M4, k2⟩ := M_div (x := 4) (y := 2) (z := 3) (n := m) (t := (1, 1, 0)) (u := p) (by omega) (by omega) (by omega) (by omega) (by omega) (Or.inr (Or.inl rfl)) ⟨fun z => absurd z (by decide), fun z => absurd z (by decide)⟩ pp (by omega) (by show nd 1 ≤ 2600; rw [nd_1]; omega) (by omega) M3 (isM_km (by omega) M2 k1')
      rw [bd_t (show f_M_divide 4 2 (iI (m : Int)) 3 _ = _ from e2)]
      obtain ⟨g3, e3, M5, k3⟩ := M_round (z := 3) (n := m) (by omega) M4 hm (by omega)
      rw [bd_t (show f_M_round 3 (iI (m : Int)) g2 = _ from e3)]
      obtain ⟨g4, e4, M6, k4⟩ := M_noZeros (z := 3) (by omega) M5
      rw [bd_t (show f_M_noZeros 3 g3 = _ from e4)]
      obtain ⟨g5, e5, M7, k5⟩ := M_copy (x := 3) (z := 2) (by omega) (by omega) (by omega) M6
      rw [bd_t (show f_M_copy 3 2 g4 = _ from e5)]
      have f5 : fw h g5 := fw_t (fw_km k1') (fw_t (fw_kd k2) (fw_t (fw_km k3) (fw_t (fw_km k4) (fw_km k5))))
      obtain ⟨g6, e6, M8, k6⟩ := M_202 (p := stT (quT m (1, 1, 0) p)) hn hn2 (by rw [f5.2 4 (by omega)]; exact h4) M7
      exact ⟨g6, e6, M8, fw_t f5 k6⟩
  | succ k ih =>
    intro f h p hf hk op pz M1 M2 h4
    obtain ⟨f, rfl⟩ : ∃ q, f = q + 1 := ⟨f - 1, by omega⟩
    have em : ((k + 1 : Nat) : Int) - 1 = (k : Int) := by omega
    have P : 2 ^ (10 - k) = 2 * 2 ^ (10 - (k + 1)) := by
      rw [← Nat.pow_succ']
      congr 1
      omega
    have Q : 0 < 2 ^ (10 - (k + 1)) := Nat.pow_pos (by decide)
    have s1 := mulR_ok hm op op
    have s2 := mulR_ok hm s1 hb
    have vb : v / 2 ^ k < 1000 := Nat.lt_of_le_of_lt (Nat.div_le_self _ _) hv
    rw [f_M_raise_81, em, if_neg (by rw [i0, iI_lt ⟨by omega, by omega⟩ ⟨by omega, by omega⟩]; omega), sh_tab k (by omega) v hv, b1_tab _ vb, im1, iI_add, show (k : Int) + -1 = (k : Int) - 1 by omega]
    obtain ⟨w, hw⟩ : ∃ w, v / 2 ^ k = w := ⟨_, rfl⟩
    rw [hw] at vb ⊢
    by_cases q1 : w = 0
    · have e0 : pwL m v b (k + 1) p = pwL m v b k p := if_pos (by rw [hw]; exact q1)
      rw [q1, if_pos (by rfl), e0]
      exact ih f h p (by omega) (by omega) (okN_w op (by omega) (Nat.le_refl _)) pz M1 M2 h4
    · rw [if_neg (by rw [i0, iI_eq ⟨by omega, by omega⟩ ⟨by omega, by omega⟩]; omega)]
      obtain ⟨g1, g2, g3, e1, e2, e3, M3, k3, K0⟩ := M_sq (y := 2) (p := p) (u := p) (by omega) hm hm2 hm2 op op M2 M2
      rw [bd_t (show f_M_multiply 2 2 3 h = _ from e1), bd_t e2, bd_t e3]
      have M1' := K0 _ _ _ M1
      have h4' : g3 46 4 = iI (n : Int) := by rw [k3.2 4 (by omega)]; exact h4
      by_cases q2 : w % 2 = 0
      · have e0 : pwL m v b (k + 1) p = pwL m v b k (mulR m p p) := by
          show (if v / 2 ^ k = 0 then _ else if v / 2 ^ k % 2 = 0 then _ else _) = _
          rw [hw, if_neg q1, if_pos q2]
        rw [if_pos (by rw [q2]; rfl), e0]
        obtain ⟨g4, e4, M4, k4⟩ := ih f g3 (mulR m p p) (by omega) (by omega) (okN_w s1 (by omega) (Nat.le_refl _)) (by
          rcases pz with a | a
          · exact Or.inl (mulR_pos hm a a)
          · exact Or.inr a) M1' M3 h4'
        exact ⟨g4, e4, M4, fw_t k3 k4⟩
      · have e0 : pwL m v b (k + 1) p = pwL m v b k (mulR m (mulR m p p) b) := by
          show (if v / 2 ^ k = 0 then _ else if v / 2 ^ k % 2 = 0 then _ else _) = _
          rw [hw, if_neg q1, if_neg q2]
        rw [if_neg (by rw [i0, iI_eq ⟨by omega, by omega⟩ ⟨by omega, by omega⟩]; omega), e0]
        obtain ⟨g4, g5, g6, e4, e5, e6, M4, k6, K1⟩ := M_sq (y := 0) (p := mulR m p p) (u := b) (by omega) hm hm2 (by decide) s1 hb M3 M1'
        rw [bd_t (show f_M_multiply 2 0 3 g3 = _ from e4), bd_t e5, bd_t e6]
        have M1'' := K1 _ _ _ M1'
        have h4'' : g6 46 4 = iI (n : Int) := by rw [k6.2 4 (by omega)]; exact h4'
        obtain ⟨g7, e7, M5, k7⟩ := ih f g6 (mulR m (mulR m p p) b) (by omega) (by omega) (okN_w s2 (by omega) (Nat.le_refl _)) (by
          rcases Nat.eq_zero_or_pos b.2.1 with y | y
          · exact Or.inr y
          · rcases pz with a | a
            · exact Or.inl (mulR_pos hm (mulR_pos hm a a) y)
            · omega) M1'' M4 h4''
        exact ⟨g7, e7, M5, fw_t k3 (fw_t k6 k7)⟩
theorem M_raise {n : Nat} {v : Int} {b : Int × Nat × Int} {h : Hp} (hn : 0 < n) (hn2 : n ≤ 20) (hv : -999 ≤ v ∧ v ≤ 999) (hb : okN 1501 20 b) (h4 : h 46 4 = iI (n : Int)) (M : isM h 0 b.1 b.2.1 b.2.2) : ∃ h', f_M_raise (iI v) h = some (iI (pwC v b), h') ∧ (pwC v b = 0 → isM h' 2 (pwT n v b).1 (pwT n v b).2.1 (pwT n v b).2.2) ∧ fw h h' := by
  have o1 := hb.1
  unfold isS at o1
  have o2 := hb.2.1
  have pm := pwM_b n v
  have c5 : inR 0 5 := inz (z := 0) (by omega)
  have cl0 : Int32.toNatClampNeg 0 = 0 := rfl
  have e0 : pwC v b = if v < 0 ∧ b.2.1 = 0 then 42 else 0 := if_neg (by omega)
  have t56 : (v < 0 → 0 < b.2.1) → ∀ x y : Int32, x + y = iI (pwM n v : Int) → ∃ h', f_M_raise_56 (iI v) (iI (v.natAbs : Int)) (x + y) h = some (0, h') ∧ isM h' 2 (pwT n v b).1 (pwT n v b).2.1 (pwT n v b).2.2 ∧ fw h h' := by
    intro hz x y hxy
    unfold f_M_raise_56
    obtain ⟨g1, e1, k1, U⟩ := M_unit (z := 2) (h := h) (by omega)
    obtain ⟨M3, k1'⟩ := U 5200 (by omega)
    rw [bd_t (show f_M_zero 2 h = _ from e1), chk_t (show inR 2 5 from inz (z := 2) (by omega)), chk_t (show inR 5200 13000 from iI_inR (a := 5200) (by omega) (by omega) (by omega)), show Int32.toNatClampNeg 2 = 2 from rfl, show Int32.toNatClampNeg 5200 = 5200 from rfl, hxy]
    obtain ⟨g2, e2, M2, k2⟩ := M_pow_loop (m := pwM n v) (n := n) (v := v.natAbs) (vv := v) (b := b) (by omega) (by omega) hn hn2 (by omega) ⟨by omega, by omega⟩ hb hz 10 fuel _ (1, 1, 0) (by unfold fuel; omega) (by omega) (one_ok (by omega)) (Or.inl Nat.one_pos) (isM_km (by omega) M k1') M3 (by rw [(fw_km k1').2 4 (by omega)]; exact h4)
    exact ⟨g2, e2, M2, fw_t (fw_km k1') k2⟩
  have t38 : ∀ x y : Int32, x + y = iI (pwM n v : Int) → ∃ h', f_M_raise_38 (iI v) (iI (v.natAbs : Int)) x y h = some (iI (pwC v b), h') ∧ (pwC v b = 0 → isM h' 2 (pwT n v b).1 (pwT n v b).2.1 (pwT n v b).2.2) ∧ fw h h' := by
    intro x y hxy
    unfold f_M_raise_38
    rw [chk_t c5, cl0, M.2.2.1, e0]
    by_cases q4 : b.2.1 = 0
    · rw [if_pos (by rw [o2.mpr q4]; rfl)]
      by_cases q3 : 0 ≤ v
      · rw [if_pos (by rw [i0, iI_le ⟨by omega, by omega⟩ ⟨by omega, by omega⟩]; exact q3), if_neg (show ¬ (v < 0 ∧ b.2.1 = 0) by omega)]
        obtain ⟨g, e, M1, k⟩ := t56 (fun z => by omega) x y hxy
        exact ⟨g, e, fun _ => M1, k⟩
      · rw [if_neg (by rw [i0, iI_le ⟨by omega, by omega⟩ ⟨by omega, by omega⟩]; exact q3), if_pos (show v < 0 ∧ b.2.1 = 0 from ⟨by omega, q4⟩)]
        exact ⟨h, rfl, fun z => absurd z (by decide), fw_r _⟩
    · have s0 : b.1 ≠ 0 := fun z => q4 (o2.mp z)
      rw [if_neg (by rw [i0, iI_eq ⟨by omega, by omega⟩ ⟨by omega, by omega⟩]; exact s0), if_neg (show ¬ (v < 0 ∧ b.2.1 = 0) from fun z => q4 z.2)]
      obtain ⟨g, e, M1, k⟩ := t56 (fun z => by omega) x y hxy
      exact ⟨g, e, fun _ => M1, k⟩
  have t10 : ∃ h', f_M_raise_10 (iI v) (iI (v.natAbs : Int)) h = some (iI (pwC v b), h') ∧ (pwC v b = 0 → isM h' 2 (pwT n v b).1 (pwT n v b).2.1 (pwT n v b).2.2) ∧ fw h h' := by
    unfold f_M_raise_10
    rw [h4]
    by_cases a1 : v.natAbs ≤ 99
    · rw [if_pos (by rw [show (99 : Int32) = iI 99 from rfl, iI_le ⟨by omega, by omega⟩ ⟨by omega, by omega⟩]; omega)]
      by_cases a2 : v.natAbs ≤ 9
      · rw [if_pos (by rw [show (9 : Int32) = iI 9 from rfl, iI_le ⟨by omega, by omega⟩ ⟨by omega, by omega⟩]; omega)]
        refine t38 _ _ ?_
        rw [scN, scN, show n + 1 + 1 = pwM n v by unfold pwM; rw [if_pos a2]]
      · rw [if_neg (by rw [show (9 : Int32) = iI 9 from rfl, iI_le ⟨by omega, by omega⟩ ⟨by omega, by omega⟩]; omega)]
        refine t38 _ _ ?_
        rw [scN, show (2 : Int32) = iI 2 from rfl, iI_add, show ((n + 1 : Nat) : Int) + 2 = (pwM n v : Int) by unfold pwM; rw [if_neg a2, if_pos a1]; omega]
    · rw [if_neg (by rw [show (99 : Int32) = iI 99 from rfl, iI_le ⟨by omega, by omega⟩ ⟨by omega, by omega⟩]; omega)]
      refine t38 _ _ ?_
      rw [scN, show (3 : Int32) = iI 3 from rfl, iI_add, show ((n + 1 : Nat) : Int) + 3 = (pwM n v : Int) by unfold pwM; rw [if_neg (show ¬ v.natAbs ≤ 9 by omega), if_neg a1]; omega]
  unfold f_M_raise
  by_cases q : 0 ≤ v
  · rw [if_pos (by rw [i0, iI_le ⟨by omega, by omega⟩ ⟨by omega, by omega⟩]; exact q)]
    rw [show ((v.natAbs : Nat) : Int) = v by omega] at t10
    exact t10
  · rw [if_neg (by rw [i0, iI_le ⟨by omega, by omega⟩ ⟨by omega, by omega⟩]; exact q), iI_neg]
    rw [show ((v.natAbs : Nat) : Int) = -v by omega] at t10
    exact t10
end
section
/-! PURE 30: what a call of work reckons -/
theorem rN_same {n : Nat} {t : Int × Nat × Int} (h : nd t.2.1 ≤ n) : rN n t = t := by
  unfold rN
  rw [rnd_same h]
theorem strp_e : ∀ (m c : Nat) (e : Int), e ≤ (strp m c e).2 ∧ (strp m c e).2 ≤ e + m
  | 0, c, e => ⟨Int.le_refl _, by show e ≤ e + ((0 : Nat) : Int); omega⟩
  | m + 1, c, e => by
    unfold strp
    split
    · have := strp_e m (c / 10) (e + 1)
      omega
    · constructor
      · exact Int.le_refl _
      · show e ≤ e + ((m + 1 : Nat) : Int)
        omega
theorem stT_ok {b n : Nat} {t : Int × Nat × Int} (H : okN b n t) : okN (b + n) n (stT t) := by
  obtain ⟨t1, t2, t3, t4, t5, t6⟩ := H
  have a := strp_nd (nd t.2.1) t.2.1 t.2.2
  have c := strp_e (nd t.2.1) t.2.1 t.2.2
  have z : t.2.1 = 0 → strip t.2.1 t.2.2 = (0, t.2.2) := fun q => by
    unfold strip
    rw [q, nd_0]
    rfl
  refine ⟨t1, ⟨fun q => ?_, fun q => ?_⟩, fun q => ?_, ?_, ?_, ?_⟩
  · show (strip t.2.1 t.2.2).1 = 0
    rw [z (t2.mp q)]
  · have q : (strip t.2.1 t.2.2).1 = 0 := q
    apply t2.mpr
    rcases Nat.eq_zero_or_pos t.2.1 with w | w
    · exact w
    · have := a.2 w
      have q : (strp (nd t.2.1) t.2.1 t.2.2).1 = 0 := q
      omega
  · have q : (strip t.2.1 t.2.2).1 = 0 := q
    show (strip t.2.1 t.2.2).2 = 0
    have w : t.2.1 = 0 := by
      rcases Nat.eq_zero_or_pos t.2.1 with w | w
      · exact w
      · have := a.2 w
        have q : (strp (nd t.2.1) t.2.1 t.2.2).1 = 0 := q
        omega
    rw [z w]
    exact t3 w
  · show -((b + n : Nat) : Int) ≤ (strp (nd t.2.1) t.2.1 t.2.2).2
    omega
  · show (strp (nd t.2.1) t.2.1 t.2.2).2 ≤ ((b + n : Nat) : Int)
    omega
  · show nd (strp (nd t.2.1) t.2.1 t.2.2).1 ≤ n
    omega
theorem exS_ok {b m : Nat} {t u : Int × Nat × Int} (H1 : okN b m t) (H2 : okN b m u) : okN b (2 * b + m + 1) (exS t u) := by
  obtain ⟨t1, t2, t3, t4, t5, t6⟩ := id H1
  obtain ⟨u1, u2, u3, u4, u5, u6⟩ := id H2
  obtain ⟨l1, l2, l3⟩ := lwE_p t u
  unfold exS
  by_cases q1 : u.2.1 = 0
  · rw [if_pos q1]
    exact okN_w H1 (Nat.le_refl _) (by omega)
  rw [if_neg q1]
  by_cases q2 : t.2.1 = 0
  · rw [if_pos q2]
    exact okN_w H2 (Nat.le_refl _) (by omega)
  rw [if_neg q2]
  have X := sX_lt (c := t.2.1) (K := 2 * b + m) l1 (by omega)
  have Y := sX_lt (c := u.2.1) (K := 2 * b + m) l2 (by omega)
  have P : 10 ^ (2 * b + m + 1) = 10 ^ (2 * b + m) * 10 := Nat.pow_succ _ _
  have bl : -(b : Int) ≤ lwE t u ∧ lwE t u ≤ b := by omega
  by_cases q3 : t.1 = u.1
  · rw [if_pos q3]
    exact nrm_ok t1 (fun z => absurd (t2.mp z) q2) bl (nd_le_of (by omega))
  rw [if_neg q3]
  split
  · exact nrm_ok u1 (fun z => absurd (u2.mp z) q1) bl (nd_le_of (by omega))
  · exact nrm_ok t1 (fun z => absurd (t2.mp z) q2) bl (nd_le_of (by omega))
theorem qu0_ok {b n n1 : Nat} {t u : Int × Nat × Int} (H1 : okN b n1 t) (H2 : okN b n1 u) (hu : 0 < u.2.1) : okN (2 * b + 2 * n1 + n + 2) (n1 + n + 2) (qu0 n t u) := by
  obtain ⟨t1, t2, t3, t4, t5, t6⟩ := H1
  obtain ⟨u1, u2, u3, u4, u5, u6⟩ := H2
  have a := qT_le (n + 1) t.2.1 u.2.1 (nd u.2.1 + n + 2) 0
  have s := sg_mul t1 u1
  have a : quS n t u ≤ nd u.2.1 + n + 2 := by
    have := a.2
    unfold quS
    omega
  unfold qu0
  refine nrm_ok s.1 (fun z => ?_) ⟨by omega, by omega⟩ ?_
  · rcases s.2 z with w | w
    · rw [t2.mp w, pfx_00, Nat.zero_div]
    · have := u2.mp w
      omega
  · have c := nd_mono (Nat.div_le_self (pfx t.2.1 (quS n t u)) u.2.1)
    have d := nd_le_of (pfx_lt t.2.1 (quS n t u))
    omega
theorem pwT_ok {n : Nat} {v : Int} {b : Int × Nat × Int} (hn : 0 < n) (hn2 : n ≤ 20) (hb : okN 1501 20 b) (hz : v < 0 → 0 < b.2.1) : okN 20000000 n (pwT n v b) := by
  have pm := pwM_b n v
  have op : okN 5000000 (pwM n v) (pwP n v b) := pwL_ok (v := v.natAbs) (by omega) (by omega) hb 10 (1, 1, 0) (by omega) (one_ok (by omega))
  unfold pwT
  split
  · exact okN_w (stT_ok (rN_ok hn op)) (by omega) (Nat.le_refl _)
  · have pp : 0 < (pwP n v b).2.1 := pwL_pos (by omega) (hz (by omega)) 10 (1, 1, 0) Nat.one_pos
    have o2 := qu0_ok (n := pwM n v) (t := (1, 1, 0)) (one_ok (b := 5000000) (n := pwM n v) (by omega)) op pp
    have o3 : okN _ _ (stT (quT (pwM n v) (1, 1, 0) (pwP n v b))) := stT_ok (rN_ok (n := pwM n v) (by omega) o2)
    exact okN_w (stT_ok (rN_ok hn o3)) (by omega) (Nat.le_refl _)
def ptP (t u : Int × Nat × Int) : Int × Nat × Int := nrm (t.1 * u.1) (ptW t u) 0
def prT (t u : Int × Nat × Int) : Int × Nat × Int := nrm ((ptP t u).1 * u.1) ((ptP t u).2.1 * u.2.1) ((ptP t u).2.2 + u.2.2)
def wkR (op : Int) (n : Nat) (t u : Int × Nat × Int) : Int × (Int × Nat × Int) :=
  if op = 0 then (0, rN n (exS t u)) else if op = 1 then (0, rN n (exS t (ngT 1 u))) else if op = 2 then (0, mulR n t u)
  else if op = 6 then (match wv u.1 u.2.1 u.2.2 with
    | none => (26, (0, 0, 0))
    | some v => (pwC v t, pwT n v t))
  else if u.2.1 = 0 then (42, (0, 0, 0))
  else if op = 3 then (0, rN n (stT (quT n t u)))
  else if n < nd (ptW t u) then (26, (0, 0, 0))
  else if op = 4 then (0, ptP t u) else (0, rN n (exS t (ngT 1 (prT t u))))
theorem ptP_ok {b1 b2 n1 n2 n : Nat} {t u : Int × Nat × Int} (H1 : okN b1 n1 t) (H2 : okN b2 n2 u) (hu : 0 < u.2.1) (h : nd (ptW t u) ≤ n) : okN 0 n (ptP t u) := by
  obtain ⟨t1, t2, -⟩ := H1
  obtain ⟨u1, u2, -⟩ := H2
  have s := sg_mul t1 u1
  refine nrm_ok s.1 (fun z => ?_) ⟨by omega, by omega⟩ h
  rcases s.2 z with w | w
  · unfold ptW
    rw [t2.mp w, pfx_00, Nat.zero_div]
  · have := u2.mp w
    omega
theorem wkR_ok {op : Int} {n : Nat} {t u : Int × Nat × Int} (hn : 0 < n) (hn2 : n ≤ 20) (H1 : okN 1501 20 t) (H2 : okN 1501 20 u) (h0 : (wkR op n t u).1 = 0) : okN 100000000 20 (wkR op n t u).2 := by
  unfold wkR at h0 ⊢
  by_cases o0 : op = 0
  · rw [if_pos o0]
    exact okN_w (rN_ok hn (exS_ok H1 H2)) (by omega) hn2
  rw [if_neg o0] at h0 ⊢
  by_cases o1 : op = 1
  · rw [if_pos o1]
    exact okN_w (rN_ok hn (exS_ok H1 (ngT_ok H2))) (by omega) hn2
  rw [if_neg o1] at h0 ⊢
  by_cases o2 : op = 2
  · rw [if_pos o2]
    exact okN_w (mulR_ok hn H1 H2) (by omega) hn2
  rw [if_neg o2] at h0 ⊢
  by_cases o6 : op = 6
  · rw [if_pos o6] at h0 ⊢
    cases hx : wv u.1 u.2.1 u.2.2 with
    | none =>
      rw [hx] at h0
      exact absurd (show (26 : Int) = 0 from h0) (by decide)
    | some v =>
      rw [hx] at h0
      have h0 : pwC v t = 0 := h0
      refine okN_w (pwT_ok (v := v) hn hn2 H1 (fun z => ?_)) (by omega) hn2
      unfold pwC at h0
      by_cases a : v < -999 ∨ 999 < v
      · rw [if_pos a] at h0
        omega
      · rw [if_neg a] at h0
        by_cases b : v < 0 ∧ t.2.1 = 0
        · rw [if_pos b] at h0
          omega
        · omega
  rw [if_neg o6] at h0 ⊢
  by_cases c0 : u.2.1 = 0
  · rw [if_pos c0] at h0
    exact absurd h0 (by decide)
  rw [if_neg c0] at h0 ⊢
  by_cases o3 : op = 3
  · rw [if_pos o3]
    have o : okN _ _ (stT (quT n t u)) := stT_ok (rN_ok hn (qu0_ok (n := n) H1 H2 (by omega)))
    exact okN_w (rN_ok hn o) (by omega) hn2
  rw [if_neg o3] at h0 ⊢
  by_cases cw : n < nd (ptW t u)
  · rw [if_pos cw] at h0
    exact absurd h0 (by decide)
  rw [if_neg cw] at h0 ⊢
  have oP := ptP_ok (n := 20) H1 H2 (by omega) (by omega)
  by_cases o4 : op = 4
  · rw [if_pos o4]
    exact okN_w oP (by omega) (Nat.le_refl _)
  rw [if_neg o4]
  have oQ : okN _ _ (prT t u) := pr_ok oP H2
  exact okN_w (rN_ok hn (exS_ok (okN_w H1 (by omega) (by omega)) (ngT_ok (okN_w oQ (show 0 + 1501 ≤ 1501 by omega) (show 20 + 20 ≤ 40 by omega))))) (by omega) hn2
-- ===== the class =====
theorem C_reckon {op : Int} {n : Nat} {t u : Int × Nat × Int} {h : Hp} (ho : 0 ≤ op ∧ op ≤ 6) (hn : 0 < n) (hn2 : n ≤ 20) (ot : okN 1501 20 t) (ou : okN 1501 20 u) (Nt : isN h 29 t.1 t.2.1 t.2.2) (Nu : isN h 31 u.1 u.2.1 u.2.2) : ∃ h', f_K_reckon (iI op) 29 31 (iI (n : Int)) 33 h = some (iI (wkR op n t u).1, h') ∧ ((wkR op n t u).1 = 0 → isN h' 33 (wkR op n t u).2.1 (wkR op n t u).2.2.1 (wkR op n t u).2.2.2) ∧ fr h h' := by
  have u1 := ou.1
  unfold isS at u1
  have u2 := ou.2.1
  have ot2 : okN 10000 20 t := okN_w ot (by omega) (Nat.le_refl _)
  have ou2 : okN 10000 20 u := okN_w ou (by omega) (Nat.le_refl _)
  have rd : ∀ (g : Hp) (w : Int × Nat × Int) (c : Int32), fr h g → isN g 33 w.1 w.2.1 w.2.2 → ∃ h', bd (f_N_roundTo 33 (iI (n : Int)) g) (fun _u161 h161 => some (c, h161)) = some (c, h') ∧ isN h' 33 (rN n w).1 (rN n w).2.1 (rN n w).2.2 ∧ fr h h' := by
    intro g w c fg N
    obtain ⟨g1, e1, N1, k1⟩ := N_roundTo N hn (by omega)
    rw [bd_t e1]
    exact ⟨g1, rfl, N1, fr_t fg (fr_kp (by omega) (by omega) (by omega) (by omega) k1)⟩
  have ra : ∀ (g : Hp) (c : Int32), fr h g → ∃ h', bd (f_N_roundTo 33 (iI (n : Int)) g) (fun _u161 h161 => some (c, h161)) = some (c, h') ∧ fr h h' := by
    intro g c fg
    obtain ⟨g1, e1, k1⟩ := N_any (h := g) hn hn2
    rw [bd_t e1]
    exact ⟨g1, rfl, fr_t fg (fr_kp (by omega) (by omega) (by omega) (by omega) k1)⟩
  have fS : ∀ g g' : Hp, kS g g' → fr g g' := fun g g' k j hj => k j (by omega) (by omega) (by omega) (by omega) (by omega)
  have r20 : ((op < 3 ∨ 5 < op) ∨ 0 < u.2.1) → ∃ h', f_K_reckon_20 (iI op) 29 31 (iI (n : Int)) 33 h = some (iI (wkR op n t u).1, h') ∧ ((wkR op n t u).1 = 0 → isN h' 33 (wkR op n t u).2.1 (wkR op n t u).2.2.1 (wkR op n t u).2.2.2) ∧ fr h h' := by
    intro hu
    unfold f_K_reckon_20 wkR
    by_cases o0 : op = 0
    · rw [if_pos (by rw [o0]; rfl), if_pos o0]
      obtain ⟨g1, w, e1, N1, -, s1, k1⟩ := C_sum (j := 31) (fl := 0) (Or.inl rfl) (by omega) ot2 (okN_w ou2 (Nat.le_refl _) (by omega)) Nt Nu
      rw [bd_t (show f_K_sum 29 31 0 33 h = _ from e1)]
      obtain ⟨g2, e2, N2, f2⟩ := rd g1 w 0 (fS _ _ k1) N1
      rw [s1 n hn hn2] at N2
      exact ⟨g2, e2, fun _ => N2, f2⟩
    rw [if_neg (by rw [i0, iI_eq ⟨by omega, by omega⟩ ⟨by omega, by omega⟩]; exact o0), if_neg o0]
    by_cases o1 : op = 1
    · rw [if_pos (by rw [o1]; rfl), if_pos o1]
      obtain ⟨g1, w, e1, N1, -, s1, k1⟩ := C_sum (j := 31) (fl := 1) (Or.inl rfl) (by omega) ot2 (okN_w ou2 (Nat.le_refl _) (by omega)) Nt Nu
      rw [bd_t (show f_K_sum 29 31 1 33 h = _ from e1)]
      obtain ⟨g2, e2, N2, f2⟩ := rd g1 w 0 (fS _ _ k1) N1
      rw [s1 n hn hn2] at N2
      exact ⟨g2, e2, fun _ => N2, f2⟩
    rw [if_neg (by rw [i1, iI_eq ⟨by omega, by omega⟩ ⟨by omega, by omega⟩]; exact o1), if_neg o1]
    have t6 := ot.2.2.2.2.2
    have u6 := ou.2.2.2.2.2
    by_cases o2 : op = 2
    · rw [if_pos (by rw [o2]; rfl), if_pos o2]
      obtain ⟨g1, e1, N1, k1⟩ := K_prod (i := 29) (j := 31) (z := 33) (t := t) (u := u) (by omega) (by omega) (by omega) (by omega) (by omega) (by omega) (by decide) (by omega) Nt Nu
      rw [bd_t e1]
      obtain ⟨g2, e2, N2, f2⟩ := rd g1 _ 0 (fun j hj => k1 j (by omega) (by omega) (by omega)) N1
      exact ⟨g2, e2, fun _ => N2, f2⟩
    rw [if_neg (by rw [show (2 : Int32) = iI 2 from rfl, iI_eq ⟨by omega, by omega⟩ ⟨by omega, by omega⟩]; exact o2), if_neg o2]
    by_cases o6 : op = 6
    · rw [if_neg (by rw [show (3 : Int32) = iI 3 from rfl, iI_eq ⟨by omega, by omega⟩ ⟨by omega, by omega⟩]; omega), if_neg (by rw [show (4 : Int32) = iI 4 from rfl, iI_eq ⟨by omega, by omega⟩ ⟨by omega, by omega⟩]; omega), if_neg (by rw [show (5 : Int32) = iI 5 from rfl, iI_eq ⟨by omega, by omega⟩ ⟨by omega, by omega⟩]; omega), if_pos o6]
      have o4 := ou.2.2.2.1
      have o5 := ou.2.2.2.2.1
      rw [bd_t (N_whole Nu ou.1 ⟨by omega, by omega⟩)]
      cases hx : wv u.1 u.2.1 u.2.2 with
      | none =>
        obtain ⟨g1, e1, -, k1⟩ := K_pow (n := n) (v := -2000000000) hn hn2 ⟨by omega, by omega⟩ ot Nt
        have c26 : pwC (-2000000000) t = 26 := if_pos (by omega)
        rw [c26] at e1
        rw [show (none : Option Int).getD (-2000000000) = -2000000000 from rfl, bd_t e1]
        obtain ⟨g2, e2, f2⟩ := ra g1 (iI 26) (fun j hj => k1 j (by omega) (by omega) (by omega) (by omega) (by omega) (by omega) (by omega) (by omega) (by omega))
        exact ⟨g2, e2, fun z => absurd (show (26 : Int) = 0 from z) (by decide), f2⟩
      | some v =>
        have vb : bI v := by
          unfold wv at hx
          have h9 := nd_lt u.2.1
          by_cases a : 9 < (nd u.2.1 : Int) + u.2.2
          · rw [if_pos a] at hx
            cases hx
          · rw [if_neg a] at hx
            by_cases b : 0 ≤ u.2.2
            · rw [if_pos b] at hx
              have hx := Option.some.inj hx
              have c : u.2.1 * 10 ^ u.2.2.toNat < 10 ^ 9 := sX_lt (c := u.2.1) (e := u.2.2) (L := 0) (K := 9) b (by omega) |> fun z => by
                unfold sX at z
                rw [Int.sub_zero] at z
                exact z
              have d : (10 : Nat) ^ 9 = 1000000000 := by decide
              rw [d] at c
              obtain ⟨V, hV⟩ : ∃ V, u.2.1 * 10 ^ u.2.2.toNat = V := ⟨_, rfl⟩
              rw [hV] at hx c
              split at hx <;> omega
            · rw [if_neg b] at hx
              by_cases z : u.2.1 % 10 ^ (-u.2.2).toNat = 0
              · rw [if_pos z] at hx
                have hx := Option.some.inj hx
                have c : u.2.1 / 10 ^ (-u.2.2).toNat < 10 ^ 9 := by
                  rw [Nat.div_lt_iff_lt_mul (p10 _), ← Nat.pow_add]
                  exact Nat.lt_of_lt_of_le h9 (Nat.pow_le_pow_right (by decide) (by omega))
                have d : (10 : Nat) ^ 9 = 1000000000 := by decide
                rw [d] at c
                obtain ⟨V, hV⟩ : ∃ V, u.2.1 / 10 ^ (-u.2.2).toNat = V := ⟨_, rfl⟩
                rw [hV] at hx c
                split at hx <;> omega
              · rw [if_neg z] at hx
                cases hx
        obtain ⟨g1, e1, N1, k1⟩ := K_pow (n := n) (v := v) hn hn2 vb ot Nt
        have f1 : fr h g1 := fun j hj => k1 j (by omega) (by omega) (by omega) (by omega) (by omega) (by omega) (by omega) (by omega) (by omega)
        rw [show (some v : Option Int).getD (-2000000000) = v from rfl, bd_t e1]
        show ∃ h', _ = some (iI (pwC v t), h') ∧ (pwC v t = 0 → isN h' 33 (pwT n v t).1 (pwT n v t).2.1 (pwT n v t).2.2) ∧ _
        by_cases z : pwC v t = 0
        · obtain ⟨g2, e2, N2, f2⟩ := rd g1 (pwT n v t) (iI (pwC v t)) f1 (N1 z)
          have ok := pwT_ok (v := v) hn hn2 ot (fun y => by
            unfold pwC at z
            by_cases a : v < -999 ∨ 999 < v
            · rw [if_pos a] at z
              omega
            · rw [if_neg a] at z
              by_cases b : v < 0 ∧ t.2.1 = 0
              · rw [if_pos b] at z
                omega
              · omega)
          rw [rN_same ok.2.2.2.2.2] at N2
          exact ⟨g2, e2, fun _ => N2, f2⟩
        · obtain ⟨g2, e2, f2⟩ := ra g1 (iI (pwC v t)) f1
          exact ⟨g2, e2, fun y => absurd y z, f2⟩
    rw [if_neg o6]
    have c0 : 0 < u.2.1 := by omega
    rw [if_neg (show ¬ u.2.1 = 0 by omega)]
    by_cases o3 : op = 3
    · rw [if_pos (by rw [o3]; rfl), if_pos o3]
      obtain ⟨g1, e1, N1, k1⟩ := K_quot (i := 29) (j := 31) (z := 33) (n := n) (t := t) (u := u) (by omega) (by omega) (by omega) (by omega) (by omega) rfl c0 hn (by omega) (by omega) Nt Nu
      rw [bd_t e1]
      obtain ⟨g2, e2, N2, f2⟩ := rd g1 _ 0 (fun j hj => k1 j (by omega) (by omega) (by omega) (by omega)) N1
      exact ⟨g2, e2, fun _ => N2, f2⟩
    rw [if_neg (by rw [show (3 : Int32) = iI 3 from rfl, iI_eq ⟨by omega, by omega⟩ ⟨by omega, by omega⟩]; exact o3), if_neg o3]
    by_cases o4 : op = 4
    · rw [if_pos (by rw [o4]; rfl), if_pos o4]
      obtain ⟨g1, e1, N1, k1⟩ := K_part (i := 29) (j := 31) (z := 33) (n := n) (t := t) (u := u) (by omega) (by omega) (by omega) (by omega) (by omega) rfl c0 hn hn2 ot2 ou2 Nt Nu
      have f1 : fr h g1 := fun j hj => k1 j (by omega) (by omega) (by omega) (by omega)
      rw [bd_t e1]
      by_cases w : nd (ptW t u) ≤ n
      · rw [if_pos w, if_neg (show ¬ n < nd (ptW t u) by omega)]
        obtain ⟨g2, e2, N2, f2⟩ := rd g1 (ptP t u) (iI 0) f1 (N1 w)
        rw [rN_same (ptP_ok ot ou c0 w).2.2.2.2.2] at N2
        exact ⟨g2, e2, fun _ => N2, f2⟩
      · rw [if_neg w, if_pos (show n < nd (ptW t u) by omega)]
        obtain ⟨g2, e2, f2⟩ := ra g1 (iI 26) f1
        exact ⟨g2, e2, fun z => absurd z (by decide), f2⟩
    rw [if_neg (by rw [show (4 : Int32) = iI 4 from rfl, iI_eq ⟨by omega, by omega⟩ ⟨by omega, by omega⟩]; exact o4), if_neg o4, if_pos (by rw [show op = 5 by omega]; rfl)]
    unfold f_K_restOf
    obtain ⟨g1, e1, N1, k1⟩ := K_part (i := 29) (j := 31) (z := 40) (n := n) (t := t) (u := u) (by omega) (by omega) (by omega) (by omega) (by omega) rfl c0 hn hn2 ot2 ou2 Nt Nu
    have f1 : fr h g1 := fun j hj => k1 j (by omega) (by omega) (by omega) (by omega)
    rw [bd_t e1]
    by_cases w : nd (ptW t u) ≤ n
    · rw [if_pos w, if_neg (show ¬ n < nd (ptW t u) by omega), if_pos (by rfl)]
      have oP := ptP_ok ot ou c0 w
      obtain ⟨g2, e2, N2, k2⟩ := K_prod (i := 40) (j := 31) (z := 42) (t := ptP t u) (u := u) (by omega) (by omega) (by omega) (by omega) (by omega) (by omega) (by decide) (by have := oP.2.2.2.2.2; omega) (N1 w) (isN_eq Nu (k1 31 (by omega) (by omega) (by omega) (by omega)) (k1 32 (by omega) (by omega) (by omega) (by omega)))
      rw [bd_t e2]
      have oQ : okN _ _ (prT t u) := pr_ok oP ou
      obtain ⟨g3, w3, e3, N3, -, s3, k3⟩ := C_sum (j := 42) (fl := 1) (u := prT t u) (Or.inr rfl) (by omega) ot2 (okN_w oQ (by omega) (by omega)) (isN_eq Nt (by rw [k2 29 (by omega) (by omega) (by omega), k1 29 (by omega) (by omega) (by omega) (by omega)]) (by rw [k2 30 (by omega) (by omega) (by omega), k1 30 (by omega) (by omega) (by omega) (by omega)])) N2
      rw [bd_t (show f_K_sum 29 42 1 33 g2 = _ from e3)]
      have f3 : fr h g3 := fr_t f1 (fr_t (fun j hj => k2 j (by omega) (by omega) (by omega)) (fS _ _ k3))
      obtain ⟨g4, e4, N4, f4⟩ := rd g3 w3 (iI 0) f3 N3
      rw [s3 n hn hn2] at N4
      exact ⟨g4, e4, fun _ => N4, f4⟩
    · rw [if_neg w, if_pos (show n < nd (ptW t u) by omega), if_neg (by decide)]
      obtain ⟨g2, e2, f2⟩ := ra g1 (iI 26) f1
      exact ⟨g2, e2, fun z => absurd z (by decide), f2⟩
  unfold f_K_reckon
  by_cases a1 : op < 3
  · rw [if_pos (by rw [show (3 : Int32) = iI 3 from rfl, iI_lt ⟨by omega, by omega⟩ ⟨by omega, by omega⟩]; exact a1)]
    exact r20 (Or.inl (Or.inl a1))
  rw [if_neg (by rw [show (3 : Int32) = iI 3 from rfl, iI_lt ⟨by omega, by omega⟩ ⟨by omega, by omega⟩]; exact a1)]
  by_cases a2 : 5 < op
  · rw [if_pos (by rw [show (5 : Int32) = iI 5 from rfl, iI_lt ⟨by omega, by omega⟩ ⟨by omega, by omega⟩]; exact a2)]
    exact r20 (Or.inl (Or.inr a2))
  rw [if_neg (by rw [show (5 : Int32) = iI 5 from rfl, iI_lt ⟨by omega, by omega⟩ ⟨by omega, by omega⟩]; exact a2), Nu.2.2]
  by_cases a3 : u.2.1 = 0
  · have ew : wkR op n t u = (42, (0, 0, 0)) := by
      unfold wkR
      rw [if_neg (by omega), if_neg (by omega), if_neg (by omega), if_neg (by omega), if_pos a3]
    rw [if_pos (by rw [u2.mpr a3]; rfl), ew]
    exact ⟨h, rfl, fun z => absurd z (by decide), fr_r _⟩
  · have s0 : u.1 ≠ 0 := fun z => a3 (u2.mp z)
    rw [if_neg (by rw [i0, iI_eq ⟨by omega, by omega⟩ ⟨by omega, by omega⟩]; exact s0)]
    exact r20 (Or.inr (by omega))
end
section
/-! PURE 31: what the reference works -/
theorem prT_okE {t u : Int × Nat × Int} (et : okE t) (eu : okE u) (ht : t.2.1 = 0 → t.2.2 = 0) (hu : 0 < u.2.1) : okE (prT t u) := by
  unfold okE at *
  have hP : (ptP t u).2.1 = ptW t u ∧ (ptP t u).2.2 = 0 := by
    unfold ptP nrm
    split
    · rename_i w
      exact ⟨w.symm, rfl⟩
    · exact ⟨rfl, rfl⟩
  unfold prT nrm
  rw [hP.1, hP.2]
  by_cases q : ptW t u * u.2.1 = 0
  · rw [if_pos q]
    exact ⟨by decide, by decide⟩
  rw [if_neg q]
  show -1200 ≤ 0 + u.2.2 ∧ (nd (ptW t u * u.2.1) : Int) + (0 + u.2.2) ≤ 1201
  refine ⟨by omega, ?_⟩
  obtain ⟨l1, l2, l3⟩ := lwE_p t u
  have eW := ptW_eq (t := t) (u := u)
  have Yp := sX_pos (e := u.2.2) (L := lwE t u) hu
  have le1 : ptW t u * sX u.2.1 u.2.2 (lwE t u) ≤ sX t.2.1 t.2.2 (lwE t u) := by
    rw [eW]
    exact Nat.div_mul_le_self _ _
  have le2 : sX (ptW t u * u.2.1) u.2.2 (lwE t u) = ptW t u * sX u.2.1 u.2.2 (lwE t u) := by
    unfold sX
    rw [Nat.mul_assoc]
  have ht0 : t.2.1 ≠ 0 := fun w => by
    apply q
    have : ptW t u = 0 := by
      unfold ptW
      rw [w, pfx_00, Nat.zero_div]
    rw [this, Nat.zero_mul]
  rcases Int.lt_or_le ((nd t.2.1 : Int) + t.2.2) ((nd (ptW t u * u.2.1) : Int) + u.2.2) with w | w
  · have a := sX_lt (c := t.2.1) (K := ((nd t.2.1 : Int) + t.2.2 - lwE t u).toNat) l1 (by omega)
    have b := sX_ge (c := ptW t u * u.2.1) (K := ((nd t.2.1 : Int) + t.2.2 - lwE t u).toNat) (by omega) l2 (by omega)
    omega
  · omega
theorem M_worked {op v : Int} {n : Nat} {t u : Int × Nat × Int} {h : Hp} (ho : 0 ≤ op ∧ op ≤ 6) (hn : 0 < n) (hn2 : n ≤ 20) (ot : okN 1501 20 t) (ou : okN 1501 20 u) (et : okE t) (eu : okE u) (h4 : h 46 4 = iI (n : Int)) (hu : 3 ≤ op → op ≤ 5 → 0 < u.2.1) (hv : op = 6 → wv u.1 u.2.1 u.2.2 = some v ∧ -999 ≤ v ∧ v ≤ 999) (Mt : isM h 0 t.1 t.2.1 t.2.2) (Mu : isM h 1 u.1 u.2.1 u.2.2) : ∃ h', f_M_worked (iI op) (iI v) h = some (iI (wkR op n t u).1, h') ∧ ((wkR op n t u).1 = 0 → isM h' 2 (wkR op n t u).2.1 (wkR op n t u).2.2.1 (wkR op n t u).2.2.2) ∧ fw h h' := by
  have t6 := ot.2.2.2.2.2
  have u6 := ou.2.2.2.2.2
  have ot2 : okN 10000 100 t := okN_w ot (by omega) (by omega)
  have ou2 : okN 10000 100 u := okN_w ou (by omega) (by omega)
  have rd : ∀ (g : Hp) (w : Int × Nat × Int), fw h g → isM g 2 w.1 w.2.1 w.2.2 → ∃ h', bd (f_M_round 2 (g 46 4) g) (fun _u160 h160 => some ((0 : Int32), h160)) = some (0, h') ∧ isM h' 2 (rN n w).1 (rN n w).2.1 (rN n w).2.2 ∧ fw h h' := by
    intro g w fg M
    obtain ⟨g1, e1, M1, k1⟩ := M_round (z := 2) (n := n) (by omega) M hn (by omega)
    rw [show g 46 4 = iI (n : Int) by rw [fg.2 4 (by omega)]; exact h4, bd_t (show f_M_round 2 (iI (n : Int)) g = _ from e1)]
    exact ⟨g1, rfl, M1, fw_t fg (fw_km k1)⟩
  unfold f_M_worked wkR
  by_cases o0 : op = 0
  · rw [if_pos (by rw [o0]; rfl), if_pos o0]
    obtain ⟨g1, e1, M1, k1⟩ := M_add (x := 0) (y := 1) (z := 2) (fl := 0) (by omega) (by omega) (by omega) (by omega) (by omega) (by omega) ot2 ou2 et eu Mt Mu
    rw [bd_t (show f_M_add 0 1 0 2 h = _ from e1)]
    obtain ⟨g2, e2, M2, f2⟩ := rd g1 _ (fw_km k1) M1
    exact ⟨g2, e2, fun _ => M2, f2⟩
  rw [if_neg (by rw [i0, iI_eq ⟨by omega, by omega⟩ ⟨by omega, by omega⟩]; exact o0), if_neg o0]
  by_cases o1 : op = 1
  · rw [if_pos (by rw [o1]; rfl), if_pos o1]
    obtain ⟨g1, e1, M1, k1⟩ := M_add (x := 0) (y := 1) (z := 2) (fl := 1) (by omega) (by omega) (by omega) (by omega) (by omega) (by omega) ot2 ou2 et eu Mt Mu
    rw [bd_t (show f_M_add 0 1 1 2 h = _ from e1)]
    obtain ⟨g2, e2, M2, f2⟩ := rd g1 _ (fw_km k1) M1
    exact ⟨g2, e2, fun _ => M2, f2⟩
  rw [if_neg (by rw [i1, iI_eq ⟨by omega, by omega⟩ ⟨by omega, by omega⟩]; exact o1), if_neg o1]
  by_cases o2 : op = 2
  · rw [if_pos (by rw [o2]; rfl), if_pos o2]
    obtain ⟨g1, e1, M1, k1⟩ := M_mul (x := 0) (y := 1) (z := 2) (t := t) (u := u) (by omega) (by omega) (by omega) (by omega) (by omega) ot.1 ou.1 ot.2.1 ou.2.1 (by unfold mn; omega) Mt Mu
    rw [bd_t (show f_M_multiply 0 1 2 h = _ from e1)]
    obtain ⟨g2, e2, M2, f2⟩ := rd g1 _ (fw_km k1) M1
    exact ⟨g2, e2, fun _ => M2, f2⟩
  rw [if_neg (by rw [show (2 : Int32) = iI 2 from rfl, iI_eq ⟨by omega, by omega⟩ ⟨by omega, by omega⟩]; exact o2), if_neg o2]
  by_cases o6 : op = 6
  · obtain ⟨hx, hv1, hv2⟩ := hv o6
    rw [if_neg (by rw [show (3 : Int32) = iI 3 from rfl, iI_eq ⟨by omega, by omega⟩ ⟨by omega, by omega⟩]; omega), if_neg (by rw [show (4 : Int32) = iI 4 from rfl, iI_eq ⟨by omega, by omega⟩ ⟨by omega, by omega⟩]; omega), if_neg (by rw [show (5 : Int32) = iI 5 from rfl, iI_eq ⟨by omega, by omega⟩ ⟨by omega, by omega⟩]; omega), if_pos o6, hx]
    obtain ⟨g1, e1, M1, f1⟩ := M_raise (n := n) (v := v) hn hn2 ⟨hv1, hv2⟩ ot h4 Mt
    rw [bd_t e1]
    exact ⟨g1, rfl, M1, f1⟩
  rw [if_neg o6]
  have c0 : 0 < u.2.1 := hu (by omega) (by omega)
  rw [if_neg (show ¬ u.2.1 = 0 by omega)]
  by_cases o3 : op = 3
  · rw [if_pos (by rw [o3]; rfl), if_pos o3, h4]
    obtain ⟨g1, e1, M1, k1⟩ := M_div (x := 0) (y := 1) (z := 2) (n := n) (t := t) (u := u) (by omega) (by omega) (by omega) (by omega) (by omega) ot.1 ot.2.1 c0 (by omega) (by omega) (by omega) Mt Mu
    rw [bd_t (show f_M_divide 0 1 (iI (n : Int)) 2 h = _ from e1)]
    obtain ⟨g2, e2, M2, k2⟩ := M_round (z := 2) (n := n) (by omega) M1 hn (by omega)
    rw [show g1 46 4 = iI (n : Int) by rw [(fw_kd k1).2 4 (by omega)]; exact h4, bd_t (show f_M_round 2 (iI (n : Int)) g1 = _ from e2)]
    obtain ⟨g3, e3, M3, k3⟩ := M_noZeros (z := 2) (by omega) M2
    rw [bd_t (show f_M_noZeros 2 g2 = _ from e3)]
    obtain ⟨g4, e4, M4, f4⟩ := rd g3 (stT (quT n t u)) (fw_t (fw_kd k1) (fw_t (fw_km k2) (fw_km k3))) M3
    exact ⟨g4, e4, fun _ => M4, f4⟩
  rw [if_neg (by rw [show (3 : Int32) = iI 3 from rfl, iI_eq ⟨by omega, by omega⟩ ⟨by omega, by omega⟩]; exact o3), if_neg o3]
  obtain ⟨g1, e1, M1, k1⟩ := M_part (x := 0) (y := 1) (z := 2) (n := n) (t := t) (u := u) (by omega) (by omega) (by omega) (by omega) (by omega) hn hn2 h4 (okN_w ot (by omega) (Nat.le_refl _)) (okN_w ou (by omega) (Nat.le_refl _)) c0 Mt Mu
  have e1 : f_M_part 0 1 2 h = _ := e1
  by_cases o4 : op = 4
  · rw [if_pos (by rw [o4]; rfl), if_pos o4, bd_t e1]
    by_cases w : nd (ptW t u) ≤ n
    · rw [if_pos w, if_neg (by decide), if_neg (show ¬ n < nd (ptW t u) by omega)]
      exact ⟨g1, rfl, fun _ => M1 w, fw_kd k1⟩
    · rw [if_neg w, if_pos (by rfl), if_pos (show n < nd (ptW t u) by omega)]
      exact ⟨g1, rfl, fun z => absurd z (by decide), fw_kd k1⟩
  rw [if_neg (by rw [show (4 : Int32) = iI 4 from rfl, iI_eq ⟨by omega, by omega⟩ ⟨by omega, by omega⟩]; exact o4), if_neg o4, if_pos (by rw [show op = 5 by omega]; rfl), bd_t e1]
  by_cases w : nd (ptW t u) ≤ n
  · rw [if_pos w, if_neg (by decide), if_neg (show ¬ n < nd (ptW t u) by omega)]
    have oP := ptP_ok ot ou c0 w
    have oP6 := oP.2.2.2.2.2
    obtain ⟨g2, e2, M2, k2⟩ := M_mul (x := 1) (y := 2) (z := 3) (t := u) (u := ptP t u) (by omega) (by omega) (by omega) (by omega) (by omega) ou.1 oP.1 ou.2.1 oP.2.1 (by unfold mn; omega) (isM_kd (by omega) Mu k1) (M1 w)
    rw [bd_t (show f_M_multiply 1 2 3 g1 = _ from e2)]
    rw [Int.mul_comm u.1, Nat.mul_comm u.2.1, Int.add_comm u.2.2] at M2
    have oQ : okN _ _ (prT t u) := pr_ok oP ou
    obtain ⟨g3, e3, M3, k3⟩ := M_add (x := 0) (y := 3) (z := 2) (fl := 1) (u := prT t u) (by omega) (by omega) (by omega) (by omega) (by omega) (by omega) ot2 (okN_w oQ (by omega) (by omega)) et (prT_okE et eu ot.2.2.1 c0) (isM_km (by omega) (isM_kd (by omega) Mt k1) k2) M2
    rw [bd_t (show f_M_add 0 3 1 2 g2 = _ from e3)]
    obtain ⟨g4, e4, M4, f4⟩ := rd g3 _ (fw_t (fw_kd k1) (fw_t (fw_km k2) (fw_km k3))) M3
    exact ⟨g4, e4, fun _ => M4, f4⟩
  · rw [if_neg w, if_pos (by rfl), if_pos (show n < nd (ptW t u) by omega)]
    exact ⟨g1, rfl, fun z => absurd z (by decide), fw_kd k1⟩
/-- a whole value of at most three digits -/
theorem whole_hi {s e v : Int} {c : Nat} (hz : c = 0 → e = 0) (h : wv s c e = some v) : (mn c : Int) - 1 + e ≤ 2 ↔ -999 ≤ v ∧ v ≤ 999 := by
  have key : ∀ V : Nat, (c = 0 → V = 0) → (0 < c → 0 < V ∧ (nd V : Int) = (nd c : Int) + e) → ((mn c : Int) - 1 + e ≤ 2 ↔ V ≤ 999) := by
    intro V h0 h1
    by_cases q : c = 0
    · have := h0 q
      rw [q, mn_0, hz q]
      omega
    · obtain ⟨a, b⟩ := h1 (by omega)
      have m := mn_c (c := c) (by omega)
      have l := nd_lt V
      have g := nd_le a
      constructor
      · intro w
        have : 10 ^ nd V ≤ 10 ^ 3 := Nat.pow_le_pow_right (by decide) (by omega)
        have d : (10 : Nat) ^ 3 = 1000 := by decide
        omega
      · intro w
        have d : nd V ≤ 3 := nd_le_of (by have d : (10 : Nat) ^ 3 = 1000 := by decide
                                          omega)
        omega
  unfold wv at h
  by_cases a : 9 < (nd c : Int) + e
  · rw [if_pos a] at h
    cases h
  rw [if_neg a] at h
  by_cases b : 0 ≤ e
  · rw [if_pos b] at h
    have h := Option.some.inj h
    have k := key (c * 10 ^ e.toNat) (fun w => by rw [w, Nat.zero_mul]) (fun w => ⟨Nat.mul_pos w (p10 _), by rw [nd_mulp w]; omega⟩)
    rw [k]
    obtain ⟨V, hV⟩ : ∃ V, c * 10 ^ e.toNat = V := ⟨_, rfl⟩
    rw [hV] at h ⊢
    split at h <;> omega
  · rw [if_neg b] at h
    by_cases z : c % 10 ^ (-e).toNat = 0
    · rw [if_pos z] at h
      have h := Option.some.inj h
      have dm := Nat.div_add_mod c (10 ^ (-e).toNat)
      rw [z, Nat.add_zero, Nat.mul_comm] at dm
      have k := key (c / 10 ^ (-e).toNat) (fun w => by rw [w, Nat.zero_div]) (fun w => by
        have vp : 0 < c / 10 ^ (-e).toNat := by
          rcases Nat.eq_zero_or_pos (c / 10 ^ (-e).toNat) with y | y
          · rw [y, Nat.zero_mul] at dm
            omega
          · exact y
        refine ⟨vp, ?_⟩
        have := nd_mulp vp (-e).toNat
        rw [dm] at this
        omega)
      rw [k]
      obtain ⟨V, hV⟩ : ∃ V, c / 10 ^ (-e).toNat = V := ⟨_, rfl⟩
      rw [hV] at h ⊢
      split at h <;> omega
    · rw [if_neg z] at h
      cases h
end
section
/-! PURE 32: work, most, compare -/
def sp_work (op a b c : Int) (s : St) : Int32 × St := if isReg a ∧ isReg b ∧ isReg c ∧ 0 ≤ op ∧ op ≤ 6 then (match ldN s.2.2.1 (s.2.1 a.toNat) with
  | none => (iI (-41), s)
  | some t => (match ldN s.2.2.1 (s.2.1 b.toNat) with
    | none => (iI (-41), s)
    | some u => if (wkR op s.2.2.1 t u).1 = 0 then sp_ans (wkR op s.2.2.1 t u).2 c.toNat s else (iI (-(wkR op s.2.2.1 t u).1), s))) else (iI (-1), s)
theorem wkR_c (op : Int) (n : Nat) (t u : Int × Nat × Int) : (wkR op n t u).1 = 0 ∨ (wkR op n t u).1 = 26 ∨ (wkR op n t u).1 = 42 := by
  unfold wkR
  split
  · exact Or.inl rfl
  split
  · exact Or.inl rfl
  split
  · exact Or.inl rfl
  split
  · split
    · exact Or.inr (Or.inl rfl)
    · rename_i v _
      show pwC v t = 0 ∨ pwC v t = 26 ∨ pwC v t = 42
      unfold pwC
      split
      · exact Or.inr (Or.inl rfl)
      · split
        · exact Or.inr (Or.inr rfl)
        · exact Or.inl rfl
  split
  · exact Or.inr (Or.inr rfl)
  split
  · exact Or.inl rfl
  split
  · exact Or.inr (Or.inl rfl)
  split
  · exact Or.inl rfl
  · exact Or.inl rfl
theorem fr_lb {h h' : Hp} (k : ∀ y, y ≠ 26 → y ≠ 29 → y ≠ 30 → y ≠ 31 → y ≠ 32 → h' y = h y) : fr h h' := fun j hj => k j (by omega) (by omega) (by omega) (by omega) (by omega)
theorem C_work {op a b c : Int} {s : St} {h : Hp} (ho : bI op) (ha : bI a) (hb : bI b) (hc : bI c) (H : SC h s) (ok : okS s) : ∃ h', f_D_work (iI op) (iI a) (iI b) (iI c) h = some ((sp_work op a b c s).1, h') ∧ SC h' (sp_work op a b c s).2 ∧ okS (sp_work op a b c s).2 ∧ lo h h' := by
  have bad : ¬ (isReg a ∧ isReg b ∧ isReg c ∧ 0 ≤ op ∧ op ≤ 6) → ∃ h', some ((-1 : Int32), h) = some ((sp_work op a b c s).1, h') ∧ SC h' (sp_work op a b c s).2 ∧ okS (sp_work op a b c s).2 ∧ lo h h' := fun q => by
    unfold sp_work
    rw [if_neg q]
    exact ⟨h, rfl, H, ok, lo_r _⟩
  unfold f_D_work
  rw [bd_t (C_find ha), bd_t (C_find hb), bd_t (C_find hc)]
  by_cases q1 : op < 0
  · rw [if_pos (by rw [i0, iI_lt ⟨by omega, by omega⟩ ⟨by omega, by omega⟩]; exact q1)]; exact bad (by omega)
  rw [if_neg (by rw [i0, iI_lt ⟨by omega, by omega⟩ ⟨by omega, by omega⟩]; exact q1)]
  by_cases q2 : 6 < op
  · rw [if_pos (by rw [show (6 : Int32) = iI 6 from rfl, iI_lt ⟨by omega, by omega⟩ ⟨by omega, by omega⟩]; exact q2)]; exact bad (by omega)
  rw [if_neg (by rw [show (6 : Int32) = iI 6 from rfl, iI_lt ⟨by omega, by omega⟩ ⟨by omega, by omega⟩]; exact q2)]
  by_cases q3 : ¬ isReg a
  · rw [oq_n q3]; exact bad (by omega)
  have q3 := Decidable.not_not.mp q3
  by_cases q4 : ¬ isReg b
  · rw [oq_y q3, oq_n q4]; exact bad (by omega)
  have q4 := Decidable.not_not.mp q4
  by_cases q5 : ¬ isReg c
  · rw [oq_y q3, oq_y q4, oq_n q5]; exact bad (by omega)
  have q5 := Decidable.not_not.mp q5
  rw [oq_y q3, oq_y q4, oq_y q5, H.2.2.1]
  unfold sp_work
  rw [if_pos (show isReg a ∧ isReg b ∧ isReg c ∧ 0 ≤ op ∧ op ≤ 6 by omega)]
  have hd := ok.2.2
  obtain ⟨h1, e1, k1, n1⟩ := C_loadBoth (i1 := 4 + 2 * a.toNat) (i2 := 4 + 2 * b.toNat) (n := s.2.2.1) (by omega) (by omega) (ok.2.1 a.toNat (by omega)).1 (ok.2.1 b.toNat (by omega)).1 (by omega) (by omega) (H.2.1 a.toNat (by omega)) (H.2.1 b.toNat (by omega))
  rw [bd_t e1]
  have f1 : fr h h1 := fr_lb k1
  cases hx : ldN s.2.2.1 (s.2.1 a.toNat) with
  | none =>
    rw [if_pos (by simp; decide)]
    exact ⟨h1, rfl, SC_fr H f1, ok, lo_fr f1⟩
  | some t =>
    cases hy : ldN s.2.2.1 (s.2.1 b.toNat) with
    | none =>
      rw [if_pos (by simp; decide)]
      exact ⟨h1, rfl, SC_fr H f1, ok, lo_fr f1⟩
    | some u =>
      rw [if_neg (by simp; decide), (SC_fr H f1).2.2.1]
      obtain ⟨Nt, Nu⟩ := n1 t u hx hy
      have ot := okN_w (ldN_ok (n := s.2.2.1) (by omega) (ok.2.1 a.toNat (by omega)).1 hx) (Nat.le_refl 1501) (show s.2.2.1 ≤ 20 by omega)
      have ou := okN_w (ldN_ok (n := s.2.2.1) (by omega) (ok.2.1 b.toNat (by omega)).1 hy) (Nat.le_refl 1501) (show s.2.2.1 ≤ 20 by omega)
      obtain ⟨h2, e2, N2, f2⟩ := C_reckon (op := op) (n := s.2.2.1) ⟨by omega, by omega⟩ (by omega) (by omega) ot ou Nt Nu
      rw [bd_t e2]
      have f12 := fr_t f1 f2
      have wc := wkR_c op s.2.2.1 t u
      show ∃ h', _ = some ((if (wkR op s.2.2.1 t u).1 = 0 then sp_ans (wkR op s.2.2.1 t u).2 c.toNat s else (iI (-(wkR op s.2.2.1 t u).1), s)).1, h') ∧ SC h' (if (wkR op s.2.2.1 t u).1 = 0 then sp_ans (wkR op s.2.2.1 t u).2 c.toNat s else (iI (-(wkR op s.2.2.1 t u).1), s)).2 ∧ okS (if (wkR op s.2.2.1 t u).1 = 0 then sp_ans (wkR op s.2.2.1 t u).2 c.toNat s else (iI (-(wkR op s.2.2.1 t u).1), s)).2 ∧ _
      by_cases w : (wkR op s.2.2.1 t u).1 = 0
      · rw [if_pos (by rw [w]; rfl), if_pos w]
        obtain ⟨h3, e3, S3, o3, l3⟩ := C_ans (i := 33) (r := c.toNat) (by omega) (by omega) (SC_fr H f12) ok (wkR_ok (by omega) (by omega) ot ou w) (N2 w)
        rw [bd_t e3]
        exact ⟨h3, rfl, S3, o3, lo_t (lo_fr f12) l3⟩
      · rw [if_neg (by rw [i0, iI_eq ⟨by omega, by omega⟩ ⟨by omega, by omega⟩]; exact w), if_neg w, iI_neg]
        exact ⟨h2, rfl, SC_fr H f12, ok, lo_fr f12⟩
theorem M_w91 {op v : Int} {c n : Nat} {t0 u0 t u : Int × Nat × Int} {s : St} {h g : Hp} (hn : s.2.2.1 = n) (ho : 0 ≤ op ∧ op ≤ 6) (hc : c < 10) (H : SR h s) (ok : okS s) (fg : fw h g) (et0 : rN n t0 = t) (eu0 : rN n u0 = u) (ot : okN 1501 20 t) (ou : okN 1501 20 u) (et : okE t) (eu : okE u) (hv : op = 6 → wv u.1 u.2.1 u.2.2 = some v ∧ -999 ≤ v ∧ v ≤ 999) (Mt : isM g 0 t0.1 t0.2.1 t0.2.2) (Mu : isM g 1 u0.1 u0.2.1 u0.2.2) (ok2 : okS (if (wkR op n t u).1 = 0 then sp_ans (wkR op n t u).2 c s else (iI (-(wkR op n t u).1), s)).2) : ∃ h', f_M_work_91 (iI op) (iI (c : Int)) (iI v) g = some ((if (wkR op n t u).1 = 0 then sp_ans (wkR op n t u).2 c s else (iI (-(wkR op n t u).1), s)).1, h') ∧ SR h' (if (wkR op n t u).1 = 0 then sp_ans (wkR op n t u).2 c s else (iI (-(wkR op n t u).1), s)).2 ∧ hi h h' := by
  have hd := ok.2.2
  rw [hn] at hd
  have h4 : ∀ g', fw h g' → g' 46 4 = iI (n : Int) := fun g' f => by rw [← hn]; exact (SR_fw H f).2.2.1
  unfold f_M_work_91
  obtain ⟨g1, e1, M1, k1⟩ := M_round (z := 0) (n := n) (by omega) Mt (by omega) (by omega)
  rw [h4 g fg, bd_t (show f_M_round 0 (iI (n : Int)) g = _ from e1)]
  have f1 := fw_t fg (fw_km k1)
  obtain ⟨g2, e2, M2, k2⟩ := M_round (z := 1) (n := n) (by omega) (isM_km (by omega) Mu k1) (by omega) (by omega)
  rw [h4 g1 f1, bd_t (show f_M_round 1 (iI (n : Int)) g1 = _ from e2)]
  have f2 := fw_t f1 (fw_km k2)
  have Mt2 : isM g2 0 t.1 t.2.1 t.2.2 := by
    have := isM_km (y := 0) (z := 1) (by omega) M1 k2
    rw [← et0]
    exact this
  have Mu2 : isM g2 1 u.1 u.2.1 u.2.2 := by
    rw [← eu0]
    exact M2
  have c5 : inR 1 5 := inz (z := 1) (by omega)
  have wc := wkR_c op n t u
  have t131 : (3 ≤ op → op ≤ 5 → 0 < u.2.1) → ∃ h', f_M_work_131 (iI op) (iI (c : Int)) (iI v) g2 = some ((if (wkR op n t u).1 = 0 then sp_ans (wkR op n t u).2 c s else (iI (-(wkR op n t u).1), s)).1, h') ∧ SR h' (if (wkR op n t u).1 = 0 then sp_ans (wkR op n t u).2 c s else (iI (-(wkR op n t u).1), s)).2 ∧ hi h h' := by
    intro hu
    unfold f_M_work_131
    obtain ⟨g3, e3, M3, f3⟩ := M_worked (op := op) (v := v) (n := n) ho (by omega) (by omega) ot ou et eu (h4 g2 f2) hu hv Mt2 Mu2
    have f23 := fw_t f2 f3
    rw [bd_t e3]
    by_cases w : (wkR op n t u).1 = 0
    · rw [if_pos w] at ok2 ⊢
      rw [if_pos (by rw [w]; decide)]
      obtain ⟨g4, e4, S4, l4⟩ := M_ans (z := 2) (r := c) (by omega) hc (SR_fw H f23) ok (wkR_ok (by omega) (by omega) ot ou w) (M3 w) ok2
      rw [bd_t (show f_M_answer 2 (iI (c : Int)) g3 = _ from e4)]
      exact ⟨g4, rfl, S4, hi_t (hi_fw f23) l4⟩
    · rw [if_neg w]
      rw [if_neg (by rw [i0, iI_le ⟨by omega, by omega⟩ ⟨by omega, by omega⟩]; omega), iI_neg]
      exact ⟨g3, rfl, SR_fw H f23, hi_fw f23⟩
  have u1 := ou.1
  unfold isS at u1
  by_cases a1 : op < 3
  · rw [if_pos (by rw [show (3 : Int32) = iI 3 from rfl, iI_lt ⟨by omega, by omega⟩ ⟨by omega, by omega⟩]; exact a1)]
    exact t131 (fun z => by omega)
  rw [if_neg (by rw [show (3 : Int32) = iI 3 from rfl, iI_lt ⟨by omega, by omega⟩ ⟨by omega, by omega⟩]; exact a1)]
  by_cases a2 : 5 < op
  · rw [if_pos (by rw [show (5 : Int32) = iI 5 from rfl, iI_lt ⟨by omega, by omega⟩ ⟨by omega, by omega⟩]; exact a2)]
    exact t131 (fun z y => by omega)
  rw [if_neg (by rw [show (5 : Int32) = iI 5 from rfl, iI_lt ⟨by omega, by omega⟩ ⟨by omega, by omega⟩]; exact a2), chk_t c5, show Int32.toNatClampNeg 1 = 1 from rfl, Mu2.2.2.1]
  by_cases a3 : u.2.1 = 0
  · have ew : wkR op n t u = (42, (0, 0, 0)) := by
      unfold wkR
      rw [if_neg (by omega), if_neg (by omega), if_neg (by omega), if_neg (by omega), if_pos a3]
    rw [if_pos (by rw [ou.2.1.mpr a3]; rfl), ew]
    exact ⟨g2, rfl, SR_fw H f2, hi_fw f2⟩
  · have s0 : u.1 ≠ 0 := fun z => a3 (ou.2.1.mp z)
    rw [if_neg (by rw [i0, iI_eq ⟨by omega, by omega⟩ ⟨by omega, by omega⟩]; exact s0)]
    exact t131 (fun _ _ => by omega)
theorem wkR_6n {n : Nat} {t u : Int × Nat × Int} (h : wv u.1 u.2.1 u.2.2 = none) : (wkR 6 n t u).1 = 26 := by
  unfold wkR
  rw [if_neg (by decide), if_neg (by decide), if_neg (by decide), if_pos rfl, h]
theorem wkR_6s {n : Nat} {v : Int} {t u : Int × Nat × Int} (h : wv u.1 u.2.1 u.2.2 = some v) : (wkR 6 n t u).1 = pwC v t := by
  unfold wkR
  rw [if_neg (by decide), if_neg (by decide), if_neg (by decide), if_pos rfl, h]
theorem M_work {op a b c : Int} {s : St} {h : Hp} (ho : bI op) (ha : bI a) (hb : bI b) (hc : bI c) (H : SR h s) (ok : okS s) (ok2 : okS (sp_work op a b c s).2) : ∃ h', f_M_work (iI op) (iI a) (iI b) (iI c) h = some ((sp_work op a b c s).1, h') ∧ SR h' (sp_work op a b c s).2 ∧ hi h h' := by
  have bad : ¬ (isReg a ∧ isReg b ∧ isReg c ∧ 0 ≤ op ∧ op ≤ 6) → ∃ h', some ((-1 : Int32), h) = some ((sp_work op a b c s).1, h') ∧ SR h' (sp_work op a b c s).2 ∧ hi h h' := fun q => by
    unfold sp_work
    rw [if_neg q]
    exact ⟨h, rfl, H, hi_r _⟩
  unfold f_M_work
  rw [bd_t (M_isReg ha)]
  by_cases q3 : ¬ isReg a
  · rw [if_neg q3, if_pos (by rfl)]; exact bad (by omega)
  have q3 := Decidable.not_not.mp q3
  rw [if_pos q3, if_neg (by decide), bd_t (M_isReg hb)]
  by_cases q4 : ¬ isReg b
  · rw [if_neg q4, if_pos (by rfl)]; exact bad (by omega)
  have q4 := Decidable.not_not.mp q4
  rw [if_pos q4, if_neg (by decide), bd_t (M_isReg hc)]
  by_cases q5 : ¬ isReg c
  · rw [if_neg q5, if_pos (by rfl)]; exact bad (by omega)
  have q5 := Decidable.not_not.mp q5
  rw [if_pos q5, if_neg (by decide)]
  by_cases q1 : op < 0
  · rw [if_pos (by rw [i0, iI_lt ⟨by omega, by omega⟩ ⟨by omega, by omega⟩]; exact q1)]; exact bad (by omega)
  rw [if_neg (by rw [i0, iI_lt ⟨by omega, by omega⟩ ⟨by omega, by omega⟩]; exact q1)]
  by_cases q2 : ¬ op ≤ 6
  · rw [if_neg (by rw [show (6 : Int32) = iI 6 from rfl, iI_le ⟨by omega, by omega⟩ ⟨by omega, by omega⟩]; exact q2)]; exact bad (by omega)
  have q2 := Decidable.not_not.mp q2
  rw [if_pos (by rw [show (6 : Int32) = iI 6 from rfl, iI_le ⟨by omega, by omega⟩ ⟨by omega, by omega⟩]; exact q2)]
  unfold sp_work at ok2 ⊢
  rw [if_pos (show isReg a ∧ isReg b ∧ isReg c ∧ 0 ≤ op ∧ op ≤ 6 by omega)] at ok2 ⊢
  have hd := ok.2.2
  obtain ⟨a, rfl⟩ : ∃ k : Nat, a = k := ⟨a.toNat, by omega⟩
  obtain ⟨b, rfl⟩ : ∃ k : Nat, b = k := ⟨b.toNat, by omega⟩
  obtain ⟨c, rfl⟩ : ∃ k : Nat, c = k := ⟨c.toNat, by omega⟩
  simp only [Int.toNat_natCast] at ok2 ⊢
  obtain ⟨h1, e1, k1, m1⟩ := M_read (z := 0) (r := a) (by omega) (by omega) (H.2.1 a (by omega)) (ok.2.1 a (by omega))
  rw [bd_t (show f_M_read (iI (a : Int)) 0 h = _ from e1)]
  cases hx : rdN (s.2.1 a) with
  | none =>
    have hx2 : ldN s.2.2.1 (s.2.1 a) = none := by
      unfold ldN
      rw [hx]
      rfl
    rw [if_pos (by simp; decide), hx2]
    exact ⟨h1, rfl, SR_fw H (fw_km k1), hi_fw (fw_km k1)⟩
  | some t0 =>
    have hx2 : ldN s.2.2.1 (s.2.1 a) = some (rN s.2.2.1 t0) := by
      unfold ldN
      rw [hx]
      rfl
    rw [if_neg (by simp; decide)]
    have f1 : fw h h1 := fw_km k1
    have H1 := SR_fw H f1
    obtain ⟨h2, e2, k2, m2⟩ := M_read (z := 1) (r := b) (by omega) (by omega) (H1.2.1 b (by omega)) (ok.2.1 b (by omega))
    rw [bd_t (show f_M_read (iI (b : Int)) 1 h1 = _ from e2)]
    have f2 := fw_t f1 (fw_km k2)
    rw [hx2] at ok2 ⊢
    cases hy : rdN (s.2.1 b) with
    | none =>
      have hy2 : ldN s.2.2.1 (s.2.1 b) = none := by
        unfold ldN
        rw [hy]
        rfl
      rw [if_pos (by simp; decide), hy2]
      exact ⟨h2, rfl, SR_fw H f2, hi_fw f2⟩
    | some u0 =>
      have hy2 : ldN s.2.2.1 (s.2.1 b) = some (rN s.2.2.1 u0) := by
        unfold ldN
        rw [hy]
        rfl
      rw [if_neg (by simp; decide)]
      rw [hy2] at ok2 ⊢
      have ot := okN_w (ldN_ok (n := s.2.2.1) (by omega) (ok.2.1 a (by omega)).1 hx2) (Nat.le_refl 1501) (show s.2.2.1 ≤ 20 by omega)
      have ou := okN_w (ldN_ok (n := s.2.2.1) (by omega) (ok.2.1 b (by omega)).1 hy2) (Nat.le_refl 1501) (show s.2.2.1 ≤ 20 by omega)
      have ou1 := ldN_ok (n := s.2.2.1) (by omega) (ok.2.1 b (by omega)).1 hy2
      have et := ldN_okE (n := s.2.2.1) (by omega) (ok.2.1 a (by omega)).1 hx2
      have eu := ldN_okE (n := s.2.2.1) (by omega) (ok.2.1 b (by omega)).1 hy2
      have Mt := isM_km (y := 0) (z := 1) (by omega) (m1 t0 hx) k2
      have Mu := m2 u0 hy
      by_cases o6 : op = 6
      · rw [if_pos (by rw [o6]; rfl)]
        obtain ⟨h3, e3, M3, k3, w3⟩ := M_isWhole (z := 1) (n := s.2.2.1) (s := u0.1) (c := u0.2.1) (e := u0.2.2) (by omega) (by omega) (by omega) (SR_fw H f2).2.2.1 (rdN_ok (ok.2.1 b (by omega)).1 hy) Mu
        rw [bd_t (show f_M_isWhole 1 h2 = _ from e3)]
        have f3 := fw_t f2 (fw_km k3)
        have Mt3 := isM_km (y := 0) (z := 1) (by omega) Mt k3
        have f26 : (wkR op s.2.2.1 (rN s.2.2.1 t0) (rN s.2.2.1 u0)).1 = 26 → ∃ h', some ((-26 : Int32), h3) = some ((if (wkR op s.2.2.1 (rN s.2.2.1 t0) (rN s.2.2.1 u0)).1 = 0 then sp_ans (wkR op s.2.2.1 (rN s.2.2.1 t0) (rN s.2.2.1 u0)).2 c s else (iI (-(wkR op s.2.2.1 (rN s.2.2.1 t0) (rN s.2.2.1 u0)).1), s)).1, h') ∧ SR h' (if (wkR op s.2.2.1 (rN s.2.2.1 t0) (rN s.2.2.1 u0)).1 = 0 then sp_ans (wkR op s.2.2.1 (rN s.2.2.1 t0) (rN s.2.2.1 u0)).2 c s else (iI (-(wkR op s.2.2.1 (rN s.2.2.1 t0) (rN s.2.2.1 u0)).1), s)).2 ∧ hi h h' := fun w => by
          rw [if_neg (by rw [w]; decide), w]
          exact ⟨h3, rfl, SR_fw H f3, hi_fw f3⟩
        cases hz : wv u0.1 (rnd s.2.2.1 u0.2.1 u0.2.2).1 (rnd s.2.2.1 u0.2.1 u0.2.2).2 with
        | none =>
          have hz2 : wv (rN s.2.2.1 u0).1 (rN s.2.2.1 u0).2.1 (rN s.2.2.1 u0).2.2 = none := hz
          rw [if_pos (by simp; decide)]
          exact f26 (by rw [o6]; exact wkR_6n hz2)
        | some v =>
          have hz2 : wv (rN s.2.2.1 u0).1 (rN s.2.2.1 u0).2.1 (rN s.2.2.1 u0).2.2 = some v := hz
          obtain ⟨b1, b2⟩ := w3 v hz
          have wh := whole_hi (s := (rN s.2.2.1 u0).1) (v := v) ou1.2.2.1 hz2
          have o4 : -(1501 : Int) ≤ (rnd s.2.2.1 u0.2.1 u0.2.2).2 := ou1.2.2.2.1
          have o5 : (rnd s.2.2.1 u0.2.1 u0.2.2).2 ≤ 1501 := ou1.2.2.2.2.1
          have eh := M_high (z := 1) (by omega) M3
          have mb : mn (rnd s.2.2.1 u0.2.1 u0.2.2).1 ≤ 20 := by
            have : nd (rnd s.2.2.1 u0.2.1 u0.2.2).1 ≤ s.2.2.1 := ou1.2.2.2.2.2
            unfold mn
            omega
          have wh : (mn (rnd s.2.2.1 u0.2.1 u0.2.2).1 : Int) - 1 + (rnd s.2.2.1 u0.2.1 u0.2.2).2 ≤ 2 ↔ -999 ≤ v ∧ v ≤ 999 := wh
          rw [if_neg (by simp; decide), bd_t (show f_M_high 1 h3 = _ from eh)]
          by_cases w : (mn (rnd s.2.2.1 u0.2.1 u0.2.2).1 : Int) - 1 + (rnd s.2.2.1 u0.2.1 u0.2.2).2 ≤ 2
          · have V := M_valueOf (z := 1) (by omega) ou1.1 ⟨by omega, by omega⟩ b1 M3
            have V : f_M_valueOf 1 h3 = some (iI v, h3) := by
              rw [b2]
              exact V
            rw [if_pos (by rw [show (2 : Int32) = iI 2 from rfl, iI_le ⟨by omega, by omega⟩ ⟨by omega, by omega⟩]; exact w), bd_t V]
            exact M_w91 (op := op) (v := v) (n := s.2.2.1) (t0 := t0) (u0 := rN s.2.2.1 u0) rfl ⟨by omega, by omega⟩ (by omega) H ok f3 rfl (rN_same ou1.2.2.2.2.2) ot ou et eu (fun _ => ⟨hz2, wh.mp w⟩) Mt3 M3 ok2
          · have c26 : pwC v (rN s.2.2.1 t0) = 26 := if_pos (by omega)
            rw [if_neg (by rw [show (2 : Int32) = iI 2 from rfl, iI_le ⟨by omega, by omega⟩ ⟨by omega, by omega⟩]; exact w)]
            exact f26 (by rw [o6, wkR_6s hz2, c26])
      · rw [if_neg (by rw [show (6 : Int32) = iI 6 from rfl, iI_eq ⟨by omega, by omega⟩ ⟨by omega, by omega⟩]; exact o6)]
        exact M_w91 (op := op) (v := 0) (n := s.2.2.1) (t0 := t0) (u0 := u0) rfl ⟨by omega, by omega⟩ (by omega) H ok f2 rfl rfl ot ou et eu (fun z => absurd z o6) Mt Mu ok2
end
