section
-- ===== PART A: goes FIRST, ahead of the names: the tables' words, and 'selects' of the private methods out of them =====
/-- a private method of a class that the tables say can be made, by its rows of tables_1 -/
def lw_okq (q : MethodName × Nat) : Prop := (q.1.cls ≠ "java/lang/invoke/MethodHandle" ∧ q.1.cls ≠ "java/lang/invoke/VarHandle") ∧ Cond.instantiable q.1.cls q.2 ∈ tables_1 ∧ Cond.privateMethod q.1 ∈ tables_1 ∧ Cond.instanceMethod q.1 ∈ tables_1
theorem lw_p0 : lw_okq (⟨"LemonGate", "shelfAt", "(I)LLemonGate$Shelf;"⟩, 11) := ⟨⟨by decide +kernel, by decide +kernel⟩, List.mem_of_getElem? (i := 18) (by decide +kernel), List.mem_of_getElem? (i := 348) (by decide +kernel), List.mem_of_getElem? (i := 349) (by decide +kernel)⟩
theorem lw_p1 : lw_okq (⟨"LemonGate", "heatsCome", "(LLemonGate$Shelf;III)I"⟩, 11) := ⟨⟨by decide +kernel, by decide +kernel⟩, List.mem_of_getElem? (i := 18) (by decide +kernel), List.mem_of_getElem? (i := 360) (by decide +kernel), List.mem_of_getElem? (i := 361) (by decide +kernel)⟩
theorem lw_p2 : lw_okq (⟨"LemonGate$Recipe", "remember", "(III)V"⟩, 6) := ⟨⟨by decide +kernel, by decide +kernel⟩, List.mem_of_getElem? (i := 26) (by decide +kernel), List.mem_of_getElem? (i := 405) (by decide +kernel), List.mem_of_getElem? (i := 406) (by decide +kernel)⟩
theorem lw_p3 : lw_okq (⟨"LemonGate$Recipe", "forgetOldest", "()V"⟩, 6) := ⟨⟨by decide +kernel, by decide +kernel⟩, List.mem_of_getElem? (i := 26) (by decide +kernel), List.mem_of_getElem? (i := 409) (by decide +kernel), List.mem_of_getElem? (i := 410) (by decide +kernel)⟩
theorem lw_p4 : lw_okq (⟨"LemonGate$Tape", "readLine", "()Z"⟩, 5) := ⟨⟨by decide +kernel, by decide +kernel⟩, List.mem_of_getElem? (i := 97) (by decide +kernel), List.mem_of_getElem? (i := 452) (by decide +kernel), List.mem_of_getElem? (i := 453) (by decide +kernel)⟩
theorem lw_p5 : lw_okq (⟨"LemonGate$Tape", "readEither", "(I)Z"⟩, 5) := ⟨⟨by decide +kernel, by decide +kernel⟩, List.mem_of_getElem? (i := 97) (by decide +kernel), List.mem_of_getElem? (i := 456) (by decide +kernel), List.mem_of_getElem? (i := 457) (by decide +kernel)⟩
theorem lw_p6 : lw_okq (⟨"LemonGate$Tape", "readBoth", "(I)Z"⟩, 5) := ⟨⟨by decide +kernel, by decide +kernel⟩, List.mem_of_getElem? (i := 97) (by decide +kernel), List.mem_of_getElem? (i := 460) (by decide +kernel), List.mem_of_getElem? (i := 461) (by decide +kernel)⟩
theorem lw_p7 : lw_okq (⟨"LemonGate$Tape", "readCompared", "(I)Z"⟩, 5) := ⟨⟨by decide +kernel, by decide +kernel⟩, List.mem_of_getElem? (i := 97) (by decide +kernel), List.mem_of_getElem? (i := 464) (by decide +kernel), List.mem_of_getElem? (i := 465) (by decide +kernel)⟩
theorem lw_p8 : lw_okq (⟨"LemonGate$Tape", "readSum", "(I)Z"⟩, 5) := ⟨⟨by decide +kernel, by decide +kernel⟩, List.mem_of_getElem? (i := 97) (by decide +kernel), List.mem_of_getElem? (i := 468) (by decide +kernel), List.mem_of_getElem? (i := 469) (by decide +kernel)⟩
theorem lw_p9 : lw_okq (⟨"LemonGate$Tape", "readProduct", "(I)Z"⟩, 5) := ⟨⟨by decide +kernel, by decide +kernel⟩, List.mem_of_getElem? (i := 97) (by decide +kernel), List.mem_of_getElem? (i := 472) (by decide +kernel), List.mem_of_getElem? (i := 473) (by decide +kernel)⟩
theorem lw_p10 : lw_okq (⟨"LemonGate$Tape", "readOperand", "(I)Z"⟩, 5) := ⟨⟨by decide +kernel, by decide +kernel⟩, List.mem_of_getElem? (i := 97) (by decide +kernel), List.mem_of_getElem? (i := 476) (by decide +kernel), List.mem_of_getElem? (i := 477) (by decide +kernel)⟩
theorem lw_p11 : lw_okq (⟨"LemonGate$Tape", "next", "()I"⟩, 5) := ⟨⟨by decide +kernel, by decide +kernel⟩, List.mem_of_getElem? (i := 97) (by decide +kernel), List.mem_of_getElem? (i := 480) (by decide +kernel), List.mem_of_getElem? (i := 481) (by decide +kernel)⟩
theorem lw_p12 : lw_okq (⟨"LemonGate$Tape", "readNumber", "()Z"⟩, 5) := ⟨⟨by decide +kernel, by decide +kernel⟩, List.mem_of_getElem? (i := 97) (by decide +kernel), List.mem_of_getElem? (i := 487) (by decide +kernel), List.mem_of_getElem? (i := 488) (by decide +kernel)⟩
theorem lw_p13 : lw_okq (⟨"LemonGate$Tape", "step", "(I)Z"⟩, 5) := ⟨⟨by decide +kernel, by decide +kernel⟩, List.mem_of_getElem? (i := 97) (by decide +kernel), List.mem_of_getElem? (i := 491) (by decide +kernel), List.mem_of_getElem? (i := 492) (by decide +kernel)⟩
theorem lw_p14 : lw_okq (⟨"LemonGate$Tape", "readName", "(I)Z"⟩, 5) := ⟨⟨by decide +kernel, by decide +kernel⟩, List.mem_of_getElem? (i := 97) (by decide +kernel), List.mem_of_getElem? (i := 495) (by decide +kernel), List.mem_of_getElem? (i := 496) (by decide +kernel)⟩
theorem lw_p15 : lw_okq (⟨"LemonGate$Tape", "took", "(I)Z"⟩, 5) := ⟨⟨by decide +kernel, by decide +kernel⟩, List.mem_of_getElem? (i := 97) (by decide +kernel), List.mem_of_getElem? (i := 500) (by decide +kernel), List.mem_of_getElem? (i := 501) (by decide +kernel)⟩
def lw_privs_1 : List (MethodName × Nat) := [(⟨"LemonGate", "shelfAt", "(I)LLemonGate$Shelf;"⟩, 11), (⟨"LemonGate", "heatsCome", "(LLemonGate$Shelf;III)I"⟩, 11), (⟨"LemonGate$Recipe", "remember", "(III)V"⟩, 6), (⟨"LemonGate$Recipe", "forgetOldest", "()V"⟩, 6), (⟨"LemonGate$Tape", "readLine", "()Z"⟩, 5), (⟨"LemonGate$Tape", "readEither", "(I)Z"⟩, 5), (⟨"LemonGate$Tape", "readBoth", "(I)Z"⟩, 5), (⟨"LemonGate$Tape", "readCompared", "(I)Z"⟩, 5), (⟨"LemonGate$Tape", "readSum", "(I)Z"⟩, 5), (⟨"LemonGate$Tape", "readProduct", "(I)Z"⟩, 5), (⟨"LemonGate$Tape", "readOperand", "(I)Z"⟩, 5), (⟨"LemonGate$Tape", "next", "()I"⟩, 5), (⟨"LemonGate$Tape", "readNumber", "()Z"⟩, 5), (⟨"LemonGate$Tape", "step", "(I)Z"⟩, 5), (⟨"LemonGate$Tape", "readName", "(I)Z"⟩, 5), (⟨"LemonGate$Tape", "took", "(I)Z"⟩, 5)]
theorem lw_r1 : ∀ q ∈ lw_privs_1, lw_okq q := List.forall_mem_cons.mpr ⟨lw_p0, List.forall_mem_cons.mpr ⟨lw_p1, List.forall_mem_cons.mpr ⟨lw_p2, List.forall_mem_cons.mpr ⟨lw_p3, List.forall_mem_cons.mpr ⟨lw_p4, List.forall_mem_cons.mpr ⟨lw_p5, List.forall_mem_cons.mpr ⟨lw_p6, List.forall_mem_cons.mpr ⟨lw_p7, List.forall_mem_cons.mpr ⟨lw_p8, List.forall_mem_cons.mpr ⟨lw_p9, List.forall_mem_cons.mpr ⟨lw_p10, List.forall_mem_cons.mpr ⟨lw_p11, List.forall_mem_cons.mpr ⟨lw_p12, List.forall_mem_cons.mpr ⟨lw_p13, List.forall_mem_cons.mpr ⟨lw_p14, List.forall_mem_cons.mpr ⟨lw_p15, fun _ h => absurd h List.not_mem_nil⟩⟩⟩⟩⟩⟩⟩⟩⟩⟩⟩⟩⟩⟩⟩⟩
theorem lw_p16 : lw_okq (⟨"LemonGate$Laws", "look", "(IIII)V"⟩, 5) := ⟨⟨by decide +kernel, by decide +kernel⟩, List.mem_of_getElem? (i := 122) (by decide +kernel), List.mem_of_getElem? (i := 534) (by decide +kernel), List.mem_of_getElem? (i := 535) (by decide +kernel)⟩
theorem lw_p17 : lw_okq (⟨"LemonGate$Law", "isLineThatCounts", "(II)Z"⟩, 4) := ⟨⟨by decide +kernel, by decide +kernel⟩, List.mem_of_getElem? (i := 128) (by decide +kernel), List.mem_of_getElem? (i := 542) (by decide +kernel), List.mem_of_getElem? (i := 543) (by decide +kernel)⟩
theorem lw_p18 : lw_okq (⟨"LemonGate", "spend", "(LLemonGate$Day;III)V"⟩, 11) := ⟨⟨by decide +kernel, by decide +kernel⟩, List.mem_of_getElem? (i := 18) (by decide +kernel), List.mem_of_getElem? (i := 567) (by decide +kernel), List.mem_of_getElem? (i := 568) (by decide +kernel)⟩
theorem lw_p19 : lw_okq (⟨"LemonGate$Day", "refill", "()V"⟩, 14) := ⟨⟨by decide +kernel, by decide +kernel⟩, List.mem_of_getElem? (i := 166) (by decide +kernel), List.mem_of_getElem? (i := 577) (by decide +kernel), List.mem_of_getElem? (i := 578) (by decide +kernel)⟩
theorem lw_p20 : lw_okq (⟨"LemonGate$Day", "draw", "()I"⟩, 14) := ⟨⟨by decide +kernel, by decide +kernel⟩, List.mem_of_getElem? (i := 166) (by decide +kernel), List.mem_of_getElem? (i := 591) (by decide +kernel), List.mem_of_getElem? (i := 592) (by decide +kernel)⟩
theorem lw_p21 : lw_okq (⟨"LemonGate$Day", "emptyGlass", "()V"⟩, 14) := ⟨⟨by decide +kernel, by decide +kernel⟩, List.mem_of_getElem? (i := 166) (by decide +kernel), List.mem_of_getElem? (i := 597) (by decide +kernel), List.mem_of_getElem? (i := 598) (by decide +kernel)⟩
theorem lw_p22 : lw_okq (⟨"LemonGate$Day", "grow", "()V"⟩, 14) := ⟨⟨by decide +kernel, by decide +kernel⟩, List.mem_of_getElem? (i := 166) (by decide +kernel), List.mem_of_getElem? (i := 601) (by decide +kernel), List.mem_of_getElem? (i := 602) (by decide +kernel)⟩
theorem lw_p23 : lw_okq (⟨"LemonGate$Street", "firstOfMost", "(II)I"⟩, 8) := ⟨⟨by decide +kernel, by decide +kernel⟩, List.mem_of_getElem? (i := 57) (by decide +kernel), List.mem_of_getElem? (i := 643) (by decide +kernel), List.mem_of_getElem? (i := 644) (by decide +kernel)⟩
theorem lw_p24 : lw_okq (⟨"LemonGate", "firstWrong", "(LLemonGate$Shelf;I)I"⟩, 11) := ⟨⟨by decide +kernel, by decide +kernel⟩, List.mem_of_getElem? (i := 18) (by decide +kernel), List.mem_of_getElem? (i := 657) (by decide +kernel), List.mem_of_getElem? (i := 658) (by decide +kernel)⟩
theorem lw_p25 : lw_okq (⟨"LemonGate", "meanGain", "(IIII)J"⟩, 11) := ⟨⟨by decide +kernel, by decide +kernel⟩, List.mem_of_getElem? (i := 18) (by decide +kernel), List.mem_of_getElem? (i := 670) (by decide +kernel), List.mem_of_getElem? (i := 671) (by decide +kernel)⟩
theorem lw_p26 : lw_okq (⟨"LemonGate$Three", "addedInAllOrders", "(I)I"⟩, 2) := ⟨⟨by decide +kernel, by decide +kernel⟩, List.mem_of_getElem? (i := 218) (by decide +kernel), List.mem_of_getElem? (i := 715) (by decide +kernel), List.mem_of_getElem? (i := 716) (by decide +kernel)⟩
theorem lw_p27 : lw_okq (⟨"LemonGate$Slates", "mostGroups", "(I)I"⟩, 3) := ⟨⟨by decide +kernel, by decide +kernel⟩, List.mem_of_getElem? (i := 233) (by decide +kernel), List.mem_of_getElem? (i := 753) (by decide +kernel), List.mem_of_getElem? (i := 754) (by decide +kernel)⟩
theorem lw_p28 : lw_okq (⟨"LemonGate$Glasses", "run", "(IIII)I"⟩, 5) := ⟨⟨by decide +kernel, by decide +kernel⟩, List.mem_of_getElem? (i := 249) (by decide +kernel), List.mem_of_getElem? (i := 816) (by decide +kernel), List.mem_of_getElem? (i := 817) (by decide +kernel)⟩
theorem lw_p29 : lw_okq (⟨"LemonGate$Glasses", "note", "(I)V"⟩, 5) := ⟨⟨by decide +kernel, by decide +kernel⟩, List.mem_of_getElem? (i := 249) (by decide +kernel), List.mem_of_getElem? (i := 828) (by decide +kernel), List.mem_of_getElem? (i := 829) (by decide +kernel)⟩
theorem lw_p30 : lw_okq (⟨"LemonGateModel", "isPlace", "(I)Z"⟩, 51) := ⟨⟨by decide +kernel, by decide +kernel⟩, List.mem_of_getElem? (i := 897) (by decide +kernel), List.mem_of_getElem? (i := 1094) (by decide +kernel), List.mem_of_getElem? (i := 1095) (by decide +kernel)⟩
theorem lw_p31 : lw_okq (⟨"LemonGateModel", "becomes", "(II)I"⟩, 51) := ⟨⟨by decide +kernel, by decide +kernel⟩, List.mem_of_getElem? (i := 897) (by decide +kernel), List.mem_of_getElem? (i := 1116) (by decide +kernel), List.mem_of_getElem? (i := 1117) (by decide +kernel)⟩
def lw_privs_2 : List (MethodName × Nat) := [(⟨"LemonGate$Laws", "look", "(IIII)V"⟩, 5), (⟨"LemonGate$Law", "isLineThatCounts", "(II)Z"⟩, 4), (⟨"LemonGate", "spend", "(LLemonGate$Day;III)V"⟩, 11), (⟨"LemonGate$Day", "refill", "()V"⟩, 14), (⟨"LemonGate$Day", "draw", "()I"⟩, 14), (⟨"LemonGate$Day", "emptyGlass", "()V"⟩, 14), (⟨"LemonGate$Day", "grow", "()V"⟩, 14), (⟨"LemonGate$Street", "firstOfMost", "(II)I"⟩, 8), (⟨"LemonGate", "firstWrong", "(LLemonGate$Shelf;I)I"⟩, 11), (⟨"LemonGate", "meanGain", "(IIII)J"⟩, 11), (⟨"LemonGate$Three", "addedInAllOrders", "(I)I"⟩, 2), (⟨"LemonGate$Slates", "mostGroups", "(I)I"⟩, 3), (⟨"LemonGate$Glasses", "run", "(IIII)I"⟩, 5), (⟨"LemonGate$Glasses", "note", "(I)V"⟩, 5), (⟨"LemonGateModel", "isPlace", "(I)Z"⟩, 51), (⟨"LemonGateModel", "becomes", "(II)I"⟩, 51)]
theorem lw_r2 : ∀ q ∈ lw_privs_2, lw_okq q := List.forall_mem_cons.mpr ⟨lw_p16, List.forall_mem_cons.mpr ⟨lw_p17, List.forall_mem_cons.mpr ⟨lw_p18, List.forall_mem_cons.mpr ⟨lw_p19, List.forall_mem_cons.mpr ⟨lw_p20, List.forall_mem_cons.mpr ⟨lw_p21, List.forall_mem_cons.mpr ⟨lw_p22, List.forall_mem_cons.mpr ⟨lw_p23, List.forall_mem_cons.mpr ⟨lw_p24, List.forall_mem_cons.mpr ⟨lw_p25, List.forall_mem_cons.mpr ⟨lw_p26, List.forall_mem_cons.mpr ⟨lw_p27, List.forall_mem_cons.mpr ⟨lw_p28, List.forall_mem_cons.mpr ⟨lw_p29, List.forall_mem_cons.mpr ⟨lw_p30, List.forall_mem_cons.mpr ⟨lw_p31, fun _ h => absurd h List.not_mem_nil⟩⟩⟩⟩⟩⟩⟩⟩⟩⟩⟩⟩⟩⟩⟩⟩
theorem lw_p32 : lw_okq (⟨"LemonGateModel", "jugCost", "()I"⟩, 51) := ⟨⟨by decide +kernel, by decide +kernel⟩, List.mem_of_getElem? (i := 897) (by decide +kernel), List.mem_of_getElem? (i := 1126) (by decide +kernel), List.mem_of_getElem? (i := 1127) (by decide +kernel)⟩
theorem lw_p33 : lw_okq (⟨"LemonGateModel", "workOut", "(II)I"⟩, 51) := ⟨⟨by decide +kernel, by decide +kernel⟩, List.mem_of_getElem? (i := 897) (by decide +kernel), List.mem_of_getElem? (i := 1142) (by decide +kernel), List.mem_of_getElem? (i := 1143) (by decide +kernel)⟩
theorem lw_p34 : lw_okq (⟨"LemonGateModel", "either", "()I"⟩, 51) := ⟨⟨by decide +kernel, by decide +kernel⟩, List.mem_of_getElem? (i := 897) (by decide +kernel), List.mem_of_getElem? (i := 1146) (by decide +kernel), List.mem_of_getElem? (i := 1147) (by decide +kernel)⟩
theorem lw_p35 : lw_okq (⟨"LemonGateModel", "both", "()I"⟩, 51) := ⟨⟨by decide +kernel, by decide +kernel⟩, List.mem_of_getElem? (i := 897) (by decide +kernel), List.mem_of_getElem? (i := 1150) (by decide +kernel), List.mem_of_getElem? (i := 1151) (by decide +kernel)⟩
theorem lw_p36 : lw_okq (⟨"LemonGateModel", "compared", "()I"⟩, 51) := ⟨⟨by decide +kernel, by decide +kernel⟩, List.mem_of_getElem? (i := 897) (by decide +kernel), List.mem_of_getElem? (i := 1154) (by decide +kernel), List.mem_of_getElem? (i := 1155) (by decide +kernel)⟩
theorem lw_p37 : lw_okq (⟨"LemonGateModel", "sums", "()I"⟩, 51) := ⟨⟨by decide +kernel, by decide +kernel⟩, List.mem_of_getElem? (i := 897) (by decide +kernel), List.mem_of_getElem? (i := 1158) (by decide +kernel), List.mem_of_getElem? (i := 1159) (by decide +kernel)⟩
theorem lw_p38 : lw_okq (⟨"LemonGateModel", "product", "()I"⟩, 51) := ⟨⟨by decide +kernel, by decide +kernel⟩, List.mem_of_getElem? (i := 897) (by decide +kernel), List.mem_of_getElem? (i := 1162) (by decide +kernel), List.mem_of_getElem? (i := 1163) (by decide +kernel)⟩
theorem lw_p39 : lw_okq (⟨"LemonGateModel", "one", "()I"⟩, 51) := ⟨⟨by decide +kernel, by decide +kernel⟩, List.mem_of_getElem? (i := 897) (by decide +kernel), List.mem_of_getElem? (i := 1166) (by decide +kernel), List.mem_of_getElem? (i := 1167) (by decide +kernel)⟩
theorem lw_p40 : lw_okq (⟨"LemonGateModel", "byteAt", "()I"⟩, 51) := ⟨⟨by decide +kernel, by decide +kernel⟩, List.mem_of_getElem? (i := 897) (by decide +kernel), List.mem_of_getElem? (i := 1170) (by decide +kernel), List.mem_of_getElem? (i := 1171) (by decide +kernel)⟩
theorem lw_p41 : lw_okq (⟨"LemonGateModel", "wrong", "()I"⟩, 51) := ⟨⟨by decide +kernel, by decide +kernel⟩, List.mem_of_getElem? (i := 897) (by decide +kernel), List.mem_of_getElem? (i := 1174) (by decide +kernel), List.mem_of_getElem? (i := 1175) (by decide +kernel)⟩
theorem lw_p42 : lw_okq (⟨"LemonGateModel", "takes", "(I)Z"⟩, 51) := ⟨⟨by decide +kernel, by decide +kernel⟩, List.mem_of_getElem? (i := 897) (by decide +kernel), List.mem_of_getElem? (i := 1178) (by decide +kernel), List.mem_of_getElem? (i := 1179) (by decide +kernel)⟩
theorem lw_p43 : lw_okq (⟨"LemonGateModel", "tasteOf", "(II)I"⟩, 51) := ⟨⟨by decide +kernel, by decide +kernel⟩, List.mem_of_getElem? (i := 897) (by decide +kernel), List.mem_of_getElem? (i := 1189) (by decide +kernel), List.mem_of_getElem? (i := 1190) (by decide +kernel)⟩
theorem lw_p44 : lw_okq (⟨"LemonGateModel", "namesAll", "(III)V"⟩, 51) := ⟨⟨by decide +kernel, by decide +kernel⟩, List.mem_of_getElem? (i := 897) (by decide +kernel), List.mem_of_getElem? (i := 1193) (by decide +kernel), List.mem_of_getElem? (i := 1194) (by decide +kernel)⟩
theorem lw_p45 : lw_okq (⟨"LemonGateModel", "buysOf", "(II)I"⟩, 51) := ⟨⟨by decide +kernel, by decide +kernel⟩, List.mem_of_getElem? (i := 897) (by decide +kernel), List.mem_of_getElem? (i := 1200) (by decide +kernel), List.mem_of_getElem? (i := 1201) (by decide +kernel)⟩
theorem lw_p46 : lw_okq (⟨"LemonGateModel", "dayGoes", "(I)I"⟩, 51) := ⟨⟨by decide +kernel, by decide +kernel⟩, List.mem_of_getElem? (i := 897) (by decide +kernel), List.mem_of_getElem? (i := 1208) (by decide +kernel), List.mem_of_getElem? (i := 1209) (by decide +kernel)⟩
theorem lw_p47 : lw_okq (⟨"LemonGateModel", "makesOne", "()V"⟩, 51) := ⟨⟨by decide +kernel, by decide +kernel⟩, List.mem_of_getElem? (i := 897) (by decide +kernel), List.mem_of_getElem? (i := 1212) (by decide +kernel), List.mem_of_getElem? (i := 1213) (by decide +kernel)⟩
def lw_privs_3 : List (MethodName × Nat) := [(⟨"LemonGateModel", "jugCost", "()I"⟩, 51), (⟨"LemonGateModel", "workOut", "(II)I"⟩, 51), (⟨"LemonGateModel", "either", "()I"⟩, 51), (⟨"LemonGateModel", "both", "()I"⟩, 51), (⟨"LemonGateModel", "compared", "()I"⟩, 51), (⟨"LemonGateModel", "sums", "()I"⟩, 51), (⟨"LemonGateModel", "product", "()I"⟩, 51), (⟨"LemonGateModel", "one", "()I"⟩, 51), (⟨"LemonGateModel", "byteAt", "()I"⟩, 51), (⟨"LemonGateModel", "wrong", "()I"⟩, 51), (⟨"LemonGateModel", "takes", "(I)Z"⟩, 51), (⟨"LemonGateModel", "tasteOf", "(II)I"⟩, 51), (⟨"LemonGateModel", "namesAll", "(III)V"⟩, 51), (⟨"LemonGateModel", "buysOf", "(II)I"⟩, 51), (⟨"LemonGateModel", "dayGoes", "(I)I"⟩, 51), (⟨"LemonGateModel", "makesOne", "()V"⟩, 51)]
theorem lw_r3 : ∀ q ∈ lw_privs_3, lw_okq q := List.forall_mem_cons.mpr ⟨lw_p32, List.forall_mem_cons.mpr ⟨lw_p33, List.forall_mem_cons.mpr ⟨lw_p34, List.forall_mem_cons.mpr ⟨lw_p35, List.forall_mem_cons.mpr ⟨lw_p36, List.forall_mem_cons.mpr ⟨lw_p37, List.forall_mem_cons.mpr ⟨lw_p38, List.forall_mem_cons.mpr ⟨lw_p39, List.forall_mem_cons.mpr ⟨lw_p40, List.forall_mem_cons.mpr ⟨lw_p41, List.forall_mem_cons.mpr ⟨lw_p42, List.forall_mem_cons.mpr ⟨lw_p43, List.forall_mem_cons.mpr ⟨lw_p44, List.forall_mem_cons.mpr ⟨lw_p45, List.forall_mem_cons.mpr ⟨lw_p46, List.forall_mem_cons.mpr ⟨lw_p47, fun _ h => absurd h List.not_mem_nil⟩⟩⟩⟩⟩⟩⟩⟩⟩⟩⟩⟩⟩⟩⟩⟩
theorem lw_p48 : lw_okq (⟨"LemonGateModel", "quarterGoes", "(I)V"⟩, 51) := ⟨⟨by decide +kernel, by decide +kernel⟩, List.mem_of_getElem? (i := 897) (by decide +kernel), List.mem_of_getElem? (i := 1216) (by decide +kernel), List.mem_of_getElem? (i := 1217) (by decide +kernel)⟩
theorem lw_p49 : lw_okq (⟨"LemonGateModel", "passersIn", "(I)I"⟩, 51) := ⟨⟨by decide +kernel, by decide +kernel⟩, List.mem_of_getElem? (i := 897) (by decide +kernel), List.mem_of_getElem? (i := 1220) (by decide +kernel), List.mem_of_getElem? (i := 1221) (by decide +kernel)⟩
theorem lw_p50 : lw_okq (⟨"LemonGateModel", "draws", "()I"⟩, 51) := ⟨⟨by decide +kernel, by decide +kernel⟩, List.mem_of_getElem? (i := 897) (by decide +kernel), List.mem_of_getElem? (i := 1224) (by decide +kernel), List.mem_of_getElem? (i := 1225) (by decide +kernel)⟩
theorem lw_p51 : lw_okq (⟨"LemonGateModel", "gainOf", "(I)I"⟩, 51) := ⟨⟨by decide +kernel, by decide +kernel⟩, List.mem_of_getElem? (i := 897) (by decide +kernel), List.mem_of_getElem? (i := 1237) (by decide +kernel), List.mem_of_getElem? (i := 1238) (by decide +kernel)⟩
theorem lw_p52 : lw_okq (⟨"LemonGateModel", "passesBy", "(II)I"⟩, 51) := ⟨⟨by decide +kernel, by decide +kernel⟩, List.mem_of_getElem? (i := 897) (by decide +kernel), List.mem_of_getElem? (i := 1248) (by decide +kernel), List.mem_of_getElem? (i := 1249) (by decide +kernel)⟩
theorem lw_p53 : lw_okq (⟨"LemonGateModel", "passesAt", "(II)I"⟩, 51) := ⟨⟨by decide +kernel, by decide +kernel⟩, List.mem_of_getElem? (i := 897) (by decide +kernel), List.mem_of_getElem? (i := 1252) (by decide +kernel), List.mem_of_getElem? (i := 1253) (by decide +kernel)⟩
theorem lw_p54 : lw_okq (⟨"LemonGateModel", "dayIs", "(I)I"⟩, 51) := ⟨⟨by decide +kernel, by decide +kernel⟩, List.mem_of_getElem? (i := 897) (by decide +kernel), List.mem_of_getElem? (i := 1260) (by decide +kernel), List.mem_of_getElem? (i := 1261) (by decide +kernel)⟩
theorem lw_p55 : lw_okq (⟨"LemonGateModel", "firstFalse", "(II)I"⟩, 51) := ⟨⟨by decide +kernel, by decide +kernel⟩, List.mem_of_getElem? (i := 897) (by decide +kernel), List.mem_of_getElem? (i := 1264) (by decide +kernel), List.mem_of_getElem? (i := 1265) (by decide +kernel)⟩
theorem lw_p56 : lw_okq (⟨"LemonGateModel", "addsOf", "(I)I"⟩, 51) := ⟨⟨by decide +kernel, by decide +kernel⟩, List.mem_of_getElem? (i := 897) (by decide +kernel), List.mem_of_getElem? (i := 1304) (by decide +kernel), List.mem_of_getElem? (i := 1305) (by decide +kernel)⟩
theorem lw_p57 : lw_okq (⟨"LemonGateModel", "owesOf", "(I)I"⟩, 51) := ⟨⟨by decide +kernel, by decide +kernel⟩, List.mem_of_getElem? (i := 897) (by decide +kernel), List.mem_of_getElem? (i := 1317) (by decide +kernel), List.mem_of_getElem? (i := 1318) (by decide +kernel)⟩
theorem lw_p58 : lw_okq (⟨"LemonGateModel", "allHeats", "()I"⟩, 51) := ⟨⟨by decide +kernel, by decide +kernel⟩, List.mem_of_getElem? (i := 897) (by decide +kernel), List.mem_of_getElem? (i := 1329) (by decide +kernel), List.mem_of_getElem? (i := 1330) (by decide +kernel)⟩
theorem lw_p59 : lw_okq (⟨"LemonGateModel", "isBody", "(I)Z"⟩, 51) := ⟨⟨by decide +kernel, by decide +kernel⟩, List.mem_of_getElem? (i := 897) (by decide +kernel), List.mem_of_getElem? (i := 1345) (by decide +kernel), List.mem_of_getElem? (i := 1346) (by decide +kernel)⟩
theorem lw_p60 : lw_okq (⟨"LemonGateModel", "makesAs", "(II)I"⟩, 51) := ⟨⟨by decide +kernel, by decide +kernel⟩, List.mem_of_getElem? (i := 897) (by decide +kernel), List.mem_of_getElem? (i := 1349) (by decide +kernel), List.mem_of_getElem? (i := 1350) (by decide +kernel)⟩
theorem lw_p61 : lw_okq (⟨"LemonGateModel", "begins", "(I)V"⟩, 51) := ⟨⟨by decide +kernel, by decide +kernel⟩, List.mem_of_getElem? (i := 897) (by decide +kernel), List.mem_of_getElem? (i := 1353) (by decide +kernel), List.mem_of_getElem? (i := 1354) (by decide +kernel)⟩
theorem lw_p62 : lw_okq (⟨"LemonGateModel", "sellsAs", "(II)I"⟩, 51) := ⟨⟨by decide +kernel, by decide +kernel⟩, List.mem_of_getElem? (i := 897) (by decide +kernel), List.mem_of_getElem? (i := 1357) (by decide +kernel), List.mem_of_getElem? (i := 1358) (by decide +kernel)⟩
theorem lw_p63 : lw_okq (⟨"LemonGateModel", "sharesAs", "(II)I"⟩, 51) := ⟨⟨by decide +kernel, by decide +kernel⟩, List.mem_of_getElem? (i := 897) (by decide +kernel), List.mem_of_getElem? (i := 1361) (by decide +kernel), List.mem_of_getElem? (i := 1362) (by decide +kernel)⟩
def lw_privs_4 : List (MethodName × Nat) := [(⟨"LemonGateModel", "quarterGoes", "(I)V"⟩, 51), (⟨"LemonGateModel", "passersIn", "(I)I"⟩, 51), (⟨"LemonGateModel", "draws", "()I"⟩, 51), (⟨"LemonGateModel", "gainOf", "(I)I"⟩, 51), (⟨"LemonGateModel", "passesBy", "(II)I"⟩, 51), (⟨"LemonGateModel", "passesAt", "(II)I"⟩, 51), (⟨"LemonGateModel", "dayIs", "(I)I"⟩, 51), (⟨"LemonGateModel", "firstFalse", "(II)I"⟩, 51), (⟨"LemonGateModel", "addsOf", "(I)I"⟩, 51), (⟨"LemonGateModel", "owesOf", "(I)I"⟩, 51), (⟨"LemonGateModel", "allHeats", "()I"⟩, 51), (⟨"LemonGateModel", "isBody", "(I)Z"⟩, 51), (⟨"LemonGateModel", "makesAs", "(II)I"⟩, 51), (⟨"LemonGateModel", "begins", "(I)V"⟩, 51), (⟨"LemonGateModel", "sellsAs", "(II)I"⟩, 51), (⟨"LemonGateModel", "sharesAs", "(II)I"⟩, 51)]
theorem lw_r4 : ∀ q ∈ lw_privs_4, lw_okq q := List.forall_mem_cons.mpr ⟨lw_p48, List.forall_mem_cons.mpr ⟨lw_p49, List.forall_mem_cons.mpr ⟨lw_p50, List.forall_mem_cons.mpr ⟨lw_p51, List.forall_mem_cons.mpr ⟨lw_p52, List.forall_mem_cons.mpr ⟨lw_p53, List.forall_mem_cons.mpr ⟨lw_p54, List.forall_mem_cons.mpr ⟨lw_p55, List.forall_mem_cons.mpr ⟨lw_p56, List.forall_mem_cons.mpr ⟨lw_p57, List.forall_mem_cons.mpr ⟨lw_p58, List.forall_mem_cons.mpr ⟨lw_p59, List.forall_mem_cons.mpr ⟨lw_p60, List.forall_mem_cons.mpr ⟨lw_p61, List.forall_mem_cons.mpr ⟨lw_p62, List.forall_mem_cons.mpr ⟨lw_p63, fun _ h => absurd h List.not_mem_nil⟩⟩⟩⟩⟩⟩⟩⟩⟩⟩⟩⟩⟩⟩⟩⟩
theorem lw_p64 : lw_okq (⟨"LemonGateModel", "tellsAs", "(II)I"⟩, 51) := ⟨⟨by decide +kernel, by decide +kernel⟩, List.mem_of_getElem? (i := 897) (by decide +kernel), List.mem_of_getElem? (i := 1365) (by decide +kernel), List.mem_of_getElem? (i := 1366) (by decide +kernel)⟩
theorem lw_p65 : lw_okq (⟨"LemonGateModel", "refusal", "(II)I"⟩, 51) := ⟨⟨by decide +kernel, by decide +kernel⟩, List.mem_of_getElem? (i := 897) (by decide +kernel), List.mem_of_getElem? (i := 1386) (by decide +kernel), List.mem_of_getElem? (i := 1387) (by decide +kernel)⟩
theorem lw_p66 : lw_okq (⟨"LemonGateModel", "kindOf", "(I)I"⟩, 51) := ⟨⟨by decide +kernel, by decide +kernel⟩, List.mem_of_getElem? (i := 897) (by decide +kernel), List.mem_of_getElem? (i := 1405) (by decide +kernel), List.mem_of_getElem? (i := 1406) (by decide +kernel)⟩
def lw_privs_5 : List (MethodName × Nat) := [(⟨"LemonGateModel", "tellsAs", "(II)I"⟩, 51), (⟨"LemonGateModel", "refusal", "(II)I"⟩, 51), (⟨"LemonGateModel", "kindOf", "(I)I"⟩, 51)]
theorem lw_r5 : ∀ q ∈ lw_privs_5, lw_okq q := List.forall_mem_cons.mpr ⟨lw_p64, List.forall_mem_cons.mpr ⟨lw_p65, List.forall_mem_cons.mpr ⟨lw_p66, fun _ h => absurd h List.not_mem_nil⟩⟩⟩
def lw_privs : List (MethodName × Nat) := lw_privs_1 ++ (lw_privs_2 ++ (lw_privs_3 ++ (lw_privs_4 ++ (lw_privs_5))))
def lw_tbl : List Cond := k2_sels lw_privs ++ tables_1
theorem lw_privs_ok : ∀ q ∈ lw_privs, lw_okq q := by
  show ∀ q ∈ lw_privs_1 ++ (lw_privs_2 ++ (lw_privs_3 ++ (lw_privs_4 ++ (lw_privs_5)))), lw_okq q
  exact List.forall_mem_append.mpr ⟨lw_r1, List.forall_mem_append.mpr ⟨lw_r2, List.forall_mem_append.mpr ⟨lw_r3, List.forall_mem_append.mpr ⟨lw_r4, lw_r5⟩⟩⟩⟩
end
section
/-! names of the classes, their fields, by number (printed by wip/whole/gen_names.py from the claim) -/
def zR0 : String := "LemonGate$Day"
def zT0 : u_T := fun k => match k with
  | 0 => ("LemonGate$Day", "soldIn", "[I", true)
  | 1 => ("LemonGate$Day", "sold", "I", false)
  | 2 => ("LemonGate$Day", "price", "I", false)
  | 3 => ("LemonGate$Day", "drunk", "I", false)
  | 4 => ("LemonGate$Day", "poured", "I", false)
  | 5 => ("LemonGate$Day", "left", "I", false)
  | 6 => ("LemonGate$Day", "made", "I", false)
  | 7 => ("LemonGate$Day", "age", "I", false)
  | 8 => ("LemonGate$Day", "z", "I", false)
  | 9 => ("LemonGate$Day", "jugs", "I", false)
  | 10 => ("LemonGate$Day", "jugCost", "I", false)
  | 11 => ("LemonGate$Day", "glasses", "I", false)
  | 12 => ("LemonGate$Day", "sour", "I", false)
  | _ => ("LemonGate$Day", "little", "I", false)
def zt0 : Nat → FieldType := fun k => match k with
  | 0 => .array (.int)
  | 1 => .int
  | 2 => .int
  | 3 => .int
  | 4 => .int
  | 5 => .int
  | 6 => .int
  | 7 => .int
  | 8 => .int
  | 9 => .int
  | 10 => .int
  | 11 => .int
  | 12 => .int
  | _ => .int
theorem zn0 : ∀ a, a < 14 → ∀ b, b < 14 → a ≠ b → (zT0 a).2.1 ≠ (zT0 b).2.1 := by decide +kernel
theorem zto0 : ∀ k, k < 14 → parseFieldDescriptor (zT0 k).2.2.1 = some (zt0 k) := by decide +kernel
def zR1 : String := "LemonGate$Glasses"
def zT1 : u_T := fun k => match k with
  | 0 => ("LemonGate$Glasses", "kinds", "[I", true)
  | 1 => ("LemonGate$Glasses", "size", "I", false)
  | 2 => ("LemonGate$Glasses", "ran", "[I", true)
  | 3 => ("LemonGate$Glasses", "begun", "I", false)
  | _ => ("LemonGate$Glasses", "acting", "I", false)
def zt1 : Nat → FieldType := fun k => match k with
  | 0 => .array (.int)
  | 1 => .int
  | 2 => .array (.int)
  | 3 => .int
  | _ => .int
theorem zn1 : ∀ a, a < 5 → ∀ b, b < 5 → a ≠ b → (zT1 a).2.1 ≠ (zT1 b).2.1 := by decide +kernel
theorem zto1 : ∀ k, k < 5 → parseFieldDescriptor (zT1 k).2.2.1 = some (zt1 k) := by decide +kernel
def zR2 : String := "LemonGate$Law"
def zT2 : u_T := fun k => match k with
  | 0 => ("LemonGate$Law", "steps", "[I", true)
  | 1 => ("LemonGate$Law", "stack", "[I", true)
  | 2 => ("LemonGate$Law", "length", "I", false)
  | _ => ("LemonGate$Law", "isTold", "Z", false)
def zt2 : Nat → FieldType := fun k => match k with
  | 0 => .array (.int)
  | 1 => .array (.int)
  | 2 => .int
  | _ => .boolean
theorem zn2 : ∀ a, a < 4 → ∀ b, b < 4 → a ≠ b → (zT2 a).2.1 ≠ (zT2 b).2.1 := by decide +kernel
theorem zto2 : ∀ k, k < 4 → parseFieldDescriptor (zT2 k).2.2.1 = some (zt2 k) := by decide +kernel
def zR3 : String := "LemonGate$Laws"
def zT3 : u_T := fun k => match k with
  | 0 => ("LemonGate$Laws", "taste", "LLemonGate$Law;", true)
  | 1 => ("LemonGate$Laws", "buys", "LLemonGate$Law;", true)
  | 2 => ("LemonGate$Laws", "names", "[I", true)
  | 3 => ("LemonGate$Laws", "sour", "I", false)
  | _ => ("LemonGate$Laws", "found", "[I", true)
def zt3 : Nat → FieldType := fun k => match k with
  | 0 => .object "LemonGate$Law"
  | 1 => .object "LemonGate$Law"
  | 2 => .array (.int)
  | 3 => .int
  | _ => .array (.int)
theorem zn3 : ∀ a, a < 5 → ∀ b, b < 5 → a ≠ b → (zT3 a).2.1 ≠ (zT3 b).2.1 := by decide +kernel
theorem zto3 : ∀ k, k < 5 → parseFieldDescriptor (zT3 k).2.2.1 = some (zt3 k) := by decide +kernel
def zR4 : String := "LemonGate$Recipe"
def zT4 : u_T := fun k => match k with
  | 0 => ("LemonGate$Recipe", "now", "[I", true)
  | 1 => ("LemonGate$Recipe", "whats", "[I", true)
  | 2 => ("LemonGate$Recipe", "olds", "[I", true)
  | 3 => ("LemonGate$Recipe", "news", "[I", true)
  | 4 => ("LemonGate$Recipe", "done", "I", false)
  | _ => ("LemonGate$Recipe", "known", "I", false)
def zt4 : Nat → FieldType := fun k => match k with
  | 0 => .array (.int)
  | 1 => .array (.int)
  | 2 => .array (.int)
  | 3 => .array (.int)
  | 4 => .int
  | _ => .int
theorem zn4 : ∀ a, a < 6 → ∀ b, b < 6 → a ≠ b → (zT4 a).2.1 ≠ (zT4 b).2.1 := by decide +kernel
theorem zto4 : ∀ k, k < 6 → parseFieldDescriptor (zT4 k).2.2.1 = some (zt4 k) := by decide +kernel
def zR5 : String := "LemonGate$Shelf"
def zT5 : u_T := fun k => match k with
  | 0 => ("LemonGate$Shelf", "body", "I", false)
  | 1 => ("LemonGate$Shelf", "sort", "I", false)
  | 2 => ("LemonGate$Shelf", "length", "I", false)
  | _ => ("LemonGate$Shelf", "elements", "[J", true)
def zt5 : Nat → FieldType := fun k => match k with
  | 0 => .int
  | 1 => .int
  | 2 => .int
  | _ => .array (.long)
theorem zn5 : ∀ a, a < 4 → ∀ b, b < 4 → a ≠ b → (zT5 a).2.1 ≠ (zT5 b).2.1 := by decide +kernel
theorem zto5 : ∀ k, k < 4 → parseFieldDescriptor (zT5 k).2.2.1 = some (zt5 k) := by decide +kernel
def zR6 : String := "LemonGate$Slates"
def zT6 : u_T := fun k => match k with
  | 0 => ("LemonGate$Slates", "debts", "[I", true)
  | 1 => ("LemonGate$Slates", "sums", "[I", true)
  | _ => ("LemonGate$Slates", "groups", "[I", true)
def zt6 : Nat → FieldType := fun k => match k with
  | 0 => .array (.int)
  | 1 => .array (.int)
  | _ => .array (.int)
theorem zn6 : ∀ a, a < 3 → ∀ b, b < 3 → a ≠ b → (zT6 a).2.1 ≠ (zT6 b).2.1 := by decide +kernel
theorem zto6 : ∀ k, k < 3 → parseFieldDescriptor (zT6 k).2.2.1 = some (zt6 k) := by decide +kernel
def zR7 : String := "LemonGate$Street"
def zT7 : u_T := fun k => match k with
  | 0 => ("LemonGate$Street", "heats", "[I", true)
  | 1 => ("LemonGate$Street", "stands", "[I", true)
  | 2 => ("LemonGate$Street", "flows", "[I", true)
  | 3 => ("LemonGate$Street", "places", "I", false)
  | 4 => ("LemonGate$Street", "imageHeats", "[I", true)
  | 5 => ("LemonGate$Street", "imageStands", "[I", true)
  | 6 => ("LemonGate$Street", "hasImage", "Z", false)
  | _ => ("LemonGate$Street", "ahead", "[I", true)
def zt7 : Nat → FieldType := fun k => match k with
  | 0 => .array (.int)
  | 1 => .array (.int)
  | 2 => .array (.int)
  | 3 => .int
  | 4 => .array (.int)
  | 5 => .array (.int)
  | 6 => .boolean
  | _ => .array (.int)
theorem zn7 : ∀ a, a < 8 → ∀ b, b < 8 → a ≠ b → (zT7 a).2.1 ≠ (zT7 b).2.1 := by decide +kernel
theorem zto7 : ∀ k, k < 8 → parseFieldDescriptor (zT7 k).2.2.1 = some (zt7 k) := by decide +kernel
def zR8 : String := "LemonGate$Sums"
def zT8 : u_T := fun k => match k with
  | _ => ("", "", "", false)
def zt8 : Nat → FieldType := fun k => match k with
  | _ => .int
theorem zn8 : ∀ a, a < 0 → ∀ b, b < 0 → a ≠ b → (zT8 a).2.1 ≠ (zT8 b).2.1 := by decide +kernel
theorem zto8 : ∀ k, k < 0 → parseFieldDescriptor (zT8 k).2.2.1 = some (zt8 k) := by decide +kernel
def zR9 : String := "LemonGate$Tape"
def zT9 : u_T := fun k => match k with
  | 0 => ("LemonGate$Tape", "letters", "[I", true)
  | 1 => ("LemonGate$Tape", "length", "I", false)
  | 2 => ("LemonGate$Tape", "steps", "[I", true)
  | 3 => ("LemonGate$Tape", "made", "I", false)
  | _ => ("LemonGate$Tape", "place", "I", false)
def zt9 : Nat → FieldType := fun k => match k with
  | 0 => .array (.int)
  | 1 => .int
  | 2 => .array (.int)
  | 3 => .int
  | _ => .int
theorem zn9 : ∀ a, a < 5 → ∀ b, b < 5 → a ≠ b → (zT9 a).2.1 ≠ (zT9 b).2.1 := by decide +kernel
theorem zto9 : ∀ k, k < 5 → parseFieldDescriptor (zT9 k).2.2.1 = some (zt9 k) := by decide +kernel
def zR10 : String := "LemonGate$Three"
def zT10 : u_T := fun k => match k with
  | 0 => ("LemonGate$Three", "brought", "[I", true)
  | _ => ("LemonGate$Three", "worked", "[I", true)
def zt10 : Nat → FieldType := fun k => match k with
  | 0 => .array (.int)
  | _ => .array (.int)
theorem zn10 : ∀ a, a < 2 → ∀ b, b < 2 → a ≠ b → (zT10 a).2.1 ≠ (zT10 b).2.1 := by decide +kernel
theorem zto10 : ∀ k, k < 2 → parseFieldDescriptor (zT10 k).2.2.1 = some (zt10 k) := by decide +kernel
def zR11 : String := "LemonGate"
def zT11 : u_T := fun k => match k with
  | 0 => ("LemonGate", "recipe", "LLemonGate$Recipe;", true)
  | 1 => ("LemonGate", "street", "LLemonGate$Street;", true)
  | 2 => ("LemonGate", "tape", "LLemonGate$Tape;", true)
  | 3 => ("LemonGate", "laws", "LLemonGate$Laws;", true)
  | 4 => ("LemonGate", "latest", "LLemonGate$Day;", true)
  | 5 => ("LemonGate", "tried", "LLemonGate$Day;", true)
  | 6 => ("LemonGate", "hasDay", "Z", false)
  | 7 => ("LemonGate", "three", "LLemonGate$Three;", true)
  | 8 => ("LemonGate", "slates", "LLemonGate$Slates;", true)
  | 9 => ("LemonGate", "glasses", "LLemonGate$Glasses;", true)
  | _ => ("LemonGate", "shelves", "[LLemonGate$Shelf;", true)
def zt11 : Nat → FieldType := fun k => match k with
  | 0 => .object "LemonGate$Recipe"
  | 1 => .object "LemonGate$Street"
  | 2 => .object "LemonGate$Tape"
  | 3 => .object "LemonGate$Laws"
  | 4 => .object "LemonGate$Day"
  | 5 => .object "LemonGate$Day"
  | 6 => .boolean
  | 7 => .object "LemonGate$Three"
  | 8 => .object "LemonGate$Slates"
  | 9 => .object "LemonGate$Glasses"
  | _ => .array (.object "LemonGate$Shelf")
theorem zn11 : ∀ a, a < 11 → ∀ b, b < 11 → a ≠ b → (zT11 a).2.1 ≠ (zT11 b).2.1 := by decide +kernel
theorem zto11 : ∀ k, k < 11 → parseFieldDescriptor (zT11 k).2.2.1 = some (zt11 k) := by decide +kernel
def zR12 : String := "LemonGateModel"
def zT12 : u_T := fun k => match k with
  | 0 => ("LemonGateModel", "may", "[I", true)
  | 1 => ("LemonGateModel", "changeAt", "[I", true)
  | 2 => ("LemonGateModel", "changeWas", "[I", true)
  | 3 => ("LemonGateModel", "changeIs", "[I", true)
  | 4 => ("LemonGateModel", "keptMany", "I", false)
  | 5 => ("LemonGateModel", "done", "I", false)
  | 6 => ("LemonGateModel", "heat", "[I", true)
  | 7 => ("LemonGateModel", "stand", "[I", true)
  | 8 => ("LemonGateModel", "places", "I", false)
  | 9 => ("LemonGateModel", "flow", "[I", true)
  | 10 => ("LemonGateModel", "tape", "[I", true)
  | 11 => ("LemonGateModel", "tapeMany", "I", false)
  | 12 => ("LemonGateModel", "text", "[I", true)
  | 13 => ("LemonGateModel", "textMany", "[I", true)
  | 14 => ("LemonGateModel", "base", "I", false)
  | 15 => ("LemonGateModel", "at", "I", false)
  | 16 => ("LemonGateModel", "ends", "I", false)
  | 17 => ("LemonGateModel", "fault", "I", false)
  | 18 => ("LemonGateModel", "opened", "I", false)
  | 19 => ("LemonGateModel", "names", "[I", true)
  | 20 => ("LemonGateModel", "soldIn", "[I", true)
  | 21 => ("LemonGateModel", "z", "I", false)
  | 22 => ("LemonGateModel", "glasses", "I", false)
  | 23 => ("LemonGateModel", "age", "I", false)
  | 24 => ("LemonGateModel", "made", "I", false)
  | 25 => ("LemonGateModel", "drunk", "I", false)
  | 26 => ("LemonGateModel", "poured", "I", false)
  | 27 => ("LemonGateModel", "isTold", "Z", false)
  | 28 => ("LemonGateModel", "toldDay", "[I", true)
  | 29 => ("LemonGateModel", "toldSold", "[I", true)
  | 30 => ("LemonGateModel", "toldPrice", "I", false)
  | 31 => ("LemonGateModel", "passes", "[I", true)
  | 32 => ("LemonGateModel", "buyers", "[J", true)
  | 33 => ("LemonGateModel", "brought", "[I", true)
  | 34 => ("LemonGateModel", "minutes", "[I", true)
  | 35 => ("LemonGateModel", "slates", "[I", true)
  | 36 => ("LemonGateModel", "sums", "[I", true)
  | 37 => ("LemonGateModel", "parts", "[I", true)
  | 38 => ("LemonGateModel", "isKept", "Z", false)
  | 39 => ("LemonGateModel", "imageHeat", "[I", true)
  | 40 => ("LemonGateModel", "imageStand", "[I", true)
  | 41 => ("LemonGateModel", "bodies", "I", false)
  | 42 => ("LemonGateModel", "bodyKind", "[I", true)
  | 43 => ("LemonGateModel", "trace", "[I", true)
  | 44 => ("LemonGateModel", "ran", "I", false)
  | 45 => ("LemonGateModel", "ownKind", "I", false)
  | 46 => ("LemonGateModel", "ownNumber", "I", false)
  | 47 => ("LemonGateModel", "shelf", "[I", true)
  | 48 => ("LemonGateModel", "many", "[I", true)
  | 49 => ("LemonGateModel", "items", "[J", true)
  | _ => ("LemonGateModel", "carried", "[J", true)
def zt12 : Nat → FieldType := fun k => match k with
  | 0 => .array (.int)
  | 1 => .array (.int)
  | 2 => .array (.int)
  | 3 => .array (.int)
  | 4 => .int
  | 5 => .int
  | 6 => .array (.int)
  | 7 => .array (.int)
  | 8 => .int
  | 9 => .array (.int)
  | 10 => .array (.int)
  | 11 => .int
  | 12 => .array (.int)
  | 13 => .array (.int)
  | 14 => .int
  | 15 => .int
  | 16 => .int
  | 17 => .int
  | 18 => .int
  | 19 => .array (.int)
  | 20 => .array (.int)
  | 21 => .int
  | 22 => .int
  | 23 => .int
  | 24 => .int
  | 25 => .int
  | 26 => .int
  | 27 => .boolean
  | 28 => .array (.int)
  | 29 => .array (.int)
  | 30 => .int
  | 31 => .array (.int)
  | 32 => .array (.long)
  | 33 => .array (.int)
  | 34 => .array (.int)
  | 35 => .array (.int)
  | 36 => .array (.int)
  | 37 => .array (.int)
  | 38 => .boolean
  | 39 => .array (.int)
  | 40 => .array (.int)
  | 41 => .int
  | 42 => .array (.int)
  | 43 => .array (.int)
  | 44 => .int
  | 45 => .int
  | 46 => .int
  | 47 => .array (.int)
  | 48 => .array (.int)
  | 49 => .array (.long)
  | _ => .array (.long)
theorem zn12 : ∀ a, a < 51 → ∀ b, b < 51 → a ≠ b → (zT12 a).2.1 ≠ (zT12 b).2.1 := by decide +kernel
theorem zto12 : ∀ k, k < 51 → parseFieldDescriptor (zT12 k).2.2.1 = some (zt12 k) := by decide +kernel
/-- the classes whose objects the worlds hold -/
abbrev zCl : List vw_C := [(zR0, zT0, 14), (zR1, zT1, 5), (zR2, zT2, 4), (zR3, zT3, 5), (zR4, zT4, 6), (zR5, zT5, 4), (zR6, zT6, 3), (zR7, zT7, 8), (zR8, zT8, 0), (zR9, zT9, 5), (zR10, zT10, 2), (zR11, zT11, 11), (zR12, zT12, 51)]
def zTt (ci : Nat) : Nat → FieldType := match ci with
  | 0 => zt0
  | 1 => zt1
  | 2 => zt2
  | 3 => zt3
  | 4 => zt4
  | 5 => zt5
  | 6 => zt6
  | 7 => zt7
  | 8 => zt8
  | 9 => zt9
  | 10 => zt10
  | 11 => zt11
  | _ => zt12
def zNm (own : Nat) : String := match own with
  | 0 => zR0
  | 1 => zR1
  | 2 => zR2
  | 3 => zR3
  | 4 => zR4
  | 5 => zR5
  | 6 => zR6
  | 7 => zR7
  | 8 => zR8
  | 9 => zR9
  | 10 => zR10
  | 11 => zR11
  | 12 => zR12
  | 13 => "java/util/Arrays"
  | _ => ""
/-- field links: of an own class, by the entry: the class's number and the field's -/
def zfl (own : Nat) : List (Nat × Nat × Nat) := match own with
  | 0 => [(54, 4, 0), (73, 7, 0), (9, 0, 0), (21, 0, 1), (40, 0, 2), (25, 0, 3), (28, 0, 4), (31, 0, 5), (34, 0, 6), (85, 0, 7), (37, 0, 8), (43, 0, 9), (52, 0, 10), (57, 0, 11), (60, 0, 12), (63, 0, 13)]
  | 1 => [(9, 1, 0), (16, 1, 1), (13, 1, 2), (29, 1, 3), (42, 1, 4)]
  | 2 => [(31, 9, 2), (18, 9, 3), (11, 2, 0), (15, 2, 1), (28, 2, 2), (38, 2, 3)]
  | 3 => [(38, 4, 0), (63, 2, 3), (12, 3, 0), (18, 3, 1), (27, 3, 2), (49, 3, 3), (31, 3, 4)]
  | 4 => [(9, 4, 0), (15, 4, 1), (18, 4, 2), (21, 4, 3), (38, 4, 4), (45, 4, 5)]
  | 5 => [(11, 5, 0), (15, 5, 1), (22, 5, 2), (18, 5, 3)]
  | 6 => [(9, 6, 0), (13, 6, 1), (16, 6, 2)]
  | 7 => [(9, 7, 0), (15, 7, 1), (18, 7, 2), (36, 7, 3), (21, 7, 4), (24, 7, 5), (61, 7, 6), (27, 7, 7)]
  | 9 => [(9, 9, 0), (18, 9, 1), (15, 9, 2), (25, 9, 3), (22, 9, 4)]
  | 10 => [(9, 10, 0), (13, 10, 1)]
  | 11 => [(126, 4, 0), (267, 4, 4), (273, 4, 5), (83, 7, 0), (115, 7, 1), (112, 7, 2), (102, 7, 3), (258, 7, 6), (143, 9, 1), (178, 0, 0), (175, 0, 1), (181, 0, 2), (228, 10, 0), (231, 10, 1), (327, 1, 0), (277, 1, 1), (286, 1, 2), (330, 1, 3), (321, 5, 0), (309, 5, 1), (340, 5, 2), (305, 5, 3), (10, 11, 0), (19, 11, 1), (26, 11, 2), (33, 11, 3), (40, 11, 4), (44, 11, 5), (171, 11, 6), (50, 11, 7), (57, 11, 8), (64, 11, 9), (70, 11, 10)]
  | 12 => [(7, 12, 0), (13, 12, 1), (16, 12, 2), (19, 12, 3), (102, 12, 4), (98, 12, 5), (22, 12, 6), (25, 12, 7), (111, 12, 8), (28, 12, 9), (31, 12, 10), (162, 12, 11), (34, 12, 12), (37, 12, 13), (171, 12, 14), (165, 12, 15), (168, 12, 16), (174, 12, 17), (197, 12, 18), (40, 12, 19), (43, 12, 20), (226, 12, 21), (230, 12, 22), (236, 12, 23), (233, 12, 24), (248, 12, 25), (251, 12, 26), (261, 12, 27), (46, 12, 28), (49, 12, 29), (265, 12, 30), (52, 12, 31), (55, 12, 32), (59, 12, 33), (62, 12, 34), (65, 12, 35), (68, 12, 36), (71, 12, 37), (318, 12, 38), (74, 12, 39), (77, 12, 40), (324, 12, 41), (80, 12, 42), (83, 12, 43), (327, 12, 44), (342, 12, 45), (336, 12, 46), (86, 12, 47), (89, 12, 48), (92, 12, 49), (95, 12, 50)]
  | _ => []
def zsl (own : Nat) : List (Nat × Nat × Bool) := match own with
  | 1 => [(49, 3, false), (26, 4, false)]
  | 3 => [(21, 0, true)]
  | 4 => [(28, 1, false), (31, 2, false)]
  | 9 => [(70, 0, false)]
  | _ => []
def zki (own : Nat) : List (Nat × Int32) := match own with
  | 0 => [(100, 1103515245)]
  | 11 => [(139, -2000000000)]
  | 12 => [(155, -2000000000), (229, 1103515245)]
  | _ => []
def zkl (own : Nat) : List (Nat × Int64) := match own with
  | 11 => [(210, -9223372036854775808), (216, 12)]
  | 12 => [(105, 31), (118, 40), (313, 5), (123, 32), (131, 9), (133, 20), (135, 50), (137, 12), (147, 7), (149, 8), (156, 100), (158, 299), (160, 255), (290, 99), (292, 2), (296, -9223372036854775808), (302, 999), (304, 600), (306, 3), (311, 6), (354, 4)]
  | _ => []
/-- static arrays that nobody writes: class, name, descriptor, element type, contents -/
def zTab : List (String × String × String × FieldType × List Int32) := [
  ("LemonGate$Tape", "NAMES", "[C", .char, [108, 115, 103, 97, 104, 116, 112, 98, 113]),
  ("LemonGate$Recipe", "LEAST", "[I", .int, [0, 0, 1, 0, 0, 1, 0, 0]),
  ("LemonGate$Recipe", "MOST", "[I", .int, [9, 9, 20, 50, 50, 32, 12, 9]),
  ("LemonGate$Glasses", "BODIES", "[I", .int, [1, 10, 11, 2, 20, 0, 0, 0, 0, 30, 0, 0, 0, 41, 40, 0, 0, 0, 50, 0, 0, 0, 0, 60, 70, 0, 0, 0, 0, 80, 0, 81]),
  ("LemonGate$Glasses", "ABOVE", "[I", .int, [-1, 0, 0, 2, 1, 3, 0, 4])]
end
section
/-! THE LAYER: a method's world is a state of ints (by cell and place) and longs over a fixed layout of cells; references are numbers of cells -/
abbrev zSt : Type := (Nat → Nat → Int32) × (Nat → Nat → Int64)
/-- a cell's shape: an object (its class's number; a field: .inl its kind (0 int, 1 boolean), .inr the cell that it refers to) or an array (kind 0 int, 1 long, 2 references; length; the first cell that it refers to) -/
abbrev zD : Type := (Nat × List (Nat ⊕ Nat)) ⊕ (Nat × Nat × Nat)
def zV (ad : Nat → Nat) : Value → Value
  | .ref k => .ref (ad k)
  | .int x => .int x
  | .long x => .long x
  | v => v
def zF (ad : Nat → Nat) (s : zSt) (k j : Nat) : Nat ⊕ Nat → Value
  | .inl _ => .int (s.1 k j)
  | .inr r => .ref (ad r)
def zC (ad : Nat → Nat) (cA : Nat → ClassId) (s : zSt) (k : Nat) : zD → va_E
  | .inl o => .inr (o.1, o.2.mapIdx (fun j f => zF ad s k j f))
  | .inr (0, n, _) => .inl (cA 0, n, .inl (s.1 k))
  | .inr (1, n, _) => .inl (cA 1, n, .inr (.inl (s.2 k)))
  | .inr (_ + 2, n, b) => .inl (cA 2, n, .inr (.inr (.inr (.inr (fun j => some (ad (b + 2 * j)))))))
def zW (ad : Nat → Nat) (cA : Nat → ClassId) (Λ : List zD) (s : zSt) : va_W := Λ.mapIdx (fun k d => (ad k, zC ad cA s k d))
def zTy (cA : Nat → ClassId) : List (ClassId × FieldType) := [(cA 0, .int), (cA 1, .long), (cA 2, .object "LemonGate$Shelf")]
theorem zW_get {ad : Nat → Nat} {cA : Nat → ClassId} {Λ : List zD} {s : zSt} {k : Nat} {d : zD} (h : Λ[k]? = some d) : (zW ad cA Λ s)[k]? = some (ad k, zC ad cA s k d) := by
  simp [zW, List.getElem?_mapIdx, h]
theorem zW_at {ad : Nat → Nat} {cA : Nat → ClassId} {Λ : List zD} {s : zSt} {k : Nat} {q : Nat × va_E} (h : (zW ad cA Λ s)[k]? = some q) : q.1 = ad k ∧ k < Λ.length := by
  simp only [zW, List.getElem?_mapIdx, Option.map_eq_some_iff] at h
  obtain ⟨d, h1, h2⟩ := h
  exact ⟨by rw [← h2], (List.getElem?_eq_some_iff.mp h1).1⟩
theorem zW_at2 {ad : Nat → Nat} {cA : Nat → ClassId} {Λ : List zD} {s : zSt} {k : Nat} (h : k < Λ.length) : ∃ e, (zW ad cA Λ s)[k]? = some (ad k, e) := ⟨_, zW_get (List.getElem?_eq_getElem h)⟩
theorem zD_to {ad : Nat → Nat} {cA : Nat → ClassId} {Λ : List zD} {s t : zSt} {A : Nat → Prop} (h : va_D A (zW ad cA Λ s)) : va_D A (zW ad cA Λ t) := by
  refine ⟨fun i j p q hi hj e => ?_, fun k q hk => ?_⟩
  · obtain ⟨a1, b1⟩ := zW_at hi
    obtain ⟨a2, b2⟩ := zW_at hj
    obtain ⟨e1, c1⟩ := zW_at2 (ad := ad) (cA := cA) (s := s) b1
    obtain ⟨e2, c2⟩ := zW_at2 (ad := ad) (cA := cA) (s := s) b2
    exact h.1 i j _ _ c1 c2 (by show ad i = ad j; rw [← a1, ← a2]; exact e)
  · obtain ⟨a1, b1⟩ := zW_at hk
    obtain ⟨e1, c1⟩ := zW_at2 (ad := ad) (cA := cA) (s := s) b1
    rw [a1]
    exact h.2 k _ c1
theorem zA_to {ad : Nat → Nat} {cA : Nat → ClassId} {Λ : List zD} {s t : zSt} {sz q : Nat} (h : va_A (zW ad cA Λ s) sz q) : va_A (zW ad cA Λ t) sz q := by
  rcases h with ⟨k, e, h⟩ | h
  · obtain ⟨a1, b1⟩ := zW_at h
    obtain ⟨e1, c1⟩ := zW_at2 (ad := ad) (cA := cA) (s := t) b1
    exact Or.inl ⟨k, e1, by rw [c1, ← a1]⟩
  · exact Or.inr h
theorem zA_in {ad : Nat → Nat} {cA : Nat → ClassId} {Λ : List zD} {s : zSt} {sz q : Nat} {A : Nat → Prop} (hD : va_D A (zW ad cA Λ s)) (hA : ∀ q : Nat, sz ≤ q → A q) (h : va_A (zW ad cA Λ s) sz q) : A q := by
  rcases h with ⟨k, e, h⟩ | h
  · exact hD.2 k _ h
  · exact hA q h
/-- a place of a cell becomes v -/
def zw (s : zSt) (k j : Nat) (v : Int32) : zSt := (fun a => if a = k then upd (s.1 k) j v else s.1 a, s.2)
def zwl (s : zSt) (k j : Nat) (v : Int64) : zSt := (s.1, fun a => if a = k then vp_updL (s.2 k) j v else s.2 a)
theorem zW_set {ad : Nat → Nat} {cA : Nat → ClassId} {Λ : List zD} {s t : zSt} {k : Nat} {d : zD} (h : Λ[k]? = some d) (h1 : ∀ j : Nat, j ≠ k → t.1 j = s.1 j ∧ t.2 j = s.2 j) : (zW ad cA Λ s).set k (ad k, zC ad cA t k d) = zW ad cA Λ t := by
  apply List.ext_getElem?
  intro i
  by_cases hi : i = k
  · subst hi
    have hl : i < (zW ad cA Λ s).length := by
      simp only [zW, List.length_mapIdx]
      exact (List.getElem?_eq_some_iff.mp h).1
    rw [List.getElem?_set_self hl, zW_get h]
  · rw [List.getElem?_set_ne (Ne.symm hi)]
    simp only [zW, List.getElem?_mapIdx]
    cases hd : Λ[i]? with
    | none => rfl
    | some x =>
      obtain ⟨e1, e2⟩ := h1 i hi
      simp only [Option.map_some]
      congr 2
      rcases x with o | ⟨_ | _ | n, m, b⟩ <;> simp only [zC, e1, e2]
      have hz : ∀ (j : Nat) (f : Nat ⊕ Nat), zF ad s i j f = zF ad t i j f := fun j f => by cases f <;> simp only [zF, e1]
      simp only [hz]
theorem zw_same (s : zSt) (k j : Nat) (v : Int32) : (zw s k j v).1 k = upd (s.1 k) j v := if_pos rfl
theorem zw_ne (s : zSt) (k j : Nat) (v : Int32) : ∀ a : Nat, a ≠ k → (zw s k j v).1 a = s.1 a ∧ (zw s k j v).2 a = s.2 a := fun a h => ⟨if_neg h, rfl⟩
theorem zwl_same (s : zSt) (k j : Nat) (v : Int64) : (zwl s k j v).2 k = vp_updL (s.2 k) j v := if_pos rfl
theorem zwl_ne (s : zSt) (k j : Nat) (v : Int64) : ∀ a : Nat, a ≠ k → (zwl s k j v).1 a = s.1 a ∧ (zwl s k j v).2 a = s.2 a := fun a h => ⟨rfl, if_neg h⟩
/-- a field of an object is written -/
theorem zC_put {ad : Nat → Nat} {cA : Nat → ClassId} {s : zSt} {k j : Nat} {o : Nat × List (Nat ⊕ Nat)} {kd : Nat} (h : o.2[j]? = some (.inl kd)) (v : Int32) : zC ad cA (zw s k j v) k (.inl o) = .inr (o.1, (o.2.mapIdx (fun j f => zF ad s k j f)).set j (.int v)) := by
  show Sum.inr (o.1, _) = Sum.inr (o.1, _)
  congr 2
  apply List.ext_getElem?
  intro i
  have hl : j < o.2.length := (List.getElem?_eq_some_iff.mp h).1
  by_cases hi : i = j
  · subst hi
    rw [List.getElem?_set_self (by simp only [List.length_mapIdx]; exact hl), List.getElem?_mapIdx, h]
    simp [zF, zw_same, upd]
  · rw [List.getElem?_set_ne (Ne.symm hi)]
    simp only [List.getElem?_mapIdx]
    cases o.2[i]? with
    | none => rfl
    | some f => cases f <;> simp [zF, zw_same, upd, hi]
/-! the good words of the tables; what the statics hold; nest mates -/
def zTb : List Cond := lw_tbl.filter goodWord
def zNest : Cond → Bool
  | .methodLinkNest .. => true
  | .fieldLinkNest .. => true
  | _ => false
def zNw : List Cond := tables_1.filter zNest
theorem zTb_in {w : Cond} (h : w ∈ lw_tbl) (hg : goodWord w = true) : w ∈ zTb := List.mem_filter.mpr ⟨h, hg⟩
theorem zTb_good : GoodIn zTb zTb := fun w h => ⟨h, good_of_word (List.mem_filter.mp h).2⟩
def zSx (ad : Nat → Nat) (A : Nat → Prop) (s : State) : Prop :=
  (∀ (j : Nat) (e : String × String × String × FieldType × List Int32), zTab[j]? = some e → va_Z e.1 e.2.1 e.2.2.1 (.ref (ad (1000 + j))) A s s.heap ∧ va_T e.2.2.2.1 (ad (1000 + j)) e.2.2.2.2.length (fun i => .int (e.2.2.2.2.getD i 0)) A s s.heap) ∧ ∀ w ∈ zNw, va_Nw w s
theorem zSx_vm {ad : Nat → Nat} {A : Nat → Prop} {s t : State} (h : zSx ad A s) (hh : t.heap = s.heap) (hv : t.vm = s.vm) : zSx ad A t := by
  refine ⟨fun j e he => ?_, fun w hw => ?_⟩
  · obtain ⟨h1, h2⟩ := h.1 j e he
    rw [hh]
    have hal : s.vm.Alike t.vm := by rw [hv]; exact Vm.Alike.refl _
    exact ⟨h1.moved hal, h2.moved hal⟩
  · have hon : w.onTables = true := by
      have := (List.mem_filter.mp hw).2
      cases w <;> first | rfl | cases this
    exact va_Nw.same hon hv.symm (h.2 w hw)
theorem zSx_call {ad : Nat → Nat} {A B : Nat → Prop} {s t : State} {H : Heap} {locs : List Loc} (h : zSx ad A s) (hS : va_S A s.heap H locs) (hh : t.heap = H) (hW : s.WarmedH t.vm) (hB : ∀ q, B q → A q) : zSx ad B t := by
  refine ⟨fun j e he => ?_, fun w hw => ?_⟩
  · obtain ⟨h1, h2⟩ := h.1 j e he
    rw [hh]
    exact ⟨((h1.kept (H1 := H) (fun a q1 q2 => hS.2.1 a q1 q2)).narrow hB).moved hW.alike, ((h2.kept (H1 := H) (fun a q1 q2 => hS.2.1 a q1 q2)).narrow hB).moved hW.alike⟩
  · have hz := (List.mem_filter.mp hw).2
    have h1 := h.2 w hw
    cases w <;> first | exact va_Nw.warmM hW h1 | exact va_Nw.warmF hW h1 | cases hz
/-- a method: its class's number, name, code, locals, answer, its instructions -/
abbrev zM : Type := Nat × MethodName × ByteArray × Nat × Option FieldType × List (Nat × Instr × Nat)
def zMok (M : zM) : Prop := (∀ e ∈ M.2.2.2.2.2, decode M.2.2.1 e.1 = .ok (e.2.1, e.2.2)) ∧ zNm M.1 = M.2.1.cls ∧ Cond.code M.2.1 M.2.2.1 M.2.2.2.1 M.2.2.2.2.1 ∈ lw_tbl ∧ plainFor M.2.1 = true
def zRm (d : Nat) : Room := { frames := d, cells := 0, slots := 0, locals := 64 * d }
def zCx (M : zM) (D : va_G) (cA : Nat → ClassId) (ad : Nat → Nat) (A : Nat → Prop) (p : Program) (s : State) (m : MethodId) (args : Array Value) (meth : Method) (c : Code) : Prop :=
  p.tables.exec = Jvm.exec ∧ c.code = M.2.2.1 ∧ c.maxLocals = M.2.2.2.1 ∧ meth.sig.returnType = M.2.2.2.2.1 ∧ meth.locks = false ∧ s.vm.findClass M.2.1.cls = some m.cls ∧ (∀ w ∈ zTb, w.before args s = true) ∧ va_K D zCl (zTy cA) s ∧ zSx ad A s ∧ (∀ q : Nat, s.heap.size ≤ q → A q)
/-- how a method ends -/
def zQ (D : va_G) (cA : Nat → ClassId) (ad : Nat → Nat) (A : Nat → Prop) (Λ : List zD) (res : Option Value × zSt) : Array Value → State → Outcome → State → Prop := fun _ st oc t =>
  oc = .returned (res.1.map (zV ad)) ∧ va_P D zCl (zW ad cA Λ res.2) t.heap ∧ va_F A st t
/-- from here the method's own code comes to its end with res -/
def zWA (M : zM) (Λ : List zD) (d : Nat) (res : Option Value × zSt) (pc : Nat) (ls : List (Nat × Value)) (st : List Value) (σ : zSt) : Prop :=
  zMok M → ∀ (p : Program) (l : Launch) (e : Env) (s : State) (m : MethodId) (args : Array Value) (below : List Frame) (meth : Method) (c : Code) (D : va_G) (cA : Nat → ClassId) (ad : Nat → Nat) (A : Nat → Prop),
    zCx M D cA ad A p s m args meth c → ∀ (H : Heap) (locs : List Loc) (lsC : Array Slot), va_P D zCl (zW ad cA Λ σ) H → va_D A (zW ad cA Λ σ) → va_S A s.heap H locs → lv_has lsC M.2.2.2.1 (ls.map (fun q => (q.1, zV ad q.2))) →
      W p l e (zRm d) s m args below meth c H locs 0 0 (MQ below (zQ D cA ad A Λ res) args s 0 0 A) (F0 m pc lsC (st.map (zV ad)))
/-- a contract -/
def zKp (M : zM) (Λ : List zD) (d : Nat) (As : List Value) (σ : zSt) (res : Option Value × zSt) : Prop :=
  ∀ (l : Launch) (D : va_G) (cA : Nat → ClassId) (ad : Nat → Nat) (sz : Nat), Met l M.2.1 (Cond.code M.2.1 M.2.2.1 M.2.2.2.1 M.2.2.2.2.1 :: zTb) (zRm d)
    (va_Pc (As.map (zV ad)) (fun U => U.heap.size = sz ∧ va_P D zCl (zW ad cA Λ σ) U.heap ∧ va_K D zCl (zTy cA) U ∧ va_D (fun _ => True) (zW ad cA Λ σ) ∧ zSx ad (va_A (zW ad cA Λ σ) sz) U))
    (zQ D cA ad (va_A (zW ad cA Λ σ) sz) Λ res) 0 0 (va_A (zW ad cA Λ σ) sz)
theorem zV_cat (ad : Nat → Nat) (v : Value) : (zV ad v).category = v.category := by cases v <;> rfl
theorem zV_cats (ad : Nat → Nat) (st : List Value) : ((st.map (zV ad)).map fun v => v.category) = st.map fun v => v.category := by
  rw [List.map_map]; exact List.map_congr_left (fun v _ => zV_cat ad v)
theorem zArgs (ad : Nat → Nat) (As : List Value) : ∀ i : Nat, lv_args i (As.map (zV ad)) = (lv_args i As).map (fun q => (q.1, zV ad q.2)) := by
  induction As with
  | nil => intro i; rfl
  | cons v vs ih => intro i; simp only [List.map_cons, lv_args, zV_cat, ih]
theorem zSl (ad : Nat → Nat) (As : List Value) : (lg_sl (As.map (zV ad))).length = (lg_sl As).length := by
  induction As with
  | nil => rfl
  | cons v vs ih =>
    simp only [lg_sl, List.map_cons, List.flatMap_cons, List.length_append] at ih ⊢
    rw [ih]
    cases v <;> rfl
/-- a contract out of the walk of the method's code -/
theorem zKp_of {M : zM} {Λ : List zD} {d : Nat} {As : List Value} {σ : zSt} {res : Option Value × zSt} (hM : zMok M) (hn : Nat.ble (lg_sl As).length M.2.2.2.1 = true) (h : zWA M Λ d res 0 (lv_args 0 As) [] σ) : zKp M Λ d As σ res := by
  intro l D cA ad sz
  refine va_MetF (cc := M.2.2.1) (maxL := M.2.2.2.1) (ret := M.2.2.2.2.1) hM.2.2.2 rfl ?_
  intro p e s m args below meth c s₁ B hml hv
  obtain ⟨rfl, hsz, hP, hK, hD0, hSx⟩ := hv
  have hts := atoms_spec (ws := Cond.code M.2.1 M.2.2.1 M.2.2.2.1 M.2.2.2.2.1 :: zTb) B.pre
  subst hsz
  have hD := hD0.self (sz := s.heap.size)
  have hl := lv_entry (As.map (zV ad)) (n := M.2.2.2.1) (by rw [zSl]; exact Nat.le_of_ble_eq_true hn)
  rw [lg_entry_eq]
  generalize (lg_sl (As.map (zV ad)) ++ List.replicate (M.2.2.2.1 - (lg_sl (As.map (zV ad))).length) Slot.unset).toArray = ls at hl ⊢
  rw [zArgs] at hl
  exact h hM p l e s m _ below meth c D cA ad (va_A (zW ad cA Λ σ) s.heap.size) ⟨B.exec, B.bytes, hml, B.returns, B.notSynchronized, findClass_of_methodNamed B.named, fun w hw => hts w (List.mem_cons_of_mem _ hw), hK, hSx, fun q hq => Or.inr hq⟩ s.heap [] ls hP hD va_S.rf hl
end
section
/-! straight-line instructions, by computing -/
def zlk {α : Type} : List (Nat × α) → Nat → Option α
  | [], _ => none
  | q :: l, i => cond (Nat.beq q.1 i) (some q.2) (zlk l i)
theorem zlk_mem {α : Type} {i : Nat} {v : α} : ∀ {l : List (Nat × α)}, zlk l i = some v → (i, v) ∈ l
  | [], h => by cases h
  | q :: l, h => by
    unfold zlk at h
    cases hb : Nat.beq q.1 i with
    | true =>
      rw [hb] at h
      have e : q.1 = i := Nat.eq_of_beq_eq_true hb
      cases h
      rw [← e]
      exact List.mem_cons_self
    | false =>
      rw [hb] at h
      exact List.mem_cons_of_mem _ (zlk_mem (l := l) h)
abbrev zS : Type := List (Nat × Value) × List Value × zSt
def zrm (i : Nat) (l : List (Nat × Value)) : List (Nat × Value) := l.filter (fun q => !(q.1 == i) && !(q.1 + 1 == i && q.2.category == 2))
def zrm2 (i : Nat) (l : List (Nat × Value)) : List (Nat × Value) := l.filter (fun q => !(q.1 == i) && (!(q.1 == i + 1) && !(q.1 + 1 == i && q.2.category == 2)))
def zLoad (i : Nat) (x : zS) : Option zS := match zlk x.1 i with
  | some (.int v) => some (x.1, .int v :: x.2.1, x.2.2)
  | _ => none
def zLoadL (i : Nat) (x : zS) : Option zS := match zlk x.1 i with
  | some (.long v) => some (x.1, .long v :: x.2.1, x.2.2)
  | _ => none
def zLoadA (i : Nat) (x : zS) : Option zS := match zlk x.1 i with
  | some (.ref v) => some (x.1, .ref v :: x.2.1, x.2.2)
  | some .null => some (x.1, .null :: x.2.1, x.2.2)
  | _ => none
def zStore (nL i : Nat) (x : zS) : Option zS := match x.2.1 with
  | .int v :: r => cond (Nat.blt i nL) (some ((i, .int v) :: zrm i x.1, r, x.2.2)) none
  | _ => none
def zStoreL (nL i : Nat) (x : zS) : Option zS := match x.2.1 with
  | .long v :: r => cond (Nat.blt (i + 1) nL) (some ((i, .long v) :: zrm2 i x.1, r, x.2.2)) none
  | _ => none
def zStoreA (nL i : Nat) (x : zS) : Option zS := match x.2.1 with
  | .ref v :: r => cond (Nat.blt i nL) (some ((i, .ref v) :: zrm i x.1, r, x.2.2)) none
  | .null :: r => cond (Nat.blt i nL) (some ((i, .null) :: zrm i x.1, r, x.2.2)) none
  | _ => none
def zInc (nL i : Nat) (n : Int) (x : zS) : Option zS := match zlk x.1 i with
  | some (.int v) => cond (Nat.blt i nL) (some ((i, .int (v + Int32.ofInt n)) :: zrm i x.1, x.2.1, x.2.2)) none
  | _ => none
def zBin (f : Int32 → Int32 → Int32) (x : zS) : Option zS := match x.2.1 with
  | .int b :: .int a :: r => some (x.1, .int (f a b) :: r, x.2.2)
  | _ => none
def zBinL (f : Int64 → Int64 → Int64) (x : zS) : Option zS := match x.2.1 with
  | .long b :: .long a :: r => some (x.1, .long (f a b) :: r, x.2.2)
  | _ => none
def zDvi (f : Int32 → Int32 → Int32) (x : zS) : Option zS := match x.2.1 with
  | .int b :: .int a :: r => if b = 0 then none else some (x.1, .int (f a b) :: r, x.2.2)
  | _ => none
def zrem (a b : Int32) : Int32 := a - a / b * b
def zremL (a b : Int64) : Int64 := a - a / b * b
def zush (x y : Int32) : Int32 := (x.toUInt32 >>> (y.toUInt32 &&& Int32.toUInt32 31)).toInt32
def zPush (v : Value) (x : zS) : Option zS := some (x.1, v :: x.2.1, x.2.2)
def zGet (own : Nat) (Λ : List zD) (idx : Nat) (x : zS) : Option zS := match x.2.1 with
  | .ref k :: r => match zlk (zfl own) idx, Λ[k]? with
    | some q, some (.inl o) => cond (Nat.beq q.1 o.1) (match o.2[q.2]? with
      | some (.inl _) => some (x.1, .int (x.2.2.1 k q.2) :: r, x.2.2)
      | some (.inr b) => some (x.1, .ref b :: r, x.2.2)
      | none => none) none
    | _, _ => none
  | _ => none
def zPut (own : Nat) (Λ : List zD) (idx : Nat) (x : zS) : Option zS := match x.2.1 with
  | .int v :: .ref k :: r => match zlk (zfl own) idx, Λ[k]? with
    | some q, some (.inl o) => cond (Nat.beq q.1 o.1) (match o.2[q.2]? with
      | some (.inl 0) => some (x.1, r, zw x.2.2 k q.2 v)
      | some (.inl 1) => if v = 0 ∨ v = 1 then some (x.1, r, zw x.2.2 k q.2 v) else none
      | _ => none) none
    | _, _ => none
  | _ => none
def zLen (Λ : List zD) (x : zS) : Option zS := match x.2.1 with
  | .ref k :: r => match Λ[k]? with
    | some (.inr q) => some (x.1, .int (Int32.ofNat q.2.1) :: r, x.2.2)
    | _ => none
  | _ => none
def zDup (x : zS) : Option zS := match x.2.1 with
  | .int a :: r => some (x.1, .int a :: .int a :: r, x.2.2)
  | .ref a :: r => some (x.1, .ref a :: .ref a :: r, x.2.2)
  | _ => none
def zDupX (x : zS) : Option zS := match x.2.1 with
  | .int a :: .ref b :: r => some (x.1, .int a :: .ref b :: .int a :: r, x.2.2)
  | _ => none
def zDup2 (x : zS) : Option zS := match x.2.1 with
  | .int a :: .ref b :: r => some (x.1, .int a :: .ref b :: .int a :: .ref b :: r, x.2.2)
  | _ => none
def zUn (f : Int32 → Int32) (x : zS) : Option zS := match x.2.1 with
  | .int a :: r => some (x.1, .int (f a) :: r, x.2.2)
  | _ => none
/-- one instruction: its length, and what it does -/
def zstep (own nL : Nat) (Λ : List zD) (i : Instr) (x : zS) : Nat × Option zS := match i with
  | .iconst n => (1, zPush (.int (Int32.ofInt n)) x)
  | .bipush n => (2, zPush (.int (Int8.ofInt n).toInt32) x)
  | .sipush n => (3, zPush (.int (Int16.ofInt n).toInt32) x)
  | .lconst n => (1, zPush (.long (Int64.ofNat n.val)) x)
  | .ldc k => (2, (zlk (zki own) k).bind fun v => zPush (.int v) x)
  | .ldc2_w k => (3, (zlk (zkl own) k).bind fun v => zPush (.long v) x)
  | .aconst_null => (1, zPush .null x)
  | .iload_n n => (1, zLoad n.val x)
  | .iload n => (2, zLoad n x)
  | .lload_n n => (1, zLoadL n.val x)
  | .lload n => (2, zLoadL n x)
  | .aload_n n => (1, zLoadA n.val x)
  | .aload n => (2, zLoadA n x)
  | .istore_n n => (1, zStore nL n.val x)
  | .istore n => (2, zStore nL n x)
  | .lstore_n n => (1, zStoreL nL n.val x)
  | .lstore n => (2, zStoreL nL n x)
  | .astore_n n => (1, zStoreA nL n.val x)
  | .astore n => (2, zStoreA nL n x)
  | .iinc k n => (3, zInc nL k n x)
  | .iadd => (1, zBin (fun a b => a + b) x)
  | .isub => (1, zBin (fun a b => a - b) x)
  | .imul => (1, zBin (fun a b => a * b) x)
  | .iand => (1, zBin (fun a b => a &&& b) x)
  | .ior => (1, zBin (fun a b => a ||| b) x)
  | .ixor => (1, zBin (fun a b => a ^^^ b) x)
  | .ishl => (1, zBin (fun a b => a <<< (b &&& 31)) x)
  | .ishr => (1, zBin (fun a b => a >>> (b &&& 31)) x)
  | .iushr => (1, zBin zush x)
  | .idiv => (1, zDvi (fun a b => a / b) x)
  | .irem => (1, zDvi zrem x)
  | .ineg => (1, zUn (fun a => -a) x)
  | .i2b => (1, zUn (fun a => a.toInt8.toInt32) x)
  | .i2s => (1, zUn (fun a => a.toInt16.toInt32) x)
  | .ladd => (1, zBinL (fun a b => a + b) x)
  | .lsub => (1, zBinL (fun a b => a - b) x)
  | .lmul => (1, zBinL (fun a b => a * b) x)
  | .land => (1, zBinL (fun a b => a &&& b) x)
  | .lor => (1, zBinL (fun a b => a ||| b) x)
  | .lneg => (1, match x.2.1 with
    | .long a :: r => some (x.1, .long (-a) :: r, x.2.2)
    | _ => none)
  | .lshl => (1, match x.2.1 with
    | .int b :: .long a :: r => some (x.1, .long (a <<< (b.toInt64 &&& 63)) :: r, x.2.2)
    | _ => none)
  | .lcmp => (1, match x.2.1 with
    | .long b :: .long a :: r => some (x.1, .int (lg_cmp a b) :: r, x.2.2)
    | _ => none)
  | .i2l => (1, match x.2.1 with
    | .int a :: r => some (x.1, .long a.toInt64 :: r, x.2.2)
    | _ => none)
  | .l2i => (1, match x.2.1 with
    | .long a :: r => some (x.1, .int a.toInt32 :: r, x.2.2)
    | _ => none)
  | .dup => (1, zDup x)
  | .dup_x1 => (1, zDupX x)
  | .dup2 => (1, zDup2 x)
  | .pop => (1, match x.2.1 with
    | .int _ :: r => some (x.1, r, x.2.2)
    | _ => none)
  | .arraylength => (1, zLen Λ x)
  | .getfield k => (3, zGet own Λ k x)
  | .putfield k => (3, zPut own Λ k x)
  | .getstatic k => (3, (zlk (zsl own) k).bind fun q => zPush (.ref (1000 + q.1)) x)
  | _ => (0, none)
/-- the field links are the tables' -/
def zflok (own : Nat) : Bool := (zfl own).all fun q => match zCl[q.2.1]? with
  | some r => decide (q.2.2 < r.2.2) && (decide ((r.2.1 q.2.2).1 = r.1) && (decide (Cond.fieldLink (zNm own) q.1 r.1 (r.2.1 q.2.2).2.1 (r.2.1 q.2.2).2.2.1 ∈ tables_1)))
  | none => false
theorem zfl_ok : ∀ own : Nat, zflok own = true
  | 0 => by decide +kernel
  | 1 => by decide +kernel
  | 2 => by decide +kernel
  | 3 => by decide +kernel
  | 4 => by decide +kernel
  | 5 => by decide +kernel
  | 6 => by decide +kernel
  | 7 => by decide +kernel
  | 8 => by decide +kernel
  | 9 => by decide +kernel
  | 10 => by decide +kernel
  | 11 => by decide +kernel
  | 12 => by decide +kernel
  | _ + 13 => rfl
def zkok (own : Nat) : Bool := (zki own).all (fun q => decide (Cond.constant (zNm own) q.1 q.2 ∈ tables_1)) && (zkl own).all (fun q => decide (Cond.constantLong (zNm own) q.1 q.2 ∈ tables_1))
theorem zk_ok : ∀ own : Nat, zkok own = true
  | 0 => by decide +kernel
  | 1 => by decide +kernel
  | 2 => by decide +kernel
  | 3 => by decide +kernel
  | 4 => by decide +kernel
  | 5 => by decide +kernel
  | 6 => by decide +kernel
  | 7 => by decide +kernel
  | 8 => by decide +kernel
  | 9 => by decide +kernel
  | 10 => by decide +kernel
  | 11 => by decide +kernel
  | 12 => by decide +kernel
  | _ + 13 => rfl
def zsok (own : Nat) : Bool := (zsl own).all fun q => match zTab[q.2.1]? with
  | some r => if q.2.2 = true then decide (Cond.fieldLinkNest (zNm own) q.1 r.1 r.2.1 r.2.2.1 "LemonGate" ∈ tables_1) else decide (Cond.fieldLink (zNm own) q.1 r.1 r.2.1 r.2.2.1 ∈ tables_1)
  | none => false
theorem zs_ok : ∀ own : Nat, zsok own = true
  | 0 => by decide +kernel
  | 1 => by decide +kernel
  | 2 => by decide +kernel
  | 3 => by decide +kernel
  | 4 => by decide +kernel
  | 5 => by decide +kernel
  | 6 => by decide +kernel
  | 7 => by decide +kernel
  | 8 => by decide +kernel
  | 9 => by decide +kernel
  | 10 => by decide +kernel
  | 11 => by decide +kernel
  | 12 => by decide +kernel
  | _ + 13 => rfl
def zlays : Bool := (List.range 13).all fun ci => match zCl[ci]? with
  | some r => (u_ws r.1 r.2.1 r.2.2).all fun w => decide (w ∈ tables_1)
  | none => false
theorem zlays_ok : zlays = true := by decide +kernel
theorem zTb_of {w : Cond} (h : w ∈ tables_1) (hg : goodWord w = true) : w ∈ zTb := zTb_in (List.mem_append_right _ h) hg
theorem zCl_len {ci : Nat} {r : vw_C} (h : zCl[ci]? = some r) : ci < 13 := (List.getElem?_eq_some_iff.mp h).1
theorem zlays_in {ci : Nat} {r : vw_C} (h : zCl[ci]? = some r) : ∀ w ∈ u_ws r.1 r.2.1 r.2.2, w ∈ zTb := by
  intro w hw
  have h1 := List.all_eq_true.mp zlays_ok ci (List.mem_range.mpr (zCl_len h))
  rw [h] at h1
  have h2 := List.all_eq_true.mp h1 w hw
  refine zTb_of (of_decide_eq_true h2) ?_
  obtain ⟨k, -, rfl⟩ := List.mem_map.mp hw
  unfold u_lay
  split <;> rfl
def zNmOk (ci : Nat) : Prop := ∀ r, zCl[ci]? = some r → (∀ k, k < r.2.2 → parseFieldDescriptor (r.2.1 k).2.2.1 = some (zTt ci k)) ∧ ∀ a, a < r.2.2 → ∀ b, b < r.2.2 → a ≠ b → (r.2.1 a).2.1 ≠ (r.2.1 b).2.1
theorem zNm_ok (ci : Nat) : zNmOk ci := by
  intro r h
  match ci, h with
  | 0, h => cases h; exact ⟨zto0, zn0⟩
  | 1, h => cases h; exact ⟨zto1, zn1⟩
  | 2, h => cases h; exact ⟨zto2, zn2⟩
  | 3, h => cases h; exact ⟨zto3, zn3⟩
  | 4, h => cases h; exact ⟨zto4, zn4⟩
  | 5, h => cases h; exact ⟨zto5, zn5⟩
  | 6, h => cases h; exact ⟨zto6, zn6⟩
  | 7, h => cases h; exact ⟨zto7, zn7⟩
  | 8, h => cases h; exact ⟨zto8, zn8⟩
  | 9, h => cases h; exact ⟨zto9, zn9⟩
  | 10, h => cases h; exact ⟨zto10, zn10⟩
  | 11, h => cases h; exact ⟨zto11, zn11⟩
  | 12, h => cases h; exact ⟨zto12, zn12⟩
  | n + 13, h => simp [zCl] at h
end
section
/-! straight-line instructions: soundness -/
section ZR
variable {M : zM} {Λ : List zD} {d : Nat} {res : Option Value × zSt} {pc len : Nat}
theorem zlay_of {own idx : Nat} {q : Nat × Nat} (h : zlk (zfl own) idx = some q) : ∃ r : vw_C, zCl[q.1]? = some r ∧ q.2 < r.2.2 ∧ (r.2.1 q.2).1 = r.1 ∧ Cond.fieldLink (zNm own) idx r.1 (r.2.1 q.2).2.1 (r.2.1 q.2).2.2.1 ∈ zTb := by
  have h1 := List.all_eq_true.mp (zfl_ok own) _ (zlk_mem h)
  cases hr : zCl[q.1]? with
  | none => simp [hr] at h1
  | some r =>
    simp only [hr, Bool.and_eq_true, decide_eq_true_eq] at h1
    exact ⟨r, rfl, h1.1, h1.2.1, zTb_of h1.2.2 rfl⟩
theorem zloc {ls : List (Nat × Value)} {lsC : Array Slot} {nL i : Nat} {ad : Nat → Nat} {v : Value} (hl : lv_has lsC nL (ls.map (fun q => (q.1, zV ad q.2)))) (h : zlk ls i = some v) : lsC[i]? = some (.val (zV ad v)) :=
  hl.2.2 (i, zV ad v) (List.mem_map.mpr ⟨(i, v), zlk_mem h, rfl⟩)
theorem zrm_map (ad : Nat → Nat) (i : Nat) (ls : List (Nat × Value)) : (zrm i ls).map (fun q => (q.1, zV ad q.2)) = (ls.map (fun q => (q.1, zV ad q.2))).filter (fun q => !(q.1 == i) && !(q.1 + 1 == i && q.2.category == 2)) := by
  rw [List.filter_map]
  unfold zrm
  congr 1
  apply List.filter_congr
  intro q _
  simp [zV_cat]
theorem zrm2_map (ad : Nat → Nat) (i : Nat) (ls : List (Nat × Value)) : (zrm2 i ls).map (fun q => (q.1, zV ad q.2)) = (ls.map (fun q => (q.1, zV ad q.2))).filter (fun q => !(q.1 == i) && (!(q.1 == i + 1) && !(q.1 + 1 == i && q.2.category == 2))) := by
  rw [List.filter_map]
  unfold zrm2
  congr 1
  apply List.filter_congr
  intro q _
  simp [zV_cat]
theorem zs_push {v : Value} {ls st s} {n : Nat} (k : zWA M Λ d res (pc + n) ls (v :: st) s)
    (h : ∀ {p : Program} {l : Launch} {e : Env} {R : Room} {s : State} {m : MethodId} {args : Array Value} {below : List Frame} {meth : Method} {c : Code} {H : Heap} {locs : List Loc} {cells slots : Nat} {Q : State → Prop} {ls : Array Slot} {rest : List Value} (ad : Nat → Nat), p.tables.exec = Jvm.exec → c.code = M.2.2.1 → s.vm.findClass M.2.1.cls = some m.cls → (∀ w ∈ zTb, w.before args s = true) → W p l e R s m args below meth c H locs cells slots Q (F0 m (pc + n) ls (zV ad v :: rest)) → W p l e R s m args below meth c H locs cells slots Q (F0 m pc ls rest)) : zWA M Λ d res pc ls st s := by
  intro hM p l e s m args below meth c D cA ad A C H locs lsC hP hD hS hl
  have k1 := k hM p l e s m args below meth c D cA ad A C H locs lsC hP hD hS hl
  exact h ad C.1 C.2.1 C.2.2.2.2.2.1 C.2.2.2.2.2.2.1 k1
theorem zs_load {i : Nat} {x y : zS} (h : zLoad i x = some y) {n : Nat} (k : zWA M Λ d res (pc + n) y.1 y.2.1 y.2.2)
    (hr : ∀ {p : Program} {l : Launch} {e : Env} {R : Room} {s : State} {m : MethodId} {args : Array Value} {below : List Frame} {meth : Method} {c : Code} {H : Heap} {locs : List Loc} {cells slots : Nat} {Q : State → Prop} {ls : Array Slot} {rest : List Value} {v : Int32}, p.tables.exec = Jvm.exec → c.code = M.2.2.1 → ls[i]? = some (.val (.int v)) → W p l e R s m args below meth c H locs cells slots Q (F0 m (pc + n) ls (.int v :: rest)) → W p l e R s m args below meth c H locs cells slots Q (F0 m pc ls rest)) : zWA M Λ d res pc x.1 x.2.1 x.2.2 := by
  unfold zLoad at h
  split at h
  · next v hv =>
    cases h
    intro hM p l e s m args below meth c D cA ad A C H locs lsC hP hD hS hl
    exact hr C.1 C.2.1 (zloc hl hv) (k hM p l e s m args below meth c D cA ad A C H locs lsC hP hD hS hl)
  · cases h
theorem zs_loadL {i : Nat} {x y : zS} (h : zLoadL i x = some y) {n : Nat} (k : zWA M Λ d res (pc + n) y.1 y.2.1 y.2.2)
    (hr : ∀ {p : Program} {l : Launch} {e : Env} {R : Room} {s : State} {m : MethodId} {args : Array Value} {below : List Frame} {meth : Method} {c : Code} {H : Heap} {locs : List Loc} {cells slots : Nat} {Q : State → Prop} {ls : Array Slot} {rest : List Value} {v : Int64}, p.tables.exec = Jvm.exec → c.code = M.2.2.1 → ls[i]? = some (.val (.long v)) → W p l e R s m args below meth c H locs cells slots Q (F0 m (pc + n) ls (.long v :: rest)) → W p l e R s m args below meth c H locs cells slots Q (F0 m pc ls rest)) : zWA M Λ d res pc x.1 x.2.1 x.2.2 := by
  unfold zLoadL at h
  split at h
  · next v hv =>
    cases h
    intro hM p l e s m args below meth c D cA ad A C H locs lsC hP hD hS hl
    exact hr C.1 C.2.1 (zloc hl hv) (k hM p l e s m args below meth c D cA ad A C H locs lsC hP hD hS hl)
  · cases h
theorem zs_loadA {i : Nat} {x y : zS} (h : zLoadA i x = some y) {n : Nat} (k : zWA M Λ d res (pc + n) y.1 y.2.1 y.2.2)
    (hr : ∀ {p : Program} {l : Launch} {e : Env} {R : Room} {s : State} {m : MethodId} {args : Array Value} {below : List Frame} {meth : Method} {c : Code} {H : Heap} {locs : List Loc} {cells slots : Nat} {Q : State → Prop} {ls : Array Slot} {rest : List Value} {v : Nat}, p.tables.exec = Jvm.exec → c.code = M.2.2.1 → ls[i]? = some (.val (.ref v)) → W p l e R s m args below meth c H locs cells slots Q (F0 m (pc + n) ls (.ref v :: rest)) → W p l e R s m args below meth c H locs cells slots Q (F0 m pc ls rest))
    (hn : ∀ {p : Program} {l : Launch} {e : Env} {R : Room} {s : State} {m : MethodId} {args : Array Value} {below : List Frame} {meth : Method} {c : Code} {H : Heap} {locs : List Loc} {cells slots : Nat} {Q : State → Prop} {ls : Array Slot} {rest : List Value}, p.tables.exec = Jvm.exec → c.code = M.2.2.1 → ls[i]? = some (.val .null) → W p l e R s m args below meth c H locs cells slots Q (F0 m (pc + n) ls (.null :: rest)) → W p l e R s m args below meth c H locs cells slots Q (F0 m pc ls rest)) : zWA M Λ d res pc x.1 x.2.1 x.2.2 := by
  unfold zLoadA at h
  split at h
  · next v hv =>
    cases h
    intro hM p l e s m args below meth c D cA ad A C H locs lsC hP hD hS hl
    exact hr C.1 C.2.1 (zloc hl hv) (k hM p l e s m args below meth c D cA ad A C H locs lsC hP hD hS hl)
  · next hv =>
    cases h
    intro hM p l e s m args below meth c D cA ad A C H locs lsC hP hD hS hl
    exact hn C.1 C.2.1 (zloc hl hv) (k hM p l e s m args below meth c D cA ad A C H locs lsC hP hD hS hl)
  · cases h
/-- a row of the stack alone -/
theorem zs_pure {x y : zS} (hx : x.1 = y.1 ∧ x.2.2 = y.2.2) {n : Nat} (k : zWA M Λ d res (pc + n) y.1 y.2.1 y.2.2)
    (hr : ∀ {p : Program} {l : Launch} {e : Env} {R : Room} {s : State} {m : MethodId} {args : Array Value} {below : List Frame} {meth : Method} {c : Code} {H : Heap} {locs : List Loc} {cells slots : Nat} {Q : State → Prop} {ls : Array Slot} (ad : Nat → Nat), p.tables.exec = Jvm.exec → c.code = M.2.2.1 → W p l e R s m args below meth c H locs cells slots Q (F0 m (pc + n) ls (y.2.1.map (zV ad))) → W p l e R s m args below meth c H locs cells slots Q (F0 m pc ls (x.2.1.map (zV ad)))) : zWA M Λ d res pc x.1 x.2.1 x.2.2 := by
  intro hM p l e s m args below meth c D cA ad A C H locs lsC hP hD hS hl
  rw [hx.1] at hl
  rw [hx.2] at hP hD
  exact hr ad C.1 C.2.1 (k hM p l e s m args below meth c D cA ad A C H locs lsC hP hD hS hl)
theorem zs_store {nL i : Nat} {x y : zS} (hnL : M.2.2.2.1 = nL) (h : zStore nL i x = some y) {n : Nat} (k : zWA M Λ d res (pc + n) y.1 y.2.1 y.2.2)
    (hr : ∀ {p : Program} {l : Launch} {e : Env} {R : Room} {s : State} {m : MethodId} {args : Array Value} {below : List Frame} {meth : Method} {c : Code} {H : Heap} {locs : List Loc} {cells slots : Nat} {Q : State → Prop} {ls : Array Slot} {rest : List Value} {v : Int32} {lv lv' : List (Nat × Value)}, p.tables.exec = Jvm.exec → c.code = M.2.2.1 → lv_has ls nL lv → i < nL → (i, Value.int v) :: lv.filter (fun q => !(q.1 == i) && !(q.1 + 1 == i && q.2.category == 2)) = lv' → (∀ ls1 : Array Slot, lv_has ls1 nL lv' → W p l e R s m args below meth c H locs cells slots Q (F0 m (pc + n) ls1 rest)) → W p l e R s m args below meth c H locs cells slots Q (F0 m pc ls (.int v :: rest))) : zWA M Λ d res pc x.1 x.2.1 x.2.2 := by
  subst hnL
  obtain ⟨ls, st, s0⟩ := x
  unfold zStore at h
  dsimp only at h
  split at h
  · next v r =>
    cases hb : Nat.blt i M.2.2.2.1 with
    | false => rw [hb] at h; cases h
    | true =>
      rw [hb] at h
      cases h
      intro hM p l e s m args below meth c D cA ad A C H locs lsC hP hD hS hl
      refine hr (v := v) C.1 C.2.1 hl (Nat.blt_eq.mp hb) rfl fun ls1 hl1 => ?_
      exact k hM p l e s m args below meth c D cA ad A C H locs ls1 hP hD hS (by rw [← zrm_map] at hl1; exact hl1)
  · cases h
theorem zs_storeL {nL i : Nat} {x y : zS} (hnL : M.2.2.2.1 = nL) (h : zStoreL nL i x = some y) {n : Nat} (k : zWA M Λ d res (pc + n) y.1 y.2.1 y.2.2)
    (hr : ∀ {p : Program} {l : Launch} {e : Env} {R : Room} {s : State} {m : MethodId} {args : Array Value} {below : List Frame} {meth : Method} {c : Code} {H : Heap} {locs : List Loc} {cells slots : Nat} {Q : State → Prop} {ls : Array Slot} {rest : List Value} {v : Int64} {lv lv' : List (Nat × Value)}, p.tables.exec = Jvm.exec → c.code = M.2.2.1 → lv_has ls nL lv → i + 1 < nL → (i, Value.long v) :: lv.filter (fun q => !(q.1 == i) && (!(q.1 == i + 1) && !(q.1 + 1 == i && q.2.category == 2))) = lv' → (∀ ls1 : Array Slot, lv_has ls1 nL lv' → W p l e R s m args below meth c H locs cells slots Q (F0 m (pc + n) ls1 rest)) → W p l e R s m args below meth c H locs cells slots Q (F0 m pc ls (.long v :: rest))) : zWA M Λ d res pc x.1 x.2.1 x.2.2 := by
  subst hnL
  obtain ⟨ls, st, s0⟩ := x
  unfold zStoreL at h
  dsimp only at h
  split at h
  · next v r =>
    cases hb : Nat.blt (i + 1) M.2.2.2.1 with
    | false => rw [hb] at h; cases h
    | true =>
      rw [hb] at h
      cases h
      intro hM p l e s m args below meth c D cA ad A C H locs lsC hP hD hS hl
      refine hr (v := v) C.1 C.2.1 hl (Nat.blt_eq.mp hb) rfl fun ls1 hl1 => ?_
      exact k hM p l e s m args below meth c D cA ad A C H locs ls1 hP hD hS (by rw [← zrm2_map] at hl1; exact hl1)
  · cases h
theorem zs_storeA {nL i : Nat} {x y : zS} (hnL : M.2.2.2.1 = nL) (h : zStoreA nL i x = some y) {n : Nat} (k : zWA M Λ d res (pc + n) y.1 y.2.1 y.2.2)
    (hr : ∀ {p : Program} {l : Launch} {e : Env} {R : Room} {s : State} {m : MethodId} {args : Array Value} {below : List Frame} {meth : Method} {c : Code} {H : Heap} {locs : List Loc} {cells slots : Nat} {Q : State → Prop} {ls : Array Slot} {rest : List Value} {v : Nat} {lv lv' : List (Nat × Value)}, p.tables.exec = Jvm.exec → c.code = M.2.2.1 → lv_has ls nL lv → i < nL → (i, Value.ref v) :: lv.filter (fun q => !(q.1 == i) && !(q.1 + 1 == i && q.2.category == 2)) = lv' → (∀ ls1 : Array Slot, lv_has ls1 nL lv' → W p l e R s m args below meth c H locs cells slots Q (F0 m (pc + n) ls1 rest)) → W p l e R s m args below meth c H locs cells slots Q (F0 m pc ls (.ref v :: rest)))
    (hN : ∀ {p : Program} {l : Launch} {e : Env} {R : Room} {s : State} {m : MethodId} {args : Array Value} {below : List Frame} {meth : Method} {c : Code} {H : Heap} {locs : List Loc} {cells slots : Nat} {Q : State → Prop} {ls : Array Slot} {rest : List Value} {lv lv' : List (Nat × Value)}, p.tables.exec = Jvm.exec → c.code = M.2.2.1 → lv_has ls nL lv → i < nL → (i, Value.null) :: lv.filter (fun q => !(q.1 == i) && !(q.1 + 1 == i && q.2.category == 2)) = lv' → (∀ ls1 : Array Slot, lv_has ls1 nL lv' → W p l e R s m args below meth c H locs cells slots Q (F0 m (pc + n) ls1 rest)) → W p l e R s m args below meth c H locs cells slots Q (F0 m pc ls (.null :: rest))) : zWA M Λ d res pc x.1 x.2.1 x.2.2 := by
  subst hnL
  obtain ⟨ls, st, s0⟩ := x
  unfold zStoreA at h
  dsimp only at h
  split at h
  · next v r =>
    cases hb : Nat.blt i M.2.2.2.1 with
    | false => rw [hb] at h; cases h
    | true =>
      rw [hb] at h
      cases h
      intro hM p l e s m args below meth c D cA ad A C H locs lsC hP hD hS hl
      refine hr (v := ad v) C.1 C.2.1 hl (Nat.blt_eq.mp hb) rfl fun ls1 hl1 => ?_
      exact k hM p l e s m args below meth c D cA ad A C H locs ls1 hP hD hS (by rw [← zrm_map] at hl1; exact hl1)
  · next r =>
    cases hb : Nat.blt i M.2.2.2.1 with
    | false => rw [hb] at h; cases h
    | true =>
      rw [hb] at h
      cases h
      intro hM p l e s m args below meth c D cA ad A C H locs lsC hP hD hS hl
      refine hN C.1 C.2.1 hl (Nat.blt_eq.mp hb) rfl fun ls1 hl1 => ?_
      exact k hM p l e s m args below meth c D cA ad A C H locs ls1 hP hD hS (by rw [← zrm_map] at hl1; exact hl1)
  · cases h
theorem zs_inc {nL i : Nat} {n : Int} {x y : zS} (hnL : M.2.2.2.1 = nL) (hd : decode M.2.2.1 pc = .ok (.iinc i n, 3)) (h : zInc nL i n x = some y) (k : zWA M Λ d res (pc + 3) y.1 y.2.1 y.2.2) : zWA M Λ d res pc x.1 x.2.1 x.2.2 := by
  subst hnL
  unfold zInc at h
  split at h
  · next v hv =>
    cases hb : Nat.blt i M.2.2.2.1 with
    | false => rw [hb] at h; cases h
    | true =>
      rw [hb] at h
      cases h
      intro hM p l e s m args below meth c D cA ad A C H locs lsC hP hD hS hl
      obtain ⟨j, hj⟩ := List.getElem?_of_mem (List.mem_map.mpr ⟨(i, .int v), zlk_mem hv, rfl⟩ : (i, Value.int v) ∈ x.1.map (fun q => (q.1, zV ad q.2)))
      refine lv_iinc (v := v + Int32.ofInt n) C.1 C.2.1 hd hl hj rfl (Nat.blt_eq.mp hb) rfl fun ls1 hl1 => ?_
      exact k hM p l e s m args below meth c D cA ad A C H locs ls1 hP hD hS (by rw [← zrm_map] at hl1; exact hl1)
  · cases h
theorem zs_get {idx : Nat} {x y : zS} (hd : decode M.2.2.1 pc = .ok (.getfield idx, 3)) (h : zGet M.1 Λ idx x = some y) (k : zWA M Λ d res (pc + 3) y.1 y.2.1 y.2.2) : zWA M Λ d res pc x.1 x.2.1 x.2.2 := by
  obtain ⟨ls, st, s0⟩ := x
  unfold zGet at h
  dsimp only at h
  split at h
  · next a r =>
    split at h
    · next q o hq ho =>
      cases hb : Nat.beq q.1 o.1 with
      | false => rw [hb] at h; cases h
      | true =>
        rw [hb] at h
        have e1 : q.1 = o.1 := Nat.eq_of_beq_eq_true hb
        obtain ⟨w, hw1, hw2, hw3, hw4⟩ := zlay_of hq
        have key : ∀ f : Nat ⊕ Nat, o.2[q.2]? = some f → ∀ (yy : List (Nat × Value) × List Value × zSt), yy.1 = ls → yy.2.2 = s0 → (∀ ad, yy.2.1.map (zV ad) = zF ad s0 a q.2 f :: r.map (zV ad)) → zWA M Λ d res (pc + 3) yy.1 yy.2.1 yy.2.2 → zWA M Λ d res pc ls (.ref a :: r) s0 := by
          intro f hf yy y1 y2 y3 k
          subst y1; subst y2
          intro hM p l e s m args below meth c D cA ad A C H locs lsC hP hD hS hl
          have kk := k hM p l e s m args below meth c D cA ad A C H locs lsC hP hD hS hl
          rw [y3] at kk
          refine va_get (D := D) (ci := o.1) (v := zF ad yy.2.2 a q.2 f) (C := w.1) (T := w.2.1) (N := w.2.2) (own := M.2.1.cls) (ref := w.1) C.1 C.2.1 C.2.2.2.2.2.2.1 (zlays_in hw1) C.2.2.2.2.2.1 C.2.2.2.2.2.2.2.1 hP a (zW_get ho) (by rw [← e1]; exact hw1) q.2 hw2 (C.2.2.2.2.2.2.1 _ (by rw [← hM.2.1]; exact hw4)) (fun _ h9 => by rw [← hw3]; exact h9) ?_ hd kk
          rw [List.getElem?_mapIdx, hf]; rfl
        cases hf : o.2[q.2]? with
        | none => simp [hf] at h
        | some f =>
          rw [hf] at h
          cases f with
          | inl z => cases h; exact key _ hf _ rfl rfl (fun ad => rfl) k
          | inr z => cases h; exact key _ hf _ rfl rfl (fun ad => rfl) k
    · cases h
  · cases h
theorem zs_put {idx : Nat} {x y : zS} (hd : decode M.2.2.1 pc = .ok (.putfield idx, 3)) (h : zPut M.1 Λ idx x = some y) (hty : ∀ (q : Nat × Nat) (w : vw_C) (o : Nat × List (Nat ⊕ Nat)) (kd : Nat), zlk (zfl M.1) idx = some q → zCl[q.1]? = some w → Sum.inl o ∈ Λ → q.1 = o.1 → o.2[q.2]? = some (.inl kd) → (w.2.1 q.2).2.2.2 = false ∧ zTt q.1 q.2 = (if kd = 0 then .int else .boolean) ∧ o.2.length = w.2.2) (k : zWA M Λ d res (pc + 3) y.1 y.2.1 y.2.2) : zWA M Λ d res pc x.1 x.2.1 x.2.2 := by
  obtain ⟨ls, st, s0⟩ := x
  unfold zPut at h
  dsimp only at h
  split at h
  · next v a r =>
    split at h
    · next q o hq ho =>
      cases hb : Nat.beq q.1 o.1 with
      | false => rw [hb] at h; cases h
      | true =>
        rw [hb] at h
        have e1 : q.1 = o.1 := Nat.eq_of_beq_eq_true hb
        obtain ⟨w, hw1, hw2, hw3, hw4⟩ := zlay_of hq
        have key : ∀ kd : Nat, o.2[q.2]? = some (.inl kd) → (kd = 0 ∨ v = 0 ∨ v = 1) → zWA M Λ d res (pc + 3) ls r (zw s0 a q.2 v) → zWA M Λ d res pc ls (.int v :: .ref a :: r) s0 := by
          intro kd hf hv k hM p l e s m args below meth c D cA ad A C H locs lsC hP hD hS hl
          obtain ⟨t1, t2, t3⟩ := hty q w o kd hq hw1 (List.mem_of_getElem? ho) e1 hf
          obtain ⟨n1, n2⟩ := zNm_ok q.1 w hw1
          refine va_put (D := D) (ci := o.1) (v := .int v) (ty := zTt q.1 q.2) (C := w.1) (T := w.2.1) (N := w.2.2) (own := M.2.1.cls) (ref := w.1) C.1 C.2.1 C.2.2.2.2.2.2.1 (zlays_in hw1) (zTt q.1) n1 n2 C.2.2.2.2.2.1 C.2.2.2.2.2.2.2.1 hP hD hS a (zW_get ho) (by rw [← e1]; exact hw1) q.2 hw2 (C.2.2.2.2.2.2.1 _ (by rw [← hM.2.1]; exact hw4)) (fun _ h9 => by rw [← hw3]; exact h9) t1 (n1 _ hw2) ?_ ?_ ?_ hd (fun H1 locs1 hP1 hD1 hS1 => ?_)
          · rw [t2]
            split
            · rfl
            · next hk => rcases hv with z | rfl | rfl; exact absurd z hk; rfl; rfl
          · rw [t2]
            split
            · rfl
            · next hk => rcases hv with z | rfl | rfl; exact absurd z hk; rfl; rfl
          · rw [List.length_mapIdx, t3]; exact hw2
          · have e2 := zC_put (ad := ad) (cA := cA) (s := s0) (k := a) hf v
            have e3 := zW_set (ad := ad) (cA := cA) ho (zw_ne s0 a q.2 v)
            rw [e2] at e3
            rw [e3] at hP1 hD1
            exact k hM p l e s m args below meth c D cA ad A C H1 locs1 lsC hP1 hD1 hS1 hl
        cases hf : o.2[q.2]? with
        | none => simp [hf] at h
        | some f =>
          rw [hf] at h
          rcases f with (_ | _ | z) | z
          · cases h; exact key _ hf (Or.inl rfl) k
          · by_cases hc : v = 0 ∨ v = 1
            · simp only [cond_true, if_pos hc] at h
              cases h
              exact key _ hf (Or.inr hc) k
            · simp only [cond_true, if_neg hc] at h
              cases h
          · cases h
          · cases h
    · cases h
  · cases h
end ZR
end
section
/-! a block of straight-line instructions; branches, switches, arrays, answers -/
def zLok (Λ : List zD) : Bool := Λ.all fun d => match d with
  | .inl o => match zCl[o.1]? with
    | some w => decide (o.2.length = w.2.2) && (List.range o.2.length).all fun j => match o.2[j]? with
      | some (.inl kd) => !(w.2.1 j).2.2.2 && decide (zTt o.1 j = if kd = 0 then .int else .boolean)
      | _ => true
    | none => false
  | .inr _ => true
theorem zLok_put {Λ : List zD} (hL : zLok Λ = true) {q : Nat × Nat} {w : vw_C} {o : Nat × List (Nat ⊕ Nat)} {kd : Nat} (hw : zCl[q.1]? = some w) (ho : Sum.inl o ∈ Λ) (e : q.1 = o.1) (hf : o.2[q.2]? = some (.inl kd)) : (w.2.1 q.2).2.2.2 = false ∧ zTt q.1 q.2 = (if kd = 0 then .int else .boolean) ∧ o.2.length = w.2.2 := by
  have h1 := List.all_eq_true.mp hL _ ho
  rw [e] at hw ⊢
  simp only [hw, Bool.and_eq_true, decide_eq_true_eq] at h1
  have h2 := List.all_eq_true.mp h1.2 q.2 (List.mem_range.mpr (List.getElem?_eq_some_iff.mp hf).1)
  simp only [hf, Bool.and_eq_true, Bool.not_eq_true', decide_eq_true_eq] at h2
  exact ⟨h2.1, h2.2, h1.1⟩
section ZB
variable {M : zM} {Λ : List zD} {d : Nat} {res : Option Value × zSt} {pc : Nat}
theorem zs_pur2 {ls : List (Nat × Value)} {st st' : List Value} {s : zSt} {n : Nat} (k : zWA M Λ d res (pc + n) ls st' s)
    (hr : ∀ {p : Program} {l : Launch} {e : Env} {R : Room} {s : State} {m : MethodId} {args : Array Value} {below : List Frame} {meth : Method} {c : Code} {H : Heap} {locs : List Loc} {cells slots : Nat} {Q : State → Prop} {ls : Array Slot} (ad : Nat → Nat), p.tables.exec = Jvm.exec → c.code = M.2.2.1 → W p l e R s m args below meth c H locs cells slots Q (F0 m (pc + n) ls (st'.map (zV ad))) → W p l e R s m args below meth c H locs cells slots Q (F0 m pc ls (st.map (zV ad)))) : zWA M Λ d res pc ls st s := by
  intro hM p l e s m args below meth c D cA ad A C H locs lsC hP hD hS hl
  exact hr ad C.1 C.2.1 (k hM p l e s m args below meth c D cA ad A C H locs lsC hP hD hS hl)
theorem zstep_ok (hL : zLok Λ = true) {i : Instr} {n : Nat} {x y : zS} (hs : zstep M.1 M.2.2.2.1 Λ i x = (n, some y)) (hd : decode M.2.2.1 pc = .ok (i, n)) (k : zWA M Λ d res (pc + n) y.1 y.2.1 y.2.2) : zWA M Λ d res pc x.1 x.2.1 x.2.2 := by
  have hp : ∀ {n0 : Nat} {o : Option zS}, (n0, o) = (n, some y) → n0 = n ∧ o = some y := fun h => by cases h; exact ⟨rfl, rfl⟩
  cases i <;> first
    | (obtain ⟨-, h⟩ := hp hs; cases h; done)
    | skip
  case aconst_null => obtain ⟨rfl, h⟩ := hp hs; cases h; exact zs_push k (fun ad hx hb _ _ z => lv_null hx hb hd z)
  case iconst v => obtain ⟨rfl, h⟩ := hp hs; cases h; exact zs_push k (fun ad hx hb _ _ z => lv_iconst hx hb hd rfl z)
  case bipush v => obtain ⟨rfl, h⟩ := hp hs; cases h; exact zs_push k (fun ad hx hb _ _ z => lv_bipush hx hb hd rfl z)
  case sipush v => obtain ⟨rfl, h⟩ := hp hs; cases h; exact zs_push k (fun ad hx hb _ _ z => lv_sipush hx hb hd rfl z)
  case lconst v => obtain ⟨rfl, h⟩ := hp hs; cases h; exact zs_push k (fun ad hx hb _ _ z => lv_lconst hx hb hd rfl z)
  case ldc idx =>
    obtain ⟨rfl, h⟩ := hp hs
    obtain ⟨v, hv, h⟩ := Option.bind_eq_some_iff.mp h
    cases h
    intro hM
    have h1 := zk_ok M.1
    simp only [zkok, Bool.and_eq_true] at h1
    have h2 := of_decide_eq_true (List.all_eq_true.mp h1.1 _ (zlk_mem hv))
    rw [hM.2.1] at h2
    exact zs_push k (fun ad hx hb hw ht z => W.ldc hx hb hw (ht _ (zTb_of h2 rfl)) rfl hd z) hM
  case ldc2_w idx =>
    obtain ⟨rfl, h⟩ := hp hs
    obtain ⟨v, hv, h⟩ := Option.bind_eq_some_iff.mp h
    cases h
    intro hM
    have h1 := zk_ok M.1
    simp only [zkok, Bool.and_eq_true] at h1
    have h2 := of_decide_eq_true (List.all_eq_true.mp h1.2 _ (zlk_mem hv))
    rw [hM.2.1] at h2
    exact zs_push k (fun ad hx hb hw ht z => W.ldc2 hx hb hw (ht _ (zTb_of h2 rfl)) rfl hd z) hM
  case iload_n v => obtain ⟨rfl, h⟩ := hp hs; exact zs_load h k (fun hx hb hl z => lv_iload_n hx hb hd rfl hl z)
  case iload v => obtain ⟨rfl, h⟩ := hp hs; exact zs_load h k (fun hx hb hl z => lv_iload hx hb hd hl z)
  case lload_n v => obtain ⟨rfl, h⟩ := hp hs; exact zs_loadL h k (fun hx hb hl z => lv_lload_n hx hb hd rfl hl z)
  case lload v => obtain ⟨rfl, h⟩ := hp hs; exact zs_loadL h k (fun hx hb hl z => lv_lload hx hb hd hl z)
  case aload_n v => obtain ⟨rfl, h⟩ := hp hs; exact zs_loadA h k (fun hx hb hl z => lv_aload_n hx hb hd rfl hl z) (fun hx hb hl z => lv_aload_nN hx hb hd rfl hl z)
  case aload v => obtain ⟨rfl, h⟩ := hp hs; exact zs_loadA h k (fun hx hb hl z => lv_aload hx hb hd hl z) (fun hx hb hl z => lv_aloadN hx hb hd hl z)
  case istore_n v => obtain ⟨rfl, h⟩ := hp hs; exact zs_store rfl h k (fun hx hb hl hn e z => lv_istore_n hx hb hd rfl hl hn e z)
  case istore v => obtain ⟨rfl, h⟩ := hp hs; exact zs_store rfl h k (fun hx hb hl hn e z => lv_istore hx hb hd hl hn e z)
  case lstore_n v => obtain ⟨rfl, h⟩ := hp hs; exact zs_storeL rfl h k (fun hx hb hl hn e z => lv_lstore_n hx hb hd rfl hl hn e z)
  case lstore v => obtain ⟨rfl, h⟩ := hp hs; exact zs_storeL rfl h k (fun hx hb hl hn e z => lv_lstore hx hb hd hl hn e z)
  case astore_n v => obtain ⟨rfl, h⟩ := hp hs; exact zs_storeA rfl h k (fun hx hb hl hn e z => lv_astore_n hx hb hd rfl hl hn e z) (fun hx hb hl hn e z => lv_astore_nN hx hb hd rfl hl hn e z)
  case astore v => obtain ⟨rfl, h⟩ := hp hs; exact zs_storeA rfl h k (fun hx hb hl hn e z => lv_astore hx hb hd hl hn e z) (fun hx hb hl hn e z => lv_astoreN hx hb hd hl hn e z)
  case iinc a b => obtain ⟨rfl, h⟩ := hp hs; exact zs_inc rfl hd h k
  case getfield a => obtain ⟨rfl, h⟩ := hp hs; exact zs_get hd h k
  case putfield a => obtain ⟨rfl, h⟩ := hp hs; exact zs_put hd h (fun q w o kd _ hw ho e hf => zLok_put hL hw ho e hf) k
  case getstatic idx =>
    obtain ⟨rfl, h⟩ := hp hs
    obtain ⟨q, hq, h⟩ := Option.bind_eq_some_iff.mp h
    cases h
    have h1 := List.all_eq_true.mp (zs_ok M.1) _ (zlk_mem hq)
    cases hr : zTab[q.1]? with
    | none => simp [hr] at h1
    | some r =>
      simp only [hr] at h1
      intro hM p l e s m args below meth c D cA ad A C H locs lsC hP hD hS hl
      have kk := k hM p l e s m args below meth c D cA ad A C H locs lsC hP hD hS hl
      have hZ := (C.2.2.2.2.2.2.2.2.1.1 q.1 r hr).1
      by_cases hn : q.2 = true
      · rw [if_pos hn] at h1
        have h2 := of_decide_eq_true h1
        rw [hM.2.1] at h2
        exact va_getsN C.1 C.2.1 hZ hS C.2.2.2.2.2.1 (va_Nw.use rfl (C.2.2.2.2.2.2.2.2.1.2 _ (List.mem_filter.mpr ⟨h2, rfl⟩))) (fun _ h => h) hd kk
      · rw [if_neg hn] at h1
        have h2 := of_decide_eq_true h1
        rw [hM.2.1] at h2
        exact va_gets C.1 C.2.1 hZ hS C.2.2.2.2.2.1 (C.2.2.2.2.2.2.1 _ (zTb_of h2 rfl)) (fun _ h => h) hd kk
  case arraylength =>
    obtain ⟨rfl, h⟩ := hp hs
    obtain ⟨ls, st, s0⟩ := x
    unfold zLen at h
    dsimp only at h
    split at h
    · next a r =>
      split at h
      · next q hq =>
        cases h
        intro hM p l e s m args below meth c D cA ad A C H locs lsC hP hD hS hl
        have kk := k hM p l e s m args below meth c D cA ad A C H locs lsC hP hD hS hl
        obtain ⟨kd, n, b⟩ := q
        have g := zW_get (ad := ad) (cA := cA) (s := s0) hq
        rcases kd with _ | _ | kd
        · exact va_alen (tys := zTy cA) C.1 C.2.1 C.2.2.2.2.2.2.2.1 hP a 0 g rfl rfl hd kk
        · exact va_alen (tys := zTy cA) C.1 C.2.1 C.2.2.2.2.2.2.2.1 hP a 1 g rfl rfl hd kk
        · exact va_alen (tys := zTy cA) C.1 C.2.1 C.2.2.2.2.2.2.2.1 hP a 2 g rfl rfl hd kk
      · cases h
    · cases h
  case iadd => obtain ⟨rfl, h⟩ := hp hs; simp only [zBin] at h; split at h <;> first | (cases h; done) | skip; next hst => cases h; exact zs_pur2 k (fun ad hx hb z => by rw [hst]; exact lv_iadd hx hb hd z)
  case isub => obtain ⟨rfl, h⟩ := hp hs; simp only [zBin] at h; split at h <;> first | (cases h; done) | skip; next hst => cases h; exact zs_pur2 k (fun ad hx hb z => by rw [hst]; exact lv_isub hx hb hd z)
  case imul => obtain ⟨rfl, h⟩ := hp hs; simp only [zBin] at h; split at h <;> first | (cases h; done) | skip; next hst => cases h; exact zs_pur2 k (fun ad hx hb z => by rw [hst]; exact lv_imul hx hb hd z)
  case iand => obtain ⟨rfl, h⟩ := hp hs; simp only [zBin] at h; split at h <;> first | (cases h; done) | skip; next hst => cases h; exact zs_pur2 k (fun ad hx hb z => by rw [hst]; exact lv_iand hx hb hd z)
  case ior => obtain ⟨rfl, h⟩ := hp hs; simp only [zBin] at h; split at h <;> first | (cases h; done) | skip; next hst => cases h; exact zs_pur2 k (fun ad hx hb z => by rw [hst]; exact lv_ior hx hb hd z)
  case ixor => obtain ⟨rfl, h⟩ := hp hs; simp only [zBin] at h; split at h <;> first | (cases h; done) | skip; next hst => cases h; exact zs_pur2 k (fun ad hx hb z => by rw [hst]; exact lv_ixor hx hb hd z)
  case ishl => obtain ⟨rfl, h⟩ := hp hs; simp only [zBin] at h; split at h <;> first | (cases h; done) | skip; next hst => cases h; exact zs_pur2 k (fun ad hx hb z => by rw [hst]; exact lv_ishl hx hb hd z)
  case ishr => obtain ⟨rfl, h⟩ := hp hs; simp only [zBin] at h; split at h <;> first | (cases h; done) | skip; next hst => cases h; exact zs_pur2 k (fun ad hx hb z => by rw [hst]; exact lv_ishr hx hb hd z)
  case iushr => obtain ⟨rfl, h⟩ := hp hs; simp only [zBin] at h; split at h <;> first | (cases h; done) | skip; next hst => cases h; exact zs_pur2 k (fun ad hx hb z => by rw [hst]; exact lv_iushr hx hb hd rfl z)
  case idiv => obtain ⟨rfl, h⟩ := hp hs; simp only [zDvi] at h; split at h <;> first | (cases h; done) | skip; next hst => split at h <;> first | (cases h; done) | skip; next hne => cases h; exact zs_pur2 k (fun ad hx hb z => by rw [hst]; exact lv_idiv hx hb hd hne z)
  case irem => obtain ⟨rfl, h⟩ := hp hs; simp only [zDvi] at h; split at h <;> first | (cases h; done) | skip; next hst => split at h <;> first | (cases h; done) | skip; next hne => cases h; exact zs_pur2 k (fun ad hx hb z => by rw [hst]; exact lv_irem hx hb hd hne z)
  case ineg => obtain ⟨rfl, h⟩ := hp hs; simp only [zUn] at h; split at h <;> first | (cases h; done) | skip; next hst => cases h; exact zs_pur2 k (fun ad hx hb z => by rw [hst]; exact lv_ineg hx hb hd z)
  case i2b => obtain ⟨rfl, h⟩ := hp hs; simp only [zUn] at h; split at h <;> first | (cases h; done) | skip; next hst => cases h; exact zs_pur2 k (fun ad hx hb z => by rw [hst]; exact lv_i2b hx hb hd rfl z)
  case i2s => obtain ⟨rfl, h⟩ := hp hs; simp only [zUn] at h; split at h <;> first | (cases h; done) | skip; next hst => cases h; exact zs_pur2 k (fun ad hx hb z => by rw [hst]; exact lv_i2s hx hb hd rfl z)
  case ladd => obtain ⟨rfl, h⟩ := hp hs; simp only [zBinL] at h; split at h <;> first | (cases h; done) | skip; next hst => cases h; exact zs_pur2 k (fun ad hx hb z => by rw [hst]; exact lv_ladd hx hb hd z)
  case lsub => obtain ⟨rfl, h⟩ := hp hs; simp only [zBinL] at h; split at h <;> first | (cases h; done) | skip; next hst => cases h; exact zs_pur2 k (fun ad hx hb z => by rw [hst]; exact lv_lsub hx hb hd z)
  case lmul => obtain ⟨rfl, h⟩ := hp hs; simp only [zBinL] at h; split at h <;> first | (cases h; done) | skip; next hst => cases h; exact zs_pur2 k (fun ad hx hb z => by rw [hst]; exact lv_lmul hx hb hd z)
  case land => obtain ⟨rfl, h⟩ := hp hs; simp only [zBinL] at h; split at h <;> first | (cases h; done) | skip; next hst => cases h; exact zs_pur2 k (fun ad hx hb z => by rw [hst]; exact lv_land hx hb hd z)
  case lor => obtain ⟨rfl, h⟩ := hp hs; simp only [zBinL] at h; split at h <;> first | (cases h; done) | skip; next hst => cases h; exact zs_pur2 k (fun ad hx hb z => by rw [hst]; exact lv_lor hx hb hd z)
  case lneg => obtain ⟨rfl, h⟩ := hp hs; split at h <;> first | (cases h; done) | skip; next hst => cases h; exact zs_pur2 k (fun ad hx hb z => by rw [hst]; exact lv_lneg hx hb hd z)
  case lshl => obtain ⟨rfl, h⟩ := hp hs; split at h <;> first | (cases h; done) | skip; next hst => cases h; exact zs_pur2 k (fun ad hx hb z => by rw [hst]; exact lv_lshl hx hb hd rfl z)
  case lcmp => obtain ⟨rfl, h⟩ := hp hs; split at h <;> first | (cases h; done) | skip; next hst => cases h; exact zs_pur2 k (fun ad hx hb z => by rw [hst]; exact W.lcmp hx hb hd z)
  case i2l => obtain ⟨rfl, h⟩ := hp hs; split at h <;> first | (cases h; done) | skip; next hst => cases h; exact zs_pur2 k (fun ad hx hb z => by rw [hst]; exact lv_i2l hx hb hd rfl z)
  case l2i => obtain ⟨rfl, h⟩ := hp hs; split at h <;> first | (cases h; done) | skip; next hst => cases h; exact zs_pur2 k (fun ad hx hb z => by rw [hst]; exact lv_l2i hx hb hd rfl z)
  case pop => obtain ⟨rfl, h⟩ := hp hs; split at h <;> first | (cases h; done) | skip; next hst => cases h; exact zs_pur2 k (fun ad hx hb z => by rw [hst]; exact lv_pop hx hb hd rfl z)
  case dup => obtain ⟨rfl, h⟩ := hp hs; simp only [zDup] at h; split at h <;> first | (cases h; done) | skip; all_goals (next hst => cases h; exact zs_pur2 k (fun ad hx hb z => by rw [hst]; exact lv_dup hx hb hd rfl z))
  case dup_x1 => obtain ⟨rfl, h⟩ := hp hs; simp only [zDupX] at h; split at h <;> first | (cases h; done) | skip; all_goals (next hst => cases h; exact zs_pur2 k (fun ad hx hb z => by rw [hst]; exact lv_dup_x1 hx hb hd rfl rfl z))
  case dup2 => obtain ⟨rfl, h⟩ := hp hs; simp only [zDup2] at h; split at h <;> first | (cases h; done) | skip; all_goals (next hst => cases h; exact zs_pur2 k (fun ad hx hb z => by rw [hst]; exact lv_dup2_11 hx hb hd rfl rfl z))
end ZB
end
section
/-! blocks, branches, arrays, answers, calls: the rows of the layer -/
def zrun (own nL : Nat) (Λ : List zD) : Nat → List (Nat × Instr × Nat) → Nat → zS → Option (Nat × zS)
  | 0, _, pc, x => some (pc, x)
  | _ + 1, [], _, _ => none
  | n + 1, e :: is, pc, x => cond (Nat.beq e.1 pc) (match zstep own nL Λ e.2.1 x with
    | (m, some y) => cond (Nat.beq m e.2.2) (zrun own nL Λ n is (pc + e.2.2) y) none
    | _ => none) none
def zsuf (pc : Nat) : List (Nat × Instr × Nat) → List (Nat × Instr × Nat)
  | [] => []
  | e :: l => cond (Nat.beq e.1 pc) (e :: l) (zsuf pc l)
theorem zsuf_in {pc : Nat} : ∀ {l : List (Nat × Instr × Nat)}, ∀ e ∈ zsuf pc l, e ∈ l
  | [], e, h => h
  | a :: l, e, h => by
    unfold zsuf at h
    cases hb : Nat.beq a.1 pc with
    | true => rw [hb] at h; exact h
    | false => rw [hb] at h; exact List.mem_cons_of_mem _ (zsuf_in (l := l) e h)
def zin (i : Int32) (n : Nat) : Prop := 0 ≤ i.toInt ∧ i.toInt < (n : Int)
def zdin (i : Int32) (n : Nat) : Decidable (zin i n) := inferInstanceAs (Decidable (0 ≤ i.toInt ∧ i.toInt < (n : Int)))
theorem zin_vp {i : Int32} {n : Nat} (h : zin i n) : vp_in i n := vp_in_iff.mpr h
def zld (s : zSt) (k n : Nat) (i : Int32) : Option Int32 := if 0 ≤ i.toInt ∧ i.toInt < (n : Int) then some (s.1 k i.toNatClampNeg) else none
def zldl (s : zSt) (k n : Nat) (i : Int32) : Option Int64 := if 0 ≤ i.toInt ∧ i.toInt < (n : Int) then some (s.2 k i.toNatClampNeg) else none
def zlt (tab : List Int32) (i : Int32) : Option Int32 := if 0 ≤ i.toInt ∧ i.toInt < (tab.length : Int) then some (tab.getD i.toNatClampNeg 0) else none
def zla (n : Nat) (i : Int32) : Option Nat := if 0 ≤ i.toInt ∧ i.toInt < (n : Int) then some i.toNatClampNeg else none
def zst (s : zSt) (k n : Nat) (i v : Int32) : Option zSt := if 0 ≤ i.toInt ∧ i.toInt < (n : Int) then some (zw s k i.toNatClampNeg v) else none
def zstl (s : zSt) (k n : Nat) (i : Int32) (v : Int64) : Option zSt := if 0 ≤ i.toInt ∧ i.toInt < (n : Int) then some (zwl s k i.toNatClampNeg v) else none
def zdv (x y : Int32) : Option Int32 := if y = 0 then none else some (x / y)
def zrv (x y : Int32) : Option Int32 := if y = 0 then none else some (zrem x y)
def zdvl (x y : Int64) : Option Int64 := if y = 0 then none else some (x / y)
def zrvl (x y : Int64) : Option Int64 := if y = 0 then none else some (zremL x y)
def zbo (v : Int32) : Option Int32 := if v = 0 ∨ v = 1 then some v else none
def zmax (x y : Int32) : Int32 := if x < y then y else x
def zmin (x y : Int32) : Int32 := if y < x then y else x
def zmaxL (x y : Int64) : Int64 := if y < x then x else y
def zabsL (x : Int64) : Int64 := if 0 < x then x else -x
def zcps (s : zSt) (k0 k1 sp dp n : Nat) : zSt := (fun a => if a = k1 then va_cpy (s.1 k0) (s.1 k1) sp dp n else s.1 a, s.2)
def zcpsl (s : zSt) (k0 k1 sp dp n : Nat) : zSt := (s.1, fun a => if a = k1 then va_cpy (s.2 k0) (s.2 k1) sp dp n else s.2 a)
def zcpok (n0 n1 : Nat) (sp dp n : Int32) : Prop := ¬ sp < 0 ∧ ¬ dp < 0 ∧ ¬ n < 0 ∧ sp.toNatClampNeg + n.toNatClampNeg ≤ n0 ∧ dp.toNatClampNeg + n.toNatClampNeg ≤ n1
def zcp (s : zSt) (k0 n0 k1 n1 : Nat) (sp dp n : Int32) : Option zSt := if ¬ sp < 0 ∧ ¬ dp < 0 ∧ ¬ n < 0 ∧ sp.toNatClampNeg + n.toNatClampNeg ≤ n0 ∧ dp.toNatClampNeg + n.toNatClampNeg ≤ n1 then some (zcps s k0 k1 sp.toNatClampNeg dp.toNatClampNeg n.toNatClampNeg) else none
def zcpl (s : zSt) (k0 n0 k1 n1 : Nat) (sp dp n : Int32) : Option zSt := if ¬ sp < 0 ∧ ¬ dp < 0 ∧ ¬ n < 0 ∧ sp.toNatClampNeg + n.toNatClampNeg ≤ n0 ∧ dp.toNatClampNeg + n.toNatClampNeg ≤ n1 then some (zcpsl s k0 k1 sp.toNatClampNeg dp.toNatClampNeg n.toNatClampNeg) else none
theorem zIte {α : Type} {c : Prop} {dc : Decidable c} {A B : Option α} {r : α} {P : Prop} (hf : @ite (Option α) c dc A B = some r) (kt : c → A = some r → P) (kf : ¬ c → B = some r → P) : P := by
  by_cases h : c
  · rw [if_pos h] at hf; exact kt h hf
  · rw [if_neg h] at hf; exact kf h hf
theorem zBd {α β : Type} {X : Option α} {g : α → Option β} {r : β} {P : Prop} (hf : X.bind g = some r) (k : ∀ v, X = some v → g v = some r → P) : P := by
  obtain ⟨v, h1, h2⟩ := Option.bind_eq_some_iff.mp hf
  exact k v h1 h2
section ZB
variable {M : zM} {Λ : List zD} {d : Nat} {res : Option Value × zSt} {pc : Nat} {ls : List (Nat × Value)} {st rest : List Value} {s : zSt}
theorem zrun_ok (hL : zLok Λ = true) (hM : zMok M) : ∀ (n : Nat) (is : List (Nat × Instr × Nat)) (pc : Nat) (x : zS) (pc' : Nat) (y : zS), (∀ e ∈ is, e ∈ M.2.2.2.2.2) → zrun M.1 M.2.2.2.1 Λ n is pc x = some (pc', y) → zWA M Λ d res pc' y.1 y.2.1 y.2.2 → zWA M Λ d res pc x.1 x.2.1 x.2.2
  | 0, _, pc, x, pc', y, _, h, k => by
    cases h; exact k
  | n + 1, [], pc, x, pc', y, _, h, k => by cases h
  | n + 1, e :: is, pc, x, pc', y, hin, h, k => by
    unfold zrun at h
    cases hb : Nat.beq e.1 pc with
    | false => rw [hb] at h; cases h
    | true =>
      rw [hb] at h
      have e1 : e.1 = pc := Nat.eq_of_beq_eq_true hb
      subst e1
      simp only [cond_true] at h
      split at h
      · next m y1 hs =>
        cases hb2 : Nat.beq m e.2.2 with
        | false => rw [hb2] at h; cases h
        | true =>
          rw [hb2] at h
          have e2 : m = e.2.2 := Nat.eq_of_beq_eq_true hb2
          subst e2
          exact zstep_ok hL hs (hM.1 e (hin e List.mem_cons_self)) (zrun_ok hL hM n is _ y1 pc' y (fun a ha => hin a (List.mem_cons_of_mem _ ha)) h k)
      · cases h
/-- n straight-line instructions -/
theorem zB (hL : zLok Λ = true) (n : Nat) {pc' : Nat} {ls' : List (Nat × Value)} {st' : List Value} {s' : zSt} (h : zrun M.1 M.2.2.2.1 Λ n (zsuf pc M.2.2.2.2.2) pc (ls, st, s) = some (pc', ls', st', s')) (k : zWA M Λ d res pc' ls' st' s') : zWA M Λ d res pc ls st s :=
  fun hM => zrun_ok hL hM n _ pc (ls, st, s) pc' (ls', st', s') (fun e he => zsuf_in e he) h k hM
theorem zdec (hM : zMok M) {i : Instr} {n : Nat} (h : zlk M.2.2.2.2.2 pc = some (i, n)) : decode M.2.2.1 pc = .ok (i, n) := hM.1 (pc, i, n) (zlk_mem h)
/-- locals forgotten or put in another order: by their places -/
theorem zLoc {ls' : List (Nat × Value)} (ks : List Nat) (h : lv_pick ls ks = ls') (k : zWA M Λ d res pc ls' st s) : zWA M Λ d res pc ls st s := by
  intro hM p l e s0 m args below meth c D cA ad A C H locs lsC hP hD hS hl
  refine k hM p l e s0 m args below meth c D cA ad A C H locs lsC hP hD hS ⟨hl.1, hl.2.1, fun q hq => ?_⟩
  obtain ⟨q0, h0, rfl⟩ := List.mem_map.mp hq
  rw [← h] at h0
  obtain ⟨j, -, hj⟩ := List.mem_filterMap.mp h0
  exact hl.2.2 _ (List.mem_map.mpr ⟨q0, List.mem_of_getElem? hj, rfl⟩)
theorem zGoto {off : Int} {tgt : Nat} (h : zlk M.2.2.2.2.2 pc = some (.goto off, 3)) (ht : (pc : Int) + off = (tgt : Int)) (k : zWA M Λ d res tgt ls st s) : zWA M Λ d res pc ls st s := by
  intro hM p l e s0 m args below meth c D cA ad A C H locs lsC hP hD hS hl
  exact lv_goto C.1 C.2.1 (zdec hM h) ht (k hM p l e s0 m args below meth c D cA ad A C H locs lsC hP hD hS hl)
theorem zIeq {α : Type} {A B : Option α} {r : α} {x : Int32} {off : Int} {tgt : Nat} {dc : Decidable (x = 0)} (hf : @ite (Option α) (x = 0) dc A B = some r) (h : zlk M.2.2.2.2.2 pc = some (.ifCond .eq off, 3)) (ht : (pc : Int) + off = (tgt : Int)) (kt : x = 0 → A = some r → zWA M Λ d res tgt ls rest s) (kf : ¬ x = 0 → B = some r → zWA M Λ d res (pc + 3) ls rest s) : zWA M Λ d res pc ls (.int x :: rest) s := by
  intro hM p l e s0 m args below meth c D cA ad A0 C H locs lsC hP hD hS hl
  have h1 : ∀ z : x = 0, A = some r := fun z => by rw [if_pos z] at hf; exact hf
  have h2 : ∀ z : ¬ x = 0, B = some r := fun z => by rw [if_neg z] at hf; exact hf
  exact lv_if_eq C.1 C.2.1 (zdec hM h) ht (fun z => kt z (h1 z) hM p l e s0 m args below meth c D cA ad A0 C H locs lsC hP hD hS hl) (fun z => kf z (h2 z) hM p l e s0 m args below meth c D cA ad A0 C H locs lsC hP hD hS hl)
theorem zIeqT {x : Int32} {off : Int} {tgt : Nat} (hx : x = 0) (h : zlk M.2.2.2.2.2 pc = some (.ifCond .eq off, 3)) (ht : (pc : Int) + off = (tgt : Int)) (k : zWA M Λ d res tgt ls rest s) : zWA M Λ d res pc ls (.int x :: rest) s :=
  zIeq (A := some ()) (B := none) (r := ()) (dc := Classical.propDecidable _) (if_pos hx) h ht (fun _ _ => k) (fun _ q => by cases q)
theorem zIeqF {x : Int32} {off : Int} {tgt : Nat} (hx : ¬ x = 0) (h : zlk M.2.2.2.2.2 pc = some (.ifCond .eq off, 3)) (ht : (pc : Int) + off = (tgt : Int)) (k : zWA M Λ d res (pc + 3) ls rest s) : zWA M Λ d res pc ls (.int x :: rest) s :=
  zIeq (A := none) (B := some ()) (r := ()) (dc := Classical.propDecidable _) (if_neg hx) h ht (fun _ q => by cases q) (fun _ _ => k)
theorem zCeq {α : Type} {A B : Option α} {r : α} {x y : Int32} {off : Int} {tgt : Nat} {dc : Decidable (x = y)} (hf : @ite (Option α) (x = y) dc A B = some r) (h : zlk M.2.2.2.2.2 pc = some (.if_icmp .eq off, 3)) (ht : (pc : Int) + off = (tgt : Int)) (kt : x = y → A = some r → zWA M Λ d res tgt ls rest s) (kf : ¬ x = y → B = some r → zWA M Λ d res (pc + 3) ls rest s) : zWA M Λ d res pc ls (.int y :: .int x :: rest) s := by
  intro hM p l e s0 m args below meth c D cA ad A0 C H locs lsC hP hD hS hl
  have h1 : ∀ z : x = y, A = some r := fun z => by rw [if_pos z] at hf; exact hf
  have h2 : ∀ z : ¬ x = y, B = some r := fun z => by rw [if_neg z] at hf; exact hf
  exact lv_icmp_eq C.1 C.2.1 (zdec hM h) ht (fun z => kt z (h1 z) hM p l e s0 m args below meth c D cA ad A0 C H locs lsC hP hD hS hl) (fun z => kf z (h2 z) hM p l e s0 m args below meth c D cA ad A0 C H locs lsC hP hD hS hl)
theorem zCeqT {x y : Int32} {off : Int} {tgt : Nat} (hx : x = y) (h : zlk M.2.2.2.2.2 pc = some (.if_icmp .eq off, 3)) (ht : (pc : Int) + off = (tgt : Int)) (k : zWA M Λ d res tgt ls rest s) : zWA M Λ d res pc ls (.int y :: .int x :: rest) s :=
  zCeq (A := some ()) (B := none) (r := ()) (dc := Classical.propDecidable _) (if_pos hx) h ht (fun _ _ => k) (fun _ q => by cases q)
theorem zCeqF {x y : Int32} {off : Int} {tgt : Nat} (hx : ¬ x = y) (h : zlk M.2.2.2.2.2 pc = some (.if_icmp .eq off, 3)) (ht : (pc : Int) + off = (tgt : Int)) (k : zWA M Λ d res (pc + 3) ls rest s) : zWA M Λ d res pc ls (.int y :: .int x :: rest) s :=
  zCeq (A := none) (B := some ()) (r := ()) (dc := Classical.propDecidable _) (if_neg hx) h ht (fun _ q => by cases q) (fun _ _ => k)
theorem zIne {α : Type} {A B : Option α} {r : α} {x : Int32} {off : Int} {tgt : Nat} {dc : Decidable (x = 0)} (hf : @ite (Option α) (x = 0) dc A B = some r) (h : zlk M.2.2.2.2.2 pc = some (.ifCond .ne off, 3)) (ht : (pc : Int) + off = (tgt : Int)) (kt : x = 0 → A = some r → zWA M Λ d res (pc + 3) ls rest s) (kf : ¬ x = 0 → B = some r → zWA M Λ d res tgt ls rest s) : zWA M Λ d res pc ls (.int x :: rest) s := by
  intro hM p l e s0 m args below meth c D cA ad A0 C H locs lsC hP hD hS hl
  have h1 : ∀ z : x = 0, A = some r := fun z => by rw [if_pos z] at hf; exact hf
  have h2 : ∀ z : ¬ x = 0, B = some r := fun z => by rw [if_neg z] at hf; exact hf
  exact lv_if_ne C.1 C.2.1 (zdec hM h) ht (fun z => kf z (h2 z) hM p l e s0 m args below meth c D cA ad A0 C H locs lsC hP hD hS hl) (fun z => kt z (h1 z) hM p l e s0 m args below meth c D cA ad A0 C H locs lsC hP hD hS hl)
theorem zIneT {x : Int32} {off : Int} {tgt : Nat} (hx : x = 0) (h : zlk M.2.2.2.2.2 pc = some (.ifCond .ne off, 3)) (ht : (pc : Int) + off = (tgt : Int)) (k : zWA M Λ d res (pc + 3) ls rest s) : zWA M Λ d res pc ls (.int x :: rest) s :=
  zIne (A := some ()) (B := none) (r := ()) (dc := Classical.propDecidable _) (if_pos hx) h ht (fun _ _ => k) (fun _ q => by cases q)
theorem zIneF {x : Int32} {off : Int} {tgt : Nat} (hx : ¬ x = 0) (h : zlk M.2.2.2.2.2 pc = some (.ifCond .ne off, 3)) (ht : (pc : Int) + off = (tgt : Int)) (k : zWA M Λ d res tgt ls rest s) : zWA M Λ d res pc ls (.int x :: rest) s :=
  zIne (A := none) (B := some ()) (r := ()) (dc := Classical.propDecidable _) (if_neg hx) h ht (fun _ q => by cases q) (fun _ _ => k)
theorem zCne {α : Type} {A B : Option α} {r : α} {x y : Int32} {off : Int} {tgt : Nat} {dc : Decidable (x = y)} (hf : @ite (Option α) (x = y) dc A B = some r) (h : zlk M.2.2.2.2.2 pc = some (.if_icmp .ne off, 3)) (ht : (pc : Int) + off = (tgt : Int)) (kt : x = y → A = some r → zWA M Λ d res (pc + 3) ls rest s) (kf : ¬ x = y → B = some r → zWA M Λ d res tgt ls rest s) : zWA M Λ d res pc ls (.int y :: .int x :: rest) s := by
  intro hM p l e s0 m args below meth c D cA ad A0 C H locs lsC hP hD hS hl
  have h1 : ∀ z : x = y, A = some r := fun z => by rw [if_pos z] at hf; exact hf
  have h2 : ∀ z : ¬ x = y, B = some r := fun z => by rw [if_neg z] at hf; exact hf
  exact lv_icmp_ne C.1 C.2.1 (zdec hM h) ht (fun z => kf z (h2 z) hM p l e s0 m args below meth c D cA ad A0 C H locs lsC hP hD hS hl) (fun z => kt z (h1 z) hM p l e s0 m args below meth c D cA ad A0 C H locs lsC hP hD hS hl)
theorem zCneT {x y : Int32} {off : Int} {tgt : Nat} (hx : x = y) (h : zlk M.2.2.2.2.2 pc = some (.if_icmp .ne off, 3)) (ht : (pc : Int) + off = (tgt : Int)) (k : zWA M Λ d res (pc + 3) ls rest s) : zWA M Λ d res pc ls (.int y :: .int x :: rest) s :=
  zCne (A := some ()) (B := none) (r := ()) (dc := Classical.propDecidable _) (if_pos hx) h ht (fun _ _ => k) (fun _ q => by cases q)
theorem zCneF {x y : Int32} {off : Int} {tgt : Nat} (hx : ¬ x = y) (h : zlk M.2.2.2.2.2 pc = some (.if_icmp .ne off, 3)) (ht : (pc : Int) + off = (tgt : Int)) (k : zWA M Λ d res tgt ls rest s) : zWA M Λ d res pc ls (.int y :: .int x :: rest) s :=
  zCne (A := none) (B := some ()) (r := ()) (dc := Classical.propDecidable _) (if_neg hx) h ht (fun _ q => by cases q) (fun _ _ => k)
theorem zIlt {α : Type} {A B : Option α} {r : α} {x : Int32} {off : Int} {tgt : Nat} {dc : Decidable (x < 0)} (hf : @ite (Option α) (x < 0) dc A B = some r) (h : zlk M.2.2.2.2.2 pc = some (.ifCond .lt off, 3)) (ht : (pc : Int) + off = (tgt : Int)) (kt : x < 0 → A = some r → zWA M Λ d res tgt ls rest s) (kf : ¬ x < 0 → B = some r → zWA M Λ d res (pc + 3) ls rest s) : zWA M Λ d res pc ls (.int x :: rest) s := by
  intro hM p l e s0 m args below meth c D cA ad A0 C H locs lsC hP hD hS hl
  have h1 : ∀ z : x < 0, A = some r := fun z => by rw [if_pos z] at hf; exact hf
  have h2 : ∀ z : ¬ x < 0, B = some r := fun z => by rw [if_neg z] at hf; exact hf
  exact lv_if_lt C.1 C.2.1 (zdec hM h) ht (fun z => kt z (h1 z) hM p l e s0 m args below meth c D cA ad A0 C H locs lsC hP hD hS hl) (fun z => kf z (h2 z) hM p l e s0 m args below meth c D cA ad A0 C H locs lsC hP hD hS hl)
theorem zIltT {x : Int32} {off : Int} {tgt : Nat} (hx : x < 0) (h : zlk M.2.2.2.2.2 pc = some (.ifCond .lt off, 3)) (ht : (pc : Int) + off = (tgt : Int)) (k : zWA M Λ d res tgt ls rest s) : zWA M Λ d res pc ls (.int x :: rest) s :=
  zIlt (A := some ()) (B := none) (r := ()) (dc := Classical.propDecidable _) (if_pos hx) h ht (fun _ _ => k) (fun _ q => by cases q)
theorem zIltF {x : Int32} {off : Int} {tgt : Nat} (hx : ¬ x < 0) (h : zlk M.2.2.2.2.2 pc = some (.ifCond .lt off, 3)) (ht : (pc : Int) + off = (tgt : Int)) (k : zWA M Λ d res (pc + 3) ls rest s) : zWA M Λ d res pc ls (.int x :: rest) s :=
  zIlt (A := none) (B := some ()) (r := ()) (dc := Classical.propDecidable _) (if_neg hx) h ht (fun _ q => by cases q) (fun _ _ => k)
theorem zClt {α : Type} {A B : Option α} {r : α} {x y : Int32} {off : Int} {tgt : Nat} {dc : Decidable (x < y)} (hf : @ite (Option α) (x < y) dc A B = some r) (h : zlk M.2.2.2.2.2 pc = some (.if_icmp .lt off, 3)) (ht : (pc : Int) + off = (tgt : Int)) (kt : x < y → A = some r → zWA M Λ d res tgt ls rest s) (kf : ¬ x < y → B = some r → zWA M Λ d res (pc + 3) ls rest s) : zWA M Λ d res pc ls (.int y :: .int x :: rest) s := by
  intro hM p l e s0 m args below meth c D cA ad A0 C H locs lsC hP hD hS hl
  have h1 : ∀ z : x < y, A = some r := fun z => by rw [if_pos z] at hf; exact hf
  have h2 : ∀ z : ¬ x < y, B = some r := fun z => by rw [if_neg z] at hf; exact hf
  exact lv_icmp_lt C.1 C.2.1 (zdec hM h) ht (fun z => kt z (h1 z) hM p l e s0 m args below meth c D cA ad A0 C H locs lsC hP hD hS hl) (fun z => kf z (h2 z) hM p l e s0 m args below meth c D cA ad A0 C H locs lsC hP hD hS hl)
theorem zCltT {x y : Int32} {off : Int} {tgt : Nat} (hx : x < y) (h : zlk M.2.2.2.2.2 pc = some (.if_icmp .lt off, 3)) (ht : (pc : Int) + off = (tgt : Int)) (k : zWA M Λ d res tgt ls rest s) : zWA M Λ d res pc ls (.int y :: .int x :: rest) s :=
  zClt (A := some ()) (B := none) (r := ()) (dc := Classical.propDecidable _) (if_pos hx) h ht (fun _ _ => k) (fun _ q => by cases q)
theorem zCltF {x y : Int32} {off : Int} {tgt : Nat} (hx : ¬ x < y) (h : zlk M.2.2.2.2.2 pc = some (.if_icmp .lt off, 3)) (ht : (pc : Int) + off = (tgt : Int)) (k : zWA M Λ d res (pc + 3) ls rest s) : zWA M Λ d res pc ls (.int y :: .int x :: rest) s :=
  zClt (A := none) (B := some ()) (r := ()) (dc := Classical.propDecidable _) (if_neg hx) h ht (fun _ q => by cases q) (fun _ _ => k)
theorem zIge {α : Type} {A B : Option α} {r : α} {x : Int32} {off : Int} {tgt : Nat} {dc : Decidable (0 ≤ x)} (hf : @ite (Option α) (0 ≤ x) dc A B = some r) (h : zlk M.2.2.2.2.2 pc = some (.ifCond .ge off, 3)) (ht : (pc : Int) + off = (tgt : Int)) (kt : 0 ≤ x → A = some r → zWA M Λ d res tgt ls rest s) (kf : ¬ 0 ≤ x → B = some r → zWA M Λ d res (pc + 3) ls rest s) : zWA M Λ d res pc ls (.int x :: rest) s := by
  intro hM p l e s0 m args below meth c D cA ad A0 C H locs lsC hP hD hS hl
  have h1 : ∀ z : 0 ≤ x, A = some r := fun z => by rw [if_pos z] at hf; exact hf
  have h2 : ∀ z : ¬ 0 ≤ x, B = some r := fun z => by rw [if_neg z] at hf; exact hf
  exact lv_if_ge C.1 C.2.1 (zdec hM h) ht (fun z => kt z (h1 z) hM p l e s0 m args below meth c D cA ad A0 C H locs lsC hP hD hS hl) (fun z => kf z (h2 z) hM p l e s0 m args below meth c D cA ad A0 C H locs lsC hP hD hS hl)
theorem zIgeT {x : Int32} {off : Int} {tgt : Nat} (hx : 0 ≤ x) (h : zlk M.2.2.2.2.2 pc = some (.ifCond .ge off, 3)) (ht : (pc : Int) + off = (tgt : Int)) (k : zWA M Λ d res tgt ls rest s) : zWA M Λ d res pc ls (.int x :: rest) s :=
  zIge (A := some ()) (B := none) (r := ()) (dc := Classical.propDecidable _) (if_pos hx) h ht (fun _ _ => k) (fun _ q => by cases q)
theorem zIgeF {x : Int32} {off : Int} {tgt : Nat} (hx : ¬ 0 ≤ x) (h : zlk M.2.2.2.2.2 pc = some (.ifCond .ge off, 3)) (ht : (pc : Int) + off = (tgt : Int)) (k : zWA M Λ d res (pc + 3) ls rest s) : zWA M Λ d res pc ls (.int x :: rest) s :=
  zIge (A := none) (B := some ()) (r := ()) (dc := Classical.propDecidable _) (if_neg hx) h ht (fun _ q => by cases q) (fun _ _ => k)
theorem zCge {α : Type} {A B : Option α} {r : α} {x y : Int32} {off : Int} {tgt : Nat} {dc : Decidable (y ≤ x)} (hf : @ite (Option α) (y ≤ x) dc A B = some r) (h : zlk M.2.2.2.2.2 pc = some (.if_icmp .ge off, 3)) (ht : (pc : Int) + off = (tgt : Int)) (kt : y ≤ x → A = some r → zWA M Λ d res tgt ls rest s) (kf : ¬ y ≤ x → B = some r → zWA M Λ d res (pc + 3) ls rest s) : zWA M Λ d res pc ls (.int y :: .int x :: rest) s := by
  intro hM p l e s0 m args below meth c D cA ad A0 C H locs lsC hP hD hS hl
  have h1 : ∀ z : y ≤ x, A = some r := fun z => by rw [if_pos z] at hf; exact hf
  have h2 : ∀ z : ¬ y ≤ x, B = some r := fun z => by rw [if_neg z] at hf; exact hf
  exact lv_icmp_ge C.1 C.2.1 (zdec hM h) ht (fun z => kt z (h1 z) hM p l e s0 m args below meth c D cA ad A0 C H locs lsC hP hD hS hl) (fun z => kf z (h2 z) hM p l e s0 m args below meth c D cA ad A0 C H locs lsC hP hD hS hl)
theorem zCgeT {x y : Int32} {off : Int} {tgt : Nat} (hx : y ≤ x) (h : zlk M.2.2.2.2.2 pc = some (.if_icmp .ge off, 3)) (ht : (pc : Int) + off = (tgt : Int)) (k : zWA M Λ d res tgt ls rest s) : zWA M Λ d res pc ls (.int y :: .int x :: rest) s :=
  zCge (A := some ()) (B := none) (r := ()) (dc := Classical.propDecidable _) (if_pos hx) h ht (fun _ _ => k) (fun _ q => by cases q)
theorem zCgeF {x y : Int32} {off : Int} {tgt : Nat} (hx : ¬ y ≤ x) (h : zlk M.2.2.2.2.2 pc = some (.if_icmp .ge off, 3)) (ht : (pc : Int) + off = (tgt : Int)) (k : zWA M Λ d res (pc + 3) ls rest s) : zWA M Λ d res pc ls (.int y :: .int x :: rest) s :=
  zCge (A := none) (B := some ()) (r := ()) (dc := Classical.propDecidable _) (if_neg hx) h ht (fun _ q => by cases q) (fun _ _ => k)
theorem zIgt {α : Type} {A B : Option α} {r : α} {x : Int32} {off : Int} {tgt : Nat} {dc : Decidable (0 < x)} (hf : @ite (Option α) (0 < x) dc A B = some r) (h : zlk M.2.2.2.2.2 pc = some (.ifCond .gt off, 3)) (ht : (pc : Int) + off = (tgt : Int)) (kt : 0 < x → A = some r → zWA M Λ d res tgt ls rest s) (kf : ¬ 0 < x → B = some r → zWA M Λ d res (pc + 3) ls rest s) : zWA M Λ d res pc ls (.int x :: rest) s := by
  intro hM p l e s0 m args below meth c D cA ad A0 C H locs lsC hP hD hS hl
  have h1 : ∀ z : 0 < x, A = some r := fun z => by rw [if_pos z] at hf; exact hf
  have h2 : ∀ z : ¬ 0 < x, B = some r := fun z => by rw [if_neg z] at hf; exact hf
  exact lv_if_gt C.1 C.2.1 (zdec hM h) ht (fun z => kt z (h1 z) hM p l e s0 m args below meth c D cA ad A0 C H locs lsC hP hD hS hl) (fun z => kf z (h2 z) hM p l e s0 m args below meth c D cA ad A0 C H locs lsC hP hD hS hl)
theorem zIgtT {x : Int32} {off : Int} {tgt : Nat} (hx : 0 < x) (h : zlk M.2.2.2.2.2 pc = some (.ifCond .gt off, 3)) (ht : (pc : Int) + off = (tgt : Int)) (k : zWA M Λ d res tgt ls rest s) : zWA M Λ d res pc ls (.int x :: rest) s :=
  zIgt (A := some ()) (B := none) (r := ()) (dc := Classical.propDecidable _) (if_pos hx) h ht (fun _ _ => k) (fun _ q => by cases q)
theorem zIgtF {x : Int32} {off : Int} {tgt : Nat} (hx : ¬ 0 < x) (h : zlk M.2.2.2.2.2 pc = some (.ifCond .gt off, 3)) (ht : (pc : Int) + off = (tgt : Int)) (k : zWA M Λ d res (pc + 3) ls rest s) : zWA M Λ d res pc ls (.int x :: rest) s :=
  zIgt (A := none) (B := some ()) (r := ()) (dc := Classical.propDecidable _) (if_neg hx) h ht (fun _ q => by cases q) (fun _ _ => k)
theorem zCgt {α : Type} {A B : Option α} {r : α} {x y : Int32} {off : Int} {tgt : Nat} {dc : Decidable (y < x)} (hf : @ite (Option α) (y < x) dc A B = some r) (h : zlk M.2.2.2.2.2 pc = some (.if_icmp .gt off, 3)) (ht : (pc : Int) + off = (tgt : Int)) (kt : y < x → A = some r → zWA M Λ d res tgt ls rest s) (kf : ¬ y < x → B = some r → zWA M Λ d res (pc + 3) ls rest s) : zWA M Λ d res pc ls (.int y :: .int x :: rest) s := by
  intro hM p l e s0 m args below meth c D cA ad A0 C H locs lsC hP hD hS hl
  have h1 : ∀ z : y < x, A = some r := fun z => by rw [if_pos z] at hf; exact hf
  have h2 : ∀ z : ¬ y < x, B = some r := fun z => by rw [if_neg z] at hf; exact hf
  exact lv_icmp_gt C.1 C.2.1 (zdec hM h) ht (fun z => kt z (h1 z) hM p l e s0 m args below meth c D cA ad A0 C H locs lsC hP hD hS hl) (fun z => kf z (h2 z) hM p l e s0 m args below meth c D cA ad A0 C H locs lsC hP hD hS hl)
theorem zCgtT {x y : Int32} {off : Int} {tgt : Nat} (hx : y < x) (h : zlk M.2.2.2.2.2 pc = some (.if_icmp .gt off, 3)) (ht : (pc : Int) + off = (tgt : Int)) (k : zWA M Λ d res tgt ls rest s) : zWA M Λ d res pc ls (.int y :: .int x :: rest) s :=
  zCgt (A := some ()) (B := none) (r := ()) (dc := Classical.propDecidable _) (if_pos hx) h ht (fun _ _ => k) (fun _ q => by cases q)
theorem zCgtF {x y : Int32} {off : Int} {tgt : Nat} (hx : ¬ y < x) (h : zlk M.2.2.2.2.2 pc = some (.if_icmp .gt off, 3)) (ht : (pc : Int) + off = (tgt : Int)) (k : zWA M Λ d res (pc + 3) ls rest s) : zWA M Λ d res pc ls (.int y :: .int x :: rest) s :=
  zCgt (A := none) (B := some ()) (r := ()) (dc := Classical.propDecidable _) (if_neg hx) h ht (fun _ q => by cases q) (fun _ _ => k)
theorem zIle {α : Type} {A B : Option α} {r : α} {x : Int32} {off : Int} {tgt : Nat} {dc : Decidable (x ≤ 0)} (hf : @ite (Option α) (x ≤ 0) dc A B = some r) (h : zlk M.2.2.2.2.2 pc = some (.ifCond .le off, 3)) (ht : (pc : Int) + off = (tgt : Int)) (kt : x ≤ 0 → A = some r → zWA M Λ d res tgt ls rest s) (kf : ¬ x ≤ 0 → B = some r → zWA M Λ d res (pc + 3) ls rest s) : zWA M Λ d res pc ls (.int x :: rest) s := by
  intro hM p l e s0 m args below meth c D cA ad A0 C H locs lsC hP hD hS hl
  have h1 : ∀ z : x ≤ 0, A = some r := fun z => by rw [if_pos z] at hf; exact hf
  have h2 : ∀ z : ¬ x ≤ 0, B = some r := fun z => by rw [if_neg z] at hf; exact hf
  exact lv_if_le C.1 C.2.1 (zdec hM h) ht (fun z => kt z (h1 z) hM p l e s0 m args below meth c D cA ad A0 C H locs lsC hP hD hS hl) (fun z => kf z (h2 z) hM p l e s0 m args below meth c D cA ad A0 C H locs lsC hP hD hS hl)
theorem zIleT {x : Int32} {off : Int} {tgt : Nat} (hx : x ≤ 0) (h : zlk M.2.2.2.2.2 pc = some (.ifCond .le off, 3)) (ht : (pc : Int) + off = (tgt : Int)) (k : zWA M Λ d res tgt ls rest s) : zWA M Λ d res pc ls (.int x :: rest) s :=
  zIle (A := some ()) (B := none) (r := ()) (dc := Classical.propDecidable _) (if_pos hx) h ht (fun _ _ => k) (fun _ q => by cases q)
theorem zIleF {x : Int32} {off : Int} {tgt : Nat} (hx : ¬ x ≤ 0) (h : zlk M.2.2.2.2.2 pc = some (.ifCond .le off, 3)) (ht : (pc : Int) + off = (tgt : Int)) (k : zWA M Λ d res (pc + 3) ls rest s) : zWA M Λ d res pc ls (.int x :: rest) s :=
  zIle (A := none) (B := some ()) (r := ()) (dc := Classical.propDecidable _) (if_neg hx) h ht (fun _ q => by cases q) (fun _ _ => k)
theorem zCle {α : Type} {A B : Option α} {r : α} {x y : Int32} {off : Int} {tgt : Nat} {dc : Decidable (x ≤ y)} (hf : @ite (Option α) (x ≤ y) dc A B = some r) (h : zlk M.2.2.2.2.2 pc = some (.if_icmp .le off, 3)) (ht : (pc : Int) + off = (tgt : Int)) (kt : x ≤ y → A = some r → zWA M Λ d res tgt ls rest s) (kf : ¬ x ≤ y → B = some r → zWA M Λ d res (pc + 3) ls rest s) : zWA M Λ d res pc ls (.int y :: .int x :: rest) s := by
  intro hM p l e s0 m args below meth c D cA ad A0 C H locs lsC hP hD hS hl
  have h1 : ∀ z : x ≤ y, A = some r := fun z => by rw [if_pos z] at hf; exact hf
  have h2 : ∀ z : ¬ x ≤ y, B = some r := fun z => by rw [if_neg z] at hf; exact hf
  exact lv_icmp_le C.1 C.2.1 (zdec hM h) ht (fun z => kt z (h1 z) hM p l e s0 m args below meth c D cA ad A0 C H locs lsC hP hD hS hl) (fun z => kf z (h2 z) hM p l e s0 m args below meth c D cA ad A0 C H locs lsC hP hD hS hl)
theorem zCleT {x y : Int32} {off : Int} {tgt : Nat} (hx : x ≤ y) (h : zlk M.2.2.2.2.2 pc = some (.if_icmp .le off, 3)) (ht : (pc : Int) + off = (tgt : Int)) (k : zWA M Λ d res tgt ls rest s) : zWA M Λ d res pc ls (.int y :: .int x :: rest) s :=
  zCle (A := some ()) (B := none) (r := ()) (dc := Classical.propDecidable _) (if_pos hx) h ht (fun _ _ => k) (fun _ q => by cases q)
theorem zCleF {x y : Int32} {off : Int} {tgt : Nat} (hx : ¬ x ≤ y) (h : zlk M.2.2.2.2.2 pc = some (.if_icmp .le off, 3)) (ht : (pc : Int) + off = (tgt : Int)) (k : zWA M Λ d res (pc + 3) ls rest s) : zWA M Λ d res pc ls (.int y :: .int x :: rest) s :=
  zCle (A := none) (B := some ()) (r := ()) (dc := Classical.propDecidable _) (if_neg hx) h ht (fun _ q => by cases q) (fun _ _ => k)
theorem zNull {off : Int} {x : Nat} (h : zlk M.2.2.2.2.2 pc = some (.ifnull off, 3)) (k : zWA M Λ d res (pc + 3) ls rest s) : zWA M Λ d res pc ls (.ref x :: rest) s := by
  intro hM p l e s0 m args below meth c D cA ad A C H locs lsC hP hD hS hl
  exact lv_ifnull C.1 C.2.1 (zdec hM h) (k hM p l e s0 m args below meth c D cA ad A C H locs lsC hP hD hS hl)
theorem zNullN {off : Int} {tgt : Nat} (h : zlk M.2.2.2.2.2 pc = some (.ifnull off, 3)) (ht : (pc : Int) + off = (tgt : Int)) (k : zWA M Λ d res tgt ls rest s) : zWA M Λ d res pc ls (.null :: rest) s := by
  intro hM p l e s0 m args below meth c D cA ad A C H locs lsC hP hD hS hl
  exact lv_ifnullN C.1 C.2.1 (zdec hM h) ht (k hM p l e s0 m args below meth c D cA ad A C H locs lsC hP hD hS hl)
theorem zNon {off : Int} {x tgt : Nat} (h : zlk M.2.2.2.2.2 pc = some (.ifnonnull off, 3)) (ht : (pc : Int) + off = (tgt : Int)) (k : zWA M Λ d res tgt ls rest s) : zWA M Λ d res pc ls (.ref x :: rest) s := by
  intro hM p l e s0 m args below meth c D cA ad A C H locs lsC hP hD hS hl
  exact lv_ifnonnull C.1 C.2.1 (zdec hM h) ht (k hM p l e s0 m args below meth c D cA ad A C H locs lsC hP hD hS hl)
theorem zNonN {off : Int} (h : zlk M.2.2.2.2.2 pc = some (.ifnonnull off, 3)) (k : zWA M Λ d res (pc + 3) ls rest s) : zWA M Λ d res pc ls (.null :: rest) s := by
  intro hM p l e s0 m args below meth c D cA ad A C H locs lsC hP hD hS hl
  exact lv_ifnonnullN C.1 C.2.1 (zdec hM h) (k hM p l e s0 m args below meth c D cA ad A C H locs lsC hP hD hS hl)
theorem zIald {α : Type} {r : α} {k n b : Nat} {i : Int32} {g : Int32 → Option α} (hf : (zld s k n i).bind g = some r) (h : zlk M.2.2.2.2.2 pc = some (.iaload, 1)) (hc : Λ[k]? = some (.inr (0, n, b))) (kk : ∀ v, g v = some r → zWA M Λ d res (pc + 1) ls (.int v :: rest) s) : zWA M Λ d res pc ls (.int i :: .ref k :: rest) s := by
  refine zBd hf fun v h1 h2 => ?_
  unfold zld at h1
  refine zIte h1 (fun hin h1 => ?_) (fun _ h1 => by cases h1)
  cases h1
  intro hM p l e s0 m args below meth c D cA ad A C H locs lsC hP hD hS hl
  exact va_iald (tys := zTy cA) C.1 C.2.1 C.2.2.2.2.2.2.2.1 hP k 0 (zW_get hc) rfl (vp_in_iff.mpr hin) (zdec hM h) (kk _ h2 hM p l e s0 m args below meth c D cA ad A C H locs lsC hP hD hS hl)
theorem zLald {α : Type} {r : α} {k n b : Nat} {i : Int32} {g : Int64 → Option α} (hf : (zldl s k n i).bind g = some r) (h : zlk M.2.2.2.2.2 pc = some (.laload, 1)) (hc : Λ[k]? = some (.inr (1, n, b))) (kk : ∀ v, g v = some r → zWA M Λ d res (pc + 1) ls (.long v :: rest) s) : zWA M Λ d res pc ls (.int i :: .ref k :: rest) s := by
  refine zBd hf fun v h1 h2 => ?_
  unfold zldl at h1
  refine zIte h1 (fun hin h1 => ?_) (fun _ h1 => by cases h1)
  cases h1
  intro hM p l e s0 m args below meth c D cA ad A C H locs lsC hP hD hS hl
  exact va_lald (tys := zTy cA) C.1 C.2.1 C.2.2.2.2.2.2.2.1 hP k 1 (zW_get hc) rfl (vp_in_iff.mpr hin) (zdec hM h) (kk _ h2 hM p l e s0 m args below meth c D cA ad A C H locs lsC hP hD hS hl)
theorem zTald {α : Type} {r : α} {j : Nat} {i : Int32} {g : Int32 → Option α} {C0 n0 d0 : String} {tab : List Int32} (hf : (zlt tab i).bind g = some r) (h : zlk M.2.2.2.2.2 pc = some (.iaload, 1)) (hc : zTab[j]? = some (C0, n0, d0, .int, tab)) (kk : ∀ v, g v = some r → zWA M Λ d res (pc + 1) ls (.int v :: rest) s) : zWA M Λ d res pc ls (.int i :: .ref (1000 + j) :: rest) s := by
  refine zBd hf fun v h1 h2 => ?_
  unfold zlt at h1
  refine zIte h1 (fun hin h1 => ?_) (fun _ h1 => by cases h1)
  cases h1
  intro hM p l e s0 m args below meth c D cA ad A C H locs lsC hP hD hS hl
  exact va_ti C.1 C.2.1 (C.2.2.2.2.2.2.2.2.1.1 j _ hc).2 hS (vp_in_iff.mpr hin) rfl (zdec hM h) (kk _ h2 hM p l e s0 m args below meth c D cA ad A C H locs lsC hP hD hS hl)
theorem zTcald {α : Type} {r : α} {j : Nat} {i : Int32} {g : Int32 → Option α} {C0 n0 d0 : String} {tab : List Int32} (hf : (zlt tab i).bind g = some r) (h : zlk M.2.2.2.2.2 pc = some (.caload, 1)) (hc : zTab[j]? = some (C0, n0, d0, .char, tab)) (kk : ∀ v, g v = some r → zWA M Λ d res (pc + 1) ls (.int v :: rest) s) : zWA M Λ d res pc ls (.int i :: .ref (1000 + j) :: rest) s := by
  refine zBd hf fun v h1 h2 => ?_
  unfold zlt at h1
  refine zIte h1 (fun hin h1 => ?_) (fun _ h1 => by cases h1)
  cases h1
  intro hM p l e s0 m args below meth c D cA ad A C H locs lsC hP hD hS hl
  exact va_tc C.1 C.2.1 (C.2.2.2.2.2.2.2.2.1.1 j _ hc).2 hS (vp_in_iff.mpr hin) rfl (zdec hM h) (kk _ h2 hM p l e s0 m args below meth c D cA ad A C H locs lsC hP hD hS hl)
theorem zTlen {j : Nat} {C0 n0 d0 : String} {ty : FieldType} {tab : List Int32} {v : Int32} (h : zlk M.2.2.2.2.2 pc = some (.arraylength, 1)) (hc : zTab[j]? = some (C0, n0, d0, ty, tab)) (hv : Int32.ofNat tab.length = v) (kk : zWA M Λ d res (pc + 1) ls (.int v :: rest) s) : zWA M Λ d res pc ls (.ref (1000 + j) :: rest) s := by
  intro hM p l e s0 m args below meth c D cA ad A C H locs lsC hP hD hS hl
  exact va_tlen C.1 C.2.1 (C.2.2.2.2.2.2.2.2.1.1 j _ hc).2 hS hv (zdec hM h) (kk hM p l e s0 m args below meth c D cA ad A C H locs lsC hP hD hS hl)
theorem zAald {α : Type} {r : α} {k kd n b : Nat} {i : Int32} {g : Nat → Option α} (hf : (zla n i).bind g = some r) (h : zlk M.2.2.2.2.2 pc = some (.aaload, 1)) (hc : Λ[k]? = some (.inr (kd + 2, n, b))) (kk : ∀ v, v < n → g v = some r → zWA M Λ d res (pc + 1) ls (.ref (b + 2 * v) :: rest) s) : zWA M Λ d res pc ls (.int i :: .ref k :: rest) s := by
  refine zBd hf fun v h1 h2 => ?_
  unfold zla at h1
  refine zIte h1 (fun hin h1 => ?_) (fun _ h1 => by cases h1)
  cases h1
  intro hM p l e s0 m args below meth c D cA ad A C H locs lsC hP hD hS hl
  have hv := vp_in_iff.mpr hin
  exact va_aldq (tys := zTy cA) C.1 C.2.1 C.2.2.2.2.2.2.2.1 hP k 2 (zW_get hc) rfl hv (zdec hM h) (kk _ (Nat.not_le.mp fun q => hv (Or.inr q)) h2 hM p l e s0 m args below meth c D cA ad A C H locs lsC hP hD hS hl)
theorem zIast {α : Type} {r : α} {k n b : Nat} {i v : Int32} {g : zSt → Option α} (hf : (zst s k n i v).bind g = some r) (h : zlk M.2.2.2.2.2 pc = some (.iastore, 1)) (hc : Λ[k]? = some (.inr (0, n, b))) (kk : ∀ s', g s' = some r → zWA M Λ d res (pc + 1) ls rest s') : zWA M Λ d res pc ls (.int v :: .int i :: .ref k :: rest) s := by
  refine zBd hf fun s' h1 h2 => ?_
  unfold zst at h1
  refine zIte h1 (fun hin h1 => ?_) (fun _ h1 => by cases h1)
  cases h1
  intro hM p l e s0 m args below meth c D cA ad A C H locs lsC hP hD hS hl
  refine va_iast (tys := zTy cA) C.1 C.2.1 C.2.2.2.2.2.2.2.1 hP hD hS k 0 (zW_get hc) rfl (vp_in_iff.mpr hin) (zdec hM h) fun H1 locs1 hP1 hD1 hS1 => ?_
  have e2 : zC ad cA (zw s k i.toNatClampNeg v) k (.inr (0, n, b)) = .inl (cA 0, n, .inl (upd (s.1 k) i.toNatClampNeg v)) := by simp only [zC, zw_same]
  have e3 := zW_set (ad := ad) (cA := cA) hc (zw_ne s k i.toNatClampNeg v)
  rw [e2] at e3
  rw [e3] at hP1 hD1
  exact kk _ h2 hM p l e s0 m args below meth c D cA ad A C H1 locs1 lsC hP1 hD1 hS1 hl
theorem zLast {α : Type} {r : α} {k n b : Nat} {i : Int32} {v : Int64} {g : zSt → Option α} (hf : (zstl s k n i v).bind g = some r) (h : zlk M.2.2.2.2.2 pc = some (.lastore, 1)) (hc : Λ[k]? = some (.inr (1, n, b))) (kk : ∀ s', g s' = some r → zWA M Λ d res (pc + 1) ls rest s') : zWA M Λ d res pc ls (.long v :: .int i :: .ref k :: rest) s := by
  refine zBd hf fun s' h1 h2 => ?_
  unfold zstl at h1
  refine zIte h1 (fun hin h1 => ?_) (fun _ h1 => by cases h1)
  cases h1
  intro hM p l e s0 m args below meth c D cA ad A C H locs lsC hP hD hS hl
  refine va_last (tys := zTy cA) C.1 C.2.1 C.2.2.2.2.2.2.2.1 hP hD hS k 1 (zW_get hc) rfl (vp_in_iff.mpr hin) (zdec hM h) fun H1 locs1 hP1 hD1 hS1 => ?_
  have e2 : zC ad cA (zwl s k i.toNatClampNeg v) k (.inr (1, n, b)) = .inl (cA 1, n, .inr (.inl (vp_updL (s.2 k) i.toNatClampNeg v))) := by simp only [zC, zwl_same]
  have e3 := zW_set (ad := ad) (cA := cA) hc (zwl_ne s k i.toNatClampNeg v)
  rw [e2] at e3
  rw [e3] at hP1 hD1
  exact kk _ h2 hM p l e s0 m args below meth c D cA ad A C H1 locs1 lsC hP1 hD1 hS1 hl
theorem zDiv {α : Type} {r : α} {x y : Int32} {g : Int32 → Option α} (hf : (zdv x y).bind g = some r) (h : zlk M.2.2.2.2.2 pc = some (.idiv, 1)) (kk : ∀ v, g v = some r → zWA M Λ d res (pc + 1) ls (.int v :: rest) s) : zWA M Λ d res pc ls (.int y :: .int x :: rest) s := by
  refine zBd hf fun v h1 h2 => ?_
  unfold zdv at h1
  refine zIte h1 (fun _ h1 => by cases h1) (fun hne h1 => ?_)
  cases h1
  intro hM p l e s0 m args below meth c D cA ad A C H locs lsC hP hD hS hl
  exact lv_idiv C.1 C.2.1 (zdec hM h) hne (kk _ h2 hM p l e s0 m args below meth c D cA ad A C H locs lsC hP hD hS hl)
theorem zRem {α : Type} {r : α} {x y : Int32} {g : Int32 → Option α} (hf : (zrv x y).bind g = some r) (h : zlk M.2.2.2.2.2 pc = some (.irem, 1)) (kk : ∀ v, g v = some r → zWA M Λ d res (pc + 1) ls (.int v :: rest) s) : zWA M Λ d res pc ls (.int y :: .int x :: rest) s := by
  refine zBd hf fun v h1 h2 => ?_
  unfold zrv at h1
  refine zIte h1 (fun _ h1 => by cases h1) (fun hne h1 => ?_)
  cases h1
  intro hM p l e s0 m args below meth c D cA ad A C H locs lsC hP hD hS hl
  exact lv_irem C.1 C.2.1 (zdec hM h) hne (kk _ h2 hM p l e s0 m args below meth c D cA ad A C H locs lsC hP hD hS hl)
theorem zDivL {α : Type} {r : α} {x y : Int64} {g : Int64 → Option α} (hf : (zdvl x y).bind g = some r) (h : zlk M.2.2.2.2.2 pc = some (.ldiv, 1)) (kk : ∀ v, g v = some r → zWA M Λ d res (pc + 1) ls (.long v :: rest) s) : zWA M Λ d res pc ls (.long y :: .long x :: rest) s := by
  refine zBd hf fun v h1 h2 => ?_
  unfold zdvl at h1
  refine zIte h1 (fun _ h1 => by cases h1) (fun hne h1 => ?_)
  cases h1
  intro hM p l e s0 m args below meth c D cA ad A C H locs lsC hP hD hS hl
  exact lv_ldiv C.1 C.2.1 (zdec hM h) hne (kk _ h2 hM p l e s0 m args below meth c D cA ad A C H locs lsC hP hD hS hl)
theorem zRemL {α : Type} {r : α} {x y : Int64} {g : Int64 → Option α} (hf : (zrvl x y).bind g = some r) (h : zlk M.2.2.2.2.2 pc = some (.lrem, 1)) (kk : ∀ v, g v = some r → zWA M Λ d res (pc + 1) ls (.long v :: rest) s) : zWA M Λ d res pc ls (.long y :: .long x :: rest) s := by
  refine zBd hf fun v h1 h2 => ?_
  unfold zrvl at h1
  refine zIte h1 (fun _ h1 => by cases h1) (fun hne h1 => ?_)
  cases h1
  intro hM p l e s0 m args below meth c D cA ad A C H locs lsC hP hD hS hl
  exact lv_lrem C.1 C.2.1 (zdec hM h) hne (kk _ h2 hM p l e s0 m args below meth c D cA ad A C H locs lsC hP hD hS hl)
theorem zRetI {r : Int32 × zSt} {v : Int32} (hf : some (v, s) = some r) (h : zlk M.2.2.2.2.2 pc = some (.ireturn, 1)) (hr : M.2.2.2.2.1 = some .int) : zWA M Λ d (some (.int r.1), r.2) pc ls [.int v] s := by
  cases hf
  intro hM p l e s0 m args below meth c D cA ad A C H locs lsC hP hD hS hl
  exact W.iret (v := v) C.1 C.2.1 (C.2.2.2.1.trans hr) (fun t ht hW => ⟨rfl, by rw [ht]; exact hP, hS.F ht⟩) hS.2.2 (zdec hM h) C.2.2.2.2.1
theorem zRetZ {r : Int32 × zSt} {v : Int32} {g : Int32 → Option (Int32 × zSt)} (hf : (zbo v).bind (fun v => some (v, s)) = some r) (h : zlk M.2.2.2.2.2 pc = some (.ireturn, 1)) (hr : M.2.2.2.2.1 = some .boolean) : zWA M Λ d (some (.int r.1), r.2) pc ls [.int v] s := by
  refine zBd hf fun v' h1 h2 => ?_
  unfold zbo at h1
  refine zIte h1 (fun hv h1 => ?_) (fun _ h1 => by cases h1)
  cases h1
  cases h2
  intro hM p l e s0 m args below meth c D cA ad A C H locs lsC hP hD hS hl
  exact W.zret (v := v) C.1 C.2.1 (C.2.2.2.1.trans hr) (by rcases hv with rfl | rfl <;> rfl) (fun t ht hW => ⟨rfl, by rw [ht]; exact hP, hS.F ht⟩) hS.2.2 (zdec hM h) C.2.2.2.2.1
theorem zRetL {r : Int64 × zSt} {v : Int64} (hf : some (v, s) = some r) (h : zlk M.2.2.2.2.2 pc = some (.lreturn, 1)) (hr : M.2.2.2.2.1 = some .long) : zWA M Λ d (some (.long r.1), r.2) pc ls [.long v] s := by
  cases hf
  intro hM p l e s0 m args below meth c D cA ad A C H locs lsC hP hD hS hl
  exact W.lret (v := v) C.1 C.2.1 (C.2.2.2.1.trans hr) (fun t ht hW => ⟨rfl, by rw [ht]; exact hP, hS.F ht⟩) hS.2.2 (zdec hM h) C.2.2.2.2.1
theorem zRetV {r : zSt} (hf : some s = some r) (h : zlk M.2.2.2.2.2 pc = some (.return_, 1)) (hr : M.2.2.2.2.1 = none) : zWA M Λ d (none, r) pc ls [] s := by
  cases hf
  intro hM p l e s0 m args below meth c D cA ad A C H locs lsC hP hD hS hl
  exact W.vret C.1 C.2.1 (C.2.2.2.1.trans hr) (fun t ht hW => ⟨rfl, by rw [ht]; exact hP, hS.F ht⟩) hS.2.2 (zdec hM h) C.2.2.2.2.1
theorem zRetR {C0 : String} {v : Nat} (h : zlk M.2.2.2.2.2 pc = some (.areturn, 1)) (hr : M.2.2.2.2.1 = some (.object C0)) : zWA M Λ d (some (.ref v), s) pc ls [.ref v] s := by
  intro hM p l e s0 m args below meth c D cA ad A C H locs lsC hP hD hS hl
  exact W.aret (v := .ref (ad v)) C.1 C.2.1 (C.2.2.2.1.trans hr) (Or.inl ⟨_, rfl⟩) (Or.inr ⟨_, rfl⟩) (fun t ht hW => ⟨rfl, by rw [ht]; exact hP, hS.F ht⟩) hS.2.2 (zdec hM h) C.2.2.2.2.1
theorem zRetN {C0 : String} (h : zlk M.2.2.2.2.2 pc = some (.areturn, 1)) (hr : M.2.2.2.2.1 = some (.object C0)) : zWA M Λ d (some .null, s) pc ls [.null] s := by
  intro hM p l e s0 m args below meth c D cA ad A C H locs lsC hP hD hS hl
  exact W.aret (v := .null) C.1 C.2.1 (C.2.2.2.1.trans hr) (Or.inl ⟨_, rfl⟩) (Or.inl rfl) (fun t ht hW => ⟨rfl, by rw [ht]; exact hP, hS.F ht⟩) hS.2.2 (zdec hM h) C.2.2.2.2.1
theorem zTabIn {dflt lo hi : Int} {offs : Array Int} {len : Nat} {x : Int32} {off : Int} {tgt : Nat} (c : Int32) (hx : x = c) (h : zlk M.2.2.2.2.2 pc = some (.tableswitch dflt lo hi offs, len)) (h1 : ¬ c.toInt < lo) (h2 : ¬ hi < c.toInt) (ho : offs[(c.toInt - lo).toNat]? = some off) (ht : (pc : Int) + off = (tgt : Int)) (k : zWA M Λ d res tgt ls rest s) : zWA M Λ d res pc ls (.int x :: rest) s := by
  subst hx
  intro hM p l e s0 m args below meth c D cA ad A C H locs lsC hP hD hS hl
  exact lv_tableIn C.1 C.2.1 (zdec hM h) h1 h2 ho ht (k hM p l e s0 m args below meth c D cA ad A C H locs lsC hP hD hS hl)
theorem zTabOut {dflt lo hi : Int} {offs : Array Int} {len : Nat} {x : Int32} {tgt : Nat} (hx : x.toInt < lo ∨ hi < x.toInt) (h : zlk M.2.2.2.2.2 pc = some (.tableswitch dflt lo hi offs, len)) (ht : (pc : Int) + dflt = (tgt : Int)) (k : zWA M Λ d res tgt ls rest s) : zWA M Λ d res pc ls (.int x :: rest) s := by
  intro hM p l e s0 m args below meth c D cA ad A C H locs lsC hP hD hS hl
  exact lv_tableOut C.1 C.2.1 (zdec hM h) hx ht (k hM p l e s0 m args below meth c D cA ad A C H locs lsC hP hD hS hl)
theorem zLook {dflt : Int} {ps : Array (Int × Int)} {len : Nat} {x : Int32} {off : Int} {tgt : Nat} (c : Int32) (hx : x = c) (h : zlk M.2.2.2.2.2 pc = some (.lookupswitch dflt ps, len)) (hp : (ps.toList.zip (ps.toList.drop 1)).all (fun (a, next) => a.1 < next.1) = true) (ho : Op.lookupswitch.offset ps.toList dflt c.toInt = off) (ht : (pc : Int) + off = (tgt : Int)) (k : zWA M Λ d res tgt ls rest s) : zWA M Λ d res pc ls (.int x :: rest) s := by
  subst hx
  intro hM p l e s0 m args below meth c D cA ad A C H locs lsC hP hD hS hl
  exact lv_lookup C.1 C.2.1 (zdec hM h) hp ho ht (k hM p l e s0 m args below meth c D cA ad A C H locs lsC hP hD hS hl)
end ZB
end
section
/-! calls -/
def zSok (M : zM) (n : Nat) : Prop := Cond.static M.2.1 ∈ tables_1 ∧ Cond.initialized M.2.1.cls ∈ tables_1 ∧ M.2.1.cls ≠ "java/lang/invoke/MethodHandle" ∧ M.2.1.cls ≠ "java/lang/invoke/VarHandle" ∧ (parseMethodDescriptor M.2.1.desc).map (fun d => d.parameters.length) = some n
def zVok (M : zM) (n : Nat) : Prop := Cond.instanceMethod M.2.1 ∈ tables_1 ∧ Cond.selects M.2.1.cls M.2.1 M.2.1 ∈ lw_tbl ∧ Cond.initialized M.2.1.cls ∈ tables_1 ∧ M.2.1.cls ≠ "java/lang/invoke/MethodHandle" ∧ M.2.1.cls ≠ "java/lang/invoke/VarHandle" ∧ (parseMethodDescriptor M.2.1.desc).map (fun d => d.parameters.length) = some n
theorem zRm_ok {d d' maxL : Nat} (h : (Nat.ble (d' + 1) d && Nat.ble maxL 45) = true) : (zRm d').frames + 1 ≤ (zRm d).frames ∧ 8 + (maxL + 11) + (zRm d').locals ≤ (zRm d).locals := by
  simp only [Bool.and_eq_true] at h
  have h1 := Nat.le_of_ble_eq_true h.1
  have h2 := Nat.le_of_ble_eq_true h.2
  refine ⟨h1, ?_⟩
  show 8 + (maxL + 11) + 64 * d' ≤ 64 * d
  omega
theorem zTb_call {M : zM} (hM : zMok M) : GoodIn zTb (Cond.code M.2.1 M.2.2.1 M.2.2.2.1 M.2.2.2.2.1 :: zTb) := by
  intro w h
  rcases List.mem_cons.mp h with rfl | h
  · exact ⟨zTb_in hM.2.2.1 rfl, Or.inl rfl⟩
  · exact zTb_good w h
section ZC
variable {M : zM} {Λ : List zD} {d : Nat} {res : Option Value × zSt} {pc : Nat} {ls : List (Nat × Value)} {st rest : List Value} {s : zSt}
/-- what a call leaves, as the caller's world -/
theorem zCall_end {ad : Nat → Nat} {cA : Nat → ClassId} {D : va_G} {A : Nat → Prop} {p : Program} {l : Launch} {e : Env} {R : Room} {s0 : State} {m : MethodId} {args : Array Value} {below : List Frame} {meth : Method} {c : Code} {H : Heap} {locs : List Loc} {Q : State → Prop} {lsC : Array Slot} {st0 rest : List Value} {a : Array Value} {res' : Option Value × zSt}
    (hr : va_Run p l e R s0 m args below meth c H locs 0 0 0 0 (F0 m pc lsC st0) (rest.map (zV ad)) (zQ D cA ad (va_A (zW ad cA Λ s) H.size) Λ res' a) (va_A (zW ad cA Λ s) H.size)) (hD : va_D A (zW ad cA Λ s)) (hS : va_S A s0.heap H locs) (hA : ∀ q : Nat, s0.heap.size ≤ q → A q)
    (kk : ∀ (H1 : Heap) (locs1 : List Loc), va_P D zCl (zW ad cA Λ res'.2) H1 → va_S A s0.heap H1 locs1 → W p l e R s0 m args below meth c H1 locs1 0 0 Q (F0 m (pc + 3) lsC ((res'.1.toList ++ rest).map (zV ad)))) : W p l e R s0 m args below meth c H locs 0 0 Q (F0 m pc lsC st0) := by
  intro T hT X
  obtain ⟨v, st₀, t, T', L, h0, X', hL, e1, e2, ⟨hv, hP1, hz, hk⟩, stp⟩ := hr T hT X
  rw [h0] at hz hk
  have hAA : ∀ q, va_A (zW ad cA Λ s) H.size q → A q := fun q h => zA_in hD (fun q h => hA q (Nat.le_trans hS.1 h)) h
  have hv2 : v = res'.1.map (zV ad) := by cases hv; rfl
  subst hv2
  obtain ⟨t2, a1, b1⟩ := kk T'.heap (locs ++ L) (by rw [e1]; exact hP1) ⟨Nat.le_trans hS.1 (by rw [e1]; exact hz), fun q h1 h2 => by rw [e1, hk q (Nat.lt_of_lt_of_le h1 hS.1) (fun z => h2 (hAA q z))]; exact hS.2.1 q h1 h2, fun q hq => by
      rcases List.mem_append.mp hq with h | h
      · exact hS.2.2 q h
      · exact hAA _ (hL q h)⟩ T' rfl X'
  refine ⟨t2, stp t2 ?_, b1⟩
  have e3 : ((res'.1.toList ++ rest).map (zV ad)) = (res'.1.map (zV ad)).toList ++ rest.map (zV ad) := by cases res'.1 <;> simp
  rw [e3] at a1
  exact a1
theorem zPre {ad : Nat → Nat} {cA : Nat → ClassId} {D : va_G} {A : Nat → Prop} {s0 : State} {H : Heap} {locs : List Loc} {As : List Value} (hP : va_P D zCl (zW ad cA Λ s) H) (hK : va_K D zCl (zTy cA) s0) (hSx : zSx ad A s0) (hD : va_D A (zW ad cA Λ s)) (hS : va_S A s0.heap H locs) (hA : ∀ q : Nat, s0.heap.size ≤ q → A q) :
    FrameBlind (va_Pc (As.map (zV ad)) (fun U => U.heap.size = H.size ∧ va_P D zCl (zW ad cA Λ s) U.heap ∧ va_K D zCl (zTy cA) U ∧ va_D (fun _ => True) (zW ad cA Λ s) ∧ zSx ad (va_A (zW ad cA Λ s) H.size) U)) ∧ ∀ U : State, U.heap = H → s0.WarmedH U.vm → va_Pc (As.map (zV ad)) (fun U => U.heap.size = H.size ∧ va_P D zCl (zW ad cA Λ s) U.heap ∧ va_K D zCl (zTy cA) U ∧ va_D (fun _ => True) (zW ad cA Λ s) ∧ zSx ad (va_A (zW ad cA Λ s) H.size) U) (As.map (zV ad)).toArray U := by
  refine ⟨fun a U g mk q => ?_, fun U hU hW => ?_⟩
  · obtain ⟨q0, q1, qP, qK, qD, qS⟩ := q
    exact ⟨q0, q1, qP, va_K.moved (u := U) (U := U.calling g mk a) (Vm.Alike.refl U.vm) qK, qD, zSx_vm qS rfl rfl⟩
  · exact ⟨rfl, by rw [hU], by rw [hU]; exact hP, va_K.moved hW.alike hK, hD.weaken (fun _ _ _ _ => trivial), zSx_call hSx hS hU hW (fun q h => zA_in hD (fun q h => hA q (Nat.le_trans hS.1 h)) h)⟩
/-- a static call of a method of ours -/
theorem zCallS {M' : zM} {d' idx : Nat} {As : List Value} {res' : Option Value × zSt} (n : Nat) (hM' : zMok M') (hs : zSok M' n) (hl : Cond.methodLink M.2.1.cls idx M'.2.1 ∈ tables_1) (h : zlk M.2.2.2.2.2 pc = some (.invokestatic idx, 3)) (hR : (Nat.ble (d' + 1) d && Nat.ble M'.2.2.2.1 45) = true) (hc : Nat.ble ((rest.map fun v => v.category).sum) 8 = true) (hst : st = As.reverse ++ rest) (hn : As.length = n)
    (K : zKp M' Λ d' As s res') (k : zWA M Λ d res (pc + 3) ls (res'.1.toList ++ rest) res'.2) : zWA M Λ d res pc ls st s := by
  subst hst
  intro hM p l e s0 m args below meth c D cA ad A C H locs lsC hP hD hS hl0
  obtain ⟨hx, hb, hml, hr, hlo, hown, hts, hK, hSx, hA⟩ := C
  refine zCall_end (res' := res') (a := (As.map (zV ad)).toArray) (s := s) ?_ hD hS hA (fun H1 locs1 hP1 hS1 => k hM p l e s0 m args below meth c D cA ad A ⟨hx, hb, hml, hr, hlo, hown, hts, hK, hSx, hA⟩ H1 locs1 lsC hP1 (zD_to hD) hS1 hl0)
  refine va_runS (As := As.map (zV ad)) (n := n) (nL := M.2.2.2.1) (Ts := zTb) (own := M.2.1.cls) ⟨hx, hb, hml, hown, hts⟩ (K l D cA ad H.size) ⟨callB_of n hts (zTb_call hM') rfl rfl rfl (hts _ (zTb_of hs.2.1 rfl)) (hts _ (zTb_of hl rfl)) ⟨hs.2.2.1, hs.2.2.2.1, hs.2.2.2.2⟩ (zRm_ok hR), hts _ (zTb_of hs.1 rfl)⟩ (zPre hP hK hSx hD hS hA) rfl (by rw [List.length_map]; exact hn) hl0.1 ?_ (lv_room ?_) (zdec hM h) ⟨Nat.zero_le _, Nat.zero_le _⟩
  · show (As.reverse ++ rest).map (zV ad) = _
    rw [List.map_append, List.map_reverse]
  · rw [zV_cats]; exact Nat.le_of_ble_eq_true hc
/-- a static call of a nest mate's private method -/
theorem zCallN {M' : zM} {d' idx : Nat} {As : List Value} {res' : Option Value × zSt} (n : Nat) (hM' : zMok M') (hs : zSok M' n) (hl : Cond.methodLinkNest M.2.1.cls idx M'.2.1 "LemonGate" ∈ tables_1) (h : zlk M.2.2.2.2.2 pc = some (.invokestatic idx, 3)) (hR : (Nat.ble (d' + 1) d && Nat.ble M'.2.2.2.1 45) = true) (hc : Nat.ble ((rest.map fun v => v.category).sum) 8 = true) (hst : st = As.reverse ++ rest) (hn : As.length = n)
    (K : zKp M' Λ d' As s res') (k : zWA M Λ d res (pc + 3) ls (res'.1.toList ++ rest) res'.2) : zWA M Λ d res pc ls st s := by
  subst hst
  intro hM p l e s0 m args below meth c D cA ad A C H locs lsC hP hD hS hl0
  obtain ⟨hx, hb, hml, hr, hlo, hown, hts, hK, hSx, hA⟩ := C
  refine zCall_end (res' := res') (a := (As.map (zV ad)).toArray) (s := s) ?_ hD hS hA (fun H1 locs1 hP1 hS1 => k hM p l e s0 m args below meth c D cA ad A ⟨hx, hb, hml, hr, hlo, hown, hts, hK, hSx, hA⟩ H1 locs1 lsC hP1 (zD_to hD) hS1 hl0)
  refine va_runSN (As := As.map (zV ad)) (n := n) (nL := M.2.2.2.1) (Ts := zTb) (own := M.2.1.cls) ⟨hx, hb, hml, hown, hts⟩ (K l D cA ad H.size) ⟨va_cnB n hts (zTb_call hM') rfl rfl rfl (hSx.2 _ (List.mem_filter.mpr ⟨hl, rfl⟩)) (hts _ (zTb_of hs.2.1 rfl)) ⟨hs.2.2.1, hs.2.2.2.1, hs.2.2.2.2⟩ (zRm_ok hR), hts _ (zTb_of hs.1 rfl), trivial⟩ (zPre hP hK hSx hD hS hA) rfl (by rw [List.length_map]; exact hn) hl0.1 ?_ (lv_room ?_) (zdec hM h) ⟨Nat.zero_le _, Nat.zero_le _⟩
  · show (As.reverse ++ rest).map (zV ad) = _
    rw [List.map_append, List.map_reverse]
  · rw [zV_cats]; exact Nat.le_of_ble_eq_true hc
/-- a call of a method of an object of ours -/
theorem zCallV {M' : zM} {d' idx b : Nat} {As : List Value} {res' : Option Value × zSt} {o : Nat × List (Nat ⊕ Nat)} {w : vw_C} (n : Nat) (hM' : zMok M') (hs : zVok M' n) (hl : Cond.methodLink M.2.1.cls idx M'.2.1 ∈ tables_1) (h : zlk M.2.2.2.2.2 pc = some (.invokevirtual idx, 3)) (ho : Λ[b]? = some (.inl o)) (hw : zCl[o.1]? = some w) (hwc : w.1 = M'.2.1.cls) (hR : (Nat.ble (d' + 1) d && Nat.ble M'.2.2.2.1 45) = true) (hc : Nat.ble ((rest.map fun v => v.category).sum) 8 = true) (hst : st = As.reverse ++ .ref b :: rest) (hn : As.length = n)
    (K : zKp M' Λ d' (.ref b :: As) s res') (k : zWA M Λ d res (pc + 3) ls (res'.1.toList ++ rest) res'.2) : zWA M Λ d res pc ls st s := by
  subst hst
  intro hM p l e s0 m args below meth c D cA ad A C H locs lsC hP hD hS hl0
  obtain ⟨hx, hb, hml, hr, hlo, hown, hts, hK, hSx, hA⟩ := C
  refine zCall_end (res' := res') (a := (Value.ref (ad b) :: As.map (zV ad)).toArray) (s := s) ?_ hD hS hA (fun H1 locs1 hP1 hS1 => k hM p l e s0 m args below meth c D cA ad A ⟨hx, hb, hml, hr, hlo, hown, hts, hK, hSx, hA⟩ H1 locs1 lsC hP1 (zD_to hD) hS1 hl0)
  have hpre := zPre (As := .ref b :: As) hP hK hSx hD hS hA
  refine va_runV (As := As.map (zV ad)) (b := ad b) (C := M'.2.1.cls) (n := n) (nL := M.2.2.2.1) (Ts := zTb) (own := M.2.1.cls) ⟨hx, hb, hml, hown, hts⟩ (K l D cA ad H.size) ⟨callB_of n hts (zTb_call hM') rfl rfl rfl (hts _ (zTb_of hs.2.2.1 rfl)) (hts _ (zTb_of hl rfl)) ⟨hs.2.2.2.1, hs.2.2.2.2.1, hs.2.2.2.2.2⟩ (zRm_ok hR), hts _ (zTb_of hs.1 rfl), hts _ (zTb_in hs.2.1 rfl)⟩ ⟨hpre.1, ?_, hpre.2⟩ rfl (by rw [List.length_map]; exact hn) hl0.1 ?_ (lv_room ?_) (zdec hM h) ⟨Nat.zero_le _, Nat.zero_le _⟩
  · rw [← hwc]
    exact va_recv hK hP hw (zW_get ho)
  · show (As.reverse ++ .ref b :: rest).map (zV ad) = _
    rw [List.map_append, List.map_reverse]
    rfl
  · rw [zV_cats]; exact Nat.le_of_ble_eq_true hc
theorem zMaxI {x y : Int32} {idx : Nat} (hl : Cond.methodLink M.2.1.cls idx Lib.Math.max.name ∈ tables_1) (h : zlk M.2.2.2.2.2 pc = some (.invokestatic idx, 3)) (hd : Nat.ble 1 d = true) (hc : Nat.ble ((rest.map fun v => v.category).sum) 8 = true) (k : zWA M Λ d res (pc + 3) ls (.int (zmax x y) :: rest) s) : zWA M Λ d res pc ls (.int y :: .int x :: rest) s := by
  intro hM p l e s0 m args below meth c D cA ad A C H locs lsC hP hD hS hl0
  have h1 := Nat.le_of_ble_eq_true hd
  have h2 := Nat.le_of_ble_eq_true hc
  exact va_mmax C.1 C.2.1 (C.2.2.1.trans hl0.1.symm) C.2.2.2.2.2.1 (C.2.2.2.2.2.2.1 _ (zTb_of hl rfl)) (C.2.2.2.2.2.2.1 _ (zTb_of (by decide +kernel) rfl)) (C.2.2.2.2.2.2.1 _ (zTb_of (by decide +kernel) rfl)) (C.2.2.2.2.2.2.1 _ (zTb_of (by decide +kernel) rfl)) h1 (by rw [zV_cats]; show _ + 13 ≤ 64 * d; omega) (Nat.zero_le _) (Nat.zero_le _) (zdec hM h) (k hM p l e s0 m args below meth c D cA ad A C H locs lsC hP hD hS hl0)
theorem zMinI {x y : Int32} {idx : Nat} (hl : Cond.methodLink M.2.1.cls idx Lib.Math.min.name ∈ tables_1) (h : zlk M.2.2.2.2.2 pc = some (.invokestatic idx, 3)) (hd : Nat.ble 1 d = true) (hc : Nat.ble ((rest.map fun v => v.category).sum) 8 = true) (k : zWA M Λ d res (pc + 3) ls (.int (zmin x y) :: rest) s) : zWA M Λ d res pc ls (.int y :: .int x :: rest) s := by
  intro hM p l e s0 m args below meth c D cA ad A C H locs lsC hP hD hS hl0
  have h1 := Nat.le_of_ble_eq_true hd
  have h2 := Nat.le_of_ble_eq_true hc
  exact va_mmin C.1 C.2.1 (C.2.2.1.trans hl0.1.symm) C.2.2.2.2.2.1 (C.2.2.2.2.2.2.1 _ (zTb_of hl rfl)) (C.2.2.2.2.2.2.1 _ (zTb_of (by decide +kernel) rfl)) (C.2.2.2.2.2.2.1 _ (zTb_of (by decide +kernel) rfl)) (C.2.2.2.2.2.2.1 _ (zTb_of (by decide +kernel) rfl)) h1 (by rw [zV_cats]; show _ + 13 ≤ 64 * d; omega) (Nat.zero_le _) (Nat.zero_le _) (zdec hM h) (k hM p l e s0 m args below meth c D cA ad A C H locs lsC hP hD hS hl0)
theorem zMaxL {x y : Int64} {idx : Nat} (hl : Cond.methodLink M.2.1.cls idx Lib.MathLoose.max_long.x ∈ tables_1) (h : zlk M.2.2.2.2.2 pc = some (.invokestatic idx, 3)) (hd : Nat.ble 1 d = true) (hc : Nat.ble ((rest.map fun v => v.category).sum) 8 = true) (k : zWA M Λ d res (pc + 3) ls (.long (zmaxL x y) :: rest) s) : zWA M Λ d res pc ls (.long y :: .long x :: rest) s := by
  intro hM p l e s0 m args below meth c D cA ad A C H locs lsC hP hD hS hl0
  have h1 := Nat.le_of_ble_eq_true hd
  have h2 := Nat.le_of_ble_eq_true hc
  exact va_mmax_long C.1 C.2.1 (C.2.2.1.trans hl0.1.symm) C.2.2.2.2.2.1 (C.2.2.2.2.2.2.1 _ (zTb_of hl rfl)) (C.2.2.2.2.2.2.1 _ (zTb_of (by decide +kernel) rfl)) (C.2.2.2.2.2.2.1 _ (zTb_of (by decide +kernel) rfl)) (C.2.2.2.2.2.2.1 _ (zTb_of (by decide +kernel) rfl)) h1 (by rw [zV_cats]; show _ + 15 ≤ 64 * d; omega) (Nat.zero_le _) (Nat.zero_le _) (zdec hM h) (k hM p l e s0 m args below meth c D cA ad A C H locs lsC hP hD hS hl0)
theorem zAbsL {x : Int64} {idx : Nat} (hl : Cond.methodLink M.2.1.cls idx Lib.MathLoose.abs_long.x ∈ tables_1) (h : zlk M.2.2.2.2.2 pc = some (.invokestatic idx, 3)) (hd : Nat.ble 1 d = true) (hc : Nat.ble ((rest.map fun v => v.category).sum) 8 = true) (k : zWA M Λ d res (pc + 3) ls (.long (zabsL x) :: rest) s) : zWA M Λ d res pc ls (.long x :: rest) s := by
  intro hM p l e s0 m args below meth c D cA ad A C H locs lsC hP hD hS hl0
  have h1 := Nat.le_of_ble_eq_true hd
  have h2 := Nat.le_of_ble_eq_true hc
  exact va_mabs_long C.1 C.2.1 (C.2.2.1.trans hl0.1.symm) C.2.2.2.2.2.1 (C.2.2.2.2.2.2.1 _ (zTb_of hl rfl)) (C.2.2.2.2.2.2.1 _ (zTb_of (by decide +kernel) rfl)) (C.2.2.2.2.2.2.1 _ (zTb_of (by decide +kernel) rfl)) (C.2.2.2.2.2.2.1 _ (zTb_of (by decide +kernel) rfl)) h1 (by rw [zV_cats]; show _ + 13 ≤ 64 * d; omega) (Nat.zero_le _) (Nat.zero_le _) (zdec hM h) (k hM p l e s0 m args below meth c D cA ad A C H locs lsC hP hD hS hl0)
theorem zCpyI {α : Type} {r : α} {g : zSt → Option α} {k0 k1 n0 n1 b0 b1 idx : Nat} {sp dp n : Int32} (hf : (zcp s k0 n0 k1 n1 sp dp n).bind g = some r) (hl : Cond.methodLink M.2.1.cls idx arraycopyName ∈ tables_1) (h : zlk M.2.2.2.2.2 pc = some (.invokestatic idx, 3)) (hd : Nat.ble 1 d = true) (hc : Nat.ble ((rest.map fun v => v.category).sum) 8 = true) (h0 : Λ[k0]? = some (.inr (0, n0, b0))) (h1 : Λ[k1]? = some (.inr (0, n1, b1)))
    (kk : ∀ s', g s' = some r → zWA M Λ d res (pc + 3) ls rest s') : zWA M Λ d res pc ls (.int n :: .int dp :: .ref k1 :: .int sp :: .ref k0 :: rest) s := by
  refine zBd hf fun s' e1 e2 => ?_
  unfold zcp at e1
  refine zIte e1 (fun hin e1 => ?_) (fun _ e1 => by cases e1)
  cases e1
  intro hM p l e s0 m args below meth c D cA ad A C H locs lsC hP hD hS hl0
  have hd1 := Nat.le_of_ble_eq_true hd
  have hc1 := Nat.le_of_ble_eq_true hc
  refine va_copyi (tys := zTy cA) (ty := .int) C.1 C.2.1 (C.2.2.1.trans hl0.1.symm) C.2.2.2.2.2.1 (C.2.2.2.2.2.2.1 _ (zTb_of hl rfl)) (C.2.2.2.2.2.2.1 _ (zTb_of (by decide +kernel) rfl)) (C.2.2.2.2.2.2.1 _ (zTb_of (by decide +kernel) rfl)) (C.2.2.2.2.2.2.1 _ (zTb_of (by decide +kernel) rfl)) C.2.2.2.2.2.2.2.1 hP hD hS k0 k1 0 0 (zW_get h0) (zW_get h1) rfl rfl rfl hin.1 hin.2.1 hin.2.2.1 hin.2.2.2.1 hin.2.2.2.2 (fun i _ => rfl) hd1 ?_ (zdec hM h) (fun H1 locs1 hP1 hD1 hS1 => ?_)
  · rw [zV_cats]
    have : nativeFrameWords "java/lang/System" "arraycopy" 5 + 11 ≤ 56 := by decide +kernel
    show _ + _ ≤ 64 * d
    omega
  · have e2' : zC ad cA (zcps s k0 k1 sp.toNatClampNeg dp.toNatClampNeg n.toNatClampNeg) k1 (.inr (0, n1, b1)) = .inl (cA 0, n1, .inl (va_cpy (s.1 k0) (s.1 k1) sp.toNatClampNeg dp.toNatClampNeg n.toNatClampNeg)) := by simp only [zC, zcps, if_true]
    have e3 := zW_set (ad := ad) (cA := cA) (s := s) (t := zcps s k0 k1 sp.toNatClampNeg dp.toNatClampNeg n.toNatClampNeg) h1 (fun j hj => ⟨if_neg hj, rfl⟩)
    rw [e2'] at e3
    rw [e3] at hP1 hD1
    exact kk _ e2 hM p l e s0 m args below meth c D cA ad A C H1 locs1 lsC hP1 hD1 hS1 hl0
theorem zCpyL {α : Type} {r : α} {g : zSt → Option α} {k0 k1 n0 n1 b0 b1 idx : Nat} {sp dp n : Int32} (hf : (zcpl s k0 n0 k1 n1 sp dp n).bind g = some r) (hl : Cond.methodLink M.2.1.cls idx arraycopyName ∈ tables_1) (h : zlk M.2.2.2.2.2 pc = some (.invokestatic idx, 3)) (hd : Nat.ble 1 d = true) (hc : Nat.ble ((rest.map fun v => v.category).sum) 8 = true) (h0 : Λ[k0]? = some (.inr (1, n0, b0))) (h1 : Λ[k1]? = some (.inr (1, n1, b1)))
    (kk : ∀ s', g s' = some r → zWA M Λ d res (pc + 3) ls rest s') : zWA M Λ d res pc ls (.int n :: .int dp :: .ref k1 :: .int sp :: .ref k0 :: rest) s := by
  refine zBd hf fun s' e1 e2 => ?_
  unfold zcpl at e1
  refine zIte e1 (fun hin e1 => ?_) (fun _ e1 => by cases e1)
  cases e1
  intro hM p l e s0 m args below meth c D cA ad A C H locs lsC hP hD hS hl0
  have hd1 := Nat.le_of_ble_eq_true hd
  have hc1 := Nat.le_of_ble_eq_true hc
  refine va_copyl (tys := zTy cA) (ty := .long) C.1 C.2.1 (C.2.2.1.trans hl0.1.symm) C.2.2.2.2.2.1 (C.2.2.2.2.2.2.1 _ (zTb_of hl rfl)) (C.2.2.2.2.2.2.1 _ (zTb_of (by decide +kernel) rfl)) (C.2.2.2.2.2.2.1 _ (zTb_of (by decide +kernel) rfl)) (C.2.2.2.2.2.2.1 _ (zTb_of (by decide +kernel) rfl)) C.2.2.2.2.2.2.2.1 hP hD hS k0 k1 1 1 (zW_get h0) (zW_get h1) rfl rfl rfl hin.1 hin.2.1 hin.2.2.1 hin.2.2.2.1 hin.2.2.2.2 (fun i _ => rfl) hd1 ?_ (zdec hM h) (fun H1 locs1 hP1 hD1 hS1 => ?_)
  · rw [zV_cats]
    have : nativeFrameWords "java/lang/System" "arraycopy" 5 + 11 ≤ 56 := by decide +kernel
    show _ + _ ≤ 64 * d
    omega
  · have e2' : zC ad cA (zcpsl s k0 k1 sp.toNatClampNeg dp.toNatClampNeg n.toNatClampNeg) k1 (.inr (1, n1, b1)) = .inl (cA 1, n1, .inr (.inl (va_cpy (s.2 k0) (s.2 k1) sp.toNatClampNeg dp.toNatClampNeg n.toNatClampNeg))) := by simp only [zC, zcpsl, if_true]
    have e3 := zW_set (ad := ad) (cA := cA) (s := s) (t := zcpsl s k0 k1 sp.toNatClampNeg dp.toNatClampNeg n.toNatClampNeg) h1 (fun j hj => ⟨rfl, if_neg hj⟩)
    rw [e2'] at e3
    rw [e3] at hP1 hD1
    exact kk _ e2 hM p l e s0 m args below meth c D cA ad A C H1 locs1 lsC hP1 hD1 hS1 hl0
end ZC
end
