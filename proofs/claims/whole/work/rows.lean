section
-- ===== PART A: goes FIRST, ahead of the names: the tables' words, and 'selects' of the private methods out of them =====
/-- a private method of a class that the tables say can be made, by its rows of tables_1 -/
def lw_okq (q : MethodName × Nat) : Prop := (q.1.cls ≠ "java/lang/invoke/MethodHandle" ∧ q.1.cls ≠ "java/lang/invoke/VarHandle") ∧ Cond.instantiable q.1.cls q.2 ∈ tables_1 ∧ Cond.privateMethod q.1 ∈ tables_1 ∧ Cond.instanceMethod q.1 ∈ tables_1
theorem lw_p0 : lw_okq (⟨"LemonGate", "shelfAt", "(I)LLemonGate$Shelf;"⟩, 11) := ⟨⟨by decide +kernel, by decide +kernel⟩, List.mem_of_getElem? (i := 18) (by decide +kernel), List.mem_of_getElem? (i := 348) (by decide +kernel), List.mem_of_getElem? (i := 349) (by decide +kernel)⟩
theorem lw_p1 : lw_okq (⟨"LemonGate", "heatsCome", "(LLemonGate$Shelf;III)I"⟩, 11) := ⟨⟨by decide +kernel, by decide +kernel⟩, List.mem_of_getElem? (i := 18) (by decide +kernel), List.mem_of_getElem? (i := 360) (by decide +kernel), List.mem_of_getElem? (i := 361) (by decide +kernel)⟩
theorem lw_p2 : lw_okq (⟨"LemonGate$Recipe", "remember", "(III)V"⟩, 6) := ⟨⟨by decide +kernel, by decide +kernel⟩, List.mem_of_getElem? (i := 26) (by decide +kernel), List.mem_of_getElem? (i := 405) (by decide +kernel), List.mem_of_getElem? (i := 406) (by decide +kernel)⟩
theorem lw_p3 : lw_okq (⟨"LemonGate$Recipe", "forgetOldest", "()V"⟩, 6) := ⟨⟨by decide +kernel, by decide +kernel⟩, List.mem_of_getElem? (i := 26) (by decide +kernel), List.mem_of_getElem? (i := 409) (by decide +kernel), List.mem_of_getElem? (i := 410) (by decide +kernel)⟩
theorem lw_p4 : lw_okq (⟨"LemonGate$Tape", "readLine", "()Z"⟩, 5) := ⟨⟨by decide +kernel, by decide +kernel⟩, List.mem_of_getElem? (i := 97) (by decide +kernel), List.mem_of_getElem? (i := 452) (by decide +kernel), List.mem_of_getElem? (i := 453) (by decide +kernel)⟩
theorem lw_p5 : lw_okq (⟨"LemonGate$Tape", "readEither", "(I)Z"⟩, 5) := ⟨⟨by decide +kernel, by decide +kernel⟩, List.mem_of_getElem? (i := 97) (by decide +kernel), List.mem_of_getElem? (i := 456) (by decide +kernel), List.mem_of_getElem? (i := 457) (by decide +kernel)⟩
theorem lw_p6 : lw_okq (⟨"LemonGate$Tape", "readBoth", "(I)Z"⟩, 5) := ⟨⟨by decide +kernel, by decide +kernel⟩, List.mem_of_getElem? (i := 97) (by decide +kernel), List.mem_of_getElem? (i := 460) (by decide +kernel), List.mem_of_getElem? (i := 461) (by decide +kernel)⟩
theorem lw_p7 : lw_okq (⟨"LemonGate$Tape", "readCompared", "(I)Z"⟩, 5) := ⟨⟨by decide +kernel, by decide +kernel⟩, List.mem_of_getElem? (i := 97) (by decide +kernel), List.mem_of_getElem? (i := 464) (by decide +kernel), List.mem_of_getElem? (i := 465) (by decide +kernel)⟩
theorem lw_p8 : lw_okq (⟨"LemonGate$Tape", "readSum", "(I)Z"⟩, 5) := ⟨⟨by decide +kernel, by decide +kernel⟩, List.mem_of_getElem? (i := 97) (by decide +kernel), List.mem_of_getElem? (i := 468) (by decide +kernel), List.mem_of_getElem? (i := 469) (by decide +kernel)⟩
theorem lw_p9 : lw_okq (⟨"LemonGate$Tape", "readProduct", "(I)Z"⟩, 5) := ⟨⟨by decide +kernel, by decide +kernel⟩, List.mem_of_getElem? (i := 97) (by decide +kernel), List.mem_of_getElem? (i := 472) (by decide +kernel), List.mem_of_getElem? (i := 473) (by decide +kernel)⟩
theorem lw_p10 : lw_okq (⟨"LemonGate$Tape", "readOperand", "(I)Z"⟩, 5) := ⟨⟨by decide +kernel, by decide +kernel⟩, List.mem_of_getElem? (i := 97) (by decide +kernel), List.mem_of_getElem? (i := 476) (by decide +kernel), List.mem_of_getElem? (i := 477) (by decide +kernel)⟩
theorem lw_p11 : lw_okq (⟨"LemonGate$Tape", "next", "()I"⟩, 5) := ⟨⟨by decide +kernel, by decide +kernel⟩, List.mem_of_getElem? (i := 97) (by decide +kernel), List.mem_of_getElem? (i := 480) (by decide +kernel), List.mem_of_getElem? (i := 481) (by decide +kernel)⟩
theorem lw_p12 : lw_okq (⟨"LemonGate$Tape", "readNumber", "()Z"⟩, 5) := ⟨⟨by decide +kernel, by decide +kernel⟩, List.mem_of_getElem? (i := 97) (by decide +kernel), List.mem_of_getElem? (i := 487) (by decide +kernel), List.mem_of_getElem? (i := 488) (by decide +kernel)⟩
theorem lw_p13 : lw_okq (⟨"LemonGate$Tape", "step", "(I)Z"⟩, 5) := ⟨⟨by decide +kernel, by decide +kernel⟩, List.mem_of_getElem? (i := 97) (by decide +kernel), List.mem_of_getElem? (i := 491) (by decide +kernel), List.mem_of_getElem? (i := 492) (by decide +kernel)⟩
theorem lw_p14 : lw_okq (⟨"LemonGate$Tape", "readName", "(I)Z"⟩, 5) := ⟨⟨by decide +kernel, by decide +kernel⟩, List.mem_of_getElem? (i := 97) (by decide +kernel), List.mem_of_getElem? (i := 495) (by decide +kernel), List.mem_of_getElem? (i := 496) (by decide +kernel)⟩
theorem lw_p15 : lw_okq (⟨"LemonGate$Tape", "took", "(I)Z"⟩, 5) := ⟨⟨by decide +kernel, by decide +kernel⟩, List.mem_of_getElem? (i := 97) (by decide +kernel), List.mem_of_getElem? (i := 500) (by decide +kernel), List.mem_of_getElem? (i := 501) (by decide +kernel)⟩
def lw_privs_1 : List (MethodName × Nat) := [(⟨"LemonGate", "shelfAt", "(I)LLemonGate$Shelf;"⟩, 11), (⟨"LemonGate", "heatsCome", "(LLemonGate$Shelf;III)I"⟩, 11), (⟨"LemonGate$Recipe", "remember", "(III)V"⟩, 6), (⟨"LemonGate$Recipe", "forgetOldest", "()V"⟩, 6), (⟨"LemonGate$Tape", "readLine", "()Z"⟩, 5), (⟨"LemonGate$Tape", "readEither", "(I)Z"⟩, 5), (⟨"LemonGate$Tape", "readBoth", "(I)Z"⟩, 5), (⟨"LemonGate$Tape", "readCompared", "(I)Z"⟩, 5), (⟨"LemonGate$Tape", "readSum", "(I)Z"⟩, 5), (⟨"LemonGate$Tape", "readProduct", "(I)Z"⟩, 5), (⟨"LemonGate$Tape", "readOperand", "(I)Z"⟩, 5), (⟨"LemonGate$Tape", "next", "()I"⟩, 5), (⟨"LemonGate$Tape", "readNumber", "()Z"⟩, 5), (⟨"LemonGate$Tape", "step", "(I)Z"⟩, 5), (⟨"LemonGate$Tape", "readName", "(I)Z"⟩, 5), (⟨"LemonGate$Tape", "took", "(I)Z"⟩, 5)]
theorem lw_r1 : ∀ q ∈ lw_privs_1, lw_okq q := List.forall_mem_cons.mpr ⟨lw_p0, List.forall_mem_cons.mpr ⟨lw_p1, List.forall_mem_cons.mpr ⟨lw_p2, List.forall_mem_cons.mpr ⟨lw_p3, List.forall_mem_cons.mpr ⟨lw_p4, List.forall_mem_cons.mpr ⟨lw_p5, List.forall_mem_cons.mpr ⟨lw_p6, List.forall_mem_cons.mpr ⟨lw_p7, List.forall_mem_cons.mpr ⟨lw_p8, List.forall_mem_cons.mpr ⟨lw_p9, List.forall_mem_cons.mpr ⟨lw_p10, List.forall_mem_cons.mpr ⟨lw_p11, List.forall_mem_cons.mpr ⟨lw_p12, List.forall_mem_cons.mpr ⟨lw_p13, List.forall_mem_cons.mpr ⟨lw_p14, List.forall_mem_cons.mpr ⟨lw_p15, fun _ h => absurd h List.not_mem_nil⟩⟩⟩⟩⟩⟩⟩⟩⟩⟩⟩⟩⟩⟩⟩⟩
theorem lw_p16 : lw_okq (⟨"LemonGate$Laws", "look", "(IIII)V"⟩, 5) := ⟨⟨by decide +kernel, by decide +kernel⟩, List.mem_of_getElem? (i := 122) (by decide +kernel), List.mem_of_getElem? (i := 534) (by decide +kernel), List.mem_of_getElem? (i := 535) (by decide +kernel)⟩
theorem lw_p17 : lw_okq (⟨"LemonGate$Law", "isLineThatCounts", "(II)Z"⟩, 4) := ⟨⟨by decide +kernel, by decide +kernel⟩, List.mem_of_getElem? (i := 128) (by decide +kernel), List.mem_of_getElem? (i := 542) (by decide +kernel), List.mem_of_getElem? (i := 543) (by decide +kernel)⟩
theorem lw_p18 : lw_okq (⟨"LemonGate", "spend", "(LLemonGate$Day;III)V"⟩, 11) := ⟨⟨by decide +kernel, by decide +kernel⟩, List.mem_of_getElem? (i := 18) (by decide +kernel), List.mem_of_getElem? (i := 567) (by decide +kernel), List.mem_of_getElem? (i := 568) (by decide +kernel)⟩
theorem lw_p19 : lw_okq (⟨"LemonGate$Day", "refill", "()V"⟩, 14) := ⟨⟨by decide +kernel, by decide +kernel⟩, List.mem_of_getElem? (i := 166) (by decide +kernel), List.mem_of_getElem? (i := 577) (by decide +kernel), List.mem_of_getElem? (i := 578) (by decide +kernel)⟩
theorem lw_p20 : lw_okq (⟨"LemonGate$Day", "draw", "()I"⟩, 14) := ⟨⟨by decide +kernel, by decide +kernel⟩, List.mem_of_getElem? (i := 166) (by decide +kernel), List.mem_of_getElem? (i := 591) (by decide +kernel), List.mem_of_getElem? (i := 592) (by decide +kernel)⟩
theorem lw_p21 : lw_okq (⟨"LemonGate$Day", "emptyGlass", "()V"⟩, 14) := ⟨⟨by decide +kernel, by decide +kernel⟩, List.mem_of_getElem? (i := 166) (by decide +kernel), List.mem_of_getElem? (i := 597) (by decide +kernel), List.mem_of_getElem? (i := 598) (by decide +kernel)⟩
theorem lw_p22 : lw_okq (⟨"LemonGate$Day", "grow", "()V"⟩, 14) := ⟨⟨by decide +kernel, by decide +kernel⟩, List.mem_of_getElem? (i := 166) (by decide +kernel), List.mem_of_getElem? (i := 601) (by decide +kernel), List.mem_of_getElem? (i := 602) (by decide +kernel)⟩
theorem lw_p23 : lw_okq (⟨"LemonGate$Street", "firstOfMost", "(II)I"⟩, 8) := ⟨⟨by decide +kernel, by decide +kernel⟩, List.mem_of_getElem? (i := 57) (by decide +kernel), List.mem_of_getElem? (i := 643) (by decide +kernel), List.mem_of_getElem? (i := 644) (by decide +kernel)⟩
theorem lw_p24 : lw_okq (⟨"LemonGate", "firstWrong", "(LLemonGate$Shelf;I)I"⟩, 11) := ⟨⟨by decide +kernel, by decide +kernel⟩, List.mem_of_getElem? (i := 18) (by decide +kernel), List.mem_of_getElem? (i := 657) (by decide +kernel), List.mem_of_getElem? (i := 658) (by decide +kernel)⟩
theorem lw_p25 : lw_okq (⟨"LemonGate", "meanGain", "(IIII)J"⟩, 11) := ⟨⟨by decide +kernel, by decide +kernel⟩, List.mem_of_getElem? (i := 18) (by decide +kernel), List.mem_of_getElem? (i := 670) (by decide +kernel), List.mem_of_getElem? (i := 671) (by decide +kernel)⟩
theorem lw_p26 : lw_okq (⟨"LemonGate$Three", "addedInAllOrders", "(I)I"⟩, 2) := ⟨⟨by decide +kernel, by decide +kernel⟩, List.mem_of_getElem? (i := 218) (by decide +kernel), List.mem_of_getElem? (i := 715) (by decide +kernel), List.mem_of_getElem? (i := 716) (by decide +kernel)⟩
theorem lw_p27 : lw_okq (⟨"LemonGate$Slates", "mostGroups", "(I)I"⟩, 3) := ⟨⟨by decide +kernel, by decide +kernel⟩, List.mem_of_getElem? (i := 233) (by decide +kernel), List.mem_of_getElem? (i := 753) (by decide +kernel), List.mem_of_getElem? (i := 754) (by decide +kernel)⟩
theorem lw_p28 : lw_okq (⟨"LemonGate$Glasses", "run", "(IIII)I"⟩, 5) := ⟨⟨by decide +kernel, by decide +kernel⟩, List.mem_of_getElem? (i := 249) (by decide +kernel), List.mem_of_getElem? (i := 816) (by decide +kernel), List.mem_of_getElem? (i := 817) (by decide +kernel)⟩
theorem lw_p29 : lw_okq (⟨"LemonGate$Glasses", "note", "(I)V"⟩, 5) := ⟨⟨by decide +kernel, by decide +kernel⟩, List.mem_of_getElem? (i := 249) (by decide +kernel), List.mem_of_getElem? (i := 828) (by decide +kernel), List.mem_of_getElem? (i := 829) (by decide +kernel)⟩
theorem lw_p30 : lw_okq (⟨"LemonGateModel", "isPlace", "(I)Z"⟩, 51) := ⟨⟨by decide +kernel, by decide +kernel⟩, List.mem_of_getElem? (i := 897) (by decide +kernel), List.mem_of_getElem? (i := 1094) (by decide +kernel), List.mem_of_getElem? (i := 1095) (by decide +kernel)⟩
theorem lw_p31 : lw_okq (⟨"LemonGateModel", "becomes", "(II)I"⟩, 51) := ⟨⟨by decide +kernel, by decide +kernel⟩, List.mem_of_getElem? (i := 897) (by decide +kernel), List.mem_of_getElem? (i := 1116) (by decide +kernel), List.mem_of_getElem? (i := 1117) (by decide +kernel)⟩
def lw_privs_2 : List (MethodName × Nat) := [(⟨"LemonGate$Laws", "look", "(IIII)V"⟩, 5), (⟨"LemonGate$Law", "isLineThatCounts", "(II)Z"⟩, 4), (⟨"LemonGate", "spend", "(LLemonGate$Day;III)V"⟩, 11), (⟨"LemonGate$Day", "refill", "()V"⟩, 14), (⟨"LemonGate$Day", "draw", "()I"⟩, 14), (⟨"LemonGate$Day", "emptyGlass", "()V"⟩, 14), (⟨"LemonGate$Day", "grow", "()V"⟩, 14), (⟨"LemonGate$Street", "firstOfMost", "(II)I"⟩, 8), (⟨"LemonGate", "firstWrong", "(LLemonGate$Shelf;I)I"⟩, 11), (⟨"LemonGate", "meanGain", "(IIII)J"⟩, 11), (⟨"LemonGate$Three", "addedInAllOrders", "(I)I"⟩, 2), (⟨"LemonGate$Slates", "mostGroups", "(I)I"⟩, 3), (⟨"LemonGate$Glasses", "run", "(IIII)I"⟩, 5), (⟨"LemonGate$Glasses", "note", "(I)V"⟩, 5), (⟨"LemonGateModel", "isPlace", "(I)Z"⟩, 51), (⟨"LemonGateModel", "becomes", "(II)I"⟩, 51)]
theorem lw_r2 : ∀ q ∈ lw_privs_2, lw_okq q := List.forall_mem_cons.mpr ⟨lw_p16, List.forall_mem_cons.mpr ⟨lw_p17, List.forall_mem_cons.mpr ⟨lw_p18, List.forall_mem_cons.mpr ⟨lw_p19, List.forall_mem_cons.mpr ⟨lw_p20, List.forall_mem_cons.mpr ⟨lw_p21, List.forall_mem_cons.mpr ⟨lw_p22, List.forall_mem_cons.mpr ⟨lw_p23, List.forall_mem_cons.mpr ⟨lw_p24, List.forall_mem_cons.mpr ⟨lw_p25, List.forall_mem_cons.mpr ⟨lw_p26, List.forall_mem_cons.mpr ⟨lw_p27, List.forall_mem_cons.mpr ⟨lw_p28, List.forall_mem_cons.mpr ⟨lw_p29, List.forall_mem_cons.mpr ⟨lw_p30, List.forall_mem_cons.mpr ⟨lw_p31, fun _ h => absurd h List.not_mem_nil⟩⟩⟩⟩⟩⟩⟩⟩⟩⟩⟩⟩⟩⟩⟩⟩
theorem lw_p32 : lw_okq (⟨"LemonGateModel", "jugCost", "()I"⟩, 51) := ⟨⟨by decide +kernel, by decide +kernel⟩, List.mem_of_getElem? (i := 897) (by decide +kernel), List.mem_of_getElem? (i := 1126) (by decide +kernel), List.mem_of_getElem? (i := 1127) (by decide +kernel)⟩
theorem lw_p33 : lw_okq (⟨"LemonGateModel", "workOut", "(II)I"⟩, 51) := ⟨⟨by decide +kernel, by decide +kernel⟩, List.mem_of_getElem? (i := 897) (by decide +kernel), List.mem_of_getElem? (i := 1142) (by decide +kernel), List.mem_of_getElem? (i := 1143) (by decide +kernel)⟩
theorem lw_p34 : lw_okq (⟨"LemonGateModel", "either", "()I"⟩, 51) := ⟨⟨by decide +kernel, by decide +kernel⟩, List.mem_of_getElem? (i := 897) (by decide +kernel), List.mem_of_getElem? (i := 1146) (by decide +kernel), List.mem_of_getElem? (i := 1147) (by decide +kernel)⟩
theorem lw_p35 : lw_okq (⟨"LemonGateModel", "both", "()I"⟩, 51) := ⟨⟨by decide +kernel, by decide +kernel⟩, List.mem_of_getElem? (i := 897) (by decide +kernel), List.mem_of_getElem? (i := 1150) (by decide +kernel), List.mem_of_getElem? (i := 1151) (by decide +kernel)⟩
theorem lw_p36 : lw_okq (⟨"LemonGateModel", "compared", "()I"⟩, 51) := ⟨⟨by decide +kernel, by decide +kernel⟩, List.mem_of_getElem? (i := 897) (by decide +kernel), List.mem_of_getElem? (i := 1154) (by decide +kernel), List.mem_of_getElem? (i := 1155) (by decide +kernel)⟩
theorem lw_p37 : lw_okq (⟨"LemonGateModel", "sums", "()I"⟩, 51) := ⟨⟨by decide +kernel, by decide +kernel⟩, List.mem_of_getElem? (i := 897) (by decide +kernel), List.mem_of_getElem? (i := 1158) (by decide +kernel), List.mem_of_getElem? (i := 1159) (by decide +kernel)⟩
theorem lw_p38 : lw_okq (⟨"LemonGateModel", "product", "()I"⟩, 51) := ⟨⟨by decide +kernel, by decide +kernel⟩, List.mem_of_getElem? (i := 897) (by decide +kernel), List.mem_of_getElem? (i := 1162) (by decide +kernel), List.mem_of_getElem? (i := 1163) (by decide +kernel)⟩
theorem lw_p39 : lw_okq (⟨"LemonGateModel", "one", "()I"⟩, 51) := ⟨⟨by decide +kernel, by decide +kernel⟩, List.mem_of_getElem? (i := 897) (by decide +kernel), List.mem_of_getElem? (i := 1166) (by decide +kernel), List.mem_of_getElem? (i := 1167) (by decide +kernel)⟩
theorem lw_p40 : lw_okq (⟨"LemonGateModel", "byteAt", "()I"⟩, 51) := ⟨⟨by decide +kernel, by decide +kernel⟩, List.mem_of_getElem? (i := 897) (by decide +kernel), List.mem_of_getElem? (i := 1170) (by decide +kernel), List.mem_of_getElem? (i := 1171) (by decide +kernel)⟩
theorem lw_p41 : lw_okq (⟨"LemonGateModel", "wrong", "()I"⟩, 51) := ⟨⟨by decide +kernel, by decide +kernel⟩, List.mem_of_getElem? (i := 897) (by decide +kernel), List.mem_of_getElem? (i := 1174) (by decide +kernel), List.mem_of_getElem? (i := 1175) (by decide +kernel)⟩
theorem lw_p42 : lw_okq (⟨"LemonGateModel", "takes", "(I)Z"⟩, 51) := ⟨⟨by decide +kernel, by decide +kernel⟩, List.mem_of_getElem? (i := 897) (by decide +kernel), List.mem_of_getElem? (i := 1178) (by decide +kernel), List.mem_of_getElem? (i := 1179) (by decide +kernel)⟩
theorem lw_p43 : lw_okq (⟨"LemonGateModel", "tasteOf", "(II)I"⟩, 51) := ⟨⟨by decide +kernel, by decide +kernel⟩, List.mem_of_getElem? (i := 897) (by decide +kernel), List.mem_of_getElem? (i := 1189) (by decide +kernel), List.mem_of_getElem? (i := 1190) (by decide +kernel)⟩
theorem lw_p44 : lw_okq (⟨"LemonGateModel", "namesAll", "(III)V"⟩, 51) := ⟨⟨by decide +kernel, by decide +kernel⟩, List.mem_of_getElem? (i := 897) (by decide +kernel), List.mem_of_getElem? (i := 1193) (by decide +kernel), List.mem_of_getElem? (i := 1194) (by decide +kernel)⟩
theorem lw_p45 : lw_okq (⟨"LemonGateModel", "buysOf", "(II)I"⟩, 51) := ⟨⟨by decide +kernel, by decide +kernel⟩, List.mem_of_getElem? (i := 897) (by decide +kernel), List.mem_of_getElem? (i := 1200) (by decide +kernel), List.mem_of_getElem? (i := 1201) (by decide +kernel)⟩
theorem lw_p46 : lw_okq (⟨"LemonGateModel", "dayGoes", "(I)I"⟩, 51) := ⟨⟨by decide +kernel, by decide +kernel⟩, List.mem_of_getElem? (i := 897) (by decide +kernel), List.mem_of_getElem? (i := 1208) (by decide +kernel), List.mem_of_getElem? (i := 1209) (by decide +kernel)⟩
theorem lw_p47 : lw_okq (⟨"LemonGateModel", "makesOne", "()V"⟩, 51) := ⟨⟨by decide +kernel, by decide +kernel⟩, List.mem_of_getElem? (i := 897) (by decide +kernel), List.mem_of_getElem? (i := 1212) (by decide +kernel), List.mem_of_getElem? (i := 1213) (by decide +kernel)⟩
def lw_privs_3 : List (MethodName × Nat) := [(⟨"LemonGateModel", "jugCost", "()I"⟩, 51), (⟨"LemonGateModel", "workOut", "(II)I"⟩, 51), (⟨"LemonGateModel", "either", "()I"⟩, 51), (⟨"LemonGateModel", "both", "()I"⟩, 51), (⟨"LemonGateModel", "compared", "()I"⟩, 51), (⟨"LemonGateModel", "sums", "()I"⟩, 51), (⟨"LemonGateModel", "product", "()I"⟩, 51), (⟨"LemonGateModel", "one", "()I"⟩, 51), (⟨"LemonGateModel", "byteAt", "()I"⟩, 51), (⟨"LemonGateModel", "wrong", "()I"⟩, 51), (⟨"LemonGateModel", "takes", "(I)Z"⟩, 51), (⟨"LemonGateModel", "tasteOf", "(II)I"⟩, 51), (⟨"LemonGateModel", "namesAll", "(III)V"⟩, 51), (⟨"LemonGateModel", "buysOf", "(II)I"⟩, 51), (⟨"LemonGateModel", "dayGoes", "(I)I"⟩, 51), (⟨"LemonGateModel", "makesOne", "()V"⟩, 51)]
theorem lw_r3 : ∀ q ∈ lw_privs_3, lw_okq q := List.forall_mem_cons.mpr ⟨lw_p32, List.forall_mem_cons.mpr ⟨lw_p33, List.forall_mem_cons.mpr ⟨lw_p34, List.forall_mem_cons.mpr ⟨lw_p35, List.forall_mem_cons.mpr ⟨lw_p36, List.forall_mem_cons.mpr ⟨lw_p37, List.forall_mem_cons.mpr ⟨lw_p38, List.forall_mem_cons.mpr ⟨lw_p39, List.forall_mem_cons.mpr ⟨lw_p40, List.forall_mem_cons.mpr ⟨lw_p41, List.forall_mem_cons.mpr ⟨lw_p42, List.forall_mem_cons.mpr ⟨lw_p43, List.forall_mem_cons.mpr ⟨lw_p44, List.forall_mem_cons.mpr ⟨lw_p45, List.forall_mem_cons.mpr ⟨lw_p46, List.forall_mem_cons.mpr ⟨lw_p47, fun _ h => absurd h List.not_mem_nil⟩⟩⟩⟩⟩⟩⟩⟩⟩⟩⟩⟩⟩⟩⟩⟩
theorem lw_p48 : lw_okq (⟨"LemonGateModel", "quarterGoes", "(I)V"⟩, 51) := ⟨⟨by decide +kernel, by decide +kernel⟩, List.mem_of_getElem? (i := 897) (by decide +kernel), List.mem_of_getElem? (i := 1216) (by decide +kernel), List.mem_of_getElem? (i := 1217) (by decide +kernel)⟩
theorem lw_p49 : lw_okq (⟨"LemonGateModel", "passersIn", "(I)I"⟩, 51) := ⟨⟨by decide +kernel, by decide +kernel⟩, List.mem_of_getElem? (i := 897) (by decide +kernel), List.mem_of_getElem? (i := 1220) (by decide +kernel), List.mem_of_getElem? (i := 1221) (by decide +kernel)⟩
theorem lw_p50 : lw_okq (⟨"LemonGateModel", "draws", "()I"⟩, 51) := ⟨⟨by decide +kernel, by decide +kernel⟩, List.mem_of_getElem? (i := 897) (by decide +kernel), List.mem_of_getElem? (i := 1224) (by decide +kernel), List.mem_of_getElem? (i := 1225) (by decide +kernel)⟩
theorem lw_p51 : lw_okq (⟨"LemonGateModel", "gainOf", "(I)I"⟩, 51) := ⟨⟨by decide +kernel, by decide +kernel⟩, List.mem_of_getElem? (i := 897) (by decide +kernel), List.mem_of_getElem? (i := 1237) (by decide +kernel), List.mem_of_getElem? (i := 1238) (by decide +kernel)⟩
theorem lw_p52 : lw_okq (⟨"LemonGateModel", "passesBy", "(II)I"⟩, 51) := ⟨⟨by decide +kernel, by decide +kernel⟩, List.mem_of_getElem? (i := 897) (by decide +kernel), List.mem_of_getElem? (i := 1248) (by decide +kernel), List.mem_of_getElem? (i := 1249) (by decide +kernel)⟩
theorem lw_p53 : lw_okq (⟨"LemonGateModel", "passesAt", "(II)I"⟩, 51) := ⟨⟨by decide +kernel, by decide +kernel⟩, List.mem_of_getElem? (i := 897) (by decide +kernel), List.mem_of_getElem? (i := 1252) (by decide +kernel), List.mem_of_getElem? (i := 1253) (by decide +kernel)⟩
theorem lw_p54 : lw_okq (⟨"LemonGateModel", "dayIs", "(I)I"⟩, 51) := ⟨⟨by decide +kernel, by decide +kernel⟩, List.mem_of_getElem? (i := 897) (by decide +kernel), List.mem_of_getElem? (i := 1260) (by decide +kernel), List.mem_of_getElem? (i := 1261) (by decide +kernel)⟩
theorem lw_p55 : lw_okq (⟨"LemonGateModel", "firstFalse", "(II)I"⟩, 51) := ⟨⟨by decide +kernel, by decide +kernel⟩, List.mem_of_getElem? (i := 897) (by decide +kernel), List.mem_of_getElem? (i := 1264) (by decide +kernel), List.mem_of_getElem? (i := 1265) (by decide +kernel)⟩
theorem lw_p56 : lw_okq (⟨"LemonGateModel", "addsOf", "(I)I"⟩, 51) := ⟨⟨by decide +kernel, by decide +kernel⟩, List.mem_of_getElem? (i := 897) (by decide +kernel), List.mem_of_getElem? (i := 1304) (by decide +kernel), List.mem_of_getElem? (i := 1305) (by decide +kernel)⟩
theorem lw_p57 : lw_okq (⟨"LemonGateModel", "owesOf", "(I)I"⟩, 51) := ⟨⟨by decide +kernel, by decide +kernel⟩, List.mem_of_getElem? (i := 897) (by decide +kernel), List.mem_of_getElem? (i := 1317) (by decide +kernel), List.mem_of_getElem? (i := 1318) (by decide +kernel)⟩
theorem lw_p58 : lw_okq (⟨"LemonGateModel", "allHeats", "()I"⟩, 51) := ⟨⟨by decide +kernel, by decide +kernel⟩, List.mem_of_getElem? (i := 897) (by decide +kernel), List.mem_of_getElem? (i := 1329) (by decide +kernel), List.mem_of_getElem? (i := 1330) (by decide +kernel)⟩
theorem lw_p59 : lw_okq (⟨"LemonGateModel", "isBody", "(I)Z"⟩, 51) := ⟨⟨by decide +kernel, by decide +kernel⟩, List.mem_of_getElem? (i := 897) (by decide +kernel), List.mem_of_getElem? (i := 1345) (by decide +kernel), List.mem_of_getElem? (i := 1346) (by decide +kernel)⟩
theorem lw_p60 : lw_okq (⟨"LemonGateModel", "makesAs", "(II)I"⟩, 51) := ⟨⟨by decide +kernel, by decide +kernel⟩, List.mem_of_getElem? (i := 897) (by decide +kernel), List.mem_of_getElem? (i := 1349) (by decide +kernel), List.mem_of_getElem? (i := 1350) (by decide +kernel)⟩
theorem lw_p61 : lw_okq (⟨"LemonGateModel", "begins", "(I)V"⟩, 51) := ⟨⟨by decide +kernel, by decide +kernel⟩, List.mem_of_getElem? (i := 897) (by decide +kernel), List.mem_of_getElem? (i := 1353) (by decide +kernel), List.mem_of_getElem? (i := 1354) (by decide +kernel)⟩
theorem lw_p62 : lw_okq (⟨"LemonGateModel", "sellsAs", "(II)I"⟩, 51) := ⟨⟨by decide +kernel, by decide +kernel⟩, List.mem_of_getElem? (i := 897) (by decide +kernel), List.mem_of_getElem? (i := 1357) (by decide +kernel), List.mem_of_getElem? (i := 1358) (by decide +kernel)⟩
theorem lw_p63 : lw_okq (⟨"LemonGateModel", "sharesAs", "(II)I"⟩, 51) := ⟨⟨by decide +kernel, by decide +kernel⟩, List.mem_of_getElem? (i := 897) (by decide +kernel), List.mem_of_getElem? (i := 1361) (by decide +kernel), List.mem_of_getElem? (i := 1362) (by decide +kernel)⟩
def lw_privs_4 : List (MethodName × Nat) := [(⟨"LemonGateModel", "quarterGoes", "(I)V"⟩, 51), (⟨"LemonGateModel", "passersIn", "(I)I"⟩, 51), (⟨"LemonGateModel", "draws", "()I"⟩, 51), (⟨"LemonGateModel", "gainOf", "(I)I"⟩, 51), (⟨"LemonGateModel", "passesBy", "(II)I"⟩, 51), (⟨"LemonGateModel", "passesAt", "(II)I"⟩, 51), (⟨"LemonGateModel", "dayIs", "(I)I"⟩, 51), (⟨"LemonGateModel", "firstFalse", "(II)I"⟩, 51), (⟨"LemonGateModel", "addsOf", "(I)I"⟩, 51), (⟨"LemonGateModel", "owesOf", "(I)I"⟩, 51), (⟨"LemonGateModel", "allHeats", "()I"⟩, 51), (⟨"LemonGateModel", "isBody", "(I)Z"⟩, 51), (⟨"LemonGateModel", "makesAs", "(II)I"⟩, 51), (⟨"LemonGateModel", "begins", "(I)V"⟩, 51), (⟨"LemonGateModel", "sellsAs", "(II)I"⟩, 51), (⟨"LemonGateModel", "sharesAs", "(II)I"⟩, 51)]
theorem lw_r4 : ∀ q ∈ lw_privs_4, lw_okq q := List.forall_mem_cons.mpr ⟨lw_p48, List.forall_mem_cons.mpr ⟨lw_p49, List.forall_mem_cons.mpr ⟨lw_p50, List.forall_mem_cons.mpr ⟨lw_p51, List.forall_mem_cons.mpr ⟨lw_p52, List.forall_mem_cons.mpr ⟨lw_p53, List.forall_mem_cons.mpr ⟨lw_p54, List.forall_mem_cons.mpr ⟨lw_p55, List.forall_mem_cons.mpr ⟨lw_p56, List.forall_mem_cons.mpr ⟨lw_p57, List.forall_mem_cons.mpr ⟨lw_p58, List.forall_mem_cons.mpr ⟨lw_p59, List.forall_mem_cons.mpr ⟨lw_p60, List.forall_mem_cons.mpr ⟨lw_p61, List.forall_mem_cons.mpr ⟨lw_p62, List.forall_mem_cons.mpr ⟨lw_p63, fun _ h => absurd h List.not_mem_nil⟩⟩⟩⟩⟩⟩⟩⟩⟩⟩⟩⟩⟩⟩⟩⟩
theorem lw_p64 : lw_okq (⟨"LemonGateModel", "tellsAs", "(II)I"⟩, 51) := ⟨⟨by decide +kernel, by decide +kernel⟩, List.mem_of_getElem? (i := 897) (by decide +kernel), List.mem_of_getElem? (i := 1365) (by decide +kernel), List.mem_of_getElem? (i := 1366) (by decide +kernel)⟩
theorem lw_p65 : lw_okq (⟨"LemonGateModel", "refusal", "(II)I"⟩, 51) := ⟨⟨by decide +kernel, by decide +kernel⟩, List.mem_of_getElem? (i := 897) (by decide +kernel), List.mem_of_getElem? (i := 1386) (by decide +kernel), List.mem_of_getElem? (i := 1387) (by decide +kernel)⟩
theorem lw_p66 : lw_okq (⟨"LemonGateModel", "kindOf", "(I)I"⟩, 51) := ⟨⟨by decide +kernel, by decide +kernel⟩, List.mem_of_getElem? (i := 897) (by decide +kernel), List.mem_of_getElem? (i := 1405) (by decide +kernel), List.mem_of_getElem? (i := 1406) (by decide +kernel)⟩
def lw_privs_5 : List (MethodName × Nat) := [(⟨"LemonGateModel", "tellsAs", "(II)I"⟩, 51), (⟨"LemonGateModel", "refusal", "(II)I"⟩, 51), (⟨"LemonGateModel", "kindOf", "(I)I"⟩, 51)]
theorem lw_r5 : ∀ q ∈ lw_privs_5, lw_okq q := List.forall_mem_cons.mpr ⟨lw_p64, List.forall_mem_cons.mpr ⟨lw_p65, List.forall_mem_cons.mpr ⟨lw_p66, fun _ h => absurd h List.not_mem_nil⟩⟩⟩
def lw_privs : List (MethodName × Nat) := lw_privs_1 ++ (lw_privs_2 ++ (lw_privs_3 ++ (lw_privs_4 ++ (lw_privs_5))))
def lw_tbl : List Cond := k2_sels lw_privs ++ tables_1
theorem lw_privs_ok : ∀ q ∈ lw_privs, lw_okq q := by
  show ∀ q ∈ lw_privs_1 ++ (lw_privs_2 ++ (lw_privs_3 ++ (lw_privs_4 ++ (lw_privs_5)))), lw_okq q
  exact List.forall_mem_append.mpr ⟨lw_r1, List.forall_mem_append.mpr ⟨lw_r2, List.forall_mem_append.mpr ⟨lw_r3, List.forall_mem_append.mpr ⟨lw_r4, lw_r5⟩⟩⟩⟩
end
section
/-! names of the classes, their fields, by number (printed by wip/whole/gen_names.py from the claim) -/
def zR0 : String := "LemonGate$Day"
def zT0 : u_T := fun k => match k with
  | 0 => ("LemonGate$Day", "soldIn", "[I", true)
  | 1 => ("LemonGate$Day", "sold", "I", false)
  | 2 => ("LemonGate$Day", "price", "I", false)
  | 3 => ("LemonGate$Day", "drunk", "I", false)
  | 4 => ("LemonGate$Day", "poured", "I", false)
  | 5 => ("LemonGate$Day", "left", "I", false)
  | 6 => ("LemonGate$Day", "made", "I", false)
  | 7 => ("LemonGate$Day", "age", "I", false)
  | 8 => ("LemonGate$Day", "z", "I", false)
  | 9 => ("LemonGate$Day", "jugs", "I", false)
  | 10 => ("LemonGate$Day", "jugCost", "I", false)
  | 11 => ("LemonGate$Day", "glasses", "I", false)
  | 12 => ("LemonGate$Day", "sour", "I", false)
  | _ => ("LemonGate$Day", "little", "I", false)
def zt0 : Nat → FieldType := fun k => match k with
  | 0 => .array (.int)
  | 1 => .int
  | 2 => .int
  | 3 => .int
  | 4 => .int
  | 5 => .int
  | 6 => .int
  | 7 => .int
  | 8 => .int
  | 9 => .int
  | 10 => .int
  | 11 => .int
  | 12 => .int
  | _ => .int
theorem zn0 : ∀ a, a < 14 → ∀ b, b < 14 → a ≠ b → (zT0 a).2.1 ≠ (zT0 b).2.1 := by decide +kernel
theorem zto0 : ∀ k, k < 14 → parseFieldDescriptor (zT0 k).2.2.1 = some (zt0 k) := by decide +kernel
def zR1 : String := "LemonGate$Glasses"
def zT1 : u_T := fun k => match k with
  | 0 => ("LemonGate$Glasses", "kinds", "[I", true)
  | 1 => ("LemonGate$Glasses", "size", "I", false)
  | 2 => ("LemonGate$Glasses", "ran", "[I", true)
  | 3 => ("LemonGate$Glasses", "begun", "I", false)
  | _ => ("LemonGate$Glasses", "acting", "I", false)
def zt1 : Nat → FieldType := fun k => match k with
  | 0 => .array (.int)
  | 1 => .int
  | 2 => .array (.int)
  | 3 => .int
  | _ => .int
theorem zn1 : ∀ a, a < 5 → ∀ b, b < 5 → a ≠ b → (zT1 a).2.1 ≠ (zT1 b).2.1 := by decide +kernel
theorem zto1 : ∀ k, k < 5 → parseFieldDescriptor (zT1 k).2.2.1 = some (zt1 k) := by decide +kernel
def zR2 : String := "LemonGate$Law"
def zT2 : u_T := fun k => match k with
  | 0 => ("LemonGate$Law", "steps", "[I", true)
  | 1 => ("LemonGate$Law", "stack", "[I", true)
  | 2 => ("LemonGate$Law", "length", "I", false)
  | _ => ("LemonGate$Law", "isTold", "Z", false)
def zt2 : Nat → FieldType := fun k => match k with
  | 0 => .array (.int)
  | 1 => .array (.int)
  | 2 => .int
  | _ => .boolean
theorem zn2 : ∀ a, a < 4 → ∀ b, b < 4 → a ≠ b → (zT2 a).2.1 ≠ (zT2 b).2.1 := by decide +kernel
theorem zto2 : ∀ k, k < 4 → parseFieldDescriptor (zT2 k).2.2.1 = some (zt2 k) := by decide +kernel
def zR3 : String := "LemonGate$Laws"
def zT3 : u_T := fun k => match k with
  | 0 => ("LemonGate$Laws", "taste", "LLemonGate$Law;", true)
  | 1 => ("LemonGate$Laws", "buys", "LLemonGate$Law;", true)
  | 2 => ("LemonGate$Laws", "names", "[I", true)
  | 3 => ("LemonGate$Laws", "sour", "I", false)
  | _ => ("LemonGate$Laws", "found", "[I", true)
def zt3 : Nat → FieldType := fun k => match k with
  | 0 => .object "LemonGate$Law"
  | 1 => .object "LemonGate$Law"
  | 2 => .array (.int)
  | 3 => .int
  | _ => .array (.int)
theorem zn3 : ∀ a, a < 5 → ∀ b, b < 5 → a ≠ b → (zT3 a).2.1 ≠ (zT3 b).2.1 := by decide +kernel
theorem zto3 : ∀ k, k < 5 → parseFieldDescriptor (zT3 k).2.2.1 = some (zt3 k) := by decide +kernel
def zR4 : String := "LemonGate$Recipe"
def zT4 : u_T := fun k => match k with
  | 0 => ("LemonGate$Recipe", "now", "[I", true)
  | 1 => ("LemonGate$Recipe", "whats", "[I", true)
  | 2 => ("LemonGate$Recipe", "olds", "[I", true)
  | 3 => ("LemonGate$Recipe", "news", "[I", true)
  | 4 => ("LemonGate$Recipe", "done", "I", false)
  | _ => ("LemonGate$Recipe", "known", "I", false)
def zt4 : Nat → FieldType := fun k => match k with
  | 0 => .array (.int)
  | 1 => .array (.int)
  | 2 => .array (.int)
  | 3 => .array (.int)
  | 4 => .int
  | _ => .int
theorem zn4 : ∀ a, a < 6 → ∀ b, b < 6 → a ≠ b → (zT4 a).2.1 ≠ (zT4 b).2.1 := by decide +kernel
theorem zto4 : ∀ k, k < 6 → parseFieldDescriptor (zT4 k).2.2.1 = some (zt4 k) := by decide +kernel
def zR5 : String := "LemonGate$Shelf"
def zT5 : u_T := fun k => match k with
  | 0 => ("LemonGate$Shelf", "body", "I", false)
  | 1 => ("LemonGate$Shelf", "sort", "I", false)
  | 2 => ("LemonGate$Shelf", "length", "I", false)
  | _ => ("LemonGate$Shelf", "elements", "[J", true)
def zt5 : Nat → FieldType := fun k => match k with
  | 0 => .int
  | 1 => .int
  | 2 => .int
  | _ => .array (.long)
theorem zn5 : ∀ a, a < 4 → ∀ b, b < 4 → a ≠ b → (zT5 a).2.1 ≠ (zT5 b).2.1 := by decide +kernel
theorem zto5 : ∀ k, k < 4 → parseFieldDescriptor (zT5 k).2.2.1 = some (zt5 k) := by decide +kernel
def zR6 : String := "LemonGate$Slates"
def zT6 : u_T := fun k => match k with
  | 0 => ("LemonGate$Slates", "debts", "[I", true)
  | 1 => ("LemonGate$Slates", "sums", "[I", true)
  | _ => ("LemonGate$Slates", "groups", "[I", true)
def zt6 : Nat → FieldType := fun k => match k with
  | 0 => .array (.int)
  | 1 => .array (.int)
  | _ => .array (.int)
theorem zn6 : ∀ a, a < 3 → ∀ b, b < 3 → a ≠ b → (zT6 a).2.1 ≠ (zT6 b).2.1 := by decide +kernel
theorem zto6 : ∀ k, k < 3 → parseFieldDescriptor (zT6 k).2.2.1 = some (zt6 k) := by decide +kernel
def zR7 : String := "LemonGate$Street"
def zT7 : u_T := fun k => match k with
  | 0 => ("LemonGate$Street", "heats", "[I", true)
  | 1 => ("LemonGate$Street", "stands", "[I", true)
  | 2 => ("LemonGate$Street", "flows", "[I", true)
  | 3 => ("LemonGate$Street", "places", "I", false)
  | 4 => ("LemonGate$Street", "imageHeats", "[I", true)
  | 5 => ("LemonGate$Street", "imageStands", "[I", true)
  | 6 => ("LemonGate$Street", "hasImage", "Z", false)
  | _ => ("LemonGate$Street", "ahead", "[I", true)
def zt7 : Nat → FieldType := fun k => match k with
  | 0 => .array (.int)
  | 1 => .array (.int)
  | 2 => .array (.int)
  | 3 => .int
  | 4 => .array (.int)
  | 5 => .array (.int)
  | 6 => .boolean
  | _ => .array (.int)
theorem zn7 : ∀ a, a < 8 → ∀ b, b < 8 → a ≠ b → (zT7 a).2.1 ≠ (zT7 b).2.1 := by decide +kernel
theorem zto7 : ∀ k, k < 8 → parseFieldDescriptor (zT7 k).2.2.1 = some (zt7 k) := by decide +kernel
def zR8 : String := "LemonGate$Sums"
def zT8 : u_T := fun k => match k with
  | _ => ("", "", "", false)
def zt8 : Nat → FieldType := fun k => match k with
  | _ => .int
theorem zn8 : ∀ a, a < 0 → ∀ b, b < 0 → a ≠ b → (zT8 a).2.1 ≠ (zT8 b).2.1 := by decide +kernel
theorem zto8 : ∀ k, k < 0 → parseFieldDescriptor (zT8 k).2.2.1 = some (zt8 k) := by decide +kernel
def zR9 : String := "LemonGate$Tape"
def zT9 : u_T := fun k => match k with
  | 0 => ("LemonGate$Tape", "letters", "[I", true)
  | 1 => ("LemonGate$Tape", "length", "I", false)
  | 2 => ("LemonGate$Tape", "steps", "[I", true)
  | 3 => ("LemonGate$Tape", "made", "I", false)
  | _ => ("LemonGate$Tape", "place", "I", false)
def zt9 : Nat → FieldType := fun k => match k with
  | 0 => .array (.int)
  | 1 => .int
  | 2 => .array (.int)
  | 3 => .int
  | _ => .int
theorem zn9 : ∀ a, a < 5 → ∀ b, b < 5 → a ≠ b → (zT9 a).2.1 ≠ (zT9 b).2.1 := by decide +kernel
theorem zto9 : ∀ k, k < 5 → parseFieldDescriptor (zT9 k).2.2.1 = some (zt9 k) := by decide +kernel
def zR10 : String := "LemonGate$Three"
def zT10 : u_T := fun k => match k with
  | 0 => ("LemonGate$Three", "brought", "[I", true)
  | _ => ("LemonGate$Three", "worked", "[I", true)
def zt10 : Nat → FieldType := fun k => match k with
  | 0 => .array (.int)
  | _ => .array (.int)
theorem zn10 : ∀ a, a < 2 → ∀ b, b < 2 → a ≠ b → (zT10 a).2.1 ≠ (zT10 b).2.1 := by decide +kernel
theorem zto10 : ∀ k, k < 2 → parseFieldDescriptor (zT10 k).2.2.1 = some (zt10 k) := by decide +kernel
def zR11 : String := "LemonGate"
def zT11 : u_T := fun k => match k with
  | 0 => ("LemonGate", "recipe", "LLemonGate$Recipe;", true)
  | 1 => ("LemonGate", "street", "LLemonGate$Street;", true)
  | 2 => ("LemonGate", "tape", "LLemonGate$Tape;", true)
  | 3 => ("LemonGate", "laws", "LLemonGate$Laws;", true)
  | 4 => ("LemonGate", "latest", "LLemonGate$Day;", true)
  | 5 => ("LemonGate", "tried", "LLemonGate$Day;", true)
  | 6 => ("LemonGate", "hasDay", "Z", false)
  | 7 => ("LemonGate", "three", "LLemonGate$Three;", true)
  | 8 => ("LemonGate", "slates", "LLemonGate$Slates;", true)
  | 9 => ("LemonGate", "glasses", "LLemonGate$Glasses;", true)
  | _ => ("LemonGate", "shelves", "[LLemonGate$Shelf;", true)
def zt11 : Nat → FieldType := fun k => match k with
  | 0 => .object "LemonGate$Recipe"
  | 1 => .object "LemonGate$Street"
  | 2 => .object "LemonGate$Tape"
  | 3 => .object "LemonGate$Laws"
  | 4 => .object "LemonGate$Day"
  | 5 => .object "LemonGate$Day"
  | 6 => .boolean
  | 7 => .object "LemonGate$Three"
  | 8 => .object "LemonGate$Slates"
  | 9 => .object "LemonGate$Glasses"
  | _ => .array (.object "LemonGate$Shelf")
theorem zn11 : ∀ a, a < 11 → ∀ b, b < 11 → a ≠ b → (zT11 a).2.1 ≠ (zT11 b).2.1 := by decide +kernel
theorem zto11 : ∀ k, k < 11 → parseFieldDescriptor (zT11 k).2.2.1 = some (zt11 k) := by decide +kernel
def zR12 : String := "LemonGateModel"
def zT12 : u_T := fun k => match k with
  | 0 => ("LemonGateModel", "may", "[I", true)
  | 1 => ("LemonGateModel", "changeAt", "[I", true)
  | 2 => ("LemonGateModel", "changeWas", "[I", true)
  | 3 => ("LemonGateModel", "changeIs", "[I", true)
  | 4 => ("LemonGateModel", "keptMany", "I", false)
  | 5 => ("LemonGateModel", "done", "I", false)
  | 6 => ("LemonGateModel", "heat", "[I", true)
  | 7 => ("LemonGateModel", "stand", "[I", true)
  | 8 => ("LemonGateModel", "places", "I", false)
  | 9 => ("LemonGateModel", "flow", "[I", true)
  | 10 => ("LemonGateModel", "tape", "[I", true)
  | 11 => ("LemonGateModel", "tapeMany", "I", false)
  | 12 => ("LemonGateModel", "text", "[I", true)
  | 13 => ("LemonGateModel", "textMany", "[I", true)
  | 14 => ("LemonGateModel", "base", "I", false)
  | 15 => ("LemonGateModel", "at", "I", false)
  | 16 => ("LemonGateModel", "ends", "I", false)
  | 17 => ("LemonGateModel", "fault", "I", false)
  | 18 => ("LemonGateModel", "opened", "I", false)
  | 19 => ("LemonGateModel", "names", "[I", true)
  | 20 => ("LemonGateModel", "soldIn", "[I", true)
  | 21 => ("LemonGateModel", "z", "I", false)
  | 22 => ("LemonGateModel", "glasses", "I", false)
  | 23 => ("LemonGateModel", "age", "I", false)
  | 24 => ("LemonGateModel", "made", "I", false)
  | 25 => ("LemonGateModel", "drunk", "I", false)
  | 26 => ("LemonGateModel", "poured", "I", false)
  | 27 => ("LemonGateModel", "isTold", "Z", false)
  | 28 => ("LemonGateModel", "toldDay", "[I", true)
  | 29 => ("LemonGateModel", "toldSold", "[I", true)
  | 30 => ("LemonGateModel", "toldPrice", "I", false)
  | 31 => ("LemonGateModel", "passes", "[I", true)
  | 32 => ("LemonGateModel", "buyers", "[J", true)
  | 33 => ("LemonGateModel", "brought", "[I", true)
  | 34 => ("LemonGateModel", "minutes", "[I", true)
  | 35 => ("LemonGateModel", "slates", "[I", true)
  | 36 => ("LemonGateModel", "sums", "[I", true)
  | 37 => ("LemonGateModel", "parts", "[I", true)
  | 38 => ("LemonGateModel", "isKept", "Z", false)
  | 39 => ("LemonGateModel", "imageHeat", "[I", true)
  | 40 => ("LemonGateModel", "imageStand", "[I", true)
  | 41 => ("LemonGateModel", "bodies", "I", false)
  | 42 => ("LemonGateModel", "bodyKind", "[I", true)
  | 43 => ("LemonGateModel", "trace", "[I", true)
  | 44 => ("LemonGateModel", "ran", "I", false)
  | 45 => ("LemonGateModel", "ownKind", "I", false)
  | 46 => ("LemonGateModel", "ownNumber", "I", false)
  | 47 => ("LemonGateModel", "shelf", "[I", true)
  | 48 => ("LemonGateModel", "many", "[I", true)
  | 49 => ("LemonGateModel", "items", "[J", true)
  | _ => ("LemonGateModel", "carried", "[J", true)
def zt12 : Nat → FieldType := fun k => match k with
  | 0 => .array (.int)
  | 1 => .array (.int)
  | 2 => .array (.int)
  | 3 => .array (.int)
  | 4 => .int
  | 5 => .int
  | 6 => .array (.int)
  | 7 => .array (.int)
  | 8 => .int
  | 9 => .array (.int)
  | 10 => .array (.int)
  | 11 => .int
  | 12 => .array (.int)
  | 13 => .array (.int)
  | 14 => .int
  | 15 => .int
  | 16 => .int
  | 17 => .int
  | 18 => .int
  | 19 => .array (.int)
  | 20 => .array (.int)
  | 21 => .int
  | 22 => .int
  | 23 => .int
  | 24 => .int
  | 25 => .int
  | 26 => .int
  | 27 => .boolean
  | 28 => .array (.int)
  | 29 => .array (.int)
  | 30 => .int
  | 31 => .array (.int)
  | 32 => .array (.long)
  | 33 => .array (.int)
  | 34 => .array (.int)
  | 35 => .array (.int)
  | 36 => .array (.int)
  | 37 => .array (.int)
  | 38 => .boolean
  | 39 => .array (.int)
  | 40 => .array (.int)
  | 41 => .int
  | 42 => .array (.int)
  | 43 => .array (.int)
  | 44 => .int
  | 45 => .int
  | 46 => .int
  | 47 => .array (.int)
  | 48 => .array (.int)
  | 49 => .array (.long)
  | _ => .array (.long)
theorem zn12 : ∀ a, a < 51 → ∀ b, b < 51 → a ≠ b → (zT12 a).2.1 ≠ (zT12 b).2.1 := by decide +kernel
theorem zto12 : ∀ k, k < 51 → parseFieldDescriptor (zT12 k).2.2.1 = some (zt12 k) := by decide +kernel
/-- the classes whose objects the worlds hold -/
abbrev zCl : List vw_C := [(zR0, zT0, 14), (zR1, zT1, 5), (zR2, zT2, 4), (zR3, zT3, 5), (zR4, zT4, 6), (zR5, zT5, 4), (zR6, zT6, 3), (zR7, zT7, 8), (zR8, zT8, 0), (zR9, zT9, 5), (zR10, zT10, 2), (zR11, zT11, 11), (zR12, zT12, 51)]
def zTt (ci : Nat) : Nat → FieldType := match ci with
  | 0 => zt0
  | 1 => zt1
  | 2 => zt2
  | 3 => zt3
  | 4 => zt4
  | 5 => zt5
  | 6 => zt6
  | 7 => zt7
  | 8 => zt8
  | 9 => zt9
  | 10 => zt10
  | 11 => zt11
  | _ => zt12
def zNm (own : Nat) : String := match own with
  | 0 => zR0
  | 1 => zR1
  | 2 => zR2
  | 3 => zR3
  | 4 => zR4
  | 5 => zR5
  | 6 => zR6
  | 7 => zR7
  | 8 => zR8
  | 9 => zR9
  | 10 => zR10
  | 11 => zR11
  | 12 => zR12
  | 13 => "java/util/Arrays"
  | _ => ""
/-- field links: of an own class, by the entry: the class's number and the field's -/
def zfl (own : Nat) : List (Nat × Nat × Nat) := match own with
  | 0 => [(54, 4, 0), (73, 7, 0), (9, 0, 0), (21, 0, 1), (40, 0, 2), (25, 0, 3), (28, 0, 4), (31, 0, 5), (34, 0, 6), (85, 0, 7), (37, 0, 8), (43, 0, 9), (52, 0, 10), (57, 0, 11), (60, 0, 12), (63, 0, 13)]
  | 1 => [(9, 1, 0), (16, 1, 1), (13, 1, 2), (29, 1, 3), (42, 1, 4)]
  | 2 => [(31, 9, 2), (18, 9, 3), (11, 2, 0), (15, 2, 1), (28, 2, 2), (38, 2, 3)]
  | 3 => [(38, 4, 0), (63, 2, 3), (12, 3, 0), (18, 3, 1), (27, 3, 2), (49, 3, 3), (31, 3, 4)]
  | 4 => [(9, 4, 0), (15, 4, 1), (18, 4, 2), (21, 4, 3), (38, 4, 4), (45, 4, 5)]
  | 5 => [(11, 5, 0), (15, 5, 1), (22, 5, 2), (18, 5, 3)]
  | 6 => [(9, 6, 0), (13, 6, 1), (16, 6, 2)]
  | 7 => [(9, 7, 0), (15, 7, 1), (18, 7, 2), (36, 7, 3), (21, 7, 4), (24, 7, 5), (61, 7, 6), (27, 7, 7)]
  | 9 => [(9, 9, 0), (18, 9, 1), (15, 9, 2), (25, 9, 3), (22, 9, 4)]
  | 10 => [(9, 10, 0), (13, 10, 1)]
  | 11 => [(126, 4, 0), (267, 4, 4), (273, 4, 5), (83, 7, 0), (115, 7, 1), (112, 7, 2), (102, 7, 3), (258, 7, 6), (143, 9, 1), (178, 0, 0), (175, 0, 1), (181, 0, 2), (228, 10, 0), (231, 10, 1), (327, 1, 0), (277, 1, 1), (286, 1, 2), (330, 1, 3), (321, 5, 0), (309, 5, 1), (340, 5, 2), (305, 5, 3), (10, 11, 0), (19, 11, 1), (26, 11, 2), (33, 11, 3), (40, 11, 4), (44, 11, 5), (171, 11, 6), (50, 11, 7), (57, 11, 8), (64, 11, 9), (70, 11, 10)]
  | 12 => [(7, 12, 0), (13, 12, 1), (16, 12, 2), (19, 12, 3), (102, 12, 4), (98, 12, 5), (22, 12, 6), (25, 12, 7), (111, 12, 8), (28, 12, 9), (31, 12, 10), (162, 12, 11), (34, 12, 12), (37, 12, 13), (171, 12, 14), (165, 12, 15), (168, 12, 16), (174, 12, 17), (197, 12, 18), (40, 12, 19), (43, 12, 20), (226, 12, 21), (230, 12, 22), (236, 12, 23), (233, 12, 24), (248, 12, 25), (251, 12, 26), (261, 12, 27), (46, 12, 28), (49, 12, 29), (265, 12, 30), (52, 12, 31), (55, 12, 32), (59, 12, 33), (62, 12, 34), (65, 12, 35), (68, 12, 36), (71, 12, 37), (318, 12, 38), (74, 12, 39), (77, 12, 40), (324, 12, 41), (80, 12, 42), (83, 12, 43), (327, 12, 44), (342, 12, 45), (336, 12, 46), (86, 12, 47), (89, 12, 48), (92, 12, 49), (95, 12, 50)]
  | _ => []
def zsl (own : Nat) : List (Nat × Nat × Bool) := match own with
  | 1 => [(49, 3, false), (26, 4, false)]
  | 3 => [(21, 0, true)]
  | 4 => [(28, 1, false), (31, 2, false)]
  | 9 => [(70, 0, false)]
  | _ => []
def zki (own : Nat) : List (Nat × Int32) := match own with
  | 0 => [(100, 1103515245)]
  | 11 => [(139, -2000000000)]
  | 12 => [(155, -2000000000), (229, 1103515245)]
  | _ => []
def zkl (own : Nat) : List (Nat × Int64) := match own with
  | 11 => [(210, -9223372036854775808), (216, 12)]
  | 12 => [(105, 31), (118, 40), (313, 5), (123, 32), (131, 9), (133, 20), (135, 50), (137, 12), (147, 7), (149, 8), (156, 100), (158, 299), (160, 255), (290, 99), (292, 2), (296, -9223372036854775808), (302, 999), (304, 600), (306, 3), (311, 6), (354, 4)]
  | _ => []
/-- static arrays that nobody writes: class, name, descriptor, element type, contents -/
def zTab : List (String × String × String × FieldType × List Int32) := [
  ("LemonGate$Tape", "NAMES", "[C", .char, [108, 115, 103, 97, 104, 116, 112, 98, 113]),
  ("LemonGate$Recipe", "LEAST", "[I", .int, [0, 0, 1, 0, 0, 1, 0, 0]),
  ("LemonGate$Recipe", "MOST", "[I", .int, [9, 9, 20, 50, 50, 32, 12, 9]),
  ("LemonGate$Glasses", "BODIES", "[I", .int, [1, 10, 11, 2, 20, 0, 0, 0, 0, 30, 0, 0, 0, 41, 40, 0, 0, 0, 50, 0, 0, 0, 0, 60, 70, 0, 0, 0, 0, 80, 0, 81]),
  ("LemonGate$Glasses", "ABOVE", "[I", .int, [-1, 0, 0, 2, 1, 3, 0, 4])]
end
section
/-! THE LAYER: a method's world is a state of ints (by cell and place) and longs over a fixed layout of cells; references are numbers of cells -/
abbrev zSt : Type := (Nat → Nat → Int32) × (Nat → Nat → Int64)
/-- a cell's shape: an object (its class's number; a field: .inl its kind (0 int, 1 boolean), .inr the cell that it refers to) or an array (kind 0 int, 1 long, 2 references; length; the first cell that it refers to) -/
abbrev zD : Type := (Nat × List (Nat ⊕ Nat)) ⊕ (Nat × Nat × Nat)
def zV (ad : Nat → Nat) : Value → Value
  | .ref k => .ref (ad k)
  | .int x => .int x
  | .long x => .long x
  | v => v
def zF (ad : Nat → Nat) (s : zSt) (k j : Nat) : Nat ⊕ Nat → Value
  | .inl _ => .int (s.1 k j)
  | .inr r => .ref (ad r)
def zC (ad : Nat → Nat) (cA : Nat → ClassId) (s : zSt) (k : Nat) : zD → va_E
  | .inl o => .inr (o.1, o.2.mapIdx (fun j f => zF ad s k j f))
  | .inr (0, n, _) => .inl (cA 0, n, .inl (s.1 k))
  | .inr (1, n, _) => .inl (cA 1, n, .inr (.inl (s.2 k)))
  | .inr (_ + 2, n, b) => .inl (cA 2, n, .inr (.inr (.inr (.inr (fun j => some (ad (b + 2 * j)))))))
def zW (ad : Nat → Nat) (cA : Nat → ClassId) (Λ : List zD) (s : zSt) : va_W := Λ.mapIdx (fun k d => (ad k, zC ad cA s k d))
def zTy (cA : Nat → ClassId) : List (ClassId × FieldType) := [(cA 0, .int), (cA 1, .long), (cA 2, .object "LemonGate$Shelf")]
theorem zW_get {ad : Nat → Nat} {cA : Nat → ClassId} {Λ : List zD} {s : zSt} {k : Nat} {d : zD} (h : Λ[k]? = some d) : (zW ad cA Λ s)[k]? = some (ad k, zC ad cA s k d) := by
  simp [zW, List.getElem?_mapIdx, h]
theorem zW_at {ad : Nat → Nat} {cA : Nat → ClassId} {Λ : List zD} {s : zSt} {k : Nat} {q : Nat × va_E} (h : (zW ad cA Λ s)[k]? = some q) : q.1 = ad k ∧ k < Λ.length := by
  simp only [zW, List.getElem?_mapIdx, Option.map_eq_some_iff] at h
  obtain ⟨d, h1, h2⟩ := h
  exact ⟨by rw [← h2], (List.getElem?_eq_some_iff.mp h1).1⟩
theorem zW_at2 {ad : Nat → Nat} {cA : Nat → ClassId} {Λ : List zD} {s : zSt} {k : Nat} (h : k < Λ.length) : ∃ e, (zW ad cA Λ s)[k]? = some (ad k, e) := ⟨_, zW_get (List.getElem?_eq_getElem h)⟩
theorem zD_to {ad : Nat → Nat} {cA : Nat → ClassId} {Λ : List zD} {s t : zSt} {A : Nat → Prop} (h : va_D A (zW ad cA Λ s)) : va_D A (zW ad cA Λ t) := by
  refine ⟨fun i j p q hi hj e => ?_, fun k q hk => ?_⟩
  · obtain ⟨a1, b1⟩ := zW_at hi
    obtain ⟨a2, b2⟩ := zW_at hj
    obtain ⟨e1, c1⟩ := zW_at2 (ad := ad) (cA := cA) (s := s) b1
    obtain ⟨e2, c2⟩ := zW_at2 (ad := ad) (cA := cA) (s := s) b2
    exact h.1 i j _ _ c1 c2 (by show ad i = ad j; rw [← a1, ← a2]; exact e)
  · obtain ⟨a1, b1⟩ := zW_at hk
    obtain ⟨e1, c1⟩ := zW_at2 (ad := ad) (cA := cA) (s := s) b1
    rw [a1]
    exact h.2 k _ c1
theorem zA_to {ad : Nat → Nat} {cA : Nat → ClassId} {Λ : List zD} {s t : zSt} {sz q : Nat} (h : va_A (zW ad cA Λ s) sz q) : va_A (zW ad cA Λ t) sz q := by
  rcases h with ⟨k, e, h⟩ | h
  · obtain ⟨a1, b1⟩ := zW_at h
    obtain ⟨e1, c1⟩ := zW_at2 (ad := ad) (cA := cA) (s := t) b1
    exact Or.inl ⟨k, e1, by rw [c1, ← a1]⟩
  · exact Or.inr h
theorem zA_in {ad : Nat → Nat} {cA : Nat → ClassId} {Λ : List zD} {s : zSt} {sz q : Nat} {A : Nat → Prop} (hD : va_D A (zW ad cA Λ s)) (hA : ∀ q : Nat, sz ≤ q → A q) (h : va_A (zW ad cA Λ s) sz q) : A q := by
  rcases h with ⟨k, e, h⟩ | h
  · exact hD.2 k _ h
  · exact hA q h
/-- a place of a cell becomes v -/
def zw (s : zSt) (k j : Nat) (v : Int32) : zSt := (fun a => if a = k then upd (s.1 k) j v else s.1 a, s.2)
def zwl (s : zSt) (k j : Nat) (v : Int64) : zSt := (s.1, fun a => if a = k then vp_updL (s.2 k) j v else s.2 a)
theorem zW_set {ad : Nat → Nat} {cA : Nat → ClassId} {Λ : List zD} {s t : zSt} {k : Nat} {d : zD} (h : Λ[k]? = some d) (h1 : ∀ j : Nat, j ≠ k → t.1 j = s.1 j ∧ t.2 j = s.2 j) : (zW ad cA Λ s).set k (ad k, zC ad cA t k d) = zW ad cA Λ t := by
  apply List.ext_getElem?
  intro i
  by_cases hi : i = k
  · subst hi
    have hl : i < (zW ad cA Λ s).length := by
      simp only [zW, List.length_mapIdx]
      exact (List.getElem?_eq_some_iff.mp h).1
    rw [List.getElem?_set_self hl, zW_get h]
  · rw [List.getElem?_set_ne (Ne.symm hi)]
    simp only [zW, List.getElem?_mapIdx]
    cases hd : Λ[i]? with
    | none => rfl
    | some x =>
      obtain ⟨e1, e2⟩ := h1 i hi
      simp only [Option.map_some]
      congr 2
      rcases x with o | ⟨_ | _ | n, m, b⟩ <;> simp only [zC, e1, e2]
      have hz : ∀ (j : Nat) (f : Nat ⊕ Nat), zF ad s i j f = zF ad t i j f := fun j f => by cases f <;> simp only [zF, e1]
      simp only [hz]
theorem zw_same (s : zSt) (k j : Nat) (v : Int32) : (zw s k j v).1 k = upd (s.1 k) j v := if_pos rfl
theorem zw_ne (s : zSt) (k j : Nat) (v : Int32) : ∀ a : Nat, a ≠ k → (zw s k j v).1 a = s.1 a ∧ (zw s k j v).2 a = s.2 a := fun a h => ⟨if_neg h, rfl⟩
theorem zwl_same (s : zSt) (k j : Nat) (v : Int64) : (zwl s k j v).2 k = vp_updL (s.2 k) j v := if_pos rfl
theorem zwl_ne (s : zSt) (k j : Nat) (v : Int64) : ∀ a : Nat, a ≠ k → (zwl s k j v).1 a = s.1 a ∧ (zwl s k j v).2 a = s.2 a := fun a h => ⟨rfl, if_neg h⟩
/-- a field of an object is written -/
theorem zC_put {ad : Nat → Nat} {cA : Nat → ClassId} {s : zSt} {k j : Nat} {o : Nat × List (Nat ⊕ Nat)} {kd : Nat} (h : o.2[j]? = some (.inl kd)) (v : Int32) : zC ad cA (zw s k j v) k (.inl o) = .inr (o.1, (o.2.mapIdx (fun j f => zF ad s k j f)).set j (.int v)) := by
  show Sum.inr (o.1, _) = Sum.inr (o.1, _)
  congr 2
  apply List.ext_getElem?
  intro i
  have hl : j < o.2.length := (List.getElem?_eq_some_iff.mp h).1
  by_cases hi : i = j
  · subst hi
    rw [List.getElem?_set_self (by simp only [List.length_mapIdx]; exact hl), List.getElem?_mapIdx, h]
    simp [zF, zw_same, upd]
  · rw [List.getElem?_set_ne (Ne.symm hi)]
    simp only [List.getElem?_mapIdx]
    cases o.2[i]? with
    | none => rfl
    | some f => cases f <;> simp [zF, zw_same, upd, hi]
/-! the good words of the tables; what the statics hold; nest mates -/
def zTb : List Cond := lw_tbl.filter goodWord
def zNest : Cond → Bool
  | .methodLinkNest .. => true
  | .fieldLinkNest .. => true
  | _ => false
def zNw : List Cond := tables_1.filter zNest
theorem zTb_in {w : Cond} (h : w ∈ lw_tbl) (hg : goodWord w = true) : w ∈ zTb := List.mem_filter.mpr ⟨h, hg⟩
theorem zTb_good : GoodIn zTb zTb := fun w h => ⟨h, good_of_word (List.mem_filter.mp h).2⟩
def zSx (ad : Nat → Nat) (A : Nat → Prop) (s : State) : Prop :=
  (∀ (j : Nat) (e : String × String × String × FieldType × List Int32), zTab[j]? = some e → va_Z e.1 e.2.1 e.2.2.1 (.ref (ad (1000 + j))) A s s.heap ∧ va_T e.2.2.2.1 (ad (1000 + j)) e.2.2.2.2.length (fun i => .int (e.2.2.2.2.getD i 0)) A s s.heap) ∧ ∀ w ∈ zNw, va_Nw w s
theorem zSx_vm {ad : Nat → Nat} {A : Nat → Prop} {s t : State} (h : zSx ad A s) (hh : t.heap = s.heap) (hv : t.vm = s.vm) : zSx ad A t := by
  refine ⟨fun j e he => ?_, fun w hw => ?_⟩
  · obtain ⟨h1, h2⟩ := h.1 j e he
    rw [hh]
    have hal : s.vm.Alike t.vm := by rw [hv]; exact Vm.Alike.refl _
    exact ⟨h1.moved hal, h2.moved hal⟩
  · have hon : w.onTables = true := by
      have := (List.mem_filter.mp hw).2
      cases w <;> first | rfl | cases this
    exact va_Nw.same hon hv.symm (h.2 w hw)
theorem zSx_call {ad : Nat → Nat} {A B : Nat → Prop} {s t : State} {H : Heap} {locs : List Loc} (h : zSx ad A s) (hS : va_S A s.heap H locs) (hh : t.heap = H) (hW : s.WarmedH t.vm) (hB : ∀ q, B q → A q) : zSx ad B t := by
  refine ⟨fun j e he => ?_, fun w hw => ?_⟩
  · obtain ⟨h1, h2⟩ := h.1 j e he
    rw [hh]
    exact ⟨((h1.kept (H1 := H) (fun a q1 q2 => hS.2.1 a q1 q2)).narrow hB).moved hW.alike, ((h2.kept (H1 := H) (fun a q1 q2 => hS.2.1 a q1 q2)).narrow hB).moved hW.alike⟩
  · have hz := (List.mem_filter.mp hw).2
    have h1 := h.2 w hw
    cases w <;> first | exact va_Nw.warmM hW h1 | exact va_Nw.warmF hW h1 | cases hz
/-- a method: its class's number, name, code, locals, answer, its instructions -/
abbrev zM : Type := Nat × MethodName × ByteArray × Nat × Option FieldType × List (Nat × Instr × Nat)
def zMok (M : zM) : Prop := (∀ e ∈ M.2.2.2.2.2, decode M.2.2.1 e.1 = .ok (e.2.1, e.2.2)) ∧ zNm M.1 = M.2.1.cls ∧ Cond.code M.2.1 M.2.2.1 M.2.2.2.1 M.2.2.2.2.1 ∈ lw_tbl ∧ plainFor M.2.1 = true
def zRm (d : Nat) : Room := { frames := d, cells := 0, slots := 0, locals := 64 * d }
def zCx (M : zM) (D : va_G) (cA : Nat → ClassId) (ad : Nat → Nat) (A : Nat → Prop) (p : Program) (s : State) (m : MethodId) (args : Array Value) (meth : Method) (c : Code) : Prop :=
  p.tables.exec = Jvm.exec ∧ c.code = M.2.2.1 ∧ c.maxLocals = M.2.2.2.1 ∧ meth.sig.returnType = M.2.2.2.2.1 ∧ meth.locks = false ∧ s.vm.findClass M.2.1.cls = some m.cls ∧ (∀ w ∈ zTb, w.before args s = true) ∧ va_K D zCl (zTy cA) s ∧ zSx ad A s ∧ (∀ q : Nat, s.heap.size ≤ q → A q)
/-- how a method ends -/
def zQ (D : va_G) (cA : Nat → ClassId) (ad : Nat → Nat) (A : Nat → Prop) (Λ : List zD) (res : Option Value × zSt) : Array Value → State → Outcome → State → Prop := fun _ st oc t =>
  oc = .returned (res.1.map (zV ad)) ∧ va_P D zCl (zW ad cA Λ res.2) t.heap ∧ va_F A st t
/-- from here the method's own code comes to its end with res -/
def zWA (M : zM) (Λ : List zD) (d : Nat) (res : Option Value × zSt) (pc : Nat) (ls : List (Nat × Value)) (st : List Value) (σ : zSt) : Prop :=
  zMok M → ∀ (p : Program) (l : Launch) (e : Env) (s : State) (m : MethodId) (args : Array Value) (below : List Frame) (meth : Method) (c : Code) (D : va_G) (cA : Nat → ClassId) (ad : Nat → Nat) (A : Nat → Prop),
    zCx M D cA ad A p s m args meth c → ∀ (H : Heap) (locs : List Loc) (lsC : Array Slot), va_P D zCl (zW ad cA Λ σ) H → va_D A (zW ad cA Λ σ) → va_S A s.heap H locs → lv_has lsC M.2.2.2.1 (ls.map (fun q => (q.1, zV ad q.2))) →
      W p l e (zRm d) s m args below meth c H locs 0 0 (MQ below (zQ D cA ad A Λ res) args s 0 0 A) (F0 m pc lsC (st.map (zV ad)))
/-- a contract -/
def zKp (M : zM) (Λ : List zD) (d : Nat) (As : List Value) (σ : zSt) (res : Option Value × zSt) : Prop :=
  ∀ (l : Launch) (D : va_G) (cA : Nat → ClassId) (ad : Nat → Nat) (sz : Nat), Met l M.2.1 (Cond.code M.2.1 M.2.2.1 M.2.2.2.1 M.2.2.2.2.1 :: zTb) (zRm d)
    (va_Pc (As.map (zV ad)) (fun U => U.heap.size = sz ∧ va_P D zCl (zW ad cA Λ σ) U.heap ∧ va_K D zCl (zTy cA) U ∧ va_D (fun _ => True) (zW ad cA Λ σ) ∧ zSx ad (va_A (zW ad cA Λ σ) sz) U))
    (zQ D cA ad (va_A (zW ad cA Λ σ) sz) Λ res) 0 0 (va_A (zW ad cA Λ σ) sz)
theorem zV_cat (ad : Nat → Nat) (v : Value) : (zV ad v).category = v.category := by cases v <;> rfl
theorem zV_cats (ad : Nat → Nat) (st : List Value) : ((st.map (zV ad)).map fun v => v.category) = st.map fun v => v.category := by
  rw [List.map_map]; exact List.map_congr_left (fun v _ => zV_cat ad v)
theorem zArgs (ad : Nat → Nat) (As : List Value) : ∀ i : Nat, lv_args i (As.map (zV ad)) = (lv_args i As).map (fun q => (q.1, zV ad q.2)) := by
  induction As with
  | nil => intro i; rfl
  | cons v vs ih => intro i; simp only [List.map_cons, lv_args, zV_cat, ih]
theorem zSl (ad : Nat → Nat) (As : List Value) : (lg_sl (As.map (zV ad))).length = (lg_sl As).length := by
  induction As with
  | nil => rfl
  | cons v vs ih =>
    simp only [lg_sl, List.map_cons, List.flatMap_cons, List.length_append] at ih ⊢
    rw [ih]
    cases v <;> rfl
/-- a contract out of the walk of the method's code -/
theorem zKp_of {M : zM} {Λ : List zD} {d : Nat} {As : List Value} {σ : zSt} {res : Option Value × zSt} (hM : zMok M) (hn : Nat.ble (lg_sl As).length M.2.2.2.1 = true) (h : zWA M Λ d res 0 (lv_args 0 As) [] σ) : zKp M Λ d As σ res := by
  intro l D cA ad sz
  refine va_MetF (cc := M.2.2.1) (maxL := M.2.2.2.1) (ret := M.2.2.2.2.1) hM.2.2.2 rfl ?_
  intro p e s m args below meth c s₁ B hml hv
  obtain ⟨rfl, hsz, hP, hK, hD0, hSx⟩ := hv
  have hts := atoms_spec (ws := Cond.code M.2.1 M.2.2.1 M.2.2.2.1 M.2.2.2.2.1 :: zTb) B.pre
  subst hsz
  have hD := hD0.self (sz := s.heap.size)
  have hl := lv_entry (As.map (zV ad)) (n := M.2.2.2.1) (by rw [zSl]; exact Nat.le_of_ble_eq_true hn)
  rw [lg_entry_eq]
  generalize (lg_sl (As.map (zV ad)) ++ List.replicate (M.2.2.2.1 - (lg_sl (As.map (zV ad))).length) Slot.unset).toArray = ls at hl ⊢
  rw [zArgs] at hl
  exact h hM p l e s m _ below meth c D cA ad (va_A (zW ad cA Λ σ) s.heap.size) ⟨B.exec, B.bytes, hml, B.returns, B.notSynchronized, findClass_of_methodNamed B.named, fun w hw => hts w (List.mem_cons_of_mem _ hw), hK, hSx, fun q hq => Or.inr hq⟩ s.heap [] ls hP hD va_S.rf hl
end
section
/-! straight-line instructions, by computing -/
def zlk {α : Type} : List (Nat × α) → Nat → Option α
  | [], _ => none
  | q :: l, i => cond (Nat.beq q.1 i) (some q.2) (zlk l i)
theorem zlk_mem {α : Type} {i : Nat} {v : α} : ∀ {l : List (Nat × α)}, zlk l i = some v → (i, v) ∈ l
  | [], h => by cases h
  | q :: l, h => by
    unfold zlk at h
    cases hb : Nat.beq q.1 i with
    | true =>
      rw [hb] at h
      have e : q.1 = i := Nat.eq_of_beq_eq_true hb
      cases h
      rw [← e]
      exact List.mem_cons_self
    | false =>
      rw [hb] at h
      exact List.mem_cons_of_mem _ (zlk_mem (l := l) h)
abbrev zS : Type := List (Nat × Value) × List Value × zSt
def zrm (i : Nat) (l : List (Nat × Value)) : List (Nat × Value) := l.filter (fun q => !(q.1 == i) && !(q.1 + 1 == i && q.2.category == 2))
def zrm2 (i : Nat) (l : List (Nat × Value)) : List (Nat × Value) := l.filter (fun q => !(q.1 == i) && (!(q.1 == i + 1) && !(q.1 + 1 == i && q.2.category == 2)))
def zLoad (i : Nat) (x : zS) : Option zS := match zlk x.1 i with
  | some (.int v) => some (x.1, .int v :: x.2.1, x.2.2)
  | _ => none
def zLoadL (i : Nat) (x : zS) : Option zS := match zlk x.1 i with
  | some (.long v) => some (x.1, .long v :: x.2.1, x.2.2)
  | _ => none
def zLoadA (i : Nat) (x : zS) : Option zS := match zlk x.1 i with
  | some (.ref v) => some (x.1, .ref v :: x.2.1, x.2.2)
  | some .null => some (x.1, .null :: x.2.1, x.2.2)
  | _ => none
def zStore (nL i : Nat) (x : zS) : Option zS := match x.2.1 with
  | .int v :: r => cond (Nat.blt i nL) (some ((i, .int v) :: zrm i x.1, r, x.2.2)) none
  | _ => none
def zStoreL (nL i : Nat) (x : zS) : Option zS := match x.2.1 with
  | .long v :: r => cond (Nat.blt (i + 1) nL) (some ((i, .long v) :: zrm2 i x.1, r, x.2.2)) none
  | _ => none
def zStoreA (nL i : Nat) (x : zS) : Option zS := match x.2.1 with
  | .ref v :: r => cond (Nat.blt i nL) (some ((i, .ref v) :: zrm i x.1, r, x.2.2)) none
  | .null :: r => cond (Nat.blt i nL) (some ((i, .null) :: zrm i x.1, r, x.2.2)) none
  | _ => none
def zInc (nL i : Nat) (n : Int) (x : zS) : Option zS := match zlk x.1 i with
  | some (.int v) => cond (Nat.blt i nL) (some ((i, .int (v + Int32.ofInt n)) :: zrm i x.1, x.2.1, x.2.2)) none
  | _ => none
def zBin (f : Int32 → Int32 → Int32) (x : zS) : Option zS := match x.2.1 with
  | .int b :: .int a :: r => some (x.1, .int (f a b) :: r, x.2.2)
  | _ => none
def zBinL (f : Int64 → Int64 → Int64) (x : zS) : Option zS := match x.2.1 with
  | .long b :: .long a :: r => some (x.1, .long (f a b) :: r, x.2.2)
  | _ => none
def zDvi (f : Int32 → Int32 → Int32) (x : zS) : Option zS := match x.2.1 with
  | .int b :: .int a :: r => if b = 0 then none else some (x.1, .int (f a b) :: r, x.2.2)
  | _ => none
def zrem (a b : Int32) : Int32 := a - a / b * b
def zremL (a b : Int64) : Int64 := a - a / b * b
def zush (x y : Int32) : Int32 := (x.toUInt32 >>> (y.toUInt32 &&& Int32.toUInt32 31)).toInt32
def zPush (v : Value) (x : zS) : Option zS := some (x.1, v :: x.2.1, x.2.2)
def zGet (own : Nat) (Λ : List zD) (idx : Nat) (x : zS) : Option zS := match x.2.1 with
  | .ref k :: r => match zlk (zfl own) idx, Λ[k]? with
    | some q, some (.inl o) => cond (Nat.beq q.1 o.1) (match o.2[q.2]? with
      | some (.inl _) => some (x.1, .int (x.2.2.1 k q.2) :: r, x.2.2)
      | some (.inr b) => some (x.1, .ref b :: r, x.2.2)
      | none => none) none
    | _, _ => none
  | _ => none
def zPut (own : Nat) (Λ : List zD) (idx : Nat) (x : zS) : Option zS := match x.2.1 with
  | .int v :: .ref k :: r => match zlk (zfl own) idx, Λ[k]? with
    | some q, some (.inl o) => cond (Nat.beq q.1 o.1) (match o.2[q.2]? with
      | some (.inl 0) => some (x.1, r, zw x.2.2 k q.2 v)
      | some (.inl 1) => if v = 0 ∨ v = 1 then some (x.1, r, zw x.2.2 k q.2 v) else none
      | _ => none) none
    | _, _ => none
  | _ => none
def zLen (Λ : List zD) (x : zS) : Option zS := match x.2.1 with
  | .ref k :: r => match Λ[k]? with
    | some (.inr q) => some (x.1, .int (Int32.ofNat q.2.1) :: r, x.2.2)
    | _ => none
  | _ => none
def zDup (x : zS) : Option zS := match x.2.1 with
  | .int a :: r => some (x.1, .int a :: .int a :: r, x.2.2)
  | .ref a :: r => some (x.1, .ref a :: .ref a :: r, x.2.2)
  | _ => none
def zDupX (x : zS) : Option zS := match x.2.1 with
  | .int a :: .ref b :: r => some (x.1, .int a :: .ref b :: .int a :: r, x.2.2)
  | _ => none
def zDup2 (x : zS) : Option zS := match x.2.1 with
  | .int a :: .ref b :: r => some (x.1, .int a :: .ref b :: .int a :: .ref b :: r, x.2.2)
  | _ => none
def zUn (f : Int32 → Int32) (x : zS) : Option zS := match x.2.1 with
  | .int a :: r => some (x.1, .int (f a) :: r, x.2.2)
  | _ => none
/-- one instruction: its length, and what it does -/
def zstep (own nL : Nat) (Λ : List zD) (i : Instr) (x : zS) : Nat × Option zS := match i with
  | .iconst n => (1, zPush (.int (Int32.ofInt n)) x)
  | .bipush n => (2, zPush (.int (Int8.ofInt n).toInt32) x)
  | .sipush n => (3, zPush (.int (Int16.ofInt n).toInt32) x)
  | .lconst n => (1, zPush (.long (Int64.ofNat n.val)) x)
  | .ldc k => (2, (zlk (zki own) k).bind fun v => zPush (.int v) x)
  | .ldc2_w k => (3, (zlk (zkl own) k).bind fun v => zPush (.long v) x)
  | .aconst_null => (1, zPush .null x)
  | .iload_n n => (1, zLoad n.val x)
  | .iload n => (2, zLoad n x)
  | .lload_n n => (1, zLoadL n.val x)
  | .lload n => (2, zLoadL n x)
  | .aload_n n => (1, zLoadA n.val x)
  | .aload n => (2, zLoadA n x)
  | .istore_n n => (1, zStore nL n.val x)
  | .istore n => (2, zStore nL n x)
  | .lstore_n n => (1, zStoreL nL n.val x)
  | .lstore n => (2, zStoreL nL n x)
  | .astore_n n => (1, zStoreA nL n.val x)
  | .astore n => (2, zStoreA nL n x)
  | .iinc k n => (3, zInc nL k n x)
  | .iadd => (1, zBin (fun a b => a + b) x)
  | .isub => (1, zBin (fun a b => a - b) x)
  | .imul => (1, zBin (fun a b => a * b) x)
  | .iand => (1, zBin (fun a b => a &&& b) x)
  | .ior => (1, zBin (fun a b => a ||| b) x)
  | .ixor => (1, zBin (fun a b => a ^^^ b) x)
  | .ishl => (1, zBin (fun a b => a <<< (b &&& 31)) x)
  | .ishr => (1, zBin (fun a b => a >>> (b &&& 31)) x)
  | .iushr => (1, zBin zush x)
  | .idiv => (1, zDvi (fun a b => a / b) x)
  | .irem => (1, zDvi zrem x)
  | .ineg => (1, zUn (fun a => -a) x)
  | .i2b => (1, zUn (fun a => a.toInt8.toInt32) x)
  | .i2s => (1, zUn (fun a => a.toInt16.toInt32) x)
  | .ladd => (1, zBinL (fun a b => a + b) x)
  | .lsub => (1, zBinL (fun a b => a - b) x)
  | .lmul => (1, zBinL (fun a b => a * b) x)
  | .land => (1, zBinL (fun a b => a &&& b) x)
  | .lor => (1, zBinL (fun a b => a ||| b) x)
  | .lneg => (1, match x.2.1 with
    | .long a :: r => some (x.1, .long (-a) :: r, x.2.2)
    | _ => none)
  | .lshl => (1, match x.2.1 with
    | .int b :: .long a :: r => some (x.1, .long (a <<< (b.toInt64 &&& 63)) :: r, x.2.2)
    | _ => none)
  | .lcmp => (1, match x.2.1 with
    | .long b :: .long a :: r => some (x.1, .int (lg_cmp a b) :: r, x.2.2)
    | _ => none)
  | .i2l => (1, match x.2.1 with
    | .int a :: r => some (x.1, .long a.toInt64 :: r, x.2.2)
    | _ => none)
  | .l2i => (1, match x.2.1 with
    | .long a :: r => some (x.1, .int a.toInt32 :: r, x.2.2)
    | _ => none)
  | .dup => (1, zDup x)
  | .dup_x1 => (1, zDupX x)
  | .dup2 => (1, zDup2 x)
  | .pop => (1, match x.2.1 with
    | .int _ :: r => some (x.1, r, x.2.2)
    | _ => none)
  | .arraylength => (1, zLen Λ x)
  | .getfield k => (3, zGet own Λ k x)
  | .putfield k => (3, zPut own Λ k x)
  | .getstatic k => (3, (zlk (zsl own) k).bind fun q => zPush (.ref (1000 + q.1)) x)
  | _ => (0, none)
/-- the field links are the tables' -/
def zflok (own : Nat) : Bool := (zfl own).all fun q => match zCl[q.2.1]? with
  | some r => decide (q.2.2 < r.2.2) && (decide ((r.2.1 q.2.2).1 = r.1) && (decide (Cond.fieldLink (zNm own) q.1 r.1 (r.2.1 q.2.2).2.1 (r.2.1 q.2.2).2.2.1 ∈ tables_1)))
  | none => false
theorem zfl_ok : ∀ own : Nat, zflok own = true
  | 0 => by decide +kernel
  | 1 => by decide +kernel
  | 2 => by decide +kernel
  | 3 => by decide +kernel
  | 4 => by decide +kernel
  | 5 => by decide +kernel
  | 6 => by decide +kernel
  | 7 => by decide +kernel
  | 8 => by decide +kernel
  | 9 => by decide +kernel
  | 10 => by decide +kernel
  | 11 => by decide +kernel
  | 12 => by decide +kernel
  | _ + 13 => rfl
def zkok (own : Nat) : Bool := (zki own).all (fun q => decide (Cond.constant (zNm own) q.1 q.2 ∈ tables_1)) && (zkl own).all (fun q => decide (Cond.constantLong (zNm own) q.1 q.2 ∈ tables_1))
theorem zk_ok : ∀ own : Nat, zkok own = true
  | 0 => by decide +kernel
  | 1 => by decide +kernel
  | 2 => by decide +kernel
  | 3 => by decide +kernel
  | 4 => by decide +kernel
  | 5 => by decide +kernel
  | 6 => by decide +kernel
  | 7 => by decide +kernel
  | 8 => by decide +kernel
  | 9 => by decide +kernel
  | 10 => by decide +kernel
  | 11 => by decide +kernel
  | 12 => by decide +kernel
  | _ + 13 => rfl
def zsok (own : Nat) : Bool := (zsl own).all fun q => match zTab[q.2.1]? with
  | some r => if q.2.2 = true then decide (Cond.fieldLinkNest (zNm own) q.1 r.1 r.2.1 r.2.2.1 "LemonGate" ∈ tables_1) else decide (Cond.fieldLink (zNm own) q.1 r.1 r.2.1 r.2.2.1 ∈ tables_1)
  | none => false
theorem zs_ok : ∀ own : Nat, zsok own = true
  | 0 => by decide +kernel
  | 1 => by decide +kernel
  | 2 => by decide +kernel
  | 3 => by decide +kernel
  | 4 => by decide +kernel
  | 5 => by decide +kernel
  | 6 => by decide +kernel
  | 7 => by decide +kernel
  | 8 => by decide +kernel
  | 9 => by decide +kernel
  | 10 => by decide +kernel
  | 11 => by decide +kernel
  | 12 => by decide +kernel
  | _ + 13 => rfl
def zlays : Bool := (List.range 13).all fun ci => match zCl[ci]? with
  | some r => (u_ws r.1 r.2.1 r.2.2).all fun w => decide (w ∈ tables_1)
  | none => false
theorem zlays_ok : zlays = true := by decide +kernel
theorem zTb_of {w : Cond} (h : w ∈ tables_1) (hg : goodWord w = true) : w ∈ zTb := zTb_in (List.mem_append_right _ h) hg
theorem zCl_len {ci : Nat} {r : vw_C} (h : zCl[ci]? = some r) : ci < 13 := (List.getElem?_eq_some_iff.mp h).1
theorem zlays_in {ci : Nat} {r : vw_C} (h : zCl[ci]? = some r) : ∀ w ∈ u_ws r.1 r.2.1 r.2.2, w ∈ zTb := by
  intro w hw
  have h1 := List.all_eq_true.mp zlays_ok ci (List.mem_range.mpr (zCl_len h))
  rw [h] at h1
  have h2 := List.all_eq_true.mp h1 w hw
  refine zTb_of (of_decide_eq_true h2) ?_
  obtain ⟨k, -, rfl⟩ := List.mem_map.mp hw
  unfold u_lay
  split <;> rfl
def zNmOk (ci : Nat) : Prop := ∀ r, zCl[ci]? = some r → (∀ k, k < r.2.2 → parseFieldDescriptor (r.2.1 k).2.2.1 = some (zTt ci k)) ∧ ∀ a, a < r.2.2 → ∀ b, b < r.2.2 → a ≠ b → (r.2.1 a).2.1 ≠ (r.2.1 b).2.1
theorem zNm_ok (ci : Nat) : zNmOk ci := by
  intro r h
  match ci, h with
  | 0, h => cases h; exact ⟨zto0, zn0⟩
  | 1, h => cases h; exact ⟨zto1, zn1⟩
  | 2, h => cases h; exact ⟨zto2, zn2⟩
  | 3, h => cases h; exact ⟨zto3, zn3⟩
  | 4, h => cases h; exact ⟨zto4, zn4⟩
  | 5, h => cases h; exact ⟨zto5, zn5⟩
  | 6, h => cases h; exact ⟨zto6, zn6⟩
  | 7, h => cases h; exact ⟨zto7, zn7⟩
  | 8, h => cases h; exact ⟨zto8, zn8⟩
  | 9, h => cases h; exact ⟨zto9, zn9⟩
  | 10, h => cases h; exact ⟨zto10, zn10⟩
  | 11, h => cases h; exact ⟨zto11, zn11⟩
  | 12, h => cases h; exact ⟨zto12, zn12⟩
  | n + 13, h => simp [zCl] at h
end
section
/-! straight-line instructions: soundness -/
section ZR
variable {M : zM} {Λ : List zD} {d : Nat} {res : Option Value × zSt} {pc len : Nat}
theorem zlay_of {own idx : Nat} {q : Nat × Nat} (h : zlk (zfl own) idx = some q) : ∃ r : vw_C, zCl[q.1]? = some r ∧ q.2 < r.2.2 ∧ (r.2.1 q.2).1 = r.1 ∧ Cond.fieldLink (zNm own) idx r.1 (r.2.1 q.2).2.1 (r.2.1 q.2).2.2.1 ∈ zTb := by
  have h1 := List.all_eq_true.mp (zfl_ok own) _ (zlk_mem h)
  cases hr : zCl[q.1]? with
  | none => simp [hr] at h1
  | some r =>
    simp only [hr, Bool.and_eq_true, decide_eq_true_eq] at h1
    exact ⟨r, rfl, h1.1, h1.2.1, zTb_of h1.2.2 rfl⟩
theorem zloc {ls : List (Nat × Value)} {lsC : Array Slot} {nL i : Nat} {ad : Nat → Nat} {v : Value} (hl : lv_has lsC nL (ls.map (fun q => (q.1, zV ad q.2)))) (h : zlk ls i = some v) : lsC[i]? = some (.val (zV ad v)) :=
  hl.2.2 (i, zV ad v) (List.mem_map.mpr ⟨(i, v), zlk_mem h, rfl⟩)
theorem zrm_map (ad : Nat → Nat) (i : Nat) (ls : List (Nat × Value)) : (zrm i ls).map (fun q => (q.1, zV ad q.2)) = (ls.map (fun q => (q.1, zV ad q.2))).filter (fun q => !(q.1 == i) && !(q.1 + 1 == i && q.2.category == 2)) := by
  rw [List.filter_map]
  unfold zrm
  congr 1
  apply List.filter_congr
  intro q _
  simp [zV_cat]
theorem zrm2_map (ad : Nat → Nat) (i : Nat) (ls : List (Nat × Value)) : (zrm2 i ls).map (fun q => (q.1, zV ad q.2)) = (ls.map (fun q => (q.1, zV ad q.2))).filter (fun q => !(q.1 == i) && (!(q.1 == i + 1) && !(q.1 + 1 == i && q.2.category == 2))) := by
  rw [List.filter_map]
  unfold zrm2
  congr 1
  apply List.filter_congr
  intro q _
  simp [zV_cat]
theorem zs_push {v : Value} {ls st s} {n : Nat} (k : zWA M Λ d res (pc + n) ls (v :: st) s)
    (h : ∀ {p : Program} {l : Launch} {e : Env} {R : Room} {s : State} {m : MethodId} {args : Array Value} {below : List Frame} {meth : Method} {c : Code} {H : Heap} {locs : List Loc} {cells slots : Nat} {Q : State → Prop} {ls : Array Slot} {rest : List Value} (ad : Nat → Nat), p.tables.exec = Jvm.exec → c.code = M.2.2.1 → s.vm.findClass M.2.1.cls = some m.cls → (∀ w ∈ zTb, w.before args s = true) → W p l e R s m args below meth c H locs cells slots Q (F0 m (pc + n) ls (zV ad v :: rest)) → W p l e R s m args below meth c H locs cells slots Q (F0 m pc ls rest)) : zWA M Λ d res pc ls st s := by
  intro hM p l e s m args below meth c D cA ad A C H locs lsC hP hD hS hl
  have k1 := k hM p l e s m args below meth c D cA ad A C H locs lsC hP hD hS hl
  exact h ad C.1 C.2.1 C.2.2.2.2.2.1 C.2.2.2.2.2.2.1 k1
theorem zs_load {i : Nat} {x y : zS} (h : zLoad i x = some y) {n : Nat} (k : zWA M Λ d res (pc + n) y.1 y.2.1 y.2.2)
    (hr : ∀ {p : Program} {l : Launch} {e : Env} {R : Room} {s : State} {m : MethodId} {args : Array Value} {below : List Frame} {meth : Method} {c : Code} {H : Heap} {locs : List Loc} {cells slots : Nat} {Q : State → Prop} {ls : Array Slot} {rest : List Value} {v : Int32}, p.tables.exec = Jvm.exec → c.code = M.2.2.1 → ls[i]? = some (.val (.int v)) → W p l e R s m args below meth c H locs cells slots Q (F0 m (pc + n) ls (.int v :: rest)) → W p l e R s m args below meth c H locs cells slots Q (F0 m pc ls rest)) : zWA M Λ d res pc x.1 x.2.1 x.2.2 := by
  unfold zLoad at h
  split at h
  · next v hv =>
    cases h
    intro hM p l e s m args below meth c D cA ad A C H locs lsC hP hD hS hl
    exact hr C.1 C.2.1 (zloc hl hv) (k hM p l e s m args below meth c D cA ad A C H locs lsC hP hD hS hl)
  · cases h
theorem zs_loadL {i : Nat} {x y : zS} (h : zLoadL i x = some y) {n : Nat} (k : zWA M Λ d res (pc + n) y.1 y.2.1 y.2.2)
    (hr : ∀ {p : Program} {l : Launch} {e : Env} {R : Room} {s : State} {m : MethodId} {args : Array Value} {below : List Frame} {meth : Method} {c : Code} {H : Heap} {locs : List Loc} {cells slots : Nat} {Q : State → Prop} {ls : Array Slot} {rest : List Value} {v : Int64}, p.tables.exec = Jvm.exec → c.code = M.2.2.1 → ls[i]? = some (.val (.long v)) → W p l e R s m args below meth c H locs cells slots Q (F0 m (pc + n) ls (.long v :: rest)) → W p l e R s m args below meth c H locs cells slots Q (F0 m pc ls rest)) : zWA M Λ d res pc x.1 x.2.1 x.2.2 := by
  unfold zLoadL at h
  split at h
  · next v hv =>
    cases h
    intro hM p l e s m args below meth c D cA ad A C H locs lsC hP hD hS hl
    exact hr C.1 C.2.1 (zloc hl hv) (k hM p l e s m args below meth c D cA ad A C H locs lsC hP hD hS hl)
  · cases h
theorem zs_loadA {i : Nat} {x y : zS} (h : zLoadA i x = some y) {n : Nat} (k : zWA M Λ d res (pc + n) y.1 y.2.1 y.2.2)
    (hr : ∀ {p : Program} {l : Launch} {e : Env} {R : Room} {s : State} {m : MethodId} {args : Array Value} {below : List Frame} {meth : Method} {c : Code} {H : Heap} {locs : List Loc} {cells slots : Nat} {Q : State → Prop} {ls : Array Slot} {rest : List Value} {v : Nat}, p.tables.exec = Jvm.exec → c.code = M.2.2.1 → ls[i]? = some (.val (.ref v)) → W p l e R s m args below meth c H locs cells slots Q (F0 m (pc + n) ls (.ref v :: rest)) → W p l e R s m args below meth c H locs cells slots Q (F0 m pc ls rest))
    (hn : ∀ {p : Program} {l : Launch} {e : Env} {R : Room} {s : State} {m : MethodId} {args : Array Value} {below : List Frame} {meth : Method} {c : Code} {H : Heap} {locs : List Loc} {cells slots : Nat} {Q : State → Prop} {ls : Array Slot} {rest : List Value}, p.tables.exec = Jvm.exec → c.code = M.2.2.1 → ls[i]? = some (.val .null) → W p l e R s m args below meth c H locs cells slots Q (F0 m (pc + n) ls (.null :: rest)) → W p l e R s m args below meth c H locs cells slots Q (F0 m pc ls rest)) : zWA M Λ d res pc x.1 x.2.1 x.2.2 := by
  unfold zLoadA at h
  split at h
  · next v hv =>
    cases h
    intro hM p l e s m args below meth c D cA ad A C H locs lsC hP hD hS hl
    exact hr C.1 C.2.1 (zloc hl hv) (k hM p l e s m args below meth c D cA ad A C H locs lsC hP hD hS hl)
  · next hv =>
    cases h
    intro hM p l e s m args below meth c D cA ad A C H locs lsC hP hD hS hl
    exact hn C.1 C.2.1 (zloc hl hv) (k hM p l e s m args below meth c D cA ad A C H locs lsC hP hD hS hl)
  · cases h
/-- a row of the stack alone -/
theorem zs_pure {x y : zS} (hx : x.1 = y.1 ∧ x.2.2 = y.2.2) {n : Nat} (k : zWA M Λ d res (pc + n) y.1 y.2.1 y.2.2)
    (hr : ∀ {p : Program} {l : Launch} {e : Env} {R : Room} {s : State} {m : MethodId} {args : Array Value} {below : List Frame} {meth : Method} {c : Code} {H : Heap} {locs : List Loc} {cells slots : Nat} {Q : State → Prop} {ls : Array Slot} (ad : Nat → Nat), p.tables.exec = Jvm.exec → c.code = M.2.2.1 → W p l e R s m args below meth c H locs cells slots Q (F0 m (pc + n) ls (y.2.1.map (zV ad))) → W p l e R s m args below meth c H locs cells slots Q (F0 m pc ls (x.2.1.map (zV ad)))) : zWA M Λ d res pc x.1 x.2.1 x.2.2 := by
  intro hM p l e s m args below meth c D cA ad A C H locs lsC hP hD hS hl
  rw [hx.1] at hl
  rw [hx.2] at hP hD
  exact hr ad C.1 C.2.1 (k hM p l e s m args below meth c D cA ad A C H locs lsC hP hD hS hl)
theorem zs_store {nL i : Nat} {x y : zS} (hnL : M.2.2.2.1 = nL) (h : zStore nL i x = some y) {n : Nat} (k : zWA M Λ d res (pc + n) y.1 y.2.1 y.2.2)
    (hr : ∀ {p : Program} {l : Launch} {e : Env} {R : Room} {s : State} {m : MethodId} {args : Array Value} {below : List Frame} {meth : Method} {c : Code} {H : Heap} {locs : List Loc} {cells slots : Nat} {Q : State → Prop} {ls : Array Slot} {rest : List Value} {v : Int32} {lv lv' : List (Nat × Value)}, p.tables.exec = Jvm.exec → c.code = M.2.2.1 → lv_has ls nL lv → i < nL → (i, Value.int v) :: lv.filter (fun q => !(q.1 == i) && !(q.1 + 1 == i && q.2.category == 2)) = lv' → (∀ ls1 : Array Slot, lv_has ls1 nL lv' → W p l e R s m args below meth c H locs cells slots Q (F0 m (pc + n) ls1 rest)) → W p l e R s m args below meth c H locs cells slots Q (F0 m pc ls (.int v :: rest))) : zWA M Λ d res pc x.1 x.2.1 x.2.2 := by
  subst hnL
  obtain ⟨ls, st, s0⟩ := x
  unfold zStore at h
  dsimp only at h
  split at h
  · next v r =>
    cases hb : Nat.blt i M.2.2.2.1 with
    | false => rw [hb] at h; cases h
    | true =>
      rw [hb] at h
      cases h
      intro hM p l e s m args below meth c D cA ad A C H locs lsC hP hD hS hl
      refine hr (v := v) C.1 C.2.1 hl (Nat.blt_eq.mp hb) rfl fun ls1 hl1 => ?_
      exact k hM p l e s m args below meth c D cA ad A C H locs ls1 hP hD hS (by rw [← zrm_map] at hl1; exact hl1)
  · cases h
theorem zs_storeL {nL i : Nat} {x y : zS} (hnL : M.2.2.2.1 = nL) (h : zStoreL nL i x = some y) {n : Nat} (k : zWA M Λ d res (pc + n) y.1 y.2.1 y.2.2)
    (hr : ∀ {p : Program} {l : Launch} {e : Env} {R : Room} {s : State} {m : MethodId} {args : Array Value} {below : List Frame} {meth : Method} {c : Code} {H : Heap} {locs : List Loc} {cells slots : Nat} {Q : State → Prop} {ls : Array Slot} {rest : List Value} {v : Int64} {lv lv' : List (Nat × Value)}, p.tables.exec = Jvm.exec → c.code = M.2.2.1 → lv_has ls nL lv → i + 1 < nL → (i, Value.long v) :: lv.filter (fun q => !(q.1 == i) && (!(q.1 == i + 1) && !(q.1 + 1 == i && q.2.category == 2))) = lv' → (∀ ls1 : Array Slot, lv_has ls1 nL lv' → W p l e R s m args below meth c H locs cells slots Q (F0 m (pc + n) ls1 rest)) → W p l e R s m args below meth c H locs cells slots Q (F0 m pc ls (.long v :: rest))) : zWA M Λ d res pc x.1 x.2.1 x.2.2 := by
  subst hnL
  obtain ⟨ls, st, s0⟩ := x
  unfold zStoreL at h
  dsimp only at h
  split at h
  · next v r =>
    cases hb : Nat.blt (i + 1) M.2.2.2.1 with
    | false => rw [hb] at h; cases h
    | true =>
      rw [hb] at h
      cases h
      intro hM p l e s m args below meth c D cA ad A C H locs lsC hP hD hS hl
      refine hr (v := v) C.1 C.2.1 hl (Nat.blt_eq.mp hb) rfl fun ls1 hl1 => ?_
      exact k hM p l e s m args below meth c D cA ad A C H locs ls1 hP hD hS (by rw [← zrm2_map] at hl1; exact hl1)
  · cases h
theorem zs_storeA {nL i : Nat} {x y : zS} (hnL : M.2.2.2.1 = nL) (h : zStoreA nL i x = some y) {n : Nat} (k : zWA M Λ d res (pc + n) y.1 y.2.1 y.2.2)
    (hr : ∀ {p : Program} {l : Launch} {e : Env} {R : Room} {s : State} {m : MethodId} {args : Array Value} {below : List Frame} {meth : Method} {c : Code} {H : Heap} {locs : List Loc} {cells slots : Nat} {Q : State → Prop} {ls : Array Slot} {rest : List Value} {v : Nat} {lv lv' : List (Nat × Value)}, p.tables.exec = Jvm.exec → c.code = M.2.2.1 → lv_has ls nL lv → i < nL → (i, Value.ref v) :: lv.filter (fun q => !(q.1 == i) && !(q.1 + 1 == i && q.2.category == 2)) = lv' → (∀ ls1 : Array Slot, lv_has ls1 nL lv' → W p l e R s m args below meth c H locs cells slots Q (F0 m (pc + n) ls1 rest)) → W p l e R s m args below meth c H locs cells slots Q (F0 m pc ls (.ref v :: rest)))
    (hN : ∀ {p : Program} {l : Launch} {e : Env} {R : Room} {s : State} {m : MethodId} {args : Array Value} {below : List Frame} {meth : Method} {c : Code} {H : Heap} {locs : List Loc} {cells slots : Nat} {Q : State → Prop} {ls : Array Slot} {rest : List Value} {lv lv' : List (Nat × Value)}, p.tables.exec = Jvm.exec → c.code = M.2.2.1 → lv_has ls nL lv → i < nL → (i, Value.null) :: lv.filter (fun q => !(q.1 == i) && !(q.1 + 1 == i && q.2.category == 2)) = lv' → (∀ ls1 : Array Slot, lv_has ls1 nL lv' → W p l e R s m args below meth c H locs cells slots Q (F0 m (pc + n) ls1 rest)) → W p l e R s m args below meth c H locs cells slots Q (F0 m pc ls (.null :: rest))) : zWA M Λ d res pc x.1 x.2.1 x.2.2 := by
  subst hnL
  obtain ⟨ls, st, s0⟩ := x
  unfold zStoreA at h
  dsimp only at h
  split at h
  · next v r =>
    cases hb : Nat.blt i M.2.2.2.1 with
    | false => rw [hb] at h; cases h
    | true =>
      rw [hb] at h
      cases h
      intro hM p l e s m args below meth c D cA ad A C H locs lsC hP hD hS hl
      refine hr (v := ad v) C.1 C.2.1 hl (Nat.blt_eq.mp hb) rfl fun ls1 hl1 => ?_
      exact k hM p l e s m args below meth c D cA ad A C H locs ls1 hP hD hS (by rw [← zrm_map] at hl1; exact hl1)
  · next r =>
    cases hb : Nat.blt i M.2.2.2.1 with
    | false => rw [hb] at h; cases h
    | true =>
      rw [hb] at h
      cases h
      intro hM p l e s m args below meth c D cA ad A C H locs lsC hP hD hS hl
      refine hN C.1 C.2.1 hl (Nat.blt_eq.mp hb) rfl fun ls1 hl1 => ?_
      exact k hM p l e s m args below meth c D cA ad A C H locs ls1 hP hD hS (by rw [← zrm_map] at hl1; exact hl1)
  · cases h
theorem zs_inc {nL i : Nat} {n : Int} {x y : zS} (hnL : M.2.2.2.1 = nL) (hd : decode M.2.2.1 pc = .ok (.iinc i n, 3)) (h : zInc nL i n x = some y) (k : zWA M Λ d res (pc + 3) y.1 y.2.1 y.2.2) : zWA M Λ d res pc x.1 x.2.1 x.2.2 := by
  subst hnL
  unfold zInc at h
  split at h
  · next v hv =>
    cases hb : Nat.blt i M.2.2.2.1 with
    | false => rw [hb] at h; cases h
    | true =>
      rw [hb] at h
      cases h
      intro hM p l e s m args below meth c D cA ad A C H locs lsC hP hD hS hl
      obtain ⟨j, hj⟩ := List.getElem?_of_mem (List.mem_map.mpr ⟨(i, .int v), zlk_mem hv, rfl⟩ : (i, Value.int v) ∈ x.1.map (fun q => (q.1, zV ad q.2)))
      refine lv_iinc (v := v + Int32.ofInt n) C.1 C.2.1 hd hl hj rfl (Nat.blt_eq.mp hb) rfl fun ls1 hl1 => ?_
      exact k hM p l e s m args below meth c D cA ad A C H locs ls1 hP hD hS (by rw [← zrm_map] at hl1; exact hl1)
  · cases h
theorem zs_get {idx : Nat} {x y : zS} (hd : decode M.2.2.1 pc = .ok (.getfield idx, 3)) (h : zGet M.1 Λ idx x = some y) (k : zWA M Λ d res (pc + 3) y.1 y.2.1 y.2.2) : zWA M Λ d res pc x.1 x.2.1 x.2.2 := by
  obtain ⟨ls, st, s0⟩ := x
  unfold zGet at h
  dsimp only at h
  split at h
  · next a r =>
    split at h
    · next q o hq ho =>
      cases hb : Nat.beq q.1 o.1 with
      | false => rw [hb] at h; cases h
      | true =>
        rw [hb] at h
        have e1 : q.1 = o.1 := Nat.eq_of_beq_eq_true hb
        obtain ⟨w, hw1, hw2, hw3, hw4⟩ := zlay_of hq
        have key : ∀ f : Nat ⊕ Nat, o.2[q.2]? = some f → ∀ (yy : List (Nat × Value) × List Value × zSt), yy.1 = ls → yy.2.2 = s0 → (∀ ad, yy.2.1.map (zV ad) = zF ad s0 a q.2 f :: r.map (zV ad)) → zWA M Λ d res (pc + 3) yy.1 yy.2.1 yy.2.2 → zWA M Λ d res pc ls (.ref a :: r) s0 := by
          intro f hf yy y1 y2 y3 k
          subst y1; subst y2
          intro hM p l e s m args below meth c D cA ad A C H locs lsC hP hD hS hl
          have kk := k hM p l e s m args below meth c D cA ad A C H locs lsC hP hD hS hl
          rw [y3] at kk
          refine va_get (D := D) (ci := o.1) (v := zF ad yy.2.2 a q.2 f) (C := w.1) (T := w.2.1) (N := w.2.2) (own := M.2.1.cls) (ref := w.1) C.1 C.2.1 C.2.2.2.2.2.2.1 (zlays_in hw1) C.2.2.2.2.2.1 C.2.2.2.2.2.2.2.1 hP a (zW_get ho) (by rw [← e1]; exact hw1) q.2 hw2 (C.2.2.2.2.2.2.1 _ (by rw [← hM.2.1]; exact hw4)) (fun _ h9 => by rw [← hw3]; exact h9) ?_ hd kk
          rw [List.getElem?_mapIdx, hf]; rfl
        cases hf : o.2[q.2]? with
        | none => simp [hf] at h
        | some f =>
          rw [hf] at h
          cases f with
          | inl z => cases h; exact key _ hf _ rfl rfl (fun ad => rfl) k
          | inr z => cases h; exact key _ hf _ rfl rfl (fun ad => rfl) k
    · cases h
  · cases h
theorem zs_put {idx : Nat} {x y : zS} (hd : decode M.2.2.1 pc = .ok (.putfield idx, 3)) (h : zPut M.1 Λ idx x = some y) (hty : ∀ (q : Nat × Nat) (w : vw_C) (o : Nat × List (Nat ⊕ Nat)) (kd : Nat), zlk (zfl M.1) idx = some q → zCl[q.1]? = some w → Sum.inl o ∈ Λ → q.1 = o.1 → o.2[q.2]? = some (.inl kd) → (w.2.1 q.2).2.2.2 = false ∧ zTt q.1 q.2 = (if kd = 0 then .int else .boolean) ∧ o.2.length = w.2.2) (k : zWA M Λ d res (pc + 3) y.1 y.2.1 y.2.2) : zWA M Λ d res pc x.1 x.2.1 x.2.2 := by
  obtain ⟨ls, st, s0⟩ := x
  unfold zPut at h
  dsimp only at h
  split at h
  · next v a r =>
    split at h
    · next q o hq ho =>
      cases hb : Nat.beq q.1 o.1 with
      | false => rw [hb] at h; cases h
      | true =>
        rw [hb] at h
        have e1 : q.1 = o.1 := Nat.eq_of_beq_eq_true hb
        obtain ⟨w, hw1, hw2, hw3, hw4⟩ := zlay_of hq
        have key : ∀ kd : Nat, o.2[q.2]? = some (.inl kd) → (kd = 0 ∨ v = 0 ∨ v = 1) → zWA M Λ d res (pc + 3) ls r (zw s0 a q.2 v) → zWA M Λ d res pc ls (.int v :: .ref a :: r) s0 := by
          intro kd hf hv k hM p l e s m args below meth c D cA ad A C H locs lsC hP hD hS hl
          obtain ⟨t1, t2, t3⟩ := hty q w o kd hq hw1 (List.mem_of_getElem? ho) e1 hf
          obtain ⟨n1, n2⟩ := zNm_ok q.1 w hw1
          refine va_put (D := D) (ci := o.1) (v := .int v) (ty := zTt q.1 q.2) (C := w.1) (T := w.2.1) (N := w.2.2) (own := M.2.1.cls) (ref := w.1) C.1 C.2.1 C.2.2.2.2.2.2.1 (zlays_in hw1) (zTt q.1) n1 n2 C.2.2.2.2.2.1 C.2.2.2.2.2.2.2.1 hP hD hS a (zW_get ho) (by rw [← e1]; exact hw1) q.2 hw2 (C.2.2.2.2.2.2.1 _ (by rw [← hM.2.1]; exact hw4)) (fun _ h9 => by rw [← hw3]; exact h9) t1 (n1 _ hw2) ?_ ?_ ?_ hd (fun H1 locs1 hP1 hD1 hS1 => ?_)
          · rw [t2]
            split
            · rfl
            · next hk => rcases hv with z | rfl | rfl; exact absurd z hk; rfl; rfl
          · rw [t2]
            split
            · rfl
            · next hk => rcases hv with z | rfl | rfl; exact absurd z hk; rfl; rfl
          · rw [List.length_mapIdx, t3]; exact hw2
          · have e2 := zC_put (ad := ad) (cA := cA) (s := s0) (k := a) hf v
            have e3 := zW_set (ad := ad) (cA := cA) ho (zw_ne s0 a q.2 v)
            rw [e2] at e3
            rw [e3] at hP1 hD1
            exact k hM p l e s m args below meth c D cA ad A C H1 locs1 lsC hP1 hD1 hS1 hl
        cases hf : o.2[q.2]? with
        | none => simp [hf] at h
        | some f =>
          rw [hf] at h
          rcases f with (_ | _ | z) | z
          · cases h; exact key _ hf (Or.inl rfl) k
          · by_cases hc : v = 0 ∨ v = 1
            · simp only [cond_true, if_pos hc] at h
              cases h
              exact key _ hf (Or.inr hc) k
            · simp only [cond_true, if_neg hc] at h
              cases h
          · cases h
          · cases h
    · cases h
  · cases h
end ZR
end
section
/-! a block of straight-line instructions; branches, switches, arrays, answers -/
def zLok (Λ : List zD) : Bool := Λ.all fun d => match d with
  | .inl o => match zCl[o.1]? with
    | some w => decide (o.2.length = w.2.2) && (List.range o.2.length).all fun j => match o.2[j]? with
      | some (.inl kd) => !(w.2.1 j).2.2.2 && decide (zTt o.1 j = if kd = 0 then .int else .boolean)
      | _ => true
    | none => false
  | .inr _ => true
theorem zLok_put {Λ : List zD} (hL : zLok Λ = true) {q : Nat × Nat} {w : vw_C} {o : Nat × List (Nat ⊕ Nat)} {kd : Nat} (hw : zCl[q.1]? = some w) (ho : Sum.inl o ∈ Λ) (e : q.1 = o.1) (hf : o.2[q.2]? = some (.inl kd)) : (w.2.1 q.2).2.2.2 = false ∧ zTt q.1 q.2 = (if kd = 0 then .int else .boolean) ∧ o.2.length = w.2.2 := by
  have h1 := List.all_eq_true.mp hL _ ho
  rw [e] at hw ⊢
  simp only [hw, Bool.and_eq_true, decide_eq_true_eq] at h1
  have h2 := List.all_eq_true.mp h1.2 q.2 (List.mem_range.mpr (List.getElem?_eq_some_iff.mp hf).1)
  simp only [hf, Bool.and_eq_true, Bool.not_eq_true', decide_eq_true_eq] at h2
  exact ⟨h2.1, h2.2, h1.1⟩
section ZB
variable {M : zM} {Λ : List zD} {d : Nat} {res : Option Value × zSt} {pc : Nat}
theorem zs_pur2 {ls : List (Nat × Value)} {st st' : List Value} {s : zSt} {n : Nat} (k : zWA M Λ d res (pc + n) ls st' s)
    (hr : ∀ {p : Program} {l : Launch} {e : Env} {R : Room} {s : State} {m : MethodId} {args : Array Value} {below : List Frame} {meth : Method} {c : Code} {H : Heap} {locs : List Loc} {cells slots : Nat} {Q : State → Prop} {ls : Array Slot} (ad : Nat → Nat), p.tables.exec = Jvm.exec → c.code = M.2.2.1 → W p l e R s m args below meth c H locs cells slots Q (F0 m (pc + n) ls (st'.map (zV ad))) → W p l e R s m args below meth c H locs cells slots Q (F0 m pc ls (st.map (zV ad)))) : zWA M Λ d res pc ls st s := by
  intro hM p l e s m args below meth c D cA ad A C H locs lsC hP hD hS hl
  exact hr ad C.1 C.2.1 (k hM p l e s m args below meth c D cA ad A C H locs lsC hP hD hS hl)
theorem zstep_ok (hL : zLok Λ = true) {i : Instr} {n : Nat} {x y : zS} (hs : zstep M.1 M.2.2.2.1 Λ i x = (n, some y)) (hd : decode M.2.2.1 pc = .ok (i, n)) (k : zWA M Λ d res (pc + n) y.1 y.2.1 y.2.2) : zWA M Λ d res pc x.1 x.2.1 x.2.2 := by
  have hp : ∀ {n0 : Nat} {o : Option zS}, (n0, o) = (n, some y) → n0 = n ∧ o = some y := fun h => by cases h; exact ⟨rfl, rfl⟩
  cases i <;> first
    | (obtain ⟨-, h⟩ := hp hs; cases h; done)
    | skip
  case aconst_null => obtain ⟨rfl, h⟩ := hp hs; cases h; exact zs_push k (fun ad hx hb _ _ z => lv_null hx hb hd z)
  case iconst v => obtain ⟨rfl, h⟩ := hp hs; cases h; exact zs_push k (fun ad hx hb _ _ z => lv_iconst hx hb hd rfl z)
  case bipush v => obtain ⟨rfl, h⟩ := hp hs; cases h; exact zs_push k (fun ad hx hb _ _ z => lv_bipush hx hb hd rfl z)
  case sipush v => obtain ⟨rfl, h⟩ := hp hs; cases h; exact zs_push k (fun ad hx hb _ _ z => lv_sipush hx hb hd rfl z)
  case lconst v => obtain ⟨rfl, h⟩ := hp hs; cases h; exact zs_push k (fun ad hx hb _ _ z => lv_lconst hx hb hd rfl z)
  case ldc idx =>
    obtain ⟨rfl, h⟩ := hp hs
    obtain ⟨v, hv, h⟩ := Option.bind_eq_some_iff.mp h
    cases h
    intro hM
    have h1 := zk_ok M.1
    simp only [zkok, Bool.and_eq_true] at h1
    have h2 := of_decide_eq_true (List.all_eq_true.mp h1.1 _ (zlk_mem hv))
    rw [hM.2.1] at h2
    exact zs_push k (fun ad hx hb hw ht z => W.ldc hx hb hw (ht _ (zTb_of h2 rfl)) rfl hd z) hM
  case ldc2_w idx =>
    obtain ⟨rfl, h⟩ := hp hs
    obtain ⟨v, hv, h⟩ := Option.bind_eq_some_iff.mp h
    cases h
    intro hM
    have h1 := zk_ok M.1
    simp only [zkok, Bool.and_eq_true] at h1
    have h2 := of_decide_eq_true (List.all_eq_true.mp h1.2 _ (zlk_mem hv))
    rw [hM.2.1] at h2
    exact zs_push k (fun ad hx hb hw ht z => W.ldc2 hx hb hw (ht _ (zTb_of h2 rfl)) rfl hd z) hM
  case iload_n v => obtain ⟨rfl, h⟩ := hp hs; exact zs_load h k (fun hx hb hl z => lv_iload_n hx hb hd rfl hl z)
  case iload v => obtain ⟨rfl, h⟩ := hp hs; exact zs_load h k (fun hx hb hl z => lv_iload hx hb hd hl z)
  case lload_n v => obtain ⟨rfl, h⟩ := hp hs; exact zs_loadL h k (fun hx hb hl z => lv_lload_n hx hb hd rfl hl z)
  case lload v => obtain ⟨rfl, h⟩ := hp hs; exact zs_loadL h k (fun hx hb hl z => lv_lload hx hb hd hl z)
  case aload_n v => obtain ⟨rfl, h⟩ := hp hs; exact zs_loadA h k (fun hx hb hl z => lv_aload_n hx hb hd rfl hl z) (fun hx hb hl z => lv_aload_nN hx hb hd rfl hl z)
  case aload v => obtain ⟨rfl, h⟩ := hp hs; exact zs_loadA h k (fun hx hb hl z => lv_aload hx hb hd hl z) (fun hx hb hl z => lv_aloadN hx hb hd hl z)
  case istore_n v => obtain ⟨rfl, h⟩ := hp hs; exact zs_store rfl h k (fun hx hb hl hn e z => lv_istore_n hx hb hd rfl hl hn e z)
  case istore v => obtain ⟨rfl, h⟩ := hp hs; exact zs_store rfl h k (fun hx hb hl hn e z => lv_istore hx hb hd hl hn e z)
  case lstore_n v => obtain ⟨rfl, h⟩ := hp hs; exact zs_storeL rfl h k (fun hx hb hl hn e z => lv_lstore_n hx hb hd rfl hl hn e z)
  case lstore v => obtain ⟨rfl, h⟩ := hp hs; exact zs_storeL rfl h k (fun hx hb hl hn e z => lv_lstore hx hb hd hl hn e z)
  case astore_n v => obtain ⟨rfl, h⟩ := hp hs; exact zs_storeA rfl h k (fun hx hb hl hn e z => lv_astore_n hx hb hd rfl hl hn e z) (fun hx hb hl hn e z => lv_astore_nN hx hb hd rfl hl hn e z)
  case astore v => obtain ⟨rfl, h⟩ := hp hs; exact zs_storeA rfl h k (fun hx hb hl hn e z => lv_astore hx hb hd hl hn e z) (fun hx hb hl hn e z => lv_astoreN hx hb hd hl hn e z)
  case iinc a b => obtain ⟨rfl, h⟩ := hp hs; exact zs_inc rfl hd h k
  case getfield a => obtain ⟨rfl, h⟩ := hp hs; exact zs_get hd h k
  case putfield a => obtain ⟨rfl, h⟩ := hp hs; exact zs_put hd h (fun q w o kd _ hw ho e hf => zLok_put hL hw ho e hf) k
  case getstatic idx =>
    obtain ⟨rfl, h⟩ := hp hs
    obtain ⟨q, hq, h⟩ := Option.bind_eq_some_iff.mp h
    cases h
    have h1 := List.all_eq_true.mp (zs_ok M.1) _ (zlk_mem hq)
    cases hr : zTab[q.1]? with
    | none => simp [hr] at h1
    | some r =>
      simp only [hr] at h1
      intro hM p l e s m args below meth c D cA ad A C H locs lsC hP hD hS hl
      have kk := k hM p l e s m args below meth c D cA ad A C H locs lsC hP hD hS hl
      have hZ := (C.2.2.2.2.2.2.2.2.1.1 q.1 r hr).1
      by_cases hn : q.2 = true
      · rw [if_pos hn] at h1
        have h2 := of_decide_eq_true h1
        rw [hM.2.1] at h2
        exact va_getsN C.1 C.2.1 hZ hS C.2.2.2.2.2.1 (va_Nw.use rfl (C.2.2.2.2.2.2.2.2.1.2 _ (List.mem_filter.mpr ⟨h2, rfl⟩))) (fun _ h => h) hd kk
      · rw [if_neg hn] at h1
        have h2 := of_decide_eq_true h1
        rw [hM.2.1] at h2
        exact va_gets C.1 C.2.1 hZ hS C.2.2.2.2.2.1 (C.2.2.2.2.2.2.1 _ (zTb_of h2 rfl)) (fun _ h => h) hd kk
  case arraylength =>
    obtain ⟨rfl, h⟩ := hp hs
    obtain ⟨ls, st, s0⟩ := x
    unfold zLen at h
    dsimp only at h
    split at h
    · next a r =>
      split at h
      · next q hq =>
        cases h
        intro hM p l e s m args below meth c D cA ad A C H locs lsC hP hD hS hl
        have kk := k hM p l e s m args below meth c D cA ad A C H locs lsC hP hD hS hl
        obtain ⟨kd, n, b⟩ := q
        have g := zW_get (ad := ad) (cA := cA) (s := s0) hq
        rcases kd with _ | _ | kd
        · exact va_alen (tys := zTy cA) C.1 C.2.1 C.2.2.2.2.2.2.2.1 hP a 0 g rfl rfl hd kk
        · exact va_alen (tys := zTy cA) C.1 C.2.1 C.2.2.2.2.2.2.2.1 hP a 1 g rfl rfl hd kk
        · exact va_alen (tys := zTy cA) C.1 C.2.1 C.2.2.2.2.2.2.2.1 hP a 2 g rfl rfl hd kk
      · cases h
    · cases h
  case iadd => obtain ⟨rfl, h⟩ := hp hs; simp only [zBin] at h; split at h <;> first | (cases h; done) | skip; next hst => cases h; exact zs_pur2 k (fun ad hx hb z => by rw [hst]; exact lv_iadd hx hb hd z)
  case isub => obtain ⟨rfl, h⟩ := hp hs; simp only [zBin] at h; split at h <;> first | (cases h; done) | skip; next hst => cases h; exact zs_pur2 k (fun ad hx hb z => by rw [hst]; exact lv_isub hx hb hd z)
  case imul => obtain ⟨rfl, h⟩ := hp hs; simp only [zBin] at h; split at h <;> first | (cases h; done) | skip; next hst => cases h; exact zs_pur2 k (fun ad hx hb z => by rw [hst]; exact lv_imul hx hb hd z)
  case iand => obtain ⟨rfl, h⟩ := hp hs; simp only [zBin] at h; split at h <;> first | (cases h; done) | skip; next hst => cases h; exact zs_pur2 k (fun ad hx hb z => by rw [hst]; exact lv_iand hx hb hd z)
  case ior => obtain ⟨rfl, h⟩ := hp hs; simp only [zBin] at h; split at h <;> first | (cases h; done) | skip; next hst => cases h; exact zs_pur2 k (fun ad hx hb z => by rw [hst]; exact lv_ior hx hb hd z)
  case ixor => obtain ⟨rfl, h⟩ := hp hs; simp only [zBin] at h; split at h <;> first | (cases h; done) | skip; next hst => cases h; exact zs_pur2 k (fun ad hx hb z => by rw [hst]; exact lv_ixor hx hb hd z)
  case ishl => obtain ⟨rfl, h⟩ := hp hs; simp only [zBin] at h; split at h <;> first | (cases h; done) | skip; next hst => cases h; exact zs_pur2 k (fun ad hx hb z => by rw [hst]; exact lv_ishl hx hb hd z)
  case ishr => obtain ⟨rfl, h⟩ := hp hs; simp only [zBin] at h; split at h <;> first | (cases h; done) | skip; next hst => cases h; exact zs_pur2 k (fun ad hx hb z => by rw [hst]; exact lv_ishr hx hb hd z)
  case iushr => obtain ⟨rfl, h⟩ := hp hs; simp only [zBin] at h; split at h <;> first | (cases h; done) | skip; next hst => cases h; exact zs_pur2 k (fun ad hx hb z => by rw [hst]; exact lv_iushr hx hb hd rfl z)
  case idiv => obtain ⟨rfl, h⟩ := hp hs; simp only [zDvi] at h; split at h <;> first | (cases h; done) | skip; next hst => split at h <;> first | (cases h; done) | skip; next hne => cases h; exact zs_pur2 k (fun ad hx hb z => by rw [hst]; exact lv_idiv hx hb hd hne z)
  case irem => obtain ⟨rfl, h⟩ := hp hs; simp only [zDvi] at h; split at h <;> first | (cases h; done) | skip; next hst => split at h <;> first | (cases h; done) | skip; next hne => cases h; exact zs_pur2 k (fun ad hx hb z => by rw [hst]; exact lv_irem hx hb hd hne z)
  case ineg => obtain ⟨rfl, h⟩ := hp hs; simp only [zUn] at h; split at h <;> first | (cases h; done) | skip; next hst => cases h; exact zs_pur2 k (fun ad hx hb z => by rw [hst]; exact lv_ineg hx hb hd z)
  case i2b => obtain ⟨rfl, h⟩ := hp hs; simp only [zUn] at h; split at h <;> first | (cases h; done) | skip; next hst => cases h; exact zs_pur2 k (fun ad hx hb z => by rw [hst]; exact lv_i2b hx hb hd rfl z)
  case i2s => obtain ⟨rfl, h⟩ := hp hs; simp only [zUn] at h; split at h <;> first | (cases h; done) | skip; next hst => cases h; exact zs_pur2 k (fun ad hx hb z => by rw [hst]; exact lv_i2s hx hb hd rfl z)
  case ladd => obtain ⟨rfl, h⟩ := hp hs; simp only [zBinL] at h; split at h <;> first | (cases h; done) | skip; next hst => cases h; exact zs_pur2 k (fun ad hx hb z => by rw [hst]; exact lv_ladd hx hb hd z)
  case lsub => obtain ⟨rfl, h⟩ := hp hs; simp only [zBinL] at h; split at h <;> first | (cases h; done) | skip; next hst => cases h; exact zs_pur2 k (fun ad hx hb z => by rw [hst]; exact lv_lsub hx hb hd z)
  case lmul => obtain ⟨rfl, h⟩ := hp hs; simp only [zBinL] at h; split at h <;> first | (cases h; done) | skip; next hst => cases h; exact zs_pur2 k (fun ad hx hb z => by rw [hst]; exact lv_lmul hx hb hd z)
  case land => obtain ⟨rfl, h⟩ := hp hs; simp only [zBinL] at h; split at h <;> first | (cases h; done) | skip; next hst => cases h; exact zs_pur2 k (fun ad hx hb z => by rw [hst]; exact lv_land hx hb hd z)
  case lor => obtain ⟨rfl, h⟩ := hp hs; simp only [zBinL] at h; split at h <;> first | (cases h; done) | skip; next hst => cases h; exact zs_pur2 k (fun ad hx hb z => by rw [hst]; exact lv_lor hx hb hd z)
  case lneg => obtain ⟨rfl, h⟩ := hp hs; split at h <;> first | (cases h; done) | skip; next hst => cases h; exact zs_pur2 k (fun ad hx hb z => by rw [hst]; exact lv_lneg hx hb hd z)
  case lshl => obtain ⟨rfl, h⟩ := hp hs; split at h <;> first | (cases h; done) | skip; next hst => cases h; exact zs_pur2 k (fun ad hx hb z => by rw [hst]; exact lv_lshl hx hb hd rfl z)
  case lcmp => obtain ⟨rfl, h⟩ := hp hs; split at h <;> first | (cases h; done) | skip; next hst => cases h; exact zs_pur2 k (fun ad hx hb z => by rw [hst]; exact W.lcmp hx hb hd z)
  case i2l => obtain ⟨rfl, h⟩ := hp hs; split at h <;> first | (cases h; done) | skip; next hst => cases h; exact zs_pur2 k (fun ad hx hb z => by rw [hst]; exact lv_i2l hx hb hd rfl z)
  case l2i => obtain ⟨rfl, h⟩ := hp hs; split at h <;> first | (cases h; done) | skip; next hst => cases h; exact zs_pur2 k (fun ad hx hb z => by rw [hst]; exact lv_l2i hx hb hd rfl z)
  case pop => obtain ⟨rfl, h⟩ := hp hs; split at h <;> first | (cases h; done) | skip; next hst => cases h; exact zs_pur2 k (fun ad hx hb z => by rw [hst]; exact lv_pop hx hb hd rfl z)
  case dup => obtain ⟨rfl, h⟩ := hp hs; simp only [zDup] at h; split at h <;> first | (cases h; done) | skip; all_goals (next hst => cases h; exact zs_pur2 k (fun ad hx hb z => by rw [hst]; exact lv_dup hx hb hd rfl z))
  case dup_x1 => obtain ⟨rfl, h⟩ := hp hs; simp only [zDupX] at h; split at h <;> first | (cases h; done) | skip; all_goals (next hst => cases h; exact zs_pur2 k (fun ad hx hb z => by rw [hst]; exact lv_dup_x1 hx hb hd rfl rfl z))
  case dup2 => obtain ⟨rfl, h⟩ := hp hs; simp only [zDup2] at h; split at h <;> first | (cases h; done) | skip; all_goals (next hst => cases h; exact zs_pur2 k (fun ad hx hb z => by rw [hst]; exact lv_dup2_11 hx hb hd rfl rfl z))
end ZB
end
section
/-! blocks, branches, arrays, answers, calls: the rows of the layer -/
def zrun (own nL : Nat) (Λ : List zD) : Nat → List (Nat × Instr × Nat) → Nat → zS → Option (Nat × zS)
  | 0, _, pc, x => some (pc, x)
  | _ + 1, [], _, _ => none
  | n + 1, e :: is, pc, x => cond (Nat.beq e.1 pc) (match zstep own nL Λ e.2.1 x with
    | (m, some y) => cond (Nat.beq m e.2.2) (zrun own nL Λ n is (pc + e.2.2) y) none
    | _ => none) none
def zsuf (pc : Nat) : List (Nat × Instr × Nat) → List (Nat × Instr × Nat)
  | [] => []
  | e :: l => cond (Nat.beq e.1 pc) (e :: l) (zsuf pc l)
theorem zsuf_in {pc : Nat} : ∀ {l : List (Nat × Instr × Nat)}, ∀ e ∈ zsuf pc l, e ∈ l
  | [], e, h => h
  | a :: l, e, h => by
    unfold zsuf at h
    cases hb : Nat.beq a.1 pc with
    | true => rw [hb] at h; exact h
    | false => rw [hb] at h; exact List.mem_cons_of_mem _ (zsuf_in (l := l) e h)
def zin (i : Int32) (n : Nat) : Prop := 0 ≤ i.toInt ∧ i.toInt < (n : Int)
def zdin (i : Int32) (n : Nat) : Decidable (zin i n) := inferInstanceAs (Decidable (0 ≤ i.toInt ∧ i.toInt < (n : Int)))
theorem zin_vp {i : Int32} {n : Nat} (h : zin i n) : vp_in i n := vp_in_iff.mpr h
def zld (s : zSt) (k n : Nat) (i : Int32) : Option Int32 := if 0 ≤ i.toInt ∧ i.toInt < (n : Int) then some (s.1 k i.toNatClampNeg) else none
def zldl (s : zSt) (k n : Nat) (i : Int32) : Option Int64 := if 0 ≤ i.toInt ∧ i.toInt < (n : Int) then some (s.2 k i.toNatClampNeg) else none
def zlt (tab : List Int32) (i : Int32) : Option Int32 := if 0 ≤ i.toInt ∧ i.toInt < (tab.length : Int) then some (tab.getD i.toNatClampNeg 0) else none
def zla (n : Nat) (i : Int32) : Option Nat := if 0 ≤ i.toInt ∧ i.toInt < (n : Int) then some i.toNatClampNeg else none
def zst (s : zSt) (k n : Nat) (i v : Int32) : Option zSt := if 0 ≤ i.toInt ∧ i.toInt < (n : Int) then some (zw s k i.toNatClampNeg v) else none
def zstl (s : zSt) (k n : Nat) (i : Int32) (v : Int64) : Option zSt := if 0 ≤ i.toInt ∧ i.toInt < (n : Int) then some (zwl s k i.toNatClampNeg v) else none
def zdv (x y : Int32) : Option Int32 := if y = 0 then none else some (x / y)
def zrv (x y : Int32) : Option Int32 := if y = 0 then none else some (zrem x y)
def zdvl (x y : Int64) : Option Int64 := if y = 0 then none else some (x / y)
def zrvl (x y : Int64) : Option Int64 := if y = 0 then none else some (zremL x y)
def zbo (v : Int32) : Option Int32 := if v = 0 ∨ v = 1 then some v else none
def zmax (x y : Int32) : Int32 := if x < y then y else x
def zmin (x y : Int32) : Int32 := if y < x then y else x
def zmaxL (x y : Int64) : Int64 := if y < x then x else y
def zabsL (x : Int64) : Int64 := if 0 < x then x else -x
def zcps (s : zSt) (k0 k1 sp dp n : Nat) : zSt := (fun a => if a = k1 then va_cpy (s.1 k0) (s.1 k1) sp dp n else s.1 a, s.2)
def zcpsl (s : zSt) (k0 k1 sp dp n : Nat) : zSt := (s.1, fun a => if a = k1 then va_cpy (s.2 k0) (s.2 k1) sp dp n else s.2 a)
def zcpok (n0 n1 : Nat) (sp dp n : Int32) : Prop := ¬ sp < 0 ∧ ¬ dp < 0 ∧ ¬ n < 0 ∧ sp.toNatClampNeg + n.toNatClampNeg ≤ n0 ∧ dp.toNatClampNeg + n.toNatClampNeg ≤ n1
def zcp (s : zSt) (k0 n0 k1 n1 : Nat) (sp dp n : Int32) : Option zSt := if ¬ sp < 0 ∧ ¬ dp < 0 ∧ ¬ n < 0 ∧ sp.toNatClampNeg + n.toNatClampNeg ≤ n0 ∧ dp.toNatClampNeg + n.toNatClampNeg ≤ n1 then some (zcps s k0 k1 sp.toNatClampNeg dp.toNatClampNeg n.toNatClampNeg) else none
def zcpl (s : zSt) (k0 n0 k1 n1 : Nat) (sp dp n : Int32) : Option zSt := if ¬ sp < 0 ∧ ¬ dp < 0 ∧ ¬ n < 0 ∧ sp.toNatClampNeg + n.toNatClampNeg ≤ n0 ∧ dp.toNatClampNeg + n.toNatClampNeg ≤ n1 then some (zcpsl s k0 k1 sp.toNatClampNeg dp.toNatClampNeg n.toNatClampNeg) else none
theorem zIte {α : Type} {c : Prop} {dc : Decidable c} {A B : Option α} {r : α} {P : Prop} (hf : @ite (Option α) c dc A B = some r) (kt : c → A = some r → P) (kf : ¬ c → B = some r → P) : P := by
  by_cases h : c
  · rw [if_pos h] at hf; exact kt h hf
  · rw [if_neg h] at hf; exact kf h hf
theorem zBd {α β : Type} {X : Option α} {g : α → Option β} {r : β} {P : Prop} (hf : X.bind g = some r) (k : ∀ v, X = some v → g v = some r → P) : P := by
  obtain ⟨v, h1, h2⟩ := Option.bind_eq_some_iff.mp hf
  exact k v h1 h2
section ZB
variable {M : zM} {Λ : List zD} {d : Nat} {res : Option Value × zSt} {pc : Nat} {ls : List (Nat × Value)} {st rest : List Value} {s : zSt}
theorem zrun_ok (hL : zLok Λ = true) (hM : zMok M) : ∀ (n : Nat) (is : List (Nat × Instr × Nat)) (pc : Nat) (x : zS) (pc' : Nat) (y : zS), (∀ e ∈ is, e ∈ M.2.2.2.2.2) → zrun M.1 M.2.2.2.1 Λ n is pc x = some (pc', y) → zWA M Λ d res pc' y.1 y.2.1 y.2.2 → zWA M Λ d res pc x.1 x.2.1 x.2.2
  | 0, _, pc, x, pc', y, _, h, k => by
    cases h; exact k
  | n + 1, [], pc, x, pc', y, _, h, k => by cases h
  | n + 1, e :: is, pc, x, pc', y, hin, h, k => by
    unfold zrun at h
    cases hb : Nat.beq e.1 pc with
    | false => rw [hb] at h; cases h
    | true =>
      rw [hb] at h
      have e1 : e.1 = pc := Nat.eq_of_beq_eq_true hb
      subst e1
      simp only [cond_true] at h
      split at h
      · next m y1 hs =>
        cases hb2 : Nat.beq m e.2.2 with
        | false => rw [hb2] at h; cases h
        | true =>
          rw [hb2] at h
          have e2 : m = e.2.2 := Nat.eq_of_beq_eq_true hb2
          subst e2
          exact zstep_ok hL hs (hM.1 e (hin e List.mem_cons_self)) (zrun_ok hL hM n is _ y1 pc' y (fun a ha => hin a (List.mem_cons_of_mem _ ha)) h k)
      · cases h
/-- n straight-line instructions -/
theorem zB (hL : zLok Λ = true) (n : Nat) {pc' : Nat} {ls' : List (Nat × Value)} {st' : List Value} {s' : zSt} (h : zrun M.1 M.2.2.2.1 Λ n (zsuf pc M.2.2.2.2.2) pc (ls, st, s) = some (pc', ls', st', s')) (k : zWA M Λ d res pc' ls' st' s') : zWA M Λ d res pc ls st s :=
  fun hM => zrun_ok hL hM n _ pc (ls, st, s) pc' (ls', st', s') (fun e he => zsuf_in e he) h k hM
theorem zdec (hM : zMok M) {i : Instr} {n : Nat} (h : zlk M.2.2.2.2.2 pc = some (i, n)) : decode M.2.2.1 pc = .ok (i, n) := hM.1 (pc, i, n) (zlk_mem h)
/-- locals forgotten or put in another order: by their places -/
theorem zLoc {ls' : List (Nat × Value)} (ks : List Nat) (h : lv_pick ls ks = ls') (k : zWA M Λ d res pc ls' st s) : zWA M Λ d res pc ls st s := by
  intro hM p l e s0 m args below meth c D cA ad A C H locs lsC hP hD hS hl
  refine k hM p l e s0 m args below meth c D cA ad A C H locs lsC hP hD hS ⟨hl.1, hl.2.1, fun q hq => ?_⟩
  obtain ⟨q0, h0, rfl⟩ := List.mem_map.mp hq
  rw [← h] at h0
  obtain ⟨j, -, hj⟩ := List.mem_filterMap.mp h0
  exact hl.2.2 _ (List.mem_map.mpr ⟨q0, List.mem_of_getElem? hj, rfl⟩)
theorem zGoto {off : Int} {tgt : Nat} (h : zlk M.2.2.2.2.2 pc = some (.goto off, 3)) (ht : (pc : Int) + off = (tgt : Int)) (k : zWA M Λ d res tgt ls st s) : zWA M Λ d res pc ls st s := by
  intro hM p l e s0 m args below meth c D cA ad A C H locs lsC hP hD hS hl
  exact lv_goto C.1 C.2.1 (zdec hM h) ht (k hM p l e s0 m args below meth c D cA ad A C H locs lsC hP hD hS hl)
theorem zIeq {α : Type} {A B : Option α} {r : α} {x : Int32} {off : Int} {tgt : Nat} {dc : Decidable (x = 0)} (hf : @ite (Option α) (x = 0) dc A B = some r) (h : zlk M.2.2.2.2.2 pc = some (.ifCond .eq off, 3)) (ht : (pc : Int) + off = (tgt : Int)) (kt : x = 0 → A = some r → zWA M Λ d res tgt ls rest s) (kf : ¬ x = 0 → B = some r → zWA M Λ d res (pc + 3) ls rest s) : zWA M Λ d res pc ls (.int x :: rest) s := by
  intro hM p l e s0 m args below meth c D cA ad A0 C H locs lsC hP hD hS hl
  have h1 : ∀ z : x = 0, A = some r := fun z => by rw [if_pos z] at hf; exact hf
  have h2 : ∀ z : ¬ x = 0, B = some r := fun z => by rw [if_neg z] at hf; exact hf
  exact lv_if_eq C.1 C.2.1 (zdec hM h) ht (fun z => kt z (h1 z) hM p l e s0 m args below meth c D cA ad A0 C H locs lsC hP hD hS hl) (fun z => kf z (h2 z) hM p l e s0 m args below meth c D cA ad A0 C H locs lsC hP hD hS hl)
theorem zIeqT {x : Int32} {off : Int} {tgt : Nat} (hx : x = 0) (h : zlk M.2.2.2.2.2 pc = some (.ifCond .eq off, 3)) (ht : (pc : Int) + off = (tgt : Int)) (k : zWA M Λ d res tgt ls rest s) : zWA M Λ d res pc ls (.int x :: rest) s :=
  zIeq (A := some ()) (B := none) (r := ()) (dc := Classical.propDecidable _) (if_pos hx) h ht (fun _ _ => k) (fun _ q => by cases q)
theorem zIeqF {x : Int32} {off : Int} {tgt : Nat} (hx : ¬ x = 0) (h : zlk M.2.2.2.2.2 pc = some (.ifCond .eq off, 3)) (ht : (pc : Int) + off = (tgt : Int)) (k : zWA M Λ d res (pc + 3) ls rest s) : zWA M Λ d res pc ls (.int x :: rest) s :=
  zIeq (A := none) (B := some ()) (r := ()) (dc := Classical.propDecidable _) (if_neg hx) h ht (fun _ q => by cases q) (fun _ _ => k)
theorem zCeq {α : Type} {A B : Option α} {r : α} {x y : Int32} {off : Int} {tgt : Nat} {dc : Decidable (x = y)} (hf : @ite (Option α) (x = y) dc A B = some r) (h : zlk M.2.2.2.2.2 pc = some (.if_icmp .eq off, 3)) (ht : (pc : Int) + off = (tgt : Int)) (kt : x = y → A = some r → zWA M Λ d res tgt ls rest s) (kf : ¬ x = y → B = some r → zWA M Λ d res (pc + 3) ls rest s) : zWA M Λ d res pc ls (.int y :: .int x :: rest) s := by
  intro hM p l e s0 m args below meth c D cA ad A0 C H locs lsC hP hD hS hl
  have h1 : ∀ z : x = y, A = some r := fun z => by rw [if_pos z] at hf; exact hf
  have h2 : ∀ z : ¬ x = y, B = some r := fun z => by rw [if_neg z] at hf; exact hf
  exact lv_icmp_eq C.1 C.2.1 (zdec hM h) ht (fun z => kt z (h1 z) hM p l e s0 m args below meth c D cA ad A0 C H locs lsC hP hD hS hl) (fun z => kf z (h2 z) hM p l e s0 m args below meth c D cA ad A0 C H locs lsC hP hD hS hl)
theorem zCeqT {x y : Int32} {off : Int} {tgt : Nat} (hx : x = y) (h : zlk M.2.2.2.2.2 pc = some (.if_icmp .eq off, 3)) (ht : (pc : Int) + off = (tgt : Int)) (k : zWA M Λ d res tgt ls rest s) : zWA M Λ d res pc ls (.int y :: .int x :: rest) s :=
  zCeq (A := some ()) (B := none) (r := ()) (dc := Classical.propDecidable _) (if_pos hx) h ht (fun _ _ => k) (fun _ q => by cases q)
theorem zCeqF {x y : Int32} {off : Int} {tgt : Nat} (hx : ¬ x = y) (h : zlk M.2.2.2.2.2 pc = some (.if_icmp .eq off, 3)) (ht : (pc : Int) + off = (tgt : Int)) (k : zWA M Λ d res (pc + 3) ls rest s) : zWA M Λ d res pc ls (.int y :: .int x :: rest) s :=
  zCeq (A := none) (B := some ()) (r := ()) (dc := Classical.propDecidable _) (if_neg hx) h ht (fun _ q => by cases q) (fun _ _ => k)
theorem zIne {α : Type} {A B : Option α} {r : α} {x : Int32} {off : Int} {tgt : Nat} {dc : Decidable (x = 0)} (hf : @ite (Option α) (x = 0) dc A B = some r) (h : zlk M.2.2.2.2.2 pc = some (.ifCond .ne off, 3)) (ht : (pc : Int) + off = (tgt : Int)) (kt : x = 0 → A = some r → zWA M Λ d res (pc + 3) ls rest s) (kf : ¬ x = 0 → B = some r → zWA M Λ d res tgt ls rest s) : zWA M Λ d res pc ls (.int x :: rest) s := by
  intro hM p l e s0 m args below meth c D cA ad A0 C H locs lsC hP hD hS hl
  have h1 : ∀ z : x = 0, A = some r := fun z => by rw [if_pos z] at hf; exact hf
  have h2 : ∀ z : ¬ x = 0, B = some r := fun z => by rw [if_neg z] at hf; exact hf
  exact lv_if_ne C.1 C.2.1 (zdec hM h) ht (fun z => kf z (h2 z) hM p l e s0 m args below meth c D cA ad A0 C H locs lsC hP hD hS hl) (fun z => kt z (h1 z) hM p l e s0 m args below meth c D cA ad A0 C H locs lsC hP hD hS hl)
theorem zIneT {x : Int32} {off : Int} {tgt : Nat} (hx : x = 0) (h : zlk M.2.2.2.2.2 pc = some (.ifCond .ne off, 3)) (ht : (pc : Int) + off = (tgt : Int)) (k : zWA M Λ d res (pc + 3) ls rest s) : zWA M Λ d res pc ls (.int x :: rest) s :=
  zIne (A := some ()) (B := none) (r := ()) (dc := Classical.propDecidable _) (if_pos hx) h ht (fun _ _ => k) (fun _ q => by cases q)
theorem zIneF {x : Int32} {off : Int} {tgt : Nat} (hx : ¬ x = 0) (h : zlk M.2.2.2.2.2 pc = some (.ifCond .ne off, 3)) (ht : (pc : Int) + off = (tgt : Int)) (k : zWA M Λ d res tgt ls rest s) : zWA M Λ d res pc ls (.int x :: rest) s :=
  zIne (A := none) (B := some ()) (r := ()) (dc := Classical.propDecidable _) (if_neg hx) h ht (fun _ q => by cases q) (fun _ _ => k)
theorem zCne {α : Type} {A B : Option α} {r : α} {x y : Int32} {off : Int} {tgt : Nat} {dc : Decidable (x = y)} (hf : @ite (Option α) (x = y) dc A B = some r) (h : zlk M.2.2.2.2.2 pc = some (.if_icmp .ne off, 3)) (ht : (pc : Int) + off = (tgt : Int)) (kt : x = y → A = some r → zWA M Λ d res (pc + 3) ls rest s) (kf : ¬ x = y → B = some r → zWA M Λ d res tgt ls rest s) : zWA M Λ d res pc ls (.int y :: .int x :: rest) s := by
  intro hM p l e s0 m args below meth c D cA ad A0 C H locs lsC hP hD hS hl
  have h1 : ∀ z : x = y, A = some r := fun z => by rw [if_pos z] at hf; exact hf
  have h2 : ∀ z : ¬ x = y, B = some r := fun z => by rw [if_neg z] at hf; exact hf
  exact lv_icmp_ne C.1 C.2.1 (zdec hM h) ht (fun z => kf z (h2 z) hM p l e s0 m args below meth c D cA ad A0 C H locs lsC hP hD hS hl) (fun z => kt z (h1 z) hM p l e s0 m args below meth c D cA ad A0 C H locs lsC hP hD hS hl)
theorem zCneT {x y : Int32} {off : Int} {tgt : Nat} (hx : x = y) (h : zlk M.2.2.2.2.2 pc = some (.if_icmp .ne off, 3)) (ht : (pc : Int) + off = (tgt : Int)) (k : zWA M Λ d res (pc + 3) ls rest s) : zWA M Λ d res pc ls (.int y :: .int x :: rest) s :=
  zCne (A := some ()) (B := none) (r := ()) (dc := Classical.propDecidable _) (if_pos hx) h ht (fun _ _ => k) (fun _ q => by cases q)
theorem zCneF {x y : Int32} {off : Int} {tgt : Nat} (hx : ¬ x = y) (h : zlk M.2.2.2.2.2 pc = some (.if_icmp .ne off, 3)) (ht : (pc : Int) + off = (tgt : Int)) (k : zWA M Λ d res tgt ls rest s) : zWA M Λ d res pc ls (.int y :: .int x :: rest) s :=
  zCne (A := none) (B := some ()) (r := ()) (dc := Classical.propDecidable _) (if_neg hx) h ht (fun _ q => by cases q) (fun _ _ => k)
theorem zIlt {α : Type} {A B : Option α} {r : α} {x : Int32} {off : Int} {tgt : Nat} {dc : Decidable (x < 0)} (hf : @ite (Option α) (x < 0) dc A B = some r) (h : zlk M.2.2.2.2.2 pc = some (.ifCond .lt off, 3)) (ht : (pc : Int) + off = (tgt : Int)) (kt : x < 0 → A = some r → zWA M Λ d res tgt ls rest s) (kf : ¬ x < 0 → B = some r → zWA M Λ d res (pc + 3) ls rest s) : zWA M Λ d res pc ls (.int x :: rest) s := by
  intro hM p l e s0 m args below meth c D cA ad A0 C H locs lsC hP hD hS hl
  have h1 : ∀ z : x < 0, A = some r := fun z => by rw [if_pos z] at hf; exact hf
  have h2 : ∀ z : ¬ x < 0, B = some r := fun z => by rw [if_neg z] at hf; exact hf
  exact lv_if_lt C.1 C.2.1 (zdec hM h) ht (fun z => kt z (h1 z) hM p l e s0 m args below meth c D cA ad A0 C H locs lsC hP hD hS hl) (fun z => kf z (h2 z) hM p l e s0 m args below meth c D cA ad A0 C H locs lsC hP hD hS hl)
theorem zIltT {x : Int32} {off : Int} {tgt : Nat} (hx : x < 0) (h : zlk M.2.2.2.2.2 pc = some (.ifCond .lt off, 3)) (ht : (pc : Int) + off = (tgt : Int)) (k : zWA M Λ d res tgt ls rest s) : zWA M Λ d res pc ls (.int x :: rest) s :=
  zIlt (A := some ()) (B := none) (r := ()) (dc := Classical.propDecidable _) (if_pos hx) h ht (fun _ _ => k) (fun _ q => by cases q)
theorem zIltF {x : Int32} {off : Int} {tgt : Nat} (hx : ¬ x < 0) (h : zlk M.2.2.2.2.2 pc = some (.ifCond .lt off, 3)) (ht : (pc : Int) + off = (tgt : Int)) (k : zWA M Λ d res (pc + 3) ls rest s) : zWA M Λ d res pc ls (.int x :: rest) s :=
  zIlt (A := none) (B := some ()) (r := ()) (dc := Classical.propDecidable _) (if_neg hx) h ht (fun _ q => by cases q) (fun _ _ => k)
theorem zClt {α : Type} {A B : Option α} {r : α} {x y : Int32} {off : Int} {tgt : Nat} {dc : Decidable (x < y)} (hf : @ite (Option α) (x < y) dc A B = some r) (h : zlk M.2.2.2.2.2 pc = some (.if_icmp .lt off, 3)) (ht : (pc : Int) + off = (tgt : Int)) (kt : x < y → A = some r → zWA M Λ d res tgt ls rest s) (kf : ¬ x < y → B = some r → zWA M Λ d res (pc + 3) ls rest s) : zWA M Λ d res pc ls (.int y :: .int x :: rest) s := by
  intro hM p l e s0 m args below meth c D cA ad A0 C H locs lsC hP hD hS hl
  have h1 : ∀ z : x < y, A = some r := fun z => by rw [if_pos z] at hf; exact hf
  have h2 : ∀ z : ¬ x < y, B = some r := fun z => by rw [if_neg z] at hf; exact hf
  exact lv_icmp_lt C.1 C.2.1 (zdec hM h) ht (fun z => kt z (h1 z) hM p l e s0 m args below meth c D cA ad A0 C H locs lsC hP hD hS hl) (fun z => kf z (h2 z) hM p l e s0 m args below meth c D cA ad A0 C H locs lsC hP hD hS hl)
theorem zCltT {x y : Int32} {off : Int} {tgt : Nat} (hx : x < y) (h : zlk M.2.2.2.2.2 pc = some (.if_icmp .lt off, 3)) (ht : (pc : Int) + off = (tgt : Int)) (k : zWA M Λ d res tgt ls rest s) : zWA M Λ d res pc ls (.int y :: .int x :: rest) s :=
  zClt (A := some ()) (B := none) (r := ()) (dc := Classical.propDecidable _) (if_pos hx) h ht (fun _ _ => k) (fun _ q => by cases q)
theorem zCltF {x y : Int32} {off : Int} {tgt : Nat} (hx : ¬ x < y) (h : zlk M.2.2.2.2.2 pc = some (.if_icmp .lt off, 3)) (ht : (pc : Int) + off = (tgt : Int)) (k : zWA M Λ d res (pc + 3) ls rest s) : zWA M Λ d res pc ls (.int y :: .int x :: rest) s :=
  zClt (A := none) (B := some ()) (r := ()) (dc := Classical.propDecidable _) (if_neg hx) h ht (fun _ q => by cases q) (fun _ _ => k)
theorem zIge {α : Type} {A B : Option α} {r : α} {x : Int32} {off : Int} {tgt : Nat} {dc : Decidable (0 ≤ x)} (hf : @ite (Option α) (0 ≤ x) dc A B = some r) (h : zlk M.2.2.2.2.2 pc = some (.ifCond .ge off, 3)) (ht : (pc : Int) + off = (tgt : Int)) (kt : 0 ≤ x → A = some r → zWA M Λ d res tgt ls rest s) (kf : ¬ 0 ≤ x → B = some r → zWA M Λ d res (pc + 3) ls rest s) : zWA M Λ d res pc ls (.int x :: rest) s := by
  intro hM p l e s0 m args below meth c D cA ad A0 C H locs lsC hP hD hS hl
  have h1 : ∀ z : 0 ≤ x, A = some r := fun z => by rw [if_pos z] at hf; exact hf
  have h2 : ∀ z : ¬ 0 ≤ x, B = some r := fun z => by rw [if_neg z] at hf; exact hf
  exact lv_if_ge C.1 C.2.1 (zdec hM h) ht (fun z => kt z (h1 z) hM p l e s0 m args below meth c D cA ad A0 C H locs lsC hP hD hS hl) (fun z => kf z (h2 z) hM p l e s0 m args below meth c D cA ad A0 C H locs lsC hP hD hS hl)
theorem zIgeT {x : Int32} {off : Int} {tgt : Nat} (hx : 0 ≤ x) (h : zlk M.2.2.2.2.2 pc = some (.ifCond .ge off, 3)) (ht : (pc : Int) + off = (tgt : Int)) (k : zWA M Λ d res tgt ls rest s) : zWA M Λ d res pc ls (.int x :: rest) s :=
  zIge (A := some ()) (B := none) (r := ()) (dc := Classical.propDecidable _) (if_pos hx) h ht (fun _ _ => k) (fun _ q => by cases q)
theorem zIgeF {x : Int32} {off : Int} {tgt : Nat} (hx : ¬ 0 ≤ x) (h : zlk M.2.2.2.2.2 pc = some (.ifCond .ge off, 3)) (ht : (pc : Int) + off = (tgt : Int)) (k : zWA M Λ d res (pc + 3) ls rest s) : zWA M Λ d res pc ls (.int x :: rest) s :=
  zIge (A := none) (B := some ()) (r := ()) (dc := Classical.propDecidable _) (if_neg hx) h ht (fun _ q => by cases q) (fun _ _ => k)
theorem zCge {α : Type} {A B : Option α} {r : α} {x y : Int32} {off : Int} {tgt : Nat} {dc : Decidable (y ≤ x)} (hf : @ite (Option α) (y ≤ x) dc A B = some r) (h : zlk M.2.2.2.2.2 pc = some (.if_icmp .ge off, 3)) (ht : (pc : Int) + off = (tgt : Int)) (kt : y ≤ x → A = some r → zWA M Λ d res tgt ls rest s) (kf : ¬ y ≤ x → B = some r → zWA M Λ d res (pc + 3) ls rest s) : zWA M Λ d res pc ls (.int y :: .int x :: rest) s := by
  intro hM p l e s0 m args below meth c D cA ad A0 C H locs lsC hP hD hS hl
  have h1 : ∀ z : y ≤ x, A = some r := fun z => by rw [if_pos z] at hf; exact hf
  have h2 : ∀ z : ¬ y ≤ x, B = some r := fun z => by rw [if_neg z] at hf; exact hf
  exact lv_icmp_ge C.1 C.2.1 (zdec hM h) ht (fun z => kt z (h1 z) hM p l e s0 m args below meth c D cA ad A0 C H locs lsC hP hD hS hl) (fun z => kf z (h2 z) hM p l e s0 m args below meth c D cA ad A0 C H locs lsC hP hD hS hl)
theorem zCgeT {x y : Int32} {off : Int} {tgt : Nat} (hx : y ≤ x) (h : zlk M.2.2.2.2.2 pc = some (.if_icmp .ge off, 3)) (ht : (pc : Int) + off = (tgt : Int)) (k : zWA M Λ d res tgt ls rest s) : zWA M Λ d res pc ls (.int y :: .int x :: rest) s :=
  zCge (A := some ()) (B := none) (r := ()) (dc := Classical.propDecidable _) (if_pos hx) h ht (fun _ _ => k) (fun _ q => by cases q)
theorem zCgeF {x y : Int32} {off : Int} {tgt : Nat} (hx : ¬ y ≤ x) (h : zlk M.2.2.2.2.2 pc = some (.if_icmp .ge off, 3)) (ht : (pc : Int) + off = (tgt : Int)) (k : zWA M Λ d res (pc + 3) ls rest s) : zWA M Λ d res pc ls (.int y :: .int x :: rest) s :=
  zCge (A := none) (B := some ()) (r := ()) (dc := Classical.propDecidable _) (if_neg hx) h ht (fun _ q => by cases q) (fun _ _ => k)
theorem zIgt {α : Type} {A B : Option α} {r : α} {x : Int32} {off : Int} {tgt : Nat} {dc : Decidable (0 < x)} (hf : @ite (Option α) (0 < x) dc A B = some r) (h : zlk M.2.2.2.2.2 pc = some (.ifCond .gt off, 3)) (ht : (pc : Int) + off = (tgt : Int)) (kt : 0 < x → A = some r → zWA M Λ d res tgt ls rest s) (kf : ¬ 0 < x → B = some r → zWA M Λ d res (pc + 3) ls rest s) : zWA M Λ d res pc ls (.int x :: rest) s := by
  intro hM p l e s0 m args below meth c D cA ad A0 C H locs lsC hP hD hS hl
  have h1 : ∀ z : 0 < x, A = some r := fun z => by rw [if_pos z] at hf; exact hf
  have h2 : ∀ z : ¬ 0 < x, B = some r := fun z => by rw [if_neg z] at hf; exact hf
  exact lv_if_gt C.1 C.2.1 (zdec hM h) ht (fun z => kt z (h1 z) hM p l e s0 m args below meth c D cA ad A0 C H locs lsC hP hD hS hl) (fun z => kf z (h2 z) hM p l e s0 m args below meth c D cA ad A0 C H locs lsC hP hD hS hl)
theorem zIgtT {x : Int32} {off : Int} {tgt : Nat} (hx : 0 < x) (h : zlk M.2.2.2.2.2 pc = some (.ifCond .gt off, 3)) (ht : (pc : Int) + off = (tgt : Int)) (k : zWA M Λ d res tgt ls rest s) : zWA M Λ d res pc ls (.int x :: rest) s :=
  zIgt (A := some ()) (B := none) (r := ()) (dc := Classical.propDecidable _) (if_pos hx) h ht (fun _ _ => k) (fun _ q => by cases q)
theorem zIgtF {x : Int32} {off : Int} {tgt : Nat} (hx : ¬ 0 < x) (h : zlk M.2.2.2.2.2 pc = some (.ifCond .gt off, 3)) (ht : (pc : Int) + off = (tgt : Int)) (k : zWA M Λ d res (pc + 3) ls rest s) : zWA M Λ d res pc ls (.int x :: rest) s :=
  zIgt (A := none) (B := some ()) (r := ()) (dc := Classical.propDecidable _) (if_neg hx) h ht (fun _ q => by cases q) (fun _ _ => k)
theorem zCgt {α : Type} {A B : Option α} {r : α} {x y : Int32} {off : Int} {tgt : Nat} {dc : Decidable (y < x)} (hf : @ite (Option α) (y < x) dc A B = some r) (h : zlk M.2.2.2.2.2 pc = some (.if_icmp .gt off, 3)) (ht : (pc : Int) + off = (tgt : Int)) (kt : y < x → A = some r → zWA M Λ d res tgt ls rest s) (kf : ¬ y < x → B = some r → zWA M Λ d res (pc + 3) ls rest s) : zWA M Λ d res pc ls (.int y :: .int x :: rest) s := by
  intro hM p l e s0 m args below meth c D cA ad A0 C H locs lsC hP hD hS hl
  have h1 : ∀ z : y < x, A = some r := fun z => by rw [if_pos z] at hf; exact hf
  have h2 : ∀ z : ¬ y < x, B = some r := fun z => by rw [if_neg z] at hf; exact hf
  exact lv_icmp_gt C.1 C.2.1 (zdec hM h) ht (fun z => kt z (h1 z) hM p l e s0 m args below meth c D cA ad A0 C H locs lsC hP hD hS hl) (fun z => kf z (h2 z) hM p l e s0 m args below meth c D cA ad A0 C H locs lsC hP hD hS hl)
theorem zCgtT {x y : Int32} {off : Int} {tgt : Nat} (hx : y < x) (h : zlk M.2.2.2.2.2 pc = some (.if_icmp .gt off, 3)) (ht : (pc : Int) + off = (tgt : Int)) (k : zWA M Λ d res tgt ls rest s) : zWA M Λ d res pc ls (.int y :: .int x :: rest) s :=
  zCgt (A := some ()) (B := none) (r := ()) (dc := Classical.propDecidable _) (if_pos hx) h ht (fun _ _ => k) (fun _ q => by cases q)
theorem zCgtF {x y : Int32} {off : Int} {tgt : Nat} (hx : ¬ y < x) (h : zlk M.2.2.2.2.2 pc = some (.if_icmp .gt off, 3)) (ht : (pc : Int) + off = (tgt : Int)) (k : zWA M Λ d res (pc + 3) ls rest s) : zWA M Λ d res pc ls (.int y :: .int x :: rest) s :=
  zCgt (A := none) (B := some ()) (r := ()) (dc := Classical.propDecidable _) (if_neg hx) h ht (fun _ q => by cases q) (fun _ _ => k)
theorem zIle {α : Type} {A B : Option α} {r : α} {x : Int32} {off : Int} {tgt : Nat} {dc : Decidable (x ≤ 0)} (hf : @ite (Option α) (x ≤ 0) dc A B = some r) (h : zlk M.2.2.2.2.2 pc = some (.ifCond .le off, 3)) (ht : (pc : Int) + off = (tgt : Int)) (kt : x ≤ 0 → A = some r → zWA M Λ d res tgt ls rest s) (kf : ¬ x ≤ 0 → B = some r → zWA M Λ d res (pc + 3) ls rest s) : zWA M Λ d res pc ls (.int x :: rest) s := by
  intro hM p l e s0 m args below meth c D cA ad A0 C H locs lsC hP hD hS hl
  have h1 : ∀ z : x ≤ 0, A = some r := fun z => by rw [if_pos z] at hf; exact hf
  have h2 : ∀ z : ¬ x ≤ 0, B = some r := fun z => by rw [if_neg z] at hf; exact hf
  exact lv_if_le C.1 C.2.1 (zdec hM h) ht (fun z => kt z (h1 z) hM p l e s0 m args below meth c D cA ad A0 C H locs lsC hP hD hS hl) (fun z => kf z (h2 z) hM p l e s0 m args below meth c D cA ad A0 C H locs lsC hP hD hS hl)
theorem zIleT {x : Int32} {off : Int} {tgt : Nat} (hx : x ≤ 0) (h : zlk M.2.2.2.2.2 pc = some (.ifCond .le off, 3)) (ht : (pc : Int) + off = (tgt : Int)) (k : zWA M Λ d res tgt ls rest s) : zWA M Λ d res pc ls (.int x :: rest) s :=
  zIle (A := some ()) (B := none) (r := ()) (dc := Classical.propDecidable _) (if_pos hx) h ht (fun _ _ => k) (fun _ q => by cases q)
theorem zIleF {x : Int32} {off : Int} {tgt : Nat} (hx : ¬ x ≤ 0) (h : zlk M.2.2.2.2.2 pc = some (.ifCond .le off, 3)) (ht : (pc : Int) + off = (tgt : Int)) (k : zWA M Λ d res (pc + 3) ls rest s) : zWA M Λ d res pc ls (.int x :: rest) s :=
  zIle (A := none) (B := some ()) (r := ()) (dc := Classical.propDecidable _) (if_neg hx) h ht (fun _ q => by cases q) (fun _ _ => k)
theorem zCle {α : Type} {A B : Option α} {r : α} {x y : Int32} {off : Int} {tgt : Nat} {dc : Decidable (x ≤ y)} (hf : @ite (Option α) (x ≤ y) dc A B = some r) (h : zlk M.2.2.2.2.2 pc = some (.if_icmp .le off, 3)) (ht : (pc : Int) + off = (tgt : Int)) (kt : x ≤ y → A = some r → zWA M Λ d res tgt ls rest s) (kf : ¬ x ≤ y → B = some r → zWA M Λ d res (pc + 3) ls rest s) : zWA M Λ d res pc ls (.int y :: .int x :: rest) s := by
  intro hM p l e s0 m args below meth c D cA ad A0 C H locs lsC hP hD hS hl
  have h1 : ∀ z : x ≤ y, A = some r := fun z => by rw [if_pos z] at hf; exact hf
  have h2 : ∀ z : ¬ x ≤ y, B = some r := fun z => by rw [if_neg z] at hf; exact hf
  exact lv_icmp_le C.1 C.2.1 (zdec hM h) ht (fun z => kt z (h1 z) hM p l e s0 m args below meth c D cA ad A0 C H locs lsC hP hD hS hl) (fun z => kf z (h2 z) hM p l e s0 m args below meth c D cA ad A0 C H locs lsC hP hD hS hl)
theorem zCleT {x y : Int32} {off : Int} {tgt : Nat} (hx : x ≤ y) (h : zlk M.2.2.2.2.2 pc = some (.if_icmp .le off, 3)) (ht : (pc : Int) + off = (tgt : Int)) (k : zWA M Λ d res tgt ls rest s) : zWA M Λ d res pc ls (.int y :: .int x :: rest) s :=
  zCle (A := some ()) (B := none) (r := ()) (dc := Classical.propDecidable _) (if_pos hx) h ht (fun _ _ => k) (fun _ q => by cases q)
theorem zCleF {x y : Int32} {off : Int} {tgt : Nat} (hx : ¬ x ≤ y) (h : zlk M.2.2.2.2.2 pc = some (.if_icmp .le off, 3)) (ht : (pc : Int) + off = (tgt : Int)) (k : zWA M Λ d res (pc + 3) ls rest s) : zWA M Λ d res pc ls (.int y :: .int x :: rest) s :=
  zCle (A := none) (B := some ()) (r := ()) (dc := Classical.propDecidable _) (if_neg hx) h ht (fun _ q => by cases q) (fun _ _ => k)
theorem zNull {off : Int} {x : Nat} (h : zlk M.2.2.2.2.2 pc = some (.ifnull off, 3)) (k : zWA M Λ d res (pc + 3) ls rest s) : zWA M Λ d res pc ls (.ref x :: rest) s := by
  intro hM p l e s0 m args below meth c D cA ad A C H locs lsC hP hD hS hl
  exact lv_ifnull C.1 C.2.1 (zdec hM h) (k hM p l e s0 m args below meth c D cA ad A C H locs lsC hP hD hS hl)
theorem zNullN {off : Int} {tgt : Nat} (h : zlk M.2.2.2.2.2 pc = some (.ifnull off, 3)) (ht : (pc : Int) + off = (tgt : Int)) (k : zWA M Λ d res tgt ls rest s) : zWA M Λ d res pc ls (.null :: rest) s := by
  intro hM p l e s0 m args below meth c D cA ad A C H locs lsC hP hD hS hl
  exact lv_ifnullN C.1 C.2.1 (zdec hM h) ht (k hM p l e s0 m args below meth c D cA ad A C H locs lsC hP hD hS hl)
theorem zNon {off : Int} {x tgt : Nat} (h : zlk M.2.2.2.2.2 pc = some (.ifnonnull off, 3)) (ht : (pc : Int) + off = (tgt : Int)) (k : zWA M Λ d res tgt ls rest s) : zWA M Λ d res pc ls (.ref x :: rest) s := by
  intro hM p l e s0 m args below meth c D cA ad A C H locs lsC hP hD hS hl
  exact lv_ifnonnull C.1 C.2.1 (zdec hM h) ht (k hM p l e s0 m args below meth c D cA ad A C H locs lsC hP hD hS hl)
theorem zNonN {off : Int} (h : zlk M.2.2.2.2.2 pc = some (.ifnonnull off, 3)) (k : zWA M Λ d res (pc + 3) ls rest s) : zWA M Λ d res pc ls (.null :: rest) s := by
  intro hM p l e s0 m args below meth c D cA ad A C H locs lsC hP hD hS hl
  exact lv_ifnonnullN C.1 C.2.1 (zdec hM h) (k hM p l e s0 m args below meth c D cA ad A C H locs lsC hP hD hS hl)
theorem zIald {α : Type} {r : α} {k n b : Nat} {i : Int32} {g : Int32 → Option α} (hf : (zld s k n i).bind g = some r) (h : zlk M.2.2.2.2.2 pc = some (.iaload, 1)) (hc : Λ[k]? = some (.inr (0, n, b))) (kk : ∀ v, g v = some r → zWA M Λ d res (pc + 1) ls (.int v :: rest) s) : zWA M Λ d res pc ls (.int i :: .ref k :: rest) s := by
  refine zBd hf fun v h1 h2 => ?_
  unfold zld at h1
  refine zIte h1 (fun hin h1 => ?_) (fun _ h1 => by cases h1)
  cases h1
  intro hM p l e s0 m args below meth c D cA ad A C H locs lsC hP hD hS hl
  exact va_iald (tys := zTy cA) C.1 C.2.1 C.2.2.2.2.2.2.2.1 hP k 0 (zW_get hc) rfl (vp_in_iff.mpr hin) (zdec hM h) (kk _ h2 hM p l e s0 m args below meth c D cA ad A C H locs lsC hP hD hS hl)
theorem zLald {α : Type} {r : α} {k n b : Nat} {i : Int32} {g : Int64 → Option α} (hf : (zldl s k n i).bind g = some r) (h : zlk M.2.2.2.2.2 pc = some (.laload, 1)) (hc : Λ[k]? = some (.inr (1, n, b))) (kk : ∀ v, g v = some r → zWA M Λ d res (pc + 1) ls (.long v :: rest) s) : zWA M Λ d res pc ls (.int i :: .ref k :: rest) s := by
  refine zBd hf fun v h1 h2 => ?_
  unfold zldl at h1
  refine zIte h1 (fun hin h1 => ?_) (fun _ h1 => by cases h1)
  cases h1
  intro hM p l e s0 m args below meth c D cA ad A C H locs lsC hP hD hS hl
  exact va_lald (tys := zTy cA) C.1 C.2.1 C.2.2.2.2.2.2.2.1 hP k 1 (zW_get hc) rfl (vp_in_iff.mpr hin) (zdec hM h) (kk _ h2 hM p l e s0 m args below meth c D cA ad A C H locs lsC hP hD hS hl)
theorem zTald {α : Type} {r : α} {j : Nat} {i : Int32} {g : Int32 → Option α} {C0 n0 d0 : String} {tab : List Int32} (hf : (zlt tab i).bind g = some r) (h : zlk M.2.2.2.2.2 pc = some (.iaload, 1)) (hc : zTab[j]? = some (C0, n0, d0, .int, tab)) (kk : ∀ v, g v = some r → zWA M Λ d res (pc + 1) ls (.int v :: rest) s) : zWA M Λ d res pc ls (.int i :: .ref (1000 + j) :: rest) s := by
  refine zBd hf fun v h1 h2 => ?_
  unfold zlt at h1
  refine zIte h1 (fun hin h1 => ?_) (fun _ h1 => by cases h1)
  cases h1
  intro hM p l e s0 m args below meth c D cA ad A C H locs lsC hP hD hS hl
  exact va_ti C.1 C.2.1 (C.2.2.2.2.2.2.2.2.1.1 j _ hc).2 hS (vp_in_iff.mpr hin) rfl (zdec hM h) (kk _ h2 hM p l e s0 m args below meth c D cA ad A C H locs lsC hP hD hS hl)
theorem zTcald {α : Type} {r : α} {j : Nat} {i : Int32} {g : Int32 → Option α} {C0 n0 d0 : String} {tab : List Int32} (hf : (zlt tab i).bind g = some r) (h : zlk M.2.2.2.2.2 pc = some (.caload, 1)) (hc : zTab[j]? = some (C0, n0, d0, .char, tab)) (kk : ∀ v, g v = some r → zWA M Λ d res (pc + 1) ls (.int v :: rest) s) : zWA M Λ d res pc ls (.int i :: .ref (1000 + j) :: rest) s := by
  refine zBd hf fun v h1 h2 => ?_
  unfold zlt at h1
  refine zIte h1 (fun hin h1 => ?_) (fun _ h1 => by cases h1)
  cases h1
  intro hM p l e s0 m args below meth c D cA ad A C H locs lsC hP hD hS hl
  exact va_tc C.1 C.2.1 (C.2.2.2.2.2.2.2.2.1.1 j _ hc).2 hS (vp_in_iff.mpr hin) rfl (zdec hM h) (kk _ h2 hM p l e s0 m args below meth c D cA ad A C H locs lsC hP hD hS hl)
theorem zTlen {j : Nat} {C0 n0 d0 : String} {ty : FieldType} {tab : List Int32} {v : Int32} (h : zlk M.2.2.2.2.2 pc = some (.arraylength, 1)) (hc : zTab[j]? = some (C0, n0, d0, ty, tab)) (hv : Int32.ofNat tab.length = v) (kk : zWA M Λ d res (pc + 1) ls (.int v :: rest) s) : zWA M Λ d res pc ls (.ref (1000 + j) :: rest) s := by
  intro hM p l e s0 m args below meth c D cA ad A C H locs lsC hP hD hS hl
  exact va_tlen C.1 C.2.1 (C.2.2.2.2.2.2.2.2.1.1 j _ hc).2 hS hv (zdec hM h) (kk hM p l e s0 m args below meth c D cA ad A C H locs lsC hP hD hS hl)
theorem zAald {α : Type} {r : α} {k kd n b : Nat} {i : Int32} {g : Nat → Option α} (hf : (zla n i).bind g = some r) (h : zlk M.2.2.2.2.2 pc = some (.aaload, 1)) (hc : Λ[k]? = some (.inr (kd + 2, n, b))) (kk : ∀ v, v < n → g v = some r → zWA M Λ d res (pc + 1) ls (.ref (b + 2 * v) :: rest) s) : zWA M Λ d res pc ls (.int i :: .ref k :: rest) s := by
  refine zBd hf fun v h1 h2 => ?_
  unfold zla at h1
  refine zIte h1 (fun hin h1 => ?_) (fun _ h1 => by cases h1)
  cases h1
  intro hM p l e s0 m args below meth c D cA ad A C H locs lsC hP hD hS hl
  have hv := vp_in_iff.mpr hin
  exact va_aldq (tys := zTy cA) C.1 C.2.1 C.2.2.2.2.2.2.2.1 hP k 2 (zW_get hc) rfl hv (zdec hM h) (kk _ (Nat.not_le.mp fun q => hv (Or.inr q)) h2 hM p l e s0 m args below meth c D cA ad A C H locs lsC hP hD hS hl)
theorem zIast {α : Type} {r : α} {k n b : Nat} {i v : Int32} {g : zSt → Option α} (hf : (zst s k n i v).bind g = some r) (h : zlk M.2.2.2.2.2 pc = some (.iastore, 1)) (hc : Λ[k]? = some (.inr (0, n, b))) (kk : ∀ s', g s' = some r → zWA M Λ d res (pc + 1) ls rest s') : zWA M Λ d res pc ls (.int v :: .int i :: .ref k :: rest) s := by
  refine zBd hf fun s' h1 h2 => ?_
  unfold zst at h1
  refine zIte h1 (fun hin h1 => ?_) (fun _ h1 => by cases h1)
  cases h1
  intro hM p l e s0 m args below meth c D cA ad A C H locs lsC hP hD hS hl
  refine va_iast (tys := zTy cA) C.1 C.2.1 C.2.2.2.2.2.2.2.1 hP hD hS k 0 (zW_get hc) rfl (vp_in_iff.mpr hin) (zdec hM h) fun H1 locs1 hP1 hD1 hS1 => ?_
  have e2 : zC ad cA (zw s k i.toNatClampNeg v) k (.inr (0, n, b)) = .inl (cA 0, n, .inl (upd (s.1 k) i.toNatClampNeg v)) := by simp only [zC, zw_same]
  have e3 := zW_set (ad := ad) (cA := cA) hc (zw_ne s k i.toNatClampNeg v)
  rw [e2] at e3
  rw [e3] at hP1 hD1
  exact kk _ h2 hM p l e s0 m args below meth c D cA ad A C H1 locs1 lsC hP1 hD1 hS1 hl
theorem zLast {α : Type} {r : α} {k n b : Nat} {i : Int32} {v : Int64} {g : zSt → Option α} (hf : (zstl s k n i v).bind g = some r) (h : zlk M.2.2.2.2.2 pc = some (.lastore, 1)) (hc : Λ[k]? = some (.inr (1, n, b))) (kk : ∀ s', g s' = some r → zWA M Λ d res (pc + 1) ls rest s') : zWA M Λ d res pc ls (.long v :: .int i :: .ref k :: rest) s := by
  refine zBd hf fun s' h1 h2 => ?_
  unfold zstl at h1
  refine zIte h1 (fun hin h1 => ?_) (fun _ h1 => by cases h1)
  cases h1
  intro hM p l e s0 m args below meth c D cA ad A C H locs lsC hP hD hS hl
  refine va_last (tys := zTy cA) C.1 C.2.1 C.2.2.2.2.2.2.2.1 hP hD hS k 1 (zW_get hc) rfl (vp_in_iff.mpr hin) (zdec hM h) fun H1 locs1 hP1 hD1 hS1 => ?_
  have e2 : zC ad cA (zwl s k i.toNatClampNeg v) k (.inr (1, n, b)) = .inl (cA 1, n, .inr (.inl (vp_updL (s.2 k) i.toNatClampNeg v))) := by simp only [zC, zwl_same]
  have e3 := zW_set (ad := ad) (cA := cA) hc (zwl_ne s k i.toNatClampNeg v)
  rw [e2] at e3
  rw [e3] at hP1 hD1
  exact kk _ h2 hM p l e s0 m args below meth c D cA ad A C H1 locs1 lsC hP1 hD1 hS1 hl
theorem zDiv {α : Type} {r : α} {x y : Int32} {g : Int32 → Option α} (hf : (zdv x y).bind g = some r) (h : zlk M.2.2.2.2.2 pc = some (.idiv, 1)) (kk : ∀ v, g v = some r → zWA M Λ d res (pc + 1) ls (.int v :: rest) s) : zWA M Λ d res pc ls (.int y :: .int x :: rest) s := by
  refine zBd hf fun v h1 h2 => ?_
  unfold zdv at h1
  refine zIte h1 (fun _ h1 => by cases h1) (fun hne h1 => ?_)
  cases h1
  intro hM p l e s0 m args below meth c D cA ad A C H locs lsC hP hD hS hl
  exact lv_idiv C.1 C.2.1 (zdec hM h) hne (kk _ h2 hM p l e s0 m args below meth c D cA ad A C H locs lsC hP hD hS hl)
theorem zRem {α : Type} {r : α} {x y : Int32} {g : Int32 → Option α} (hf : (zrv x y).bind g = some r) (h : zlk M.2.2.2.2.2 pc = some (.irem, 1)) (kk : ∀ v, g v = some r → zWA M Λ d res (pc + 1) ls (.int v :: rest) s) : zWA M Λ d res pc ls (.int y :: .int x :: rest) s := by
  refine zBd hf fun v h1 h2 => ?_
  unfold zrv at h1
  refine zIte h1 (fun _ h1 => by cases h1) (fun hne h1 => ?_)
  cases h1
  intro hM p l e s0 m args below meth c D cA ad A C H locs lsC hP hD hS hl
  exact lv_irem C.1 C.2.1 (zdec hM h) hne (kk _ h2 hM p l e s0 m args below meth c D cA ad A C H locs lsC hP hD hS hl)
theorem zDivL {α : Type} {r : α} {x y : Int64} {g : Int64 → Option α} (hf : (zdvl x y).bind g = some r) (h : zlk M.2.2.2.2.2 pc = some (.ldiv, 1)) (kk : ∀ v, g v = some r → zWA M Λ d res (pc + 1) ls (.long v :: rest) s) : zWA M Λ d res pc ls (.long y :: .long x :: rest) s := by
  refine zBd hf fun v h1 h2 => ?_
  unfold zdvl at h1
  refine zIte h1 (fun _ h1 => by cases h1) (fun hne h1 => ?_)
  cases h1
  intro hM p l e s0 m args below meth c D cA ad A C H locs lsC hP hD hS hl
  exact lv_ldiv C.1 C.2.1 (zdec hM h) hne (kk _ h2 hM p l e s0 m args below meth c D cA ad A C H locs lsC hP hD hS hl)
theorem zRemL {α : Type} {r : α} {x y : Int64} {g : Int64 → Option α} (hf : (zrvl x y).bind g = some r) (h : zlk M.2.2.2.2.2 pc = some (.lrem, 1)) (kk : ∀ v, g v = some r → zWA M Λ d res (pc + 1) ls (.long v :: rest) s) : zWA M Λ d res pc ls (.long y :: .long x :: rest) s := by
  refine zBd hf fun v h1 h2 => ?_
  unfold zrvl at h1
  refine zIte h1 (fun _ h1 => by cases h1) (fun hne h1 => ?_)
  cases h1
  intro hM p l e s0 m args below meth c D cA ad A C H locs lsC hP hD hS hl
  exact lv_lrem C.1 C.2.1 (zdec hM h) hne (kk _ h2 hM p l e s0 m args below meth c D cA ad A C H locs lsC hP hD hS hl)
theorem zRetI {r : Int32 × zSt} {v : Int32} (hf : some (v, s) = some r) (h : zlk M.2.2.2.2.2 pc = some (.ireturn, 1)) (hr : M.2.2.2.2.1 = some .int) : zWA M Λ d (some (.int r.1), r.2) pc ls [.int v] s := by
  cases hf
  intro hM p l e s0 m args below meth c D cA ad A C H locs lsC hP hD hS hl
  exact W.iret (v := v) C.1 C.2.1 (C.2.2.2.1.trans hr) (fun t ht hW => ⟨rfl, by rw [ht]; exact hP, hS.F ht⟩) hS.2.2 (zdec hM h) C.2.2.2.2.1
theorem zRetZ {r : Int32 × zSt} {v : Int32} {g : Int32 → Option (Int32 × zSt)} (hf : (zbo v).bind (fun v => some (v, s)) = some r) (h : zlk M.2.2.2.2.2 pc = some (.ireturn, 1)) (hr : M.2.2.2.2.1 = some .boolean) : zWA M Λ d (some (.int r.1), r.2) pc ls [.int v] s := by
  refine zBd hf fun v' h1 h2 => ?_
  unfold zbo at h1
  refine zIte h1 (fun hv h1 => ?_) (fun _ h1 => by cases h1)
  cases h1
  cases h2
  intro hM p l e s0 m args below meth c D cA ad A C H locs lsC hP hD hS hl
  exact W.zret (v := v) C.1 C.2.1 (C.2.2.2.1.trans hr) (by rcases hv with rfl | rfl <;> rfl) (fun t ht hW => ⟨rfl, by rw [ht]; exact hP, hS.F ht⟩) hS.2.2 (zdec hM h) C.2.2.2.2.1
theorem zRetL {r : Int64 × zSt} {v : Int64} (hf : some (v, s) = some r) (h : zlk M.2.2.2.2.2 pc = some (.lreturn, 1)) (hr : M.2.2.2.2.1 = some .long) : zWA M Λ d (some (.long r.1), r.2) pc ls [.long v] s := by
  cases hf
  intro hM p l e s0 m args below meth c D cA ad A C H locs lsC hP hD hS hl
  exact W.lret (v := v) C.1 C.2.1 (C.2.2.2.1.trans hr) (fun t ht hW => ⟨rfl, by rw [ht]; exact hP, hS.F ht⟩) hS.2.2 (zdec hM h) C.2.2.2.2.1
theorem zRetV {r : zSt} (hf : some s = some r) (h : zlk M.2.2.2.2.2 pc = some (.return_, 1)) (hr : M.2.2.2.2.1 = none) : zWA M Λ d (none, r) pc ls [] s := by
  cases hf
  intro hM p l e s0 m args below meth c D cA ad A C H locs lsC hP hD hS hl
  exact W.vret C.1 C.2.1 (C.2.2.2.1.trans hr) (fun t ht hW => ⟨rfl, by rw [ht]; exact hP, hS.F ht⟩) hS.2.2 (zdec hM h) C.2.2.2.2.1
theorem zRetR {C0 : String} {v : Nat} (h : zlk M.2.2.2.2.2 pc = some (.areturn, 1)) (hr : M.2.2.2.2.1 = some (.object C0)) : zWA M Λ d (some (.ref v), s) pc ls [.ref v] s := by
  intro hM p l e s0 m args below meth c D cA ad A C H locs lsC hP hD hS hl
  exact W.aret (v := .ref (ad v)) C.1 C.2.1 (C.2.2.2.1.trans hr) (Or.inl ⟨_, rfl⟩) (Or.inr ⟨_, rfl⟩) (fun t ht hW => ⟨rfl, by rw [ht]; exact hP, hS.F ht⟩) hS.2.2 (zdec hM h) C.2.2.2.2.1
theorem zRetN {C0 : String} (h : zlk M.2.2.2.2.2 pc = some (.areturn, 1)) (hr : M.2.2.2.2.1 = some (.object C0)) : zWA M Λ d (some .null, s) pc ls [.null] s := by
  intro hM p l e s0 m args below meth c D cA ad A C H locs lsC hP hD hS hl
  exact W.aret (v := .null) C.1 C.2.1 (C.2.2.2.1.trans hr) (Or.inl ⟨_, rfl⟩) (Or.inl rfl) (fun t ht hW => ⟨rfl, by rw [ht]; exact hP, hS.F ht⟩) hS.2.2 (zdec hM h) C.2.2.2.2.1
theorem zTabIn {dflt lo hi : Int} {offs : Array Int} {len : Nat} {x : Int32} {off : Int} {tgt : Nat} (c : Int32) (hx : x = c) (h : zlk M.2.2.2.2.2 pc = some (.tableswitch dflt lo hi offs, len)) (h1 : ¬ c.toInt < lo) (h2 : ¬ hi < c.toInt) (ho : offs[(c.toInt - lo).toNat]? = some off) (ht : (pc : Int) + off = (tgt : Int)) (k : zWA M Λ d res tgt ls rest s) : zWA M Λ d res pc ls (.int x :: rest) s := by
  subst hx
  intro hM p l e s0 m args below meth c D cA ad A C H locs lsC hP hD hS hl
  exact lv_tableIn C.1 C.2.1 (zdec hM h) h1 h2 ho ht (k hM p l e s0 m args below meth c D cA ad A C H locs lsC hP hD hS hl)
theorem zTabOut {dflt lo hi : Int} {offs : Array Int} {len : Nat} {x : Int32} {tgt : Nat} (hx : x.toInt < lo ∨ hi < x.toInt) (h : zlk M.2.2.2.2.2 pc = some (.tableswitch dflt lo hi offs, len)) (ht : (pc : Int) + dflt = (tgt : Int)) (k : zWA M Λ d res tgt ls rest s) : zWA M Λ d res pc ls (.int x :: rest) s := by
  intro hM p l e s0 m args below meth c D cA ad A C H locs lsC hP hD hS hl
  exact lv_tableOut C.1 C.2.1 (zdec hM h) hx ht (k hM p l e s0 m args below meth c D cA ad A C H locs lsC hP hD hS hl)
theorem zLook {dflt : Int} {ps : Array (Int × Int)} {len : Nat} {x : Int32} {off : Int} {tgt : Nat} (c : Int32) (hx : x = c) (h : zlk M.2.2.2.2.2 pc = some (.lookupswitch dflt ps, len)) (hp : (ps.toList.zip (ps.toList.drop 1)).all (fun (a, next) => a.1 < next.1) = true) (ho : Op.lookupswitch.offset ps.toList dflt c.toInt = off) (ht : (pc : Int) + off = (tgt : Int)) (k : zWA M Λ d res tgt ls rest s) : zWA M Λ d res pc ls (.int x :: rest) s := by
  subst hx
  intro hM p l e s0 m args below meth c D cA ad A C H locs lsC hP hD hS hl
  exact lv_lookup C.1 C.2.1 (zdec hM h) hp ho ht (k hM p l e s0 m args below meth c D cA ad A C H locs lsC hP hD hS hl)
end ZB
end
section
/-! calls -/
def zSok (M : zM) (n : Nat) : Prop := Cond.static M.2.1 ∈ tables_1 ∧ Cond.initialized M.2.1.cls ∈ tables_1 ∧ M.2.1.cls ≠ "java/lang/invoke/MethodHandle" ∧ M.2.1.cls ≠ "java/lang/invoke/VarHandle" ∧ (parseMethodDescriptor M.2.1.desc).map (fun d => d.parameters.length) = some n
def zVok (M : zM) (n : Nat) : Prop := Cond.instanceMethod M.2.1 ∈ tables_1 ∧ Cond.selects M.2.1.cls M.2.1 M.2.1 ∈ lw_tbl ∧ Cond.initialized M.2.1.cls ∈ tables_1 ∧ M.2.1.cls ≠ "java/lang/invoke/MethodHandle" ∧ M.2.1.cls ≠ "java/lang/invoke/VarHandle" ∧ (parseMethodDescriptor M.2.1.desc).map (fun d => d.parameters.length) = some n
theorem zRm_ok {d d' maxL : Nat} (h : (Nat.ble (d' + 1) d && Nat.ble maxL 45) = true) : (zRm d').frames + 1 ≤ (zRm d).frames ∧ 8 + (maxL + 11) + (zRm d').locals ≤ (zRm d).locals := by
  simp only [Bool.and_eq_true] at h
  have h1 := Nat.le_of_ble_eq_true h.1
  have h2 := Nat.le_of_ble_eq_true h.2
  refine ⟨h1, ?_⟩
  show 8 + (maxL + 11) + 64 * d' ≤ 64 * d
  omega
theorem zTb_call {M : zM} (hM : zMok M) : GoodIn zTb (Cond.code M.2.1 M.2.2.1 M.2.2.2.1 M.2.2.2.2.1 :: zTb) := by
  intro w h
  rcases List.mem_cons.mp h with rfl | h
  · exact ⟨zTb_in hM.2.2.1 rfl, Or.inl rfl⟩
  · exact zTb_good w h
section ZC
variable {M : zM} {Λ : List zD} {d : Nat} {res : Option Value × zSt} {pc : Nat} {ls : List (Nat × Value)} {st rest : List Value} {s : zSt}
/-- what a call leaves, as the caller's world -/
theorem zCall_end {ad : Nat → Nat} {cA : Nat → ClassId} {D : va_G} {A : Nat → Prop} {p : Program} {l : Launch} {e : Env} {R : Room} {s0 : State} {m : MethodId} {args : Array Value} {below : List Frame} {meth : Method} {c : Code} {H : Heap} {locs : List Loc} {Q : State → Prop} {lsC : Array Slot} {st0 rest : List Value} {a : Array Value} {res' : Option Value × zSt}
    (hr : va_Run p l e R s0 m args below meth c H locs 0 0 0 0 (F0 m pc lsC st0) (rest.map (zV ad)) (zQ D cA ad (va_A (zW ad cA Λ s) H.size) Λ res' a) (va_A (zW ad cA Λ s) H.size)) (hD : va_D A (zW ad cA Λ s)) (hS : va_S A s0.heap H locs) (hA : ∀ q : Nat, s0.heap.size ≤ q → A q)
    (kk : ∀ (H1 : Heap) (locs1 : List Loc), va_P D zCl (zW ad cA Λ res'.2) H1 → va_S A s0.heap H1 locs1 → W p l e R s0 m args below meth c H1 locs1 0 0 Q (F0 m (pc + 3) lsC ((res'.1.toList ++ rest).map (zV ad)))) : W p l e R s0 m args below meth c H locs 0 0 Q (F0 m pc lsC st0) := by
  intro T hT X
  obtain ⟨v, st₀, t, T', L, h0, X', hL, e1, e2, ⟨hv, hP1, hz, hk⟩, stp⟩ := hr T hT X
  rw [h0] at hz hk
  have hAA : ∀ q, va_A (zW ad cA Λ s) H.size q → A q := fun q h => zA_in hD (fun q h => hA q (Nat.le_trans hS.1 h)) h
  have hv2 : v = res'.1.map (zV ad) := by cases hv; rfl
  subst hv2
  obtain ⟨t2, a1, b1⟩ := kk T'.heap (locs ++ L) (by rw [e1]; exact hP1) ⟨Nat.le_trans hS.1 (by rw [e1]; exact hz), fun q h1 h2 => by rw [e1, hk q (Nat.lt_of_lt_of_le h1 hS.1) (fun z => h2 (hAA q z))]; exact hS.2.1 q h1 h2, fun q hq => by
      rcases List.mem_append.mp hq with h | h
      · exact hS.2.2 q h
      · exact hAA _ (hL q h)⟩ T' rfl X'
  refine ⟨t2, stp t2 ?_, b1⟩
  have e3 : ((res'.1.toList ++ rest).map (zV ad)) = (res'.1.map (zV ad)).toList ++ rest.map (zV ad) := by cases res'.1 <;> simp
  rw [e3] at a1
  exact a1
theorem zPre {ad : Nat → Nat} {cA : Nat → ClassId} {D : va_G} {A : Nat → Prop} {s0 : State} {H : Heap} {locs : List Loc} {As : List Value} (hP : va_P D zCl (zW ad cA Λ s) H) (hK : va_K D zCl (zTy cA) s0) (hSx : zSx ad A s0) (hD : va_D A (zW ad cA Λ s)) (hS : va_S A s0.heap H locs) (hA : ∀ q : Nat, s0.heap.size ≤ q → A q) :
    FrameBlind (va_Pc (As.map (zV ad)) (fun U => U.heap.size = H.size ∧ va_P D zCl (zW ad cA Λ s) U.heap ∧ va_K D zCl (zTy cA) U ∧ va_D (fun _ => True) (zW ad cA Λ s) ∧ zSx ad (va_A (zW ad cA Λ s) H.size) U)) ∧ ∀ U : State, U.heap = H → s0.WarmedH U.vm → va_Pc (As.map (zV ad)) (fun U => U.heap.size = H.size ∧ va_P D zCl (zW ad cA Λ s) U.heap ∧ va_K D zCl (zTy cA) U ∧ va_D (fun _ => True) (zW ad cA Λ s) ∧ zSx ad (va_A (zW ad cA Λ s) H.size) U) (As.map (zV ad)).toArray U := by
  refine ⟨fun a U g mk q => ?_, fun U hU hW => ?_⟩
  · obtain ⟨q0, q1, qP, qK, qD, qS⟩ := q
    exact ⟨q0, q1, qP, va_K.moved (u := U) (U := U.calling g mk a) (Vm.Alike.refl U.vm) qK, qD, zSx_vm qS rfl rfl⟩
  · exact ⟨rfl, by rw [hU], by rw [hU]; exact hP, va_K.moved hW.alike hK, hD.weaken (fun _ _ _ _ => trivial), zSx_call hSx hS hU hW (fun q h => zA_in hD (fun q h => hA q (Nat.le_trans hS.1 h)) h)⟩
/-- a static call of a method of ours -/
theorem zCallS {M' : zM} {d' idx : Nat} {As : List Value} {res' : Option Value × zSt} (n : Nat) (hM' : zMok M') (hs : zSok M' n) (hl : Cond.methodLink M.2.1.cls idx M'.2.1 ∈ tables_1) (h : zlk M.2.2.2.2.2 pc = some (.invokestatic idx, 3)) (hR : (Nat.ble (d' + 1) d && Nat.ble M'.2.2.2.1 45) = true) (hc : Nat.ble ((rest.map fun v => v.category).sum) 8 = true) (hst : st = As.reverse ++ rest) (hn : As.length = n)
    (K : zKp M' Λ d' As s res') (k : zWA M Λ d res (pc + 3) ls (res'.1.toList ++ rest) res'.2) : zWA M Λ d res pc ls st s := by
  subst hst
  intro hM p l e s0 m args below meth c D cA ad A C H locs lsC hP hD hS hl0
  obtain ⟨hx, hb, hml, hr, hlo, hown, hts, hK, hSx, hA⟩ := C
  refine zCall_end (res' := res') (a := (As.map (zV ad)).toArray) (s := s) ?_ hD hS hA (fun H1 locs1 hP1 hS1 => k hM p l e s0 m args below meth c D cA ad A ⟨hx, hb, hml, hr, hlo, hown, hts, hK, hSx, hA⟩ H1 locs1 lsC hP1 (zD_to hD) hS1 hl0)
  refine va_runS (As := As.map (zV ad)) (n := n) (nL := M.2.2.2.1) (Ts := zTb) (own := M.2.1.cls) ⟨hx, hb, hml, hown, hts⟩ (K l D cA ad H.size) ⟨callB_of n hts (zTb_call hM') rfl rfl rfl (hts _ (zTb_of hs.2.1 rfl)) (hts _ (zTb_of hl rfl)) ⟨hs.2.2.1, hs.2.2.2.1, hs.2.2.2.2⟩ (zRm_ok hR), hts _ (zTb_of hs.1 rfl)⟩ (zPre hP hK hSx hD hS hA) rfl (by rw [List.length_map]; exact hn) hl0.1 ?_ (lv_room ?_) (zdec hM h) ⟨Nat.zero_le _, Nat.zero_le _⟩
  · show (As.reverse ++ rest).map (zV ad) = _
    rw [List.map_append, List.map_reverse]
  · rw [zV_cats]; exact Nat.le_of_ble_eq_true hc
/-- a static call of a nest mate's private method -/
theorem zCallN {M' : zM} {d' idx : Nat} {As : List Value} {res' : Option Value × zSt} (n : Nat) (hM' : zMok M') (hs : zSok M' n) (hl : Cond.methodLinkNest M.2.1.cls idx M'.2.1 "LemonGate" ∈ tables_1) (h : zlk M.2.2.2.2.2 pc = some (.invokestatic idx, 3)) (hR : (Nat.ble (d' + 1) d && Nat.ble M'.2.2.2.1 45) = true) (hc : Nat.ble ((rest.map fun v => v.category).sum) 8 = true) (hst : st = As.reverse ++ rest) (hn : As.length = n)
    (K : zKp M' Λ d' As s res') (k : zWA M Λ d res (pc + 3) ls (res'.1.toList ++ rest) res'.2) : zWA M Λ d res pc ls st s := by
  subst hst
  intro hM p l e s0 m args below meth c D cA ad A C H locs lsC hP hD hS hl0
  obtain ⟨hx, hb, hml, hr, hlo, hown, hts, hK, hSx, hA⟩ := C
  refine zCall_end (res' := res') (a := (As.map (zV ad)).toArray) (s := s) ?_ hD hS hA (fun H1 locs1 hP1 hS1 => k hM p l e s0 m args below meth c D cA ad A ⟨hx, hb, hml, hr, hlo, hown, hts, hK, hSx, hA⟩ H1 locs1 lsC hP1 (zD_to hD) hS1 hl0)
  refine va_runSN (As := As.map (zV ad)) (n := n) (nL := M.2.2.2.1) (Ts := zTb) (own := M.2.1.cls) ⟨hx, hb, hml, hown, hts⟩ (K l D cA ad H.size) ⟨va_cnB n hts (zTb_call hM') rfl rfl rfl (hSx.2 _ (List.mem_filter.mpr ⟨hl, rfl⟩)) (hts _ (zTb_of hs.2.1 rfl)) ⟨hs.2.2.1, hs.2.2.2.1, hs.2.2.2.2⟩ (zRm_ok hR), hts _ (zTb_of hs.1 rfl), trivial⟩ (zPre hP hK hSx hD hS hA) rfl (by rw [List.length_map]; exact hn) hl0.1 ?_ (lv_room ?_) (zdec hM h) ⟨Nat.zero_le _, Nat.zero_le _⟩
  · show (As.reverse ++ rest).map (zV ad) = _
    rw [List.map_append, List.map_reverse]
  · rw [zV_cats]; exact Nat.le_of_ble_eq_true hc
/-- a call of a method of an object of ours -/
theorem zCallV {M' : zM} {d' idx b : Nat} {As : List Value} {res' : Option Value × zSt} {o : Nat × List (Nat ⊕ Nat)} {w : vw_C} (n : Nat) (hM' : zMok M') (hs : zVok M' n) (hl : Cond.methodLink M.2.1.cls idx M'.2.1 ∈ tables_1) (h : zlk M.2.2.2.2.2 pc = some (.invokevirtual idx, 3)) (ho : Λ[b]? = some (.inl o)) (hw : zCl[o.1]? = some w) (hwc : w.1 = M'.2.1.cls) (hR : (Nat.ble (d' + 1) d && Nat.ble M'.2.2.2.1 45) = true) (hc : Nat.ble ((rest.map fun v => v.category).sum) 8 = true) (hst : st = As.reverse ++ .ref b :: rest) (hn : As.length = n)
    (K : zKp M' Λ d' (.ref b :: As) s res') (k : zWA M Λ d res (pc + 3) ls (res'.1.toList ++ rest) res'.2) : zWA M Λ d res pc ls st s := by
  subst hst
  intro hM p l e s0 m args below meth c D cA ad A C H locs lsC hP hD hS hl0
  obtain ⟨hx, hb, hml, hr, hlo, hown, hts, hK, hSx, hA⟩ := C
  refine zCall_end (res' := res') (a := (Value.ref (ad b) :: As.map (zV ad)).toArray) (s := s) ?_ hD hS hA (fun H1 locs1 hP1 hS1 => k hM p l e s0 m args below meth c D cA ad A ⟨hx, hb, hml, hr, hlo, hown, hts, hK, hSx, hA⟩ H1 locs1 lsC hP1 (zD_to hD) hS1 hl0)
  have hpre := zPre (As := .ref b :: As) hP hK hSx hD hS hA
  refine va_runV (As := As.map (zV ad)) (b := ad b) (C := M'.2.1.cls) (n := n) (nL := M.2.2.2.1) (Ts := zTb) (own := M.2.1.cls) ⟨hx, hb, hml, hown, hts⟩ (K l D cA ad H.size) ⟨callB_of n hts (zTb_call hM') rfl rfl rfl (hts _ (zTb_of hs.2.2.1 rfl)) (hts _ (zTb_of hl rfl)) ⟨hs.2.2.2.1, hs.2.2.2.2.1, hs.2.2.2.2.2⟩ (zRm_ok hR), hts _ (zTb_of hs.1 rfl), hts _ (zTb_in hs.2.1 rfl)⟩ ⟨hpre.1, ?_, hpre.2⟩ rfl (by rw [List.length_map]; exact hn) hl0.1 ?_ (lv_room ?_) (zdec hM h) ⟨Nat.zero_le _, Nat.zero_le _⟩
  · rw [← hwc]
    exact va_recv hK hP hw (zW_get ho)
  · show (As.reverse ++ .ref b :: rest).map (zV ad) = _
    rw [List.map_append, List.map_reverse]
    rfl
  · rw [zV_cats]; exact Nat.le_of_ble_eq_true hc
theorem zMaxI {x y : Int32} {idx : Nat} (hl : Cond.methodLink M.2.1.cls idx Lib.Math.max.name ∈ tables_1) (h : zlk M.2.2.2.2.2 pc = some (.invokestatic idx, 3)) (hd : Nat.ble 1 d = true) (hc : Nat.ble ((rest.map fun v => v.category).sum) 8 = true) (k : zWA M Λ d res (pc + 3) ls (.int (zmax x y) :: rest) s) : zWA M Λ d res pc ls (.int y :: .int x :: rest) s := by
  intro hM p l e s0 m args below meth c D cA ad A C H locs lsC hP hD hS hl0
  have h1 := Nat.le_of_ble_eq_true hd
  have h2 := Nat.le_of_ble_eq_true hc
  exact va_mmax C.1 C.2.1 (C.2.2.1.trans hl0.1.symm) C.2.2.2.2.2.1 (C.2.2.2.2.2.2.1 _ (zTb_of hl rfl)) (C.2.2.2.2.2.2.1 _ (zTb_of (by decide +kernel) rfl)) (C.2.2.2.2.2.2.1 _ (zTb_of (by decide +kernel) rfl)) (C.2.2.2.2.2.2.1 _ (zTb_of (by decide +kernel) rfl)) h1 (by rw [zV_cats]; show _ + 13 ≤ 64 * d; omega) (Nat.zero_le _) (Nat.zero_le _) (zdec hM h) (k hM p l e s0 m args below meth c D cA ad A C H locs lsC hP hD hS hl0)
theorem zMinI {x y : Int32} {idx : Nat} (hl : Cond.methodLink M.2.1.cls idx Lib.Math.min.name ∈ tables_1) (h : zlk M.2.2.2.2.2 pc = some (.invokestatic idx, 3)) (hd : Nat.ble 1 d = true) (hc : Nat.ble ((rest.map fun v => v.category).sum) 8 = true) (k : zWA M Λ d res (pc + 3) ls (.int (zmin x y) :: rest) s) : zWA M Λ d res pc ls (.int y :: .int x :: rest) s := by
  intro hM p l e s0 m args below meth c D cA ad A C H locs lsC hP hD hS hl0
  have h1 := Nat.le_of_ble_eq_true hd
  have h2 := Nat.le_of_ble_eq_true hc
  exact va_mmin C.1 C.2.1 (C.2.2.1.trans hl0.1.symm) C.2.2.2.2.2.1 (C.2.2.2.2.2.2.1 _ (zTb_of hl rfl)) (C.2.2.2.2.2.2.1 _ (zTb_of (by decide +kernel) rfl)) (C.2.2.2.2.2.2.1 _ (zTb_of (by decide +kernel) rfl)) (C.2.2.2.2.2.2.1 _ (zTb_of (by decide +kernel) rfl)) h1 (by rw [zV_cats]; show _ + 13 ≤ 64 * d; omega) (Nat.zero_le _) (Nat.zero_le _) (zdec hM h) (k hM p l e s0 m args below meth c D cA ad A C H locs lsC hP hD hS hl0)
theorem zMaxL {x y : Int64} {idx : Nat} (hl : Cond.methodLink M.2.1.cls idx Lib.MathLoose.max_long.x ∈ tables_1) (h : zlk M.2.2.2.2.2 pc = some (.invokestatic idx, 3)) (hd : Nat.ble 1 d = true) (hc : Nat.ble ((rest.map fun v => v.category).sum) 8 = true) (k : zWA M Λ d res (pc + 3) ls (.long (zmaxL x y) :: rest) s) : zWA M Λ d res pc ls (.long y :: .long x :: rest) s := by
  intro hM p l e s0 m args below meth c D cA ad A C H locs lsC hP hD hS hl0
  have h1 := Nat.le_of_ble_eq_true hd
  have h2 := Nat.le_of_ble_eq_true hc
  exact va_mmax_long C.1 C.2.1 (C.2.2.1.trans hl0.1.symm) C.2.2.2.2.2.1 (C.2.2.2.2.2.2.1 _ (zTb_of hl rfl)) (C.2.2.2.2.2.2.1 _ (zTb_of (by decide +kernel) rfl)) (C.2.2.2.2.2.2.1 _ (zTb_of (by decide +kernel) rfl)) (C.2.2.2.2.2.2.1 _ (zTb_of (by decide +kernel) rfl)) h1 (by rw [zV_cats]; show _ + 15 ≤ 64 * d; omega) (Nat.zero_le _) (Nat.zero_le _) (zdec hM h) (k hM p l e s0 m args below meth c D cA ad A C H locs lsC hP hD hS hl0)
theorem zAbsL {x : Int64} {idx : Nat} (hl : Cond.methodLink M.2.1.cls idx Lib.MathLoose.abs_long.x ∈ tables_1) (h : zlk M.2.2.2.2.2 pc = some (.invokestatic idx, 3)) (hd : Nat.ble 1 d = true) (hc : Nat.ble ((rest.map fun v => v.category).sum) 8 = true) (k : zWA M Λ d res (pc + 3) ls (.long (zabsL x) :: rest) s) : zWA M Λ d res pc ls (.long x :: rest) s := by
  intro hM p l e s0 m args below meth c D cA ad A C H locs lsC hP hD hS hl0
  have h1 := Nat.le_of_ble_eq_true hd
  have h2 := Nat.le_of_ble_eq_true hc
  exact va_mabs_long C.1 C.2.1 (C.2.2.1.trans hl0.1.symm) C.2.2.2.2.2.1 (C.2.2.2.2.2.2.1 _ (zTb_of hl rfl)) (C.2.2.2.2.2.2.1 _ (zTb_of (by decide +kernel) rfl)) (C.2.2.2.2.2.2.1 _ (zTb_of (by decide +kernel) rfl)) (C.2.2.2.2.2.2.1 _ (zTb_of (by decide +kernel) rfl)) h1 (by rw [zV_cats]; show _ + 13 ≤ 64 * d; omega) (Nat.zero_le _) (Nat.zero_le _) (zdec hM h) (k hM p l e s0 m args below meth c D cA ad A C H locs lsC hP hD hS hl0)
theorem zCpyI {α : Type} {r : α} {g : zSt → Option α} {k0 k1 n0 n1 b0 b1 idx : Nat} {sp dp n : Int32} (hf : (zcp s k0 n0 k1 n1 sp dp n).bind g = some r) (hl : Cond.methodLink M.2.1.cls idx arraycopyName ∈ tables_1) (h : zlk M.2.2.2.2.2 pc = some (.invokestatic idx, 3)) (hd : Nat.ble 1 d = true) (hc : Nat.ble ((rest.map fun v => v.category).sum) 8 = true) (h0 : Λ[k0]? = some (.inr (0, n0, b0))) (h1 : Λ[k1]? = some (.inr (0, n1, b1)))
    (kk : ∀ s', g s' = some r → zWA M Λ d res (pc + 3) ls rest s') : zWA M Λ d res pc ls (.int n :: .int dp :: .ref k1 :: .int sp :: .ref k0 :: rest) s := by
  refine zBd hf fun s' e1 e2 => ?_
  unfold zcp at e1
  refine zIte e1 (fun hin e1 => ?_) (fun _ e1 => by cases e1)
  cases e1
  intro hM p l e s0 m args below meth c D cA ad A C H locs lsC hP hD hS hl0
  have hd1 := Nat.le_of_ble_eq_true hd
  have hc1 := Nat.le_of_ble_eq_true hc
  refine va_copyi (tys := zTy cA) (ty := .int) C.1 C.2.1 (C.2.2.1.trans hl0.1.symm) C.2.2.2.2.2.1 (C.2.2.2.2.2.2.1 _ (zTb_of hl rfl)) (C.2.2.2.2.2.2.1 _ (zTb_of (by decide +kernel) rfl)) (C.2.2.2.2.2.2.1 _ (zTb_of (by decide +kernel) rfl)) (C.2.2.2.2.2.2.1 _ (zTb_of (by decide +kernel) rfl)) C.2.2.2.2.2.2.2.1 hP hD hS k0 k1 0 0 (zW_get h0) (zW_get h1) rfl rfl rfl hin.1 hin.2.1 hin.2.2.1 hin.2.2.2.1 hin.2.2.2.2 (fun i _ => rfl) hd1 ?_ (zdec hM h) (fun H1 locs1 hP1 hD1 hS1 => ?_)
  · rw [zV_cats]
    have : nativeFrameWords "java/lang/System" "arraycopy" 5 + 11 ≤ 56 := by decide +kernel
    show _ + _ ≤ 64 * d
    omega
  · have e2' : zC ad cA (zcps s k0 k1 sp.toNatClampNeg dp.toNatClampNeg n.toNatClampNeg) k1 (.inr (0, n1, b1)) = .inl (cA 0, n1, .inl (va_cpy (s.1 k0) (s.1 k1) sp.toNatClampNeg dp.toNatClampNeg n.toNatClampNeg)) := by simp only [zC, zcps, if_true]
    have e3 := zW_set (ad := ad) (cA := cA) (s := s) (t := zcps s k0 k1 sp.toNatClampNeg dp.toNatClampNeg n.toNatClampNeg) h1 (fun j hj => ⟨if_neg hj, rfl⟩)
    rw [e2'] at e3
    rw [e3] at hP1 hD1
    exact kk _ e2 hM p l e s0 m args below meth c D cA ad A C H1 locs1 lsC hP1 hD1 hS1 hl0
theorem zCpyL {α : Type} {r : α} {g : zSt → Option α} {k0 k1 n0 n1 b0 b1 idx : Nat} {sp dp n : Int32} (hf : (zcpl s k0 n0 k1 n1 sp dp n).bind g = some r) (hl : Cond.methodLink M.2.1.cls idx arraycopyName ∈ tables_1) (h : zlk M.2.2.2.2.2 pc = some (.invokestatic idx, 3)) (hd : Nat.ble 1 d = true) (hc : Nat.ble ((rest.map fun v => v.category).sum) 8 = true) (h0 : Λ[k0]? = some (.inr (1, n0, b0))) (h1 : Λ[k1]? = some (.inr (1, n1, b1)))
    (kk : ∀ s', g s' = some r → zWA M Λ d res (pc + 3) ls rest s') : zWA M Λ d res pc ls (.int n :: .int dp :: .ref k1 :: .int sp :: .ref k0 :: rest) s := by
  refine zBd hf fun s' e1 e2 => ?_
  unfold zcpl at e1
  refine zIte e1 (fun hin e1 => ?_) (fun _ e1 => by cases e1)
  cases e1
  intro hM p l e s0 m args below meth c D cA ad A C H locs lsC hP hD hS hl0
  have hd1 := Nat.le_of_ble_eq_true hd
  have hc1 := Nat.le_of_ble_eq_true hc
  refine va_copyl (tys := zTy cA) (ty := .long) C.1 C.2.1 (C.2.2.1.trans hl0.1.symm) C.2.2.2.2.2.1 (C.2.2.2.2.2.2.1 _ (zTb_of hl rfl)) (C.2.2.2.2.2.2.1 _ (zTb_of (by decide +kernel) rfl)) (C.2.2.2.2.2.2.1 _ (zTb_of (by decide +kernel) rfl)) (C.2.2.2.2.2.2.1 _ (zTb_of (by decide +kernel) rfl)) C.2.2.2.2.2.2.2.1 hP hD hS k0 k1 1 1 (zW_get h0) (zW_get h1) rfl rfl rfl hin.1 hin.2.1 hin.2.2.1 hin.2.2.2.1 hin.2.2.2.2 (fun i _ => rfl) hd1 ?_ (zdec hM h) (fun H1 locs1 hP1 hD1 hS1 => ?_)
  · rw [zV_cats]
    have : nativeFrameWords "java/lang/System" "arraycopy" 5 + 11 ≤ 56 := by decide +kernel
    show _ + _ ≤ 64 * d
    omega
  · have e2' : zC ad cA (zcpsl s k0 k1 sp.toNatClampNeg dp.toNatClampNeg n.toNatClampNeg) k1 (.inr (1, n1, b1)) = .inl (cA 1, n1, .inr (.inl (va_cpy (s.2 k0) (s.2 k1) sp.toNatClampNeg dp.toNatClampNeg n.toNatClampNeg))) := by simp only [zC, zcpsl, if_true]
    have e3 := zW_set (ad := ad) (cA := cA) (s := s) (t := zcpsl s k0 k1 sp.toNatClampNeg dp.toNatClampNeg n.toNatClampNeg) h1 (fun j hj => ⟨rfl, if_neg hj⟩)
    rw [e2'] at e3
    rw [e3] at hP1 hD1
    exact kk _ e2 hM p l e s0 m args below meth c D cA ad A C H1 locs1 lsC hP1 hD1 hS1 hl0
end ZC
end
section
/-! the two worlds: the class's cells, the reference's cells -/
def ΛG : List zD := [
  .inl (11, [.inr 1, .inr 6, .inr 13, .inr 16, .inr 25, .inr 27, .inl 1, .inr 29, .inr 32, .inr 36, .inr 39]),
  .inl (4, [.inr 2, .inr 3, .inr 4, .inr 5, .inl 0, .inl 0]),
  .inr (0, 8, 0),
  .inr (0, 40, 0),
  .inr (0, 40, 0),
  .inr (0, 40, 0),
  .inl (7, [.inr 7, .inr 8, .inr 9, .inl 0, .inr 10, .inr 11, .inl 1, .inr 12]),
  .inr (0, 32, 0),
  .inr (0, 32, 0),
  .inr (0, 128, 0),
  .inr (0, 32, 0),
  .inr (0, 32, 0),
  .inr (0, 160, 0),
  .inl (9, [.inr 14, .inl 0, .inr 15, .inl 0, .inl 0]),
  .inr (0, 120, 0),
  .inr (0, 121, 0),
  .inl (3, [.inr 17, .inr 20, .inr 23, .inl 0, .inr 24]),
  .inl (2, [.inr 18, .inr 19, .inl 0, .inl 1]),
  .inr (0, 121, 0),
  .inr (0, 121, 0),
  .inl (2, [.inr 21, .inr 22, .inl 0, .inl 1]),
  .inr (0, 121, 0),
  .inr (0, 121, 0),
  .inr (0, 9, 0),
  .inr (0, 1056, 0),
  .inl (0, [.inr 26, .inl 0, .inl 0, .inl 0, .inl 0, .inl 0, .inl 0, .inl 0, .inl 0, .inl 0, .inl 0, .inl 0, .inl 0, .inl 0]),
  .inr (0, 32, 0),
  .inl (0, [.inr 28, .inl 0, .inl 0, .inl 0, .inl 0, .inl 0, .inl 0, .inl 0, .inl 0, .inl 0, .inl 0, .inl 0, .inl 0, .inl 0]),
  .inr (0, 32, 0),
  .inl (10, [.inr 30, .inr 31]),
  .inr (0, 8, 0),
  .inr (0, 3, 0),
  .inl (6, [.inr 33, .inr 34, .inr 35]),
  .inr (0, 36, 0),
  .inr (0, 64, 0),
  .inr (0, 64, 0),
  .inl (1, [.inr 37, .inl 0, .inr 38, .inl 0, .inl 0]),
  .inr (0, 50, 0),
  .inr (0, 24, 0),
  .inr (2, 6, 40),
  .inl (5, [.inl 0, .inl 0, .inl 0, .inr 41]),
  .inr (1, 60, 0),
  .inl (5, [.inl 0, .inl 0, .inl 0, .inr 43]),
  .inr (1, 60, 0),
  .inl (5, [.inl 0, .inl 0, .inl 0, .inr 45]),
  .inr (1, 60, 0),
  .inl (5, [.inl 0, .inl 0, .inl 0, .inr 47]),
  .inr (1, 60, 0),
  .inl (5, [.inl 0, .inl 0, .inl 0, .inr 49]),
  .inr (1, 60, 0),
  .inl (5, [.inl 0, .inl 0, .inl 0, .inr 51]),
  .inr (1, 60, 0)]
def ΛM : List zD := [
  .inl (12, [.inr 1, .inr 2, .inr 3, .inr 4, .inl 0, .inl 0, .inr 5, .inr 6, .inl 0, .inr 7, .inr 8, .inl 0, .inr 9, .inr 10, .inl 0, .inl 0, .inl 0, .inl 0, .inl 0, .inr 11, .inr 12, .inl 0, .inl 0, .inl 0, .inl 0, .inl 0, .inl 0, .inl 1, .inr 13, .inr 14, .inl 0, .inr 15, .inr 16, .inr 17, .inr 18, .inr 19, .inr 20, .inr 21, .inl 1, .inr 22, .inr 23, .inl 0, .inr 24, .inr 25, .inl 0, .inl 0, .inl 0, .inr 26, .inr 27, .inr 28, .inr 29]),
  .inr (0, 8, 0),
  .inr (0, 40, 0),
  .inr (0, 40, 0),
  .inr (0, 40, 0),
  .inr (0, 32, 0),
  .inr (0, 32, 0),
  .inr (0, 128, 0),
  .inr (0, 120, 0),
  .inr (0, 240, 0),
  .inr (0, 2, 0),
  .inr (0, 9, 0),
  .inr (0, 32, 0),
  .inr (0, 8, 0),
  .inr (0, 32, 0),
  .inr (0, 165, 0),
  .inr (1, 10, 0),
  .inr (0, 8, 0),
  .inr (0, 3, 0),
  .inr (0, 36, 0),
  .inr (0, 64, 0),
  .inr (0, 64, 0),
  .inr (0, 32, 0),
  .inr (0, 32, 0),
  .inr (0, 50, 0),
  .inr (0, 24, 0),
  .inr (0, 6, 0),
  .inr (0, 6, 0),
  .inr (1, 360, 0),
  .inr (1, 60, 0)]
theorem zlokG : zLok ΛG = true := by decide +kernel
theorem zlokM : zLok ΛM = true := by decide +kernel
abbrev zDyAt (o : Nat) : Prop := ΛG[o]? = some (.inl (0, [.inr (o + 1), .inl 0, .inl 0, .inl 0, .inl 0, .inl 0, .inl 0, .inl 0, .inl 0, .inl 0, .inl 0, .inl 0, .inl 0, .inl 0])) ∧ ΛG[o + 1]? = some (.inr (0, 32, 0))
abbrev zLwAt (o : Nat) : Prop := ΛG[o]? = some (.inl (2, [.inr (o + 1), .inr (o + 2), .inl 0, .inl 1])) ∧ ΛG[o + 1]? = some (.inr (0, 121, 0)) ∧ ΛG[o + 2]? = some (.inr (0, 121, 0))
abbrev zShAt (o : Nat) : Prop := ΛG[o]? = some (.inl (5, [.inl 0, .inl 0, .inl 0, .inr (o + 1)])) ∧ ΛG[o + 1]? = some (.inr (1, 60, 0))
theorem zsh_at {j : Nat} (h : j < 6) : zShAt (40 + 2 * j) := by
  match j, h with
  | 0, _ => exact ⟨rfl, rfl⟩
  | 1, _ => exact ⟨rfl, rfl⟩
  | 2, _ => exact ⟨rfl, rfl⟩
  | 3, _ => exact ⟨rfl, rfl⟩
  | 4, _ => exact ⟨rfl, rfl⟩
  | 5, _ => exact ⟨rfl, rfl⟩
def zFu : Nat := 5000
def zfill (s : zSt) (k n : Nat) (v : Int32) : zSt := (fun a => if a = k then (fun j => if j < n then v else s.1 k j) else s.1 a, s.2)
def zfillL (s : zSt) (k n : Nat) (v : Int64) : zSt := (s.1, fun a => if a = k then (fun j => if j < n then v else s.2 k j) else s.2 a)
def zKd (Λ : List zD) : Bool := Λ.all fun d => match d with
  | .inl o => o.2.all fun f => match f with
    | .inl kd => Nat.ble kd 1
    | .inr _ => true
  | .inr _ => true
section ZD
variable {M : zM} {Λ : List zD} {d : Nat} {res : Option Value × zSt} {pc : Nat} {ls : List (Nat × Value)} {st rest : List Value} {s : zSt}
theorem zSI {α : Type} {X : Option (Int32 × zSt)} {g : Int32 × zSt → Option α} {r : α} (hf : X.bind g = some r) {M' : zM} {d' idx : Nat} {As : List Value} (n : Nat) (hM' : zMok M') (hs : zSok M' n) (hl : Cond.methodLink M.2.1.cls idx M'.2.1 ∈ tables_1) (h : zlk M.2.2.2.2.2 pc = some (.invokestatic idx, 3)) (hR : (Nat.ble (d' + 1) d && Nat.ble M'.2.2.2.1 45) = true) (hc : Nat.ble ((rest.map fun v => v.category).sum) 8 = true) (hst : st = As.reverse ++ rest) (hn : As.length = n)
    (K : ∀ x, X = some x → zKp M' Λ d' As s (some (.int x.1), x.2)) (k : ∀ x, g x = some r → zWA M Λ d res (pc + 3) ls (.int x.1 :: rest) x.2) : zWA M Λ d res pc ls st s :=
  zBd hf fun x h1 h2 => zCallS n hM' hs hl h hR hc hst hn (K x h1) (k x h2)
theorem zSL {α : Type} {X : Option (Int64 × zSt)} {g : Int64 × zSt → Option α} {r : α} (hf : X.bind g = some r) {M' : zM} {d' idx : Nat} {As : List Value} (n : Nat) (hM' : zMok M') (hs : zSok M' n) (hl : Cond.methodLink M.2.1.cls idx M'.2.1 ∈ tables_1) (h : zlk M.2.2.2.2.2 pc = some (.invokestatic idx, 3)) (hR : (Nat.ble (d' + 1) d && Nat.ble M'.2.2.2.1 45) = true) (hc : Nat.ble ((rest.map fun v => v.category).sum) 8 = true) (hst : st = As.reverse ++ rest) (hn : As.length = n)
    (K : ∀ x, X = some x → zKp M' Λ d' As s (some (.long x.1), x.2)) (k : ∀ x, g x = some r → zWA M Λ d res (pc + 3) ls (.long x.1 :: rest) x.2) : zWA M Λ d res pc ls st s :=
  zBd hf fun x h1 h2 => zCallS n hM' hs hl h hR hc hst hn (K x h1) (k x h2)
theorem zSV {α : Type} {X : Option (zSt)} {g : zSt → Option α} {r : α} (hf : X.bind g = some r) {M' : zM} {d' idx : Nat} {As : List Value} (n : Nat) (hM' : zMok M') (hs : zSok M' n) (hl : Cond.methodLink M.2.1.cls idx M'.2.1 ∈ tables_1) (h : zlk M.2.2.2.2.2 pc = some (.invokestatic idx, 3)) (hR : (Nat.ble (d' + 1) d && Nat.ble M'.2.2.2.1 45) = true) (hc : Nat.ble ((rest.map fun v => v.category).sum) 8 = true) (hst : st = As.reverse ++ rest) (hn : As.length = n)
    (K : ∀ x, X = some x → zKp M' Λ d' As s (none, x)) (k : ∀ x, g x = some r → zWA M Λ d res (pc + 3) ls (rest) x) : zWA M Λ d res pc ls st s :=
  zBd hf fun x h1 h2 => zCallS n hM' hs hl h hR hc hst hn (K x h1) (k x h2)
theorem zNI {α : Type} {X : Option (Int32 × zSt)} {g : Int32 × zSt → Option α} {r : α} (hf : X.bind g = some r) {M' : zM} {d' idx : Nat} {As : List Value} (n : Nat) (hM' : zMok M') (hs : zSok M' n) (hl : Cond.methodLinkNest M.2.1.cls idx M'.2.1 "LemonGate" ∈ tables_1) (h : zlk M.2.2.2.2.2 pc = some (.invokestatic idx, 3)) (hR : (Nat.ble (d' + 1) d && Nat.ble M'.2.2.2.1 45) = true) (hc : Nat.ble ((rest.map fun v => v.category).sum) 8 = true) (hst : st = As.reverse ++ rest) (hn : As.length = n)
    (K : ∀ x, X = some x → zKp M' Λ d' As s (some (.int x.1), x.2)) (k : ∀ x, g x = some r → zWA M Λ d res (pc + 3) ls (.int x.1 :: rest) x.2) : zWA M Λ d res pc ls st s :=
  zBd hf fun x h1 h2 => zCallN n hM' hs hl h hR hc hst hn (K x h1) (k x h2)
theorem zNL {α : Type} {X : Option (Int64 × zSt)} {g : Int64 × zSt → Option α} {r : α} (hf : X.bind g = some r) {M' : zM} {d' idx : Nat} {As : List Value} (n : Nat) (hM' : zMok M') (hs : zSok M' n) (hl : Cond.methodLinkNest M.2.1.cls idx M'.2.1 "LemonGate" ∈ tables_1) (h : zlk M.2.2.2.2.2 pc = some (.invokestatic idx, 3)) (hR : (Nat.ble (d' + 1) d && Nat.ble M'.2.2.2.1 45) = true) (hc : Nat.ble ((rest.map fun v => v.category).sum) 8 = true) (hst : st = As.reverse ++ rest) (hn : As.length = n)
    (K : ∀ x, X = some x → zKp M' Λ d' As s (some (.long x.1), x.2)) (k : ∀ x, g x = some r → zWA M Λ d res (pc + 3) ls (.long x.1 :: rest) x.2) : zWA M Λ d res pc ls st s :=
  zBd hf fun x h1 h2 => zCallN n hM' hs hl h hR hc hst hn (K x h1) (k x h2)
theorem zNV {α : Type} {X : Option (zSt)} {g : zSt → Option α} {r : α} (hf : X.bind g = some r) {M' : zM} {d' idx : Nat} {As : List Value} (n : Nat) (hM' : zMok M') (hs : zSok M' n) (hl : Cond.methodLinkNest M.2.1.cls idx M'.2.1 "LemonGate" ∈ tables_1) (h : zlk M.2.2.2.2.2 pc = some (.invokestatic idx, 3)) (hR : (Nat.ble (d' + 1) d && Nat.ble M'.2.2.2.1 45) = true) (hc : Nat.ble ((rest.map fun v => v.category).sum) 8 = true) (hst : st = As.reverse ++ rest) (hn : As.length = n)
    (K : ∀ x, X = some x → zKp M' Λ d' As s (none, x)) (k : ∀ x, g x = some r → zWA M Λ d res (pc + 3) ls (rest) x) : zWA M Λ d res pc ls st s :=
  zBd hf fun x h1 h2 => zCallN n hM' hs hl h hR hc hst hn (K x h1) (k x h2)
theorem zXI {α : Type} {X : Option (Int32 × zSt)} {g : Int32 × zSt → Option α} {r : α} (hf : X.bind g = some r) {M' : zM} {d' idx : Nat} {As : List Value} {b : Nat} {o : Nat × List (Nat ⊕ Nat)} {w : vw_C} (n : Nat) (hM' : zMok M') (hs : zVok M' n) (hl : Cond.methodLink M.2.1.cls idx M'.2.1 ∈ tables_1) (h : zlk M.2.2.2.2.2 pc = some (.invokevirtual idx, 3)) (ho : Λ[b]? = some (.inl o)) (hw : zCl[o.1]? = some w) (hwc : w.1 = M'.2.1.cls) (hR : (Nat.ble (d' + 1) d && Nat.ble M'.2.2.2.1 45) = true) (hc : Nat.ble ((rest.map fun v => v.category).sum) 8 = true) (hst : st = As.reverse ++ .ref b :: rest) (hn : As.length = n)
    (K : ∀ x, X = some x → zKp M' Λ d' (.ref b :: As) s (some (.int x.1), x.2)) (k : ∀ x, g x = some r → zWA M Λ d res (pc + 3) ls (.int x.1 :: rest) x.2) : zWA M Λ d res pc ls st s :=
  zBd hf fun x h1 h2 => zCallV n hM' hs hl h ho hw hwc hR hc hst hn (K x h1) (k x h2)
theorem zXL {α : Type} {X : Option (Int64 × zSt)} {g : Int64 × zSt → Option α} {r : α} (hf : X.bind g = some r) {M' : zM} {d' idx : Nat} {As : List Value} {b : Nat} {o : Nat × List (Nat ⊕ Nat)} {w : vw_C} (n : Nat) (hM' : zMok M') (hs : zVok M' n) (hl : Cond.methodLink M.2.1.cls idx M'.2.1 ∈ tables_1) (h : zlk M.2.2.2.2.2 pc = some (.invokevirtual idx, 3)) (ho : Λ[b]? = some (.inl o)) (hw : zCl[o.1]? = some w) (hwc : w.1 = M'.2.1.cls) (hR : (Nat.ble (d' + 1) d && Nat.ble M'.2.2.2.1 45) = true) (hc : Nat.ble ((rest.map fun v => v.category).sum) 8 = true) (hst : st = As.reverse ++ .ref b :: rest) (hn : As.length = n)
    (K : ∀ x, X = some x → zKp M' Λ d' (.ref b :: As) s (some (.long x.1), x.2)) (k : ∀ x, g x = some r → zWA M Λ d res (pc + 3) ls (.long x.1 :: rest) x.2) : zWA M Λ d res pc ls st s :=
  zBd hf fun x h1 h2 => zCallV n hM' hs hl h ho hw hwc hR hc hst hn (K x h1) (k x h2)
theorem zXV {α : Type} {X : Option (zSt)} {g : zSt → Option α} {r : α} (hf : X.bind g = some r) {M' : zM} {d' idx : Nat} {As : List Value} {b : Nat} {o : Nat × List (Nat ⊕ Nat)} {w : vw_C} (n : Nat) (hM' : zMok M') (hs : zVok M' n) (hl : Cond.methodLink M.2.1.cls idx M'.2.1 ∈ tables_1) (h : zlk M.2.2.2.2.2 pc = some (.invokevirtual idx, 3)) (ho : Λ[b]? = some (.inl o)) (hw : zCl[o.1]? = some w) (hwc : w.1 = M'.2.1.cls) (hR : (Nat.ble (d' + 1) d && Nat.ble M'.2.2.2.1 45) = true) (hc : Nat.ble ((rest.map fun v => v.category).sum) 8 = true) (hst : st = As.reverse ++ .ref b :: rest) (hn : As.length = n)
    (K : ∀ x, X = some x → zKp M' Λ d' (.ref b :: As) s (none, x)) (k : ∀ x, g x = some r → zWA M Λ d res (pc + 3) ls (rest) x) : zWA M Λ d res pc ls st s :=
  zBd hf fun x h1 h2 => zCallV n hM' hs hl h ho hw hwc hR hc hst hn (K x h1) (k x h2)
theorem zkd_no (hL : zKd Λ = true) {ci j kd : Nat} {fs : List (Nat ⊕ Nat)} (ho : Sum.inl (ci, fs) ∈ Λ) (hfd : fs[j]? = some (.inl kd)) (h0 : ¬ kd = 0) (h1 : ¬ kd = 1) : False := by
  have h := List.all_eq_true.mp hL _ ho
  have h2 := List.all_eq_true.mp h _ (List.mem_of_getElem? hfd)
  have h3 := Nat.le_of_ble_eq_true h2
  omega
theorem zGetI {k idx ci j kd : Nat} {fs : List (Nat ⊕ Nat)} (h : zlk M.2.2.2.2.2 pc = some (.getfield idx, 3)) (hq : zlk (zfl M.1) idx = some (ci, j)) (ho : Λ[k]? = some (.inl (ci, fs))) (hfd : fs[j]? = some (.inl kd)) (kk : zWA M Λ d res (pc + 3) ls (.int (s.1 k j) :: rest) s) : zWA M Λ d res pc ls (.ref k :: rest) s :=
  fun hM => zs_get (x := (ls, .ref k :: rest, s)) (y := (ls, .int (s.1 k j) :: rest, s)) (zdec hM h) (by simp [zGet, hq, ho, hfd]) kk hM
theorem zGetR {k idx ci j b : Nat} {fs : List (Nat ⊕ Nat)} (h : zlk M.2.2.2.2.2 pc = some (.getfield idx, 3)) (hq : zlk (zfl M.1) idx = some (ci, j)) (ho : Λ[k]? = some (.inl (ci, fs))) (hfd : fs[j]? = some (.inr b)) (kk : zWA M Λ d res (pc + 3) ls (.ref b :: rest) s) : zWA M Λ d res pc ls (.ref k :: rest) s :=
  fun hM => zs_get (x := (ls, .ref k :: rest, s)) (y := (ls, .ref b :: rest, s)) (zdec hM h) (by simp [zGet, hq, ho, hfd]) kk hM
theorem zPutX {α : Type} {r : α} {g : zSt → Option α} (hL : zLok Λ = true ∧ zKd Λ = true) {k idx ci j kd : Nat} {v : Int32} {fs : List (Nat ⊕ Nat)} (hf : (some (zw s k j v)).bind g = some r) (h : zlk M.2.2.2.2.2 pc = some (.putfield idx, 3)) (hq : zlk (zfl M.1) idx = some (ci, j)) (ho : Λ[k]? = some (.inl (ci, fs))) (hfd : fs[j]? = some (.inl kd)) (hv : kd = 0 ∨ (v = 0 ∨ v = 1)) (kk : ∀ s', g s' = some r → zWA M Λ d res (pc + 3) ls rest s') : zWA M Λ d res pc ls (.int v :: .ref k :: rest) s := by
  refine zBd hf fun s' h1 h2 => ?_
  cases h1
  intro hM
  have hk : kd = 0 ∨ kd = 1 := by
    by_cases h0 : kd = 0
    · exact Or.inl h0
    · rcases hv with z | z
      · exact absurd z h0
      · by_cases h3 : kd = 1
        · exact Or.inr h3
        · exfalso
          exact zkd_no hL.2 (List.mem_of_getElem? ho) hfd h0 h3
  refine zs_put (x := (ls, .int v :: .ref k :: rest, s)) (y := (ls, rest, zw s k j v)) (zdec hM h) ?_ (fun q w o kd _ hw ho e hf => zLok_put hL.1 hw ho e hf) (kk _ h2) hM
  rcases hk with rfl | rfl
  · simp [zPut, hq, ho, hfd]
  · rcases hv with z | z
    · cases z
    · simp [zPut, hq, ho, hfd, z]
theorem zRetZc {r : Int32 × zSt} {v : Int32} (hf : some (v, s) = some r) (hv : v = 0 ∨ v = 1) (h : zlk M.2.2.2.2.2 pc = some (.ireturn, 1)) (hr : M.2.2.2.2.1 = some .boolean) : zWA M Λ d (some (.int r.1), r.2) pc ls [.int v] s :=
  zRetZ (g := fun v => some (v, s)) (by rw [zbo, if_pos hv]; exact hf) h hr
end ZD
theorem zlkkG : zLok ΛG = true ∧ zKd ΛG = true := ⟨zlokG, by decide +kernel⟩
end
section
/-! the methods: names, code, instructions (printed) -/
theorem zci_0 : Cond.initialized "LemonGate$Day" ∈ tables_1 := (List.mem_of_getElem? (i := 8) (by decide +kernel))
theorem zcn_0 : "LemonGate$Day" ≠ "java/lang/invoke/MethodHandle" ∧ "LemonGate$Day" ≠ "java/lang/invoke/VarHandle" := ⟨by decide +kernel, by decide +kernel⟩
theorem zcp_0 : plainName "LemonGate$Day" = true := by decide +kernel
theorem zci_1 : Cond.initialized "LemonGate$Glasses" ∈ tables_1 := (List.mem_of_getElem? (i := 11) (by decide +kernel))
theorem zcn_1 : "LemonGate$Glasses" ≠ "java/lang/invoke/MethodHandle" ∧ "LemonGate$Glasses" ≠ "java/lang/invoke/VarHandle" := ⟨by decide +kernel, by decide +kernel⟩
theorem zcp_1 : plainName "LemonGate$Glasses" = true := by decide +kernel
theorem zci_2 : Cond.initialized "LemonGate$Law" ∈ tables_1 := (List.mem_of_getElem? (i := 7) (by decide +kernel))
theorem zcn_2 : "LemonGate$Law" ≠ "java/lang/invoke/MethodHandle" ∧ "LemonGate$Law" ≠ "java/lang/invoke/VarHandle" := ⟨by decide +kernel, by decide +kernel⟩
theorem zcp_2 : plainName "LemonGate$Law" = true := by decide +kernel
theorem zci_3 : Cond.initialized "LemonGate$Laws" ∈ tables_1 := (List.mem_of_getElem? (i := 6) (by decide +kernel))
theorem zcn_3 : "LemonGate$Laws" ≠ "java/lang/invoke/MethodHandle" ∧ "LemonGate$Laws" ≠ "java/lang/invoke/VarHandle" := ⟨by decide +kernel, by decide +kernel⟩
theorem zcp_3 : plainName "LemonGate$Laws" = true := by decide +kernel
theorem zci_4 : Cond.initialized "LemonGate$Recipe" ∈ tables_1 := (List.mem_of_getElem? (i := 2) (by decide +kernel))
theorem zcn_4 : "LemonGate$Recipe" ≠ "java/lang/invoke/MethodHandle" ∧ "LemonGate$Recipe" ≠ "java/lang/invoke/VarHandle" := ⟨by decide +kernel, by decide +kernel⟩
theorem zcp_4 : plainName "LemonGate$Recipe" = true := by decide +kernel
theorem zci_5 : Cond.initialized "LemonGate$Shelf" ∈ tables_1 := (List.mem_of_getElem? (i := 12) (by decide +kernel))
theorem zcn_5 : "LemonGate$Shelf" ≠ "java/lang/invoke/MethodHandle" ∧ "LemonGate$Shelf" ≠ "java/lang/invoke/VarHandle" := ⟨by decide +kernel, by decide +kernel⟩
theorem zcp_5 : plainName "LemonGate$Shelf" = true := by decide +kernel
theorem zci_6 : Cond.initialized "LemonGate$Slates" ∈ tables_1 := (List.mem_of_getElem? (i := 10) (by decide +kernel))
theorem zcn_6 : "LemonGate$Slates" ≠ "java/lang/invoke/MethodHandle" ∧ "LemonGate$Slates" ≠ "java/lang/invoke/VarHandle" := ⟨by decide +kernel, by decide +kernel⟩
theorem zcp_6 : plainName "LemonGate$Slates" = true := by decide +kernel
theorem zci_7 : Cond.initialized "LemonGate$Street" ∈ tables_1 := (List.mem_of_getElem? (i := 3) (by decide +kernel))
theorem zcn_7 : "LemonGate$Street" ≠ "java/lang/invoke/MethodHandle" ∧ "LemonGate$Street" ≠ "java/lang/invoke/VarHandle" := ⟨by decide +kernel, by decide +kernel⟩
theorem zcp_7 : plainName "LemonGate$Street" = true := by decide +kernel
theorem zci_8 : Cond.initialized "LemonGate$Sums" ∈ tables_1 := (List.mem_of_getElem? (i := 16) (by decide +kernel))
theorem zcn_8 : "LemonGate$Sums" ≠ "java/lang/invoke/MethodHandle" ∧ "LemonGate$Sums" ≠ "java/lang/invoke/VarHandle" := ⟨by decide +kernel, by decide +kernel⟩
theorem zcp_8 : plainName "LemonGate$Sums" = true := by decide +kernel
theorem zci_9 : Cond.initialized "LemonGate$Tape" ∈ tables_1 := (List.mem_of_getElem? (i := 5) (by decide +kernel))
theorem zcn_9 : "LemonGate$Tape" ≠ "java/lang/invoke/MethodHandle" ∧ "LemonGate$Tape" ≠ "java/lang/invoke/VarHandle" := ⟨by decide +kernel, by decide +kernel⟩
theorem zcp_9 : plainName "LemonGate$Tape" = true := by decide +kernel
theorem zci_10 : Cond.initialized "LemonGate$Three" ∈ tables_1 := (List.mem_of_getElem? (i := 9) (by decide +kernel))
theorem zcn_10 : "LemonGate$Three" ≠ "java/lang/invoke/MethodHandle" ∧ "LemonGate$Three" ≠ "java/lang/invoke/VarHandle" := ⟨by decide +kernel, by decide +kernel⟩
theorem zcp_10 : plainName "LemonGate$Three" = true := by decide +kernel
theorem zci_11 : Cond.initialized "LemonGate" ∈ tables_1 := (List.mem_of_getElem? (i := 1) (by decide +kernel))
theorem zcn_11 : "LemonGate" ≠ "java/lang/invoke/MethodHandle" ∧ "LemonGate" ≠ "java/lang/invoke/VarHandle" := ⟨by decide +kernel, by decide +kernel⟩
theorem zcp_11 : plainName "LemonGate" = true := by decide +kernel
theorem zci_12 : Cond.initialized "LemonGateModel" ∈ tables_1 := (List.mem_of_getElem? (i := 13) (by decide +kernel))
theorem zcn_12 : "LemonGateModel" ≠ "java/lang/invoke/MethodHandle" ∧ "LemonGateModel" ≠ "java/lang/invoke/VarHandle" := ⟨by decide +kernel, by decide +kernel⟩
theorem zcp_12 : plainName "LemonGateModel" = true := by decide +kernel
noncomputable def zm_dy_begin : zM := (0, ⟨"LemonGate$Day", "begin", "(ILLemonGate$Recipe;II)V"⟩, prog_2_method_2_code, 5, none, [(0, .aload_n 0, 1), (1, .getfield 9, 3), (4, .iconst 0, 1), (5, .invokestatic 15, 3), (8, .aload_n 0, 1), (9, .iconst 0, 1), (10, .putfield 21, 3), (13, .aload_n 0, 1), (14, .iconst 0, 1), (15, .putfield 25, 3), (18, .aload_n 0, 1), (19, .iconst 0, 1), (20, .putfield 28, 3), (23, .aload_n 0, 1), (24, .iconst 0, 1), (25, .putfield 31, 3), (28, .aload_n 0, 1), (29, .iconst 0, 1), (30, .putfield 34, 3), (33, .aload_n 0, 1), (34, .iload_n 1, 1), (35, .putfield 37, 3), (38, .aload_n 0, 1), (39, .iload_n 3, 1), (40, .putfield 40, 3), (43, .aload_n 0, 1), (44, .iload 4, 2), (46, .putfield 43, 3), (49, .aload_n 0, 1), (50, .aload_n 2, 1), (51, .invokevirtual 46, 3), (54, .putfield 52, 3), (57, .aload_n 0, 1), (58, .aload_n 2, 1), (59, .getfield 54, 3), (62, .iconst 2, 1), (63, .iaload, 1), (64, .putfield 57, 3), (67, .aload_n 0, 1), (68, .aload_n 2, 1), (69, .getfield 54, 3), (72, .iconst 5, 1), (73, .iaload, 1), (74, .putfield 60, 3), (77, .aload_n 0, 1), (78, .aload_n 2, 1), (79, .getfield 54, 3), (82, .bipush 6, 2), (84, .iaload, 1), (85, .putfield 63, 3), (88, .aload_n 0, 1), (89, .invokevirtual 66, 3), (92, .return_, 1)])
theorem zmk_dy_begin : zMok zm_dy_begin := ⟨by decide +kernel, rfl, List.mem_append_right _ (List.mem_of_getElem? (i := 573) (by decide +kernel)), plainFor_of_name zcp_0⟩
theorem zok_dy_begin : zVok zm_dy_begin 4 := ⟨(List.mem_of_getElem? (i := 571) (by decide +kernel)), (List.mem_append_right _ (List.mem_of_getElem? (i := 572) (by decide +kernel))), zci_0, zcn_0.1, zcn_0.2, by decide +kernel⟩
noncomputable def zm_dy_pass : zM := (0, ⟨"LemonGate$Day", "pass", "(ILLemonGate$Street;LLemonGate$Laws;)V"⟩, prog_2_method_3_code, 8, none, [(0, .iload_n 1, 1), (1, .invokestatic 69, 3), (4, .ifCond .ne 4, 3), (7, .return_, 1), (8, .aload_n 2, 1), (9, .getfield 73, 3), (12, .iload_n 1, 1), (13, .iaload, 1), (14, .istore 4, 2), (16, .aload_n 2, 1), (17, .iload_n 1, 1), (18, .invokevirtual 78, 3), (21, .istore 5, 2), (23, .iconst 0, 1), (24, .istore 6, 2), (26, .iload 6, 2), (28, .iload 5, 2), (30, .if_icmp .ge 62, 3), (33, .aload_n 0, 1), (34, .invokevirtual 82, 3), (37, .istore 7, 2), (39, .aload_n 0, 1), (40, .getfield 31, 3), (43, .ifCond .le 43, 3), (46, .iload 7, 2), (48, .aload_n 3, 1), (49, .iload_n 1, 1), (50, .iload 4, 2), (52, .aload_n 0, 1), (53, .getfield 85, 3), (56, .invokevirtual 88, 3), (59, .if_icmp .ge 27, 3), (62, .aload_n 0, 1), (63, .getfield 9, 3), (66, .iload_n 1, 1), (67, .dup2, 1), (68, .iaload, 1), (69, .iconst 1, 1), (70, .iadd, 1), (71, .iastore, 1), (72, .aload_n 0, 1), (73, .dup, 1), (74, .getfield 21, 3), (77, .iconst 1, 1), (78, .iadd, 1), (79, .putfield 21, 3), (82, .aload_n 0, 1), (83, .invokevirtual 94, 3), (86, .iinc 6 1, 3), (89, .goto (-63), 3), (92, .aload_n 0, 1), (93, .invokevirtual 82, 3), (96, .aload_n 0, 1), (97, .getfield 63, 3), (100, .if_icmp .ge 24, 3), (103, .aload_n 0, 1), (104, .getfield 31, 3), (107, .ifCond .le 17, 3), (110, .aload_n 0, 1), (111, .dup, 1), (112, .getfield 25, 3), (115, .iconst 1, 1), (116, .iadd, 1), (117, .putfield 25, 3), (120, .aload_n 0, 1), (121, .invokevirtual 94, 3), (124, .aload_n 0, 1), (125, .invokevirtual 97, 3), (128, .return_, 1)])
theorem zmk_dy_pass : zMok zm_dy_pass := ⟨by decide +kernel, rfl, List.mem_append_right _ (List.mem_of_getElem? (i := 583) (by decide +kernel)), plainFor_of_name zcp_0⟩
theorem zok_dy_pass : zVok zm_dy_pass 3 := ⟨(List.mem_of_getElem? (i := 581) (by decide +kernel)), (List.mem_append_right _ (List.mem_of_getElem? (i := 582) (by decide +kernel))), zci_0, zcn_0.1, zcn_0.2, by decide +kernel⟩
noncomputable def zm_dy_draw : zM := (0, ⟨"LemonGate$Day", "draw", "()I"⟩, prog_2_method_4_code, 1, some .int, [(0, .aload_n 0, 1), (1, .aload_n 0, 1), (2, .getfield 37, 3), (5, .ldc 100, 2), (7, .imul, 1), (8, .sipush 12345, 3), (11, .iadd, 1), (12, .putfield 37, 3), (15, .aload_n 0, 1), (16, .getfield 37, 3), (19, .bipush 8, 2), (21, .iushr, 1), (22, .bipush 12, 2), (24, .irem, 1), (25, .ireturn, 1)])
theorem zmk_dy_draw : zMok zm_dy_draw := ⟨by decide +kernel, rfl, List.mem_append_right _ (List.mem_of_getElem? (i := 593) (by decide +kernel)), plainFor_of_name zcp_0⟩
theorem zok_dy_draw : zVok zm_dy_draw 0 := ⟨(List.mem_of_getElem? (i := 592) (by decide +kernel)), (List.mem_append_left _ (List.mem_map.mpr ⟨(⟨"LemonGate$Day", "draw", "()I"⟩, 14), List.mem_of_getElem? (i := 20) (by decide +kernel), rfl⟩)), zci_0, zcn_0.1, zcn_0.2, by decide +kernel⟩
noncomputable def zm_dy_emptyGlass : zM := (0, ⟨"LemonGate$Day", "emptyGlass", "()V"⟩, prog_2_method_5_code, 1, none, [(0, .aload_n 0, 1), (1, .dup, 1), (2, .getfield 31, 3), (5, .iconst 1, 1), (6, .isub, 1), (7, .putfield 31, 3), (10, .aload_n 0, 1), (11, .invokevirtual 66, 3), (14, .return_, 1)])
theorem zmk_dy_emptyGlass : zMok zm_dy_emptyGlass := ⟨by decide +kernel, rfl, List.mem_append_right _ (List.mem_of_getElem? (i := 599) (by decide +kernel)), plainFor_of_name zcp_0⟩
theorem zok_dy_emptyGlass : zVok zm_dy_emptyGlass 0 := ⟨(List.mem_of_getElem? (i := 598) (by decide +kernel)), (List.mem_append_left _ (List.mem_map.mpr ⟨(⟨"LemonGate$Day", "emptyGlass", "()V"⟩, 14), List.mem_of_getElem? (i := 21) (by decide +kernel), rfl⟩)), zci_0, zcn_0.1, zcn_0.2, by decide +kernel⟩
noncomputable def zm_dy_refill : zM := (0, ⟨"LemonGate$Day", "refill", "()V"⟩, prog_2_method_6_code, 1, none, [(0, .aload_n 0, 1), (1, .getfield 31, 3), (4, .ifCond .ne 37, 3), (7, .aload_n 0, 1), (8, .getfield 34, 3), (11, .aload_n 0, 1), (12, .getfield 43, 3), (15, .if_icmp .ge 26, 3), (18, .aload_n 0, 1), (19, .dup, 1), (20, .getfield 34, 3), (23, .iconst 1, 1), (24, .iadd, 1), (25, .putfield 34, 3), (28, .aload_n 0, 1), (29, .aload_n 0, 1), (30, .getfield 57, 3), (33, .putfield 31, 3), (36, .aload_n 0, 1), (37, .iconst 0, 1), (38, .putfield 85, 3), (41, .return_, 1)])
theorem zmk_dy_refill : zMok zm_dy_refill := ⟨by decide +kernel, rfl, List.mem_append_right _ (List.mem_of_getElem? (i := 579) (by decide +kernel)), plainFor_of_name zcp_0⟩
theorem zok_dy_refill : zVok zm_dy_refill 0 := ⟨(List.mem_of_getElem? (i := 578) (by decide +kernel)), (List.mem_append_left _ (List.mem_map.mpr ⟨(⟨"LemonGate$Day", "refill", "()V"⟩, 14), List.mem_of_getElem? (i := 19) (by decide +kernel), rfl⟩)), zci_0, zcn_0.1, zcn_0.2, by decide +kernel⟩
noncomputable def zm_dy_grow : zM := (0, ⟨"LemonGate$Day", "grow", "()V"⟩, prog_2_method_7_code, 1, none, [(0, .aload_n 0, 1), (1, .getfield 31, 3), (4, .ifCond .le 41, 3), (7, .aload_n 0, 1), (8, .getfield 85, 3), (11, .iconst 1, 1), (12, .iadd, 1), (13, .aload_n 0, 1), (14, .getfield 60, 3), (17, .if_icmp .lt 28, 3), (20, .aload_n 0, 1), (21, .dup, 1), (22, .getfield 28, 3), (25, .aload_n 0, 1), (26, .getfield 31, 3), (29, .iadd, 1), (30, .putfield 28, 3), (33, .aload_n 0, 1), (34, .iconst 0, 1), (35, .putfield 31, 3), (38, .aload_n 0, 1), (39, .invokevirtual 66, 3), (42, .goto 13, 3), (45, .aload_n 0, 1), (46, .dup, 1), (47, .getfield 85, 3), (50, .iconst 1, 1), (51, .iadd, 1), (52, .putfield 85, 3), (55, .return_, 1)])
theorem zmk_dy_grow : zMok zm_dy_grow := ⟨by decide +kernel, rfl, List.mem_append_right _ (List.mem_of_getElem? (i := 603) (by decide +kernel)), plainFor_of_name zcp_0⟩
theorem zok_dy_grow : zVok zm_dy_grow 0 := ⟨(List.mem_of_getElem? (i := 602) (by decide +kernel)), (List.mem_append_left _ (List.mem_map.mpr ⟨(⟨"LemonGate$Day", "grow", "()V"⟩, 14), List.mem_of_getElem? (i := 22) (by decide +kernel), rfl⟩)), zci_0, zcn_0.1, zcn_0.2, by decide +kernel⟩
noncomputable def zm_dy_gain : zM := (0, ⟨"LemonGate$Day", "gain", "()I"⟩, prog_2_method_8_code, 1, some .int, [(0, .aload_n 0, 1), (1, .getfield 21, 3), (4, .aload_n 0, 1), (5, .getfield 40, 3), (8, .imul, 1), (9, .aload_n 0, 1), (10, .getfield 34, 3), (13, .aload_n 0, 1), (14, .getfield 52, 3), (17, .imul, 1), (18, .isub, 1), (19, .ireturn, 1)])
theorem zmk_dy_gain : zMok zm_dy_gain := ⟨by decide +kernel, rfl, List.mem_append_right _ (List.mem_of_getElem? (i := 615) (by decide +kernel)), plainFor_of_name zcp_0⟩
theorem zok_dy_gain : zVok zm_dy_gain 0 := ⟨(List.mem_of_getElem? (i := 613) (by decide +kernel)), (List.mem_append_right _ (List.mem_of_getElem? (i := 614) (by decide +kernel))), zci_0, zcn_0.1, zcn_0.2, by decide +kernel⟩
noncomputable def zm_dy_total : zM := (0, ⟨"LemonGate$Day", "total", "(I)I"⟩, prog_2_method_9_code, 2, some .int, [(0, .iload_n 1, 1), (1, .tableswitch 88 0 6 #[43, 48, 58, 63, 68, 73, 78], 43), (44, .aload_n 0, 1), (45, .getfield 21, 3), (48, .ireturn, 1), (49, .aload_n 0, 1), (50, .getfield 21, 3), (53, .aload_n 0, 1), (54, .getfield 40, 3), (57, .imul, 1), (58, .ireturn, 1), (59, .aload_n 0, 1), (60, .getfield 25, 3), (63, .ireturn, 1), (64, .aload_n 0, 1), (65, .getfield 28, 3), (68, .ireturn, 1), (69, .aload_n 0, 1), (70, .getfield 31, 3), (73, .ireturn, 1), (74, .aload_n 0, 1), (75, .getfield 34, 3), (78, .ireturn, 1), (79, .aload_n 0, 1), (80, .getfield 34, 3), (83, .aload_n 0, 1), (84, .getfield 52, 3), (87, .imul, 1), (88, .ireturn, 1), (89, .aload_n 0, 1), (90, .invokevirtual 101, 3), (93, .ireturn, 1)])
theorem zmk_dy_total : zMok zm_dy_total := ⟨by decide +kernel, rfl, List.mem_append_right _ (List.mem_of_getElem? (i := 611) (by decide +kernel)), plainFor_of_name zcp_0⟩
theorem zok_dy_total : zVok zm_dy_total 1 := ⟨(List.mem_of_getElem? (i := 609) (by decide +kernel)), (List.mem_append_right _ (List.mem_of_getElem? (i := 610) (by decide +kernel))), zci_0, zcn_0.1, zcn_0.2, by decide +kernel⟩
noncomputable def zm_gl_add : zM := (1, ⟨"LemonGate$Glasses", "add", "(I)Z"⟩, prog_3_method_2_code, 2, some .boolean, [(0, .aload_n 0, 1), (1, .getfield 16, 3), (4, .bipush 50, 2), (6, .if_icmp .lt 5, 3), (9, .iconst 0, 1), (10, .ireturn, 1), (11, .aload_n 0, 1), (12, .getfield 9, 3), (15, .aload_n 0, 1), (16, .getfield 16, 3), (19, .iload_n 1, 1), (20, .iastore, 1), (21, .aload_n 0, 1), (22, .dup, 1), (23, .getfield 16, 3), (26, .iconst 1, 1), (27, .iadd, 1), (28, .putfield 16, 3), (31, .iconst 1, 1), (32, .ireturn, 1)])
theorem zmk_gl_add : zMok zm_gl_add := ⟨by decide +kernel, rfl, List.mem_append_right _ (List.mem_of_getElem? (i := 801) (by decide +kernel)), plainFor_of_name zcp_1⟩
theorem zok_gl_add : zVok zm_gl_add 1 := ⟨(List.mem_of_getElem? (i := 799) (by decide +kernel)), (List.mem_append_right _ (List.mem_of_getElem? (i := 800) (by decide +kernel))), zci_1, zcn_1.1, zcn_1.2, by decide +kernel⟩
noncomputable def zm_gl_has : zM := (1, ⟨"LemonGate$Glasses", "has", "(I)Z"⟩, prog_3_method_3_code, 2, some .boolean, [(0, .iload_n 1, 1), (1, .iconst 0, 1), (2, .aload_n 0, 1), (3, .getfield 16, 3), (6, .iconst 1, 1), (7, .isub, 1), (8, .invokestatic 20, 3), (11, .ireturn, 1)])
theorem zmk_gl_has : zMok zm_gl_has := ⟨by decide +kernel, rfl, List.mem_append_right _ (List.mem_of_getElem? (i := 813) (by decide +kernel)), plainFor_of_name zcp_1⟩
theorem zok_gl_has : zVok zm_gl_has 1 := ⟨(List.mem_of_getElem? (i := 811) (by decide +kernel)), (List.mem_append_right _ (List.mem_of_getElem? (i := 812) (by decide +kernel))), zci_1, zcn_1.1, zcn_1.2, by decide +kernel⟩
noncomputable def zm_gl_isUnder : zM := (1, ⟨"LemonGate$Glasses", "isUnder", "(II)Z"⟩, prog_3_method_4_code, 5, some .boolean, [(0, .aload_n 0, 1), (1, .getfield 9, 3), (4, .iload_n 1, 1), (5, .iaload, 1), (6, .istore_n 3, 1), (7, .iconst 0, 1), (8, .istore 4, 2), (10, .iload 4, 2), (12, .bipush 8, 2), (14, .if_icmp .ge 24, 3), (17, .iload_n 3, 1), (18, .ifCond .le 20, 3), (21, .iload_n 3, 1), (22, .iload_n 2, 1), (23, .if_icmp .eq 15, 3), (26, .getstatic 26, 3), (29, .iload_n 3, 1), (30, .iaload, 1), (31, .istore_n 3, 1), (32, .iinc 4 1, 3), (35, .goto (-25), 3), (38, .iload_n 3, 1), (39, .iload_n 2, 1), (40, .if_icmp .ne 7, 3), (43, .iconst 1, 1), (44, .goto 4, 3), (47, .iconst 0, 1), (48, .ireturn, 1)])
theorem zmk_gl_isUnder : zMok zm_gl_isUnder := ⟨by decide +kernel, rfl, List.mem_append_right _ (List.mem_of_getElem? (i := 891) (by decide +kernel)), plainFor_of_name zcp_1⟩
theorem zok_gl_isUnder : zVok zm_gl_isUnder 2 := ⟨(List.mem_of_getElem? (i := 889) (by decide +kernel)), (List.mem_append_right _ (List.mem_of_getElem? (i := 890) (by decide +kernel))), zci_1, zcn_1.1, zcn_1.2, by decide +kernel⟩
noncomputable def zm_gl_begunKept : zM := (1, ⟨"LemonGate$Glasses", "begunKept", "()I"⟩, prog_3_method_5_code, 1, some .int, [(0, .aload_n 0, 1), (1, .getfield 29, 3), (4, .bipush 24, 2), (6, .invokestatic 32, 3), (9, .ireturn, 1)])
theorem zmk_gl_begunKept : zMok zm_gl_begunKept := ⟨by decide +kernel, rfl, List.mem_append_right _ (List.mem_of_getElem? (i := 838) (by decide +kernel)), plainFor_of_name zcp_1⟩
theorem zok_gl_begunKept : zVok zm_gl_begunKept 0 := ⟨(List.mem_of_getElem? (i := 836) (by decide +kernel)), (List.mem_append_right _ (List.mem_of_getElem? (i := 837) (by decide +kernel))), zci_1, zcn_1.1, zcn_1.2, by decide +kernel⟩
noncomputable def zm_gl_enact : zM := (1, ⟨"LemonGate$Glasses", "enact", "(III)I"⟩, prog_3_method_6_code, 4, some .int, [(0, .aload_n 0, 1), (1, .iconst 0, 1), (2, .putfield 29, 3), (5, .aload_n 0, 1), (6, .iload_n 1, 1), (7, .invokevirtual 38, 3), (10, .ifCond .eq 12, 3), (13, .iload_n 2, 1), (14, .iconst 0, 1), (15, .iconst 3, 1), (16, .invokestatic 20, 3), (19, .ifCond .ne 5, 3), (22, .iconst 0, 1), (23, .ireturn, 1), (24, .aload_n 0, 1), (25, .iload_n 1, 1), (26, .putfield 42, 3), (29, .aload_n 0, 1), (30, .aload_n 0, 1), (31, .getfield 9, 3), (34, .iload_n 1, 1), (35, .iaload, 1), (36, .iload_n 2, 1), (37, .iload_n 3, 1), (38, .iconst 0, 1), (39, .invokevirtual 45, 3), (42, .ireturn, 1)])
theorem zmk_gl_enact : zMok zm_gl_enact := ⟨by decide +kernel, rfl, List.mem_append_right _ (List.mem_of_getElem? (i := 809) (by decide +kernel)), plainFor_of_name zcp_1⟩
theorem zok_gl_enact : zVok zm_gl_enact 3 := ⟨(List.mem_of_getElem? (i := 807) (by decide +kernel)), (List.mem_append_right _ (List.mem_of_getElem? (i := 808) (by decide +kernel))), zci_1, zcn_1.1, zcn_1.2, by decide +kernel⟩
noncomputable def zm_gl_kindWithBody : zM := (1, ⟨"LemonGate$Glasses", "kindWithBody", "(II)I"⟩, prog_3_method_7_code, 4, some .int, [(0, .iload_n 0, 1), (1, .istore_n 2, 1), (2, .iconst 0, 1), (3, .istore_n 3, 1), (4, .iload_n 3, 1), (5, .bipush 8, 2), (7, .if_icmp .ge 31, 3), (10, .iload_n 2, 1), (11, .ifCond .le 27, 3), (14, .getstatic 49, 3), (17, .iload_n 2, 1), (18, .iconst 4, 1), (19, .imul, 1), (20, .iload_n 1, 1), (21, .iadd, 1), (22, .iaload, 1), (23, .ifCond .ne 15, 3), (26, .getstatic 26, 3), (29, .iload_n 2, 1), (30, .iaload, 1), (31, .istore_n 2, 1), (32, .iinc 3 1, 3), (35, .goto (-31), 3), (38, .iload_n 2, 1), (39, .iconst 0, 1), (40, .invokestatic 52, 3), (43, .ireturn, 1)])
theorem zmk_gl_kindWithBody : zMok zm_gl_kindWithBody := ⟨by decide +kernel, rfl, List.mem_append_right _ (List.mem_of_getElem? (i := 821) (by decide +kernel)), plainFor_of_name zcp_1⟩
theorem zok_gl_kindWithBody : zSok zm_gl_kindWithBody 2 := ⟨(List.mem_of_getElem? (i := 820) (by decide +kernel)), zci_1, zcn_1.1, zcn_1.2, by decide +kernel⟩
noncomputable def zm_gl_note : zM := (1, ⟨"LemonGate$Glasses", "note", "(I)V"⟩, prog_3_method_8_code, 2, none, [(0, .aload_n 0, 1), (1, .getfield 29, 3), (4, .bipush 24, 2), (6, .if_icmp .ge 13, 3), (9, .aload_n 0, 1), (10, .getfield 13, 3), (13, .aload_n 0, 1), (14, .getfield 29, 3), (17, .iload_n 1, 1), (18, .iastore, 1), (19, .aload_n 0, 1), (20, .dup, 1), (21, .getfield 29, 3), (24, .iconst 1, 1), (25, .iadd, 1), (26, .putfield 29, 3), (29, .return_, 1)])
theorem zmk_gl_note : zMok zm_gl_note := ⟨by decide +kernel, rfl, List.mem_append_right _ (List.mem_of_getElem? (i := 830) (by decide +kernel)), plainFor_of_name zcp_1⟩
theorem zok_gl_note : zVok zm_gl_note 1 := ⟨(List.mem_of_getElem? (i := 829) (by decide +kernel)), (List.mem_append_left _ (List.mem_map.mpr ⟨(⟨"LemonGate$Glasses", "note", "(I)V"⟩, 5), List.mem_of_getElem? (i := 29) (by decide +kernel), rfl⟩)), zci_1, zcn_1.1, zcn_1.2, by decide +kernel⟩
noncomputable def zm_gl_run : zM := (1, ⟨"LemonGate$Glasses", "run", "(IIII)I"⟩, prog_3_method_9_code, 10, some .int, [(0, .iload 4, 2), (2, .bipush 40, 2), (4, .if_icmp .le 5, 3), (7, .iconst 0, 1), (8, .ireturn, 1), (9, .iload_n 1, 1), (10, .iload_n 2, 1), (11, .invokestatic 55, 3), (14, .istore 5, 2), (16, .iload 4, 2), (18, .iconst 1, 1), (19, .iadd, 1), (20, .istore 6, 2), (22, .aload_n 0, 1), (23, .getfield 9, 3), (26, .aload_n 0, 1), (27, .getfield 42, 3), (30, .iaload, 1), (31, .istore 7, 2), (33, .getstatic 26, 3), (36, .iload 5, 2), (38, .iaload, 1), (39, .istore 8, 2), (41, .getstatic 49, 3), (44, .iload 5, 2), (46, .iconst 4, 1), (47, .imul, 1), (48, .iload_n 2, 1), (49, .iadd, 1), (50, .iaload, 1), (51, .istore 9, 2), (53, .aload_n 0, 1), (54, .iload 9, 2), (56, .invokevirtual 58, 3), (59, .iload 9, 2), (61, .lookupswitch 298 #[(1, 115), (2, 142), (10, 122), (11, 135), (20, 164), (30, 177), (40, 189), (41, 202), (50, 215), (60, 237), (70, 250), (80, 263), (81, 285)], 115), (176, .iload_n 3, 1), (177, .aload_n 0, 1), (178, .getfield 42, 3), (181, .iadd, 1), (182, .ireturn, 1), (183, .aload_n 0, 1), (184, .iload 7, 2), (186, .iconst 0, 1), (187, .iload_n 3, 1), (188, .iload 6, 2), (190, .invokevirtual 45, 3), (193, .iconst 2, 1), (194, .imul, 1), (195, .ireturn, 1), (196, .iload_n 3, 1), (197, .aload_n 0, 1), (198, .getfield 42, 3), (201, .ixor, 1), (202, .ireturn, 1), (203, .aload_n 0, 1), (204, .iload 7, 2), (206, .iconst 1, 1), (207, .iload_n 3, 1), (208, .iload 6, 2), (210, .invokevirtual 45, 3), (213, .aload_n 0, 1), (214, .iload 7, 2), (216, .iconst 2, 1), (217, .iconst 1, 1), (218, .iload 6, 2), (220, .invokevirtual 45, 3), (223, .isub, 1), (224, .ireturn, 1), (225, .aload_n 0, 1), (226, .iload 8, 2), (228, .iconst 0, 1), (229, .iload_n 3, 1), (230, .iload 6, 2), (232, .invokevirtual 45, 3), (235, .iconst 3, 1), (236, .iadd, 1), (237, .ireturn, 1), (238, .aload_n 0, 1), (239, .iload 8, 2), (241, .iconst 1, 1), (242, .iload_n 3, 1), (243, .iload 6, 2), (245, .invokevirtual 45, 3), (248, .ineg, 1), (249, .ireturn, 1), (250, .aload_n 0, 1), (251, .iload 8, 2), (253, .iconst 2, 1), (254, .iload_n 3, 1), (255, .iload 6, 2), (257, .invokevirtual 45, 3), (260, .iconst 3, 1), (261, .imul, 1), (262, .ireturn, 1), (263, .aload_n 0, 1), (264, .iload 8, 2), (266, .iconst 1, 1), (267, .iload_n 3, 1), (268, .iconst 1, 1), (269, .iadd, 1), (270, .iload 6, 2), (272, .invokevirtual 45, 3), (275, .ireturn, 1), (276, .aload_n 0, 1), (277, .iload 8, 2), (279, .iconst 2, 1), (280, .iload_n 3, 1), (281, .iload 6, 2), (283, .invokevirtual 45, 3), (286, .aload_n 0, 1), (287, .iload 7, 2), (289, .iconst 0, 1), (290, .iconst 2, 1), (291, .iload 6, 2), (293, .invokevirtual 45, 3), (296, .isub, 1), (297, .ireturn, 1), (298, .aload_n 0, 1), (299, .iload 8, 2), (301, .iconst 3, 1), (302, .iload_n 3, 1), (303, .iload 6, 2), (305, .invokevirtual 45, 3), (308, .iconst 5, 1), (309, .ixor, 1), (310, .ireturn, 1), (311, .aload_n 0, 1), (312, .iload 8, 2), (314, .iconst 0, 1), (315, .iload_n 3, 1), (316, .iload 6, 2), (318, .invokevirtual 45, 3), (321, .iconst 2, 1), (322, .imul, 1), (323, .ireturn, 1), (324, .aload_n 0, 1), (325, .iload 8, 2), (327, .iconst 1, 1), (328, .iload_n 3, 1), (329, .iload 6, 2), (331, .invokevirtual 45, 3), (334, .aload_n 0, 1), (335, .iload 7, 2), (337, .iconst 2, 1), (338, .iconst 2, 1), (339, .iload 6, 2), (341, .invokevirtual 45, 3), (344, .iadd, 1), (345, .ireturn, 1), (346, .aload_n 0, 1), (347, .iload 8, 2), (349, .iconst 3, 1), (350, .iload_n 3, 1), (351, .iload 6, 2), (353, .invokevirtual 45, 3), (356, .iconst 1, 1), (357, .isub, 1), (358, .ireturn, 1), (359, .iconst 0, 1), (360, .ireturn, 1)])
theorem zmk_gl_run : zMok zm_gl_run := ⟨by decide +kernel, rfl, List.mem_append_right _ (List.mem_of_getElem? (i := 818) (by decide +kernel)), plainFor_of_name zcp_1⟩
theorem zok_gl_run : zVok zm_gl_run 4 := ⟨(List.mem_of_getElem? (i := 817) (by decide +kernel)), (List.mem_append_left _ (List.mem_map.mpr ⟨(⟨"LemonGate$Glasses", "run", "(IIII)I"⟩, 5), List.mem_of_getElem? (i := 28) (by decide +kernel), rfl⟩)), zci_1, zcn_1.1, zcn_1.2, by decide +kernel⟩
noncomputable def zm_lw_become : zM := (2, ⟨"LemonGate$Law", "become", "(LLemonGate$Tape;)V"⟩, prog_4_method_2_code, 2, none, [(0, .aload_n 0, 1), (1, .aload_n 1, 1), (2, .getfield 18, 3), (5, .bipush 121, 2), (7, .invokestatic 22, 3), (10, .putfield 28, 3), (13, .aload_n 1, 1), (14, .getfield 31, 3), (17, .iconst 0, 1), (18, .aload_n 0, 1), (19, .getfield 11, 3), (22, .iconst 0, 1), (23, .aload_n 0, 1), (24, .getfield 28, 3), (27, .invokestatic 32, 3), (30, .aload_n 0, 1), (31, .iconst 1, 1), (32, .putfield 38, 3), (35, .return_, 1)])
theorem zmk_lw_become : zMok zm_lw_become := ⟨by decide +kernel, rfl, List.mem_append_right _ (List.mem_of_getElem? (i := 510) (by decide +kernel)), plainFor_of_name zcp_2⟩
theorem zok_lw_become : zVok zm_lw_become 1 := ⟨(List.mem_of_getElem? (i := 508) (by decide +kernel)), (List.mem_append_right _ (List.mem_of_getElem? (i := 509) (by decide +kernel))), zci_2, zcn_2.1, zcn_2.2, by decide +kernel⟩
noncomputable def zm_lw_worth : zM := (2, ⟨"LemonGate$Law", "worth", "([I)I"⟩, prog_4_method_3_code, 6, some .int, [(0, .iconst 0, 1), (1, .istore_n 2, 1), (2, .iconst 0, 1), (3, .istore_n 3, 1), (4, .iload_n 3, 1), (5, .aload_n 0, 1), (6, .getfield 28, 3), (9, .if_icmp .ge 212, 3), (12, .iload_n 2, 1), (13, .bipush 121, 2), (15, .if_icmp .ge 206, 3), (18, .aload_n 0, 1), (19, .getfield 11, 3), (22, .iload_n 3, 1), (23, .iaload, 1), (24, .istore 4, 2), (26, .iconst (-1), 1), (27, .iload 4, 2), (29, .isub, 1), (30, .istore 5, 2), (32, .iload 4, 2), (34, .ifCond .ge 10, 3), (37, .iload 5, 2), (39, .aload_n 1, 1), (40, .arraylength, 1), (41, .if_icmp .ge 29, 3), (44, .aload_n 0, 1), (45, .getfield 15, 3), (48, .iload_n 2, 1), (49, .iload 4, 2), (51, .ifCond .lt 8, 3), (54, .iload 4, 2), (56, .goto 7, 3), (59, .aload_n 1, 1), (60, .iload 5, 2), (62, .iaload, 1), (63, .iastore, 1), (64, .iinc 2 1, 3), (67, .goto 148, 3), (70, .aload_n 0, 1), (71, .iload 4, 2), (73, .iload_n 2, 1), (74, .invokevirtual 42, 3), (77, .ifCond .eq 12, 3), (80, .aload_n 0, 1), (81, .getfield 15, 3), (84, .iload_n 2, 1), (85, .iconst 1, 1), (86, .isub, 1), (87, .iaload, 1), (88, .ireturn, 1), (89, .iload 4, 2), (91, .bipush (-59), 2), (93, .if_icmp .eq 10, 3), (96, .iload 4, 2), (98, .bipush (-63), 2), (100, .if_icmp .ne 8, 3), (103, .iconst 0, 1), (104, .istore_n 2, 1), (105, .goto 110, 3), (108, .iload_n 2, 1), (109, .ifCond .le 37, 3), (112, .iload 4, 2), (114, .bipush (-33), 2), (116, .if_icmp .ne 30, 3), (119, .aload_n 0, 1), (120, .getfield 15, 3), (123, .iload_n 2, 1), (124, .iconst 1, 1), (125, .isub, 1), (126, .aload_n 0, 1), (127, .getfield 15, 3), (130, .iload_n 2, 1), (131, .iconst 1, 1), (132, .isub, 1), (133, .iaload, 1), (134, .ifCond .ne 7, 3), (137, .iconst 1, 1), (138, .goto 4, 3), (141, .iconst 0, 1), (142, .iastore, 1), (143, .goto 72, 3), (146, .iload_n 2, 1), (147, .ifCond .le 30, 3), (150, .iload 4, 2), (152, .bipush (-126), 2), (154, .if_icmp .ne 23, 3), (157, .aload_n 0, 1), (158, .getfield 15, 3), (161, .iload_n 2, 1), (162, .iconst 1, 1), (163, .isub, 1), (164, .aload_n 0, 1), (165, .getfield 15, 3), (168, .iload_n 2, 1), (169, .iconst 1, 1), (170, .isub, 1), (171, .iaload, 1), (172, .ineg, 1), (173, .iastore, 1), (174, .goto 41, 3), (177, .iload_n 2, 1), (178, .iconst 1, 1), (179, .if_icmp .le 36, 3), (182, .aload_n 0, 1), (183, .getfield 15, 3), (186, .iload_n 2, 1), (187, .iconst 2, 1), (188, .isub, 1), (189, .iload 4, 2), (191, .ineg, 1), (192, .aload_n 0, 1), (193, .getfield 15, 3), (196, .iload_n 2, 1), (197, .iconst 2, 1), (198, .isub, 1), (199, .iaload, 1), (200, .aload_n 0, 1), (201, .getfield 15, 3), (204, .iload_n 2, 1), (205, .iconst 1, 1), (206, .isub, 1), (207, .iaload, 1), (208, .invokestatic 46, 3), (211, .iastore, 1), (212, .iinc 2 (-1), 3), (215, .iinc 3 1, 3), (218, .goto (-214), 3), (221, .iconst 0, 1), (222, .ireturn, 1)])
theorem zmk_lw_worth : zMok zm_lw_worth := ⟨by decide +kernel, rfl, List.mem_append_right _ (List.mem_of_getElem? (i := 540) (by decide +kernel)), plainFor_of_name zcp_2⟩
theorem zok_lw_worth : zVok zm_lw_worth 1 := ⟨(List.mem_of_getElem? (i := 538) (by decide +kernel)), (List.mem_append_right _ (List.mem_of_getElem? (i := 539) (by decide +kernel))), zci_2, zcn_2.1, zcn_2.2, by decide +kernel⟩
noncomputable def zm_lw_isLineThatCounts : zM := (2, ⟨"LemonGate$Law", "isLineThatCounts", "(II)Z"⟩, prog_4_method_4_code, 3, some .boolean, [(0, .iload_n 1, 1), (1, .bipush (-59), 2), (3, .if_icmp .ne 15, 3), (6, .iload_n 2, 1), (7, .ifCond .le 7, 3), (10, .iconst 1, 1), (11, .goto 34, 3), (14, .iconst 0, 1), (15, .goto 30, 3), (18, .iload_n 1, 1), (19, .bipush (-63), 2), (21, .if_icmp .ne 23, 3), (24, .iload_n 2, 1), (25, .iconst 1, 1), (26, .if_icmp .le 18, 3), (29, .aload_n 0, 1), (30, .getfield 15, 3), (33, .iload_n 2, 1), (34, .iconst 2, 1), (35, .isub, 1), (36, .iaload, 1), (37, .ifCond .eq 7, 3), (40, .iconst 1, 1), (41, .goto 4, 3), (44, .iconst 0, 1), (45, .ireturn, 1)])
theorem zmk_lw_isLineThatCounts : zMok zm_lw_isLineThatCounts := ⟨by decide +kernel, rfl, List.mem_append_right _ (List.mem_of_getElem? (i := 544) (by decide +kernel)), plainFor_of_name zcp_2⟩
theorem zok_lw_isLineThatCounts : zVok zm_lw_isLineThatCounts 2 := ⟨(List.mem_of_getElem? (i := 543) (by decide +kernel)), (List.mem_append_left _ (List.mem_map.mpr ⟨(⟨"LemonGate$Law", "isLineThatCounts", "(II)Z"⟩, 4), List.mem_of_getElem? (i := 17) (by decide +kernel), rfl⟩)), zci_2, zcn_2.1, zcn_2.2, by decide +kernel⟩
noncomputable def zm_lw_joined : zM := (2, ⟨"LemonGate$Law", "joined", "(III)I"⟩, prog_4_method_5_code, 3, some .int, [(0, .iload_n 0, 1), (1, .tableswitch 202 37 62 #[143, 188, 202, 202, 202, 127, 119, 202, 123, 202, 131, 202, 202, 202, 202, 202, 202, 202, 202, 202, 202, 202, 202, 155, 166, 177], 119), (120, .iload_n 1, 1), (121, .iload_n 2, 1), (122, .iadd, 1), (123, .ireturn, 1), (124, .iload_n 1, 1), (125, .iload_n 2, 1), (126, .isub, 1), (127, .ireturn, 1), (128, .iload_n 1, 1), (129, .iload_n 2, 1), (130, .imul, 1), (131, .ireturn, 1), (132, .iload_n 2, 1), (133, .ifCond .ne 7, 3), (136, .iconst 0, 1), (137, .goto 6, 3), (140, .iload_n 1, 1), (141, .iload_n 2, 1), (142, .idiv, 1), (143, .ireturn, 1), (144, .iload_n 2, 1), (145, .ifCond .ne 7, 3), (148, .iconst 0, 1), (149, .goto 6, 3), (152, .iload_n 1, 1), (153, .iload_n 2, 1), (154, .irem, 1), (155, .ireturn, 1), (156, .iload_n 1, 1), (157, .iload_n 2, 1), (158, .if_icmp .ge 7, 3), (161, .iconst 1, 1), (162, .goto 4, 3), (165, .iconst 0, 1), (166, .ireturn, 1), (167, .iload_n 1, 1), (168, .iload_n 2, 1), (169, .if_icmp .ne 7, 3), (172, .iconst 1, 1), (173, .goto 4, 3), (176, .iconst 0, 1), (177, .ireturn, 1), (178, .iload_n 1, 1), (179, .iload_n 2, 1), (180, .if_icmp .le 7, 3), (183, .iconst 1, 1), (184, .goto 4, 3), (187, .iconst 0, 1), (188, .ireturn, 1), (189, .iload_n 1, 1), (190, .ifCond .eq 11, 3), (193, .iload_n 2, 1), (194, .ifCond .eq 7, 3), (197, .iconst 1, 1), (198, .goto 4, 3), (201, .iconst 0, 1), (202, .ireturn, 1), (203, .iload_n 1, 1), (204, .ifCond .ne 7, 3), (207, .iload_n 2, 1), (208, .ifCond .eq 7, 3), (211, .iconst 1, 1), (212, .goto 4, 3), (215, .iconst 0, 1), (216, .ireturn, 1)])
theorem zmk_lw_joined : zMok zm_lw_joined := ⟨by decide +kernel, rfl, List.mem_append_right _ (List.mem_of_getElem? (i := 547) (by decide +kernel)), plainFor_of_name zcp_2⟩
theorem zok_lw_joined : zSok zm_lw_joined 3 := ⟨(List.mem_of_getElem? (i := 546) (by decide +kernel)), zci_2, zcn_2.1, zcn_2.2, by decide +kernel⟩
noncomputable def zm_ls_become : zM := (3, ⟨"LemonGate$Laws", "become", "(ILLemonGate$Tape;)V"⟩, prog_5_method_2_code, 3, none, [(0, .iload_n 1, 1), (1, .ifCond .ne 14, 3), (4, .aload_n 0, 1), (5, .getfield 12, 3), (8, .aload_n 2, 1), (9, .invokevirtual 34, 3), (12, .goto 11, 3), (15, .aload_n 0, 1), (16, .getfield 18, 3), (19, .aload_n 2, 1), (20, .invokevirtual 34, 3), (23, .return_, 1)])
theorem zmk_ls_become : zMok zm_ls_become := ⟨by decide +kernel, rfl, List.mem_append_right _ (List.mem_of_getElem? (i := 506) (by decide +kernel)), plainFor_of_name zcp_3⟩
theorem zok_ls_become : zVok zm_ls_become 2 := ⟨(List.mem_of_getElem? (i := 504) (by decide +kernel)), (List.mem_append_right _ (List.mem_of_getElem? (i := 505) (by decide +kernel))), zci_3, zcn_3.1, zcn_3.2, by decide +kernel⟩
noncomputable def zm_ls_begin : zM := (3, ⟨"LemonGate$Laws", "begin", "(LLemonGate$Recipe;I)V"⟩, prog_5_method_3_code, 3, none, [(0, .aload_n 1, 1), (1, .getfield 38, 3), (4, .iconst 0, 1), (5, .aload_n 0, 1), (6, .getfield 27, 3), (9, .iconst 0, 1), (10, .iconst 3, 1), (11, .invokestatic 43, 3), (14, .aload_n 0, 1), (15, .getfield 27, 3), (18, .bipush 6, 2), (20, .iload_n 2, 1), (21, .iastore, 1), (22, .aload_n 0, 1), (23, .getfield 27, 3), (26, .bipush 7, 2), (28, .aload_n 1, 1), (29, .getfield 38, 3), (32, .iconst 4, 1), (33, .iaload, 1), (34, .iastore, 1), (35, .aload_n 0, 1), (36, .aload_n 1, 1), (37, .getfield 38, 3), (40, .iconst 5, 1), (41, .iaload, 1), (42, .putfield 49, 3), (45, .aload_n 0, 1), (46, .getfield 31, 3), (49, .iconst (-1), 1), (50, .invokestatic 53, 3), (53, .return_, 1)])
theorem zmk_ls_begin : zMok zm_ls_begin := ⟨by decide +kernel, rfl, List.mem_append_right _ (List.mem_of_getElem? (i := 526) (by decide +kernel)), plainFor_of_name zcp_3⟩
theorem zok_ls_begin : zVok zm_ls_begin 2 := ⟨(List.mem_of_getElem? (i := 524) (by decide +kernel)), (List.mem_append_right _ (List.mem_of_getElem? (i := 525) (by decide +kernel))), zci_3, zcn_3.1, zcn_3.2, by decide +kernel⟩
noncomputable def zm_ls_tasteOf : zM := (3, ⟨"LemonGate$Laws", "tasteOf", "(III)I"⟩, prog_5_method_4_code, 5, some .int, [(0, .iload_n 3, 1), (1, .aload_n 0, 1), (2, .getfield 49, 3), (5, .if_icmp .lt 5, 3), (8, .iconst 0, 1), (9, .ireturn, 1), (10, .aload_n 0, 1), (11, .iload_n 1, 1), (12, .iload_n 2, 1), (13, .iload_n 3, 1), (14, .iconst 0, 1), (15, .invokevirtual 59, 3), (18, .aload_n 0, 1), (19, .getfield 27, 3), (22, .iconst 0, 1), (23, .iaload, 1), (24, .aload_n 0, 1), (25, .getfield 27, 3), (28, .iconst 1, 1), (29, .iaload, 1), (30, .iadd, 1), (31, .aload_n 0, 1), (32, .getfield 27, 3), (35, .iconst 2, 1), (36, .iaload, 1), (37, .iconst 3, 1), (38, .idiv, 1), (39, .isub, 1), (40, .istore 4, 2), (42, .aload_n 0, 1), (43, .getfield 12, 3), (46, .getfield 63, 3), (49, .ifCond .eq 17, 3), (52, .aload_n 0, 1), (53, .getfield 12, 3), (56, .aload_n 0, 1), (57, .getfield 27, 3), (60, .invokevirtual 67, 3), (63, .goto 5, 3), (66, .iload 4, 2), (68, .bipush 9, 2), (70, .invokestatic 71, 3), (73, .ireturn, 1)])
theorem zmk_ls_tasteOf : zMok zm_ls_tasteOf := ⟨by decide +kernel, rfl, List.mem_append_right _ (List.mem_of_getElem? (i := 532) (by decide +kernel)), plainFor_of_name zcp_3⟩
theorem zok_ls_tasteOf : zVok zm_ls_tasteOf 3 := ⟨(List.mem_of_getElem? (i := 530) (by decide +kernel)), (List.mem_append_right _ (List.mem_of_getElem? (i := 531) (by decide +kernel))), zci_3, zcn_3.1, zcn_3.2, by decide +kernel⟩
noncomputable def zm_ls_buysOf : zM := (3, ⟨"LemonGate$Laws", "buysOf", "(III)I"⟩, prog_5_method_5_code, 7, some .int, [(0, .iload_n 1, 1), (1, .invokestatic 75, 3), (4, .ifCond .eq 13, 3), (7, .iload_n 3, 1), (8, .iconst 0, 1), (9, .bipush 32, 2), (11, .invokestatic 79, 3), (14, .ifCond .ne 5, 3), (17, .iconst 0, 1), (18, .ireturn, 1), (19, .iload_n 1, 1), (20, .bipush 33, 2), (22, .imul, 1), (23, .iload_n 3, 1), (24, .iadd, 1), (25, .istore 4, 2), (27, .aload_n 0, 1), (28, .getfield 31, 3), (31, .iload 4, 2), (33, .iaload, 1), (34, .iconst (-1), 1), (35, .if_icmp .ne 87, 3), (38, .aload_n 0, 1), (39, .iload_n 1, 1), (40, .iload_n 2, 1), (41, .iload_n 3, 1), (42, .invokevirtual 83, 3), (45, .istore 5, 2), (47, .aload_n 0, 1), (48, .iload_n 1, 1), (49, .iload_n 2, 1), (50, .iload_n 3, 1), (51, .iload 5, 2), (53, .invokevirtual 59, 3), (56, .iload 5, 2), (58, .iload_n 2, 1), (59, .iconst 5, 1), (60, .idiv, 1), (61, .iadd, 1), (62, .aload_n 0, 1), (63, .getfield 27, 3), (66, .bipush 6, 2), (68, .iaload, 1), (69, .iconst 4, 1), (70, .idiv, 1), (71, .isub, 1), (72, .aload_n 0, 1), (73, .getfield 27, 3), (76, .bipush 7, 2), (78, .iaload, 1), (79, .iconst 4, 1), (80, .idiv, 1), (81, .iadd, 1), (82, .istore 6, 2), (84, .aload_n 0, 1), (85, .getfield 31, 3), (88, .iload 4, 2), (90, .aload_n 0, 1), (91, .getfield 18, 3), (94, .getfield 63, 3), (97, .ifCond .eq 17, 3), (100, .aload_n 0, 1), (101, .getfield 18, 3), (104, .aload_n 0, 1), (105, .getfield 27, 3), (108, .invokevirtual 67, 3), (111, .goto 5, 3), (114, .iload 6, 2), (116, .bipush 12, 2), (118, .invokestatic 71, 3), (121, .iastore, 1), (122, .aload_n 0, 1), (123, .getfield 31, 3), (126, .iload 4, 2), (128, .iaload, 1), (129, .ireturn, 1)])
theorem zmk_ls_buysOf : zMok zm_ls_buysOf := ⟨by decide +kernel, rfl, List.mem_append_right _ (List.mem_of_getElem? (i := 558) (by decide +kernel)), plainFor_of_name zcp_3⟩
theorem zok_ls_buysOf : zVok zm_ls_buysOf 3 := ⟨(List.mem_of_getElem? (i := 556) (by decide +kernel)), (List.mem_append_right _ (List.mem_of_getElem? (i := 557) (by decide +kernel))), zci_3, zcn_3.1, zcn_3.2, by decide +kernel⟩
noncomputable def zm_ls_look : zM := (3, ⟨"LemonGate$Laws", "look", "(IIII)V"⟩, prog_5_method_6_code, 5, none, [(0, .aload_n 0, 1), (1, .getfield 27, 3), (4, .iconst 3, 1), (5, .iload_n 3, 1), (6, .iastore, 1), (7, .aload_n 0, 1), (8, .getfield 27, 3), (11, .iconst 4, 1), (12, .iload_n 2, 1), (13, .iastore, 1), (14, .aload_n 0, 1), (15, .getfield 27, 3), (18, .iconst 5, 1), (19, .iload 4, 2), (21, .iastore, 1), (22, .aload_n 0, 1), (23, .getfield 27, 3), (26, .bipush 8, 2), (28, .iload_n 1, 1), (29, .iastore, 1), (30, .return_, 1)])
theorem zmk_ls_look : zMok zm_ls_look := ⟨by decide +kernel, rfl, List.mem_append_right _ (List.mem_of_getElem? (i := 536) (by decide +kernel)), plainFor_of_name zcp_3⟩
theorem zok_ls_look : zVok zm_ls_look 4 := ⟨(List.mem_of_getElem? (i := 535) (by decide +kernel)), (List.mem_append_left _ (List.mem_map.mpr ⟨(⟨"LemonGate$Laws", "look", "(IIII)V"⟩, 5), List.mem_of_getElem? (i := 16) (by decide +kernel), rfl⟩)), zci_3, zcn_3.1, zcn_3.2, by decide +kernel⟩
noncomputable def zm_ls_held : zM := (3, ⟨"LemonGate$Laws", "held", "(II)I"⟩, prog_5_method_7_code, 2, some .int, [(0, .iconst 0, 1), (1, .iload_n 1, 1), (2, .iload_n 0, 1), (3, .invokestatic 87, 3), (6, .invokestatic 92, 3), (9, .ireturn, 1)])
theorem zmk_ls_held : zMok zm_ls_held := ⟨by decide +kernel, rfl, List.mem_append_right _ (List.mem_of_getElem? (i := 550) (by decide +kernel)), plainFor_of_name zcp_3⟩
theorem zok_ls_held : zSok zm_ls_held 2 := ⟨(List.mem_of_getElem? (i := 549) (by decide +kernel)), zci_3, zcn_3.1, zcn_3.2, by decide +kernel⟩
noncomputable def zm_rc_allows : zM := (4, ⟨"LemonGate$Recipe", "allows", "(II)Z"⟩, prog_6_method_2_code, 3, some .boolean, [(0, .iload_n 1, 1), (1, .iconst 0, 1), (2, .bipush 7, 2), (4, .invokestatic 24, 3), (7, .ifCond .eq 24, 3), (10, .iload_n 2, 1), (11, .getstatic 28, 3), (14, .iload_n 1, 1), (15, .iaload, 1), (16, .getstatic 31, 3), (19, .iload_n 1, 1), (20, .iaload, 1), (21, .invokestatic 24, 3), (24, .ifCond .eq 7, 3), (27, .iconst 1, 1), (28, .goto 4, 3), (31, .iconst 0, 1), (32, .ireturn, 1)])
theorem zmk_rc_allows : zMok zm_rc_allows := ⟨by decide +kernel, rfl, List.mem_append_right _ (List.mem_of_getElem? (i := 394) (by decide +kernel)), plainFor_of_name zcp_4⟩
theorem zok_rc_allows : zVok zm_rc_allows 2 := ⟨(List.mem_of_getElem? (i := 392) (by decide +kernel)), (List.mem_append_right _ (List.mem_of_getElem? (i := 393) (by decide +kernel))), zci_4, zcn_4.1, zcn_4.2, by decide +kernel⟩
noncomputable def zm_rc_change : zM := (4, ⟨"LemonGate$Recipe", "change", "(II)I"⟩, prog_6_method_3_code, 4, some .int, [(0, .aload_n 0, 1), (1, .getfield 9, 3), (4, .iload_n 1, 1), (5, .iaload, 1), (6, .istore_n 3, 1), (7, .iload_n 3, 1), (8, .iload_n 2, 1), (9, .if_icmp .eq 17, 3), (12, .aload_n 0, 1), (13, .iload_n 1, 1), (14, .iload_n 3, 1), (15, .iload_n 2, 1), (16, .invokevirtual 34, 3), (19, .aload_n 0, 1), (20, .getfield 9, 3), (23, .iload_n 1, 1), (24, .iload_n 2, 1), (25, .iastore, 1), (26, .iload_n 3, 1), (27, .ireturn, 1)])
theorem zmk_rc_change : zMok zm_rc_change := ⟨by decide +kernel, rfl, List.mem_append_right _ (List.mem_of_getElem? (i := 403) (by decide +kernel)), plainFor_of_name zcp_4⟩
theorem zok_rc_change : zVok zm_rc_change 2 := ⟨(List.mem_of_getElem? (i := 401) (by decide +kernel)), (List.mem_append_right _ (List.mem_of_getElem? (i := 402) (by decide +kernel))), zci_4, zcn_4.1, zcn_4.2, by decide +kernel⟩
noncomputable def zm_rc_remember : zM := (4, ⟨"LemonGate$Recipe", "remember", "(III)V"⟩, prog_6_method_4_code, 4, none, [(0, .aload_n 0, 1), (1, .getfield 38, 3), (4, .bipush 40, 2), (6, .if_icmp .ne 7, 3), (9, .aload_n 0, 1), (10, .invokevirtual 42, 3), (13, .aload_n 0, 1), (14, .getfield 15, 3), (17, .aload_n 0, 1), (18, .getfield 38, 3), (21, .iload_n 1, 1), (22, .iastore, 1), (23, .aload_n 0, 1), (24, .getfield 18, 3), (27, .aload_n 0, 1), (28, .getfield 38, 3), (31, .iload_n 2, 1), (32, .iastore, 1), (33, .aload_n 0, 1), (34, .getfield 21, 3), (37, .aload_n 0, 1), (38, .getfield 38, 3), (41, .iload_n 3, 1), (42, .iastore, 1), (43, .aload_n 0, 1), (44, .dup, 1), (45, .getfield 38, 3), (48, .iconst 1, 1), (49, .iadd, 1), (50, .putfield 38, 3), (53, .aload_n 0, 1), (54, .aload_n 0, 1), (55, .getfield 38, 3), (58, .putfield 45, 3), (61, .return_, 1)])
theorem zmk_rc_remember : zMok zm_rc_remember := ⟨by decide +kernel, rfl, List.mem_append_right _ (List.mem_of_getElem? (i := 407) (by decide +kernel)), plainFor_of_name zcp_4⟩
theorem zok_rc_remember : zVok zm_rc_remember 3 := ⟨(List.mem_of_getElem? (i := 406) (by decide +kernel)), (List.mem_append_left _ (List.mem_map.mpr ⟨(⟨"LemonGate$Recipe", "remember", "(III)V"⟩, 6), List.mem_of_getElem? (i := 2) (by decide +kernel), rfl⟩)), zci_4, zcn_4.1, zcn_4.2, by decide +kernel⟩
noncomputable def zm_rc_forgetOldest : zM := (4, ⟨"LemonGate$Recipe", "forgetOldest", "()V"⟩, prog_6_method_5_code, 1, none, [(0, .aload_n 0, 1), (1, .getfield 15, 3), (4, .iconst 1, 1), (5, .aload_n 0, 1), (6, .getfield 15, 3), (9, .iconst 0, 1), (10, .bipush 39, 2), (12, .invokestatic 48, 3), (15, .aload_n 0, 1), (16, .getfield 18, 3), (19, .iconst 1, 1), (20, .aload_n 0, 1), (21, .getfield 18, 3), (24, .iconst 0, 1), (25, .bipush 39, 2), (27, .invokestatic 48, 3), (30, .aload_n 0, 1), (31, .getfield 21, 3), (34, .iconst 1, 1), (35, .aload_n 0, 1), (36, .getfield 21, 3), (39, .iconst 0, 1), (40, .bipush 39, 2), (42, .invokestatic 48, 3), (45, .aload_n 0, 1), (46, .dup, 1), (47, .getfield 38, 3), (50, .iconst 1, 1), (51, .isub, 1), (52, .putfield 38, 3), (55, .return_, 1)])
theorem zmk_rc_forgetOldest : zMok zm_rc_forgetOldest := ⟨by decide +kernel, rfl, List.mem_append_right _ (List.mem_of_getElem? (i := 411) (by decide +kernel)), plainFor_of_name zcp_4⟩
theorem zok_rc_forgetOldest : zVok zm_rc_forgetOldest 0 := ⟨(List.mem_of_getElem? (i := 410) (by decide +kernel)), (List.mem_append_left _ (List.mem_map.mpr ⟨(⟨"LemonGate$Recipe", "forgetOldest", "()V"⟩, 6), List.mem_of_getElem? (i := 3) (by decide +kernel), rfl⟩)), zci_4, zcn_4.1, zcn_4.2, by decide +kernel⟩
noncomputable def zm_rc_takeBack : zM := (4, ⟨"LemonGate$Recipe", "takeBack", "()Z"⟩, prog_6_method_6_code, 1, some .boolean, [(0, .aload_n 0, 1), (1, .getfield 38, 3), (4, .ifCond .ne 5, 3), (7, .iconst 0, 1), (8, .ireturn, 1), (9, .aload_n 0, 1), (10, .dup, 1), (11, .getfield 38, 3), (14, .iconst 1, 1), (15, .isub, 1), (16, .putfield 38, 3), (19, .aload_n 0, 1), (20, .getfield 9, 3), (23, .aload_n 0, 1), (24, .getfield 15, 3), (27, .aload_n 0, 1), (28, .getfield 38, 3), (31, .iaload, 1), (32, .aload_n 0, 1), (33, .getfield 18, 3), (36, .aload_n 0, 1), (37, .getfield 38, 3), (40, .iaload, 1), (41, .iastore, 1), (42, .iconst 1, 1), (43, .ireturn, 1)])
theorem zmk_rc_takeBack : zMok zm_rc_takeBack := ⟨by decide +kernel, rfl, List.mem_append_right _ (List.mem_of_getElem? (i := 785) (by decide +kernel)), plainFor_of_name zcp_4⟩
theorem zok_rc_takeBack : zVok zm_rc_takeBack 0 := ⟨(List.mem_of_getElem? (i := 783) (by decide +kernel)), (List.mem_append_right _ (List.mem_of_getElem? (i := 784) (by decide +kernel))), zci_4, zcn_4.1, zcn_4.2, by decide +kernel⟩
noncomputable def zm_rc_doAgain : zM := (4, ⟨"LemonGate$Recipe", "doAgain", "()Z"⟩, prog_6_method_7_code, 1, some .boolean, [(0, .aload_n 0, 1), (1, .getfield 38, 3), (4, .aload_n 0, 1), (5, .getfield 45, 3), (8, .if_icmp .ne 5, 3), (11, .iconst 0, 1), (12, .ireturn, 1), (13, .aload_n 0, 1), (14, .getfield 9, 3), (17, .aload_n 0, 1), (18, .getfield 15, 3), (21, .aload_n 0, 1), (22, .getfield 38, 3), (25, .iaload, 1), (26, .aload_n 0, 1), (27, .getfield 21, 3), (30, .aload_n 0, 1), (31, .getfield 38, 3), (34, .iaload, 1), (35, .iastore, 1), (36, .aload_n 0, 1), (37, .dup, 1), (38, .getfield 38, 3), (41, .iconst 1, 1), (42, .iadd, 1), (43, .putfield 38, 3), (46, .iconst 1, 1), (47, .ireturn, 1)])
theorem zmk_rc_doAgain : zMok zm_rc_doAgain := ⟨by decide +kernel, rfl, List.mem_append_right _ (List.mem_of_getElem? (i := 793) (by decide +kernel)), plainFor_of_name zcp_4⟩
theorem zok_rc_doAgain : zVok zm_rc_doAgain 0 := ⟨(List.mem_of_getElem? (i := 791) (by decide +kernel)), (List.mem_append_right _ (List.mem_of_getElem? (i := 792) (by decide +kernel))), zci_4, zcn_4.1, zcn_4.2, by decide +kernel⟩
noncomputable def zm_rc_jugCost : zM := (4, ⟨"LemonGate$Recipe", "jugCost", "()I"⟩, prog_6_method_8_code, 1, some .int, [(0, .iconst 3, 1), (1, .aload_n 0, 1), (2, .getfield 9, 3), (5, .iconst 0, 1), (6, .iaload, 1), (7, .imul, 1), (8, .aload_n 0, 1), (9, .getfield 9, 3), (12, .iconst 1, 1), (13, .iaload, 1), (14, .iadd, 1), (15, .ireturn, 1)])
theorem zmk_rc_jugCost : zMok zm_rc_jugCost := ⟨by decide +kernel, rfl, List.mem_append_right _ (List.mem_of_getElem? (i := 422) (by decide +kernel)), plainFor_of_name zcp_4⟩
theorem zok_rc_jugCost : zVok zm_rc_jugCost 0 := ⟨(List.mem_of_getElem? (i := 420) (by decide +kernel)), (List.mem_append_right _ (List.mem_of_getElem? (i := 421) (by decide +kernel))), zci_4, zcn_4.1, zcn_4.2, by decide +kernel⟩
noncomputable def zm_rc_glassCost : zM := (4, ⟨"LemonGate$Recipe", "glassCost", "()I"⟩, prog_6_method_9_code, 1, some .int, [(0, .aload_n 0, 1), (1, .getfield 9, 3), (4, .iconst 2, 1), (5, .iaload, 1), (6, .ifCond .le 17, 3), (9, .aload_n 0, 1), (10, .invokevirtual 54, 3), (13, .aload_n 0, 1), (14, .getfield 9, 3), (17, .iconst 2, 1), (18, .iaload, 1), (19, .idiv, 1), (20, .goto 4, 3), (23, .iconst 0, 1), (24, .ireturn, 1)])
theorem zmk_rc_glassCost : zMok zm_rc_glassCost := ⟨by decide +kernel, rfl, List.mem_append_right _ (List.mem_of_getElem? (i := 426) (by decide +kernel)), plainFor_of_name zcp_4⟩
theorem zok_rc_glassCost : zVok zm_rc_glassCost 0 := ⟨(List.mem_of_getElem? (i := 424) (by decide +kernel)), (List.mem_append_right _ (List.mem_of_getElem? (i := 425) (by decide +kernel))), zci_4, zcn_4.1, zcn_4.2, by decide +kernel⟩
noncomputable def zm_sh_isEmpty : zM := (5, ⟨"LemonGate$Shelf", "isEmpty", "()Z"⟩, prog_7_method_2_code, 1, some .boolean, [(0, .aload_n 0, 1), (1, .getfield 11, 3), (4, .iconst (-1), 1), (5, .if_icmp .ne 15, 3), (8, .aload_n 0, 1), (9, .getfield 15, 3), (12, .iconst (-1), 1), (13, .if_icmp .ne 7, 3), (16, .iconst 1, 1), (17, .goto 4, 3), (20, .iconst 0, 1), (21, .ireturn, 1)])
theorem zmk_sh_isEmpty : zMok zm_sh_isEmpty := ⟨by decide +kernel, rfl, List.mem_append_right _ (List.mem_of_getElem? (i := 354) (by decide +kernel)), plainFor_of_name zcp_5⟩
theorem zok_sh_isEmpty : zVok zm_sh_isEmpty 0 := ⟨(List.mem_of_getElem? (i := 352) (by decide +kernel)), (List.mem_append_right _ (List.mem_of_getElem? (i := 353) (by decide +kernel))), zci_5, zcn_5.1, zcn_5.2, by decide +kernel⟩
noncomputable def zm_sh_isRowOf : zM := (5, ⟨"LemonGate$Shelf", "isRowOf", "(I)Z"⟩, prog_7_method_3_code, 2, some .boolean, [(0, .aload_n 0, 1), (1, .getfield 15, 3), (4, .iconst (-1), 1), (5, .if_icmp .eq 15, 3), (8, .aload_n 0, 1), (9, .getfield 15, 3), (12, .iload_n 1, 1), (13, .if_icmp .ne 7, 3), (16, .iconst 1, 1), (17, .goto 4, 3), (20, .iconst 0, 1), (21, .ireturn, 1)])
theorem zmk_sh_isRowOf : zMok zm_sh_isRowOf := ⟨by decide +kernel, rfl, List.mem_append_right _ (List.mem_of_getElem? (i := 358) (by decide +kernel)), plainFor_of_name zcp_5⟩
theorem zok_sh_isRowOf : zVok zm_sh_isRowOf 1 := ⟨(List.mem_of_getElem? (i := 356) (by decide +kernel)), (List.mem_append_right _ (List.mem_of_getElem? (i := 357) (by decide +kernel))), zci_5, zcn_5.1, zcn_5.2, by decide +kernel⟩
noncomputable def zm_sh_holdGlass : zM := (5, ⟨"LemonGate$Shelf", "holdGlass", "(I)V"⟩, prog_7_method_4_code, 2, none, [(0, .aload_n 0, 1), (1, .iload_n 1, 1), (2, .putfield 11, 3), (5, .aload_n 0, 1), (6, .iconst (-1), 1), (7, .putfield 15, 3), (10, .aload_n 0, 1), (11, .iconst 0, 1), (12, .putfield 22, 3), (15, .return_, 1)])
theorem zmk_sh_holdGlass : zMok zm_sh_holdGlass := ⟨by decide +kernel, rfl, List.mem_append_right _ (List.mem_of_getElem? (i := 848) (by decide +kernel)), plainFor_of_name zcp_5⟩
theorem zok_sh_holdGlass : zVok zm_sh_holdGlass 1 := ⟨(List.mem_of_getElem? (i := 846) (by decide +kernel)), (List.mem_append_right _ (List.mem_of_getElem? (i := 847) (by decide +kernel))), zci_5, zcn_5.1, zcn_5.2, by decide +kernel⟩
noncomputable def zm_sh_holdRow : zM := (5, ⟨"LemonGate$Shelf", "holdRow", "(II)V"⟩, prog_7_method_5_code, 3, none, [(0, .aload_n 0, 1), (1, .iconst (-1), 1), (2, .putfield 11, 3), (5, .aload_n 0, 1), (6, .iload_n 1, 1), (7, .putfield 15, 3), (10, .aload_n 0, 1), (11, .iload_n 2, 1), (12, .bipush 60, 2), (14, .invokestatic 25, 3), (17, .putfield 22, 3), (20, .aload_n 0, 1), (21, .getfield 18, 3), (24, .lconst 0, 1), (25, .invokestatic 31, 3), (28, .return_, 1)])
theorem zmk_sh_holdRow : zMok zm_sh_holdRow := ⟨by decide +kernel, rfl, List.mem_append_right _ (List.mem_of_getElem? (i := 856) (by decide +kernel)), plainFor_of_name zcp_5⟩
theorem zok_sh_holdRow : zVok zm_sh_holdRow 2 := ⟨(List.mem_of_getElem? (i := 854) (by decide +kernel)), (List.mem_append_right _ (List.mem_of_getElem? (i := 855) (by decide +kernel))), zci_5, zcn_5.1, zcn_5.2, by decide +kernel⟩
noncomputable def zm_sh_hasPlaces : zM := (5, ⟨"LemonGate$Shelf", "hasPlaces", "(II)Z"⟩, prog_7_method_6_code, 3, some .boolean, [(0, .iload_n 1, 1), (1, .ifCond .lt 29, 3), (4, .iload_n 2, 1), (5, .ifCond .lt 25, 3), (8, .iload_n 1, 1), (9, .aload_n 0, 1), (10, .getfield 22, 3), (13, .if_icmp .gt 17, 3), (16, .iload_n 2, 1), (17, .aload_n 0, 1), (18, .getfield 22, 3), (21, .iload_n 1, 1), (22, .isub, 1), (23, .if_icmp .gt 7, 3), (26, .iconst 1, 1), (27, .goto 4, 3), (30, .iconst 0, 1), (31, .ireturn, 1)])
theorem zmk_sh_hasPlaces : zMok zm_sh_hasPlaces := ⟨by decide +kernel, rfl, List.mem_append_right _ (List.mem_of_getElem? (i := 366) (by decide +kernel)), plainFor_of_name zcp_5⟩
theorem zok_sh_hasPlaces : zVok zm_sh_hasPlaces 2 := ⟨(List.mem_of_getElem? (i := 364) (by decide +kernel)), (List.mem_append_right _ (List.mem_of_getElem? (i := 365) (by decide +kernel))), zci_5, zcn_5.1, zcn_5.2, by decide +kernel⟩
noncomputable def zm_sh_refusalOfSort : zM := (5, ⟨"LemonGate$Shelf", "refusalOfSort", "(I)I"⟩, prog_7_method_7_code, 2, some .int, [(0, .aload_n 0, 1), (1, .invokevirtual 37, 3), (4, .ifCond .eq 6, 3), (7, .bipush (-11), 2), (9, .ireturn, 1), (10, .aload_n 0, 1), (11, .iload_n 1, 1), (12, .invokevirtual 41, 3), (15, .ifCond .eq 7, 3), (18, .iconst 0, 1), (19, .goto 5, 3), (22, .bipush (-12), 2), (24, .ireturn, 1)])
theorem zmk_sh_refusalOfSort : zMok zm_sh_refusalOfSort := ⟨by decide +kernel, rfl, List.mem_append_right _ (List.mem_of_getElem? (i := 653) (by decide +kernel)), plainFor_of_name zcp_5⟩
theorem zok_sh_refusalOfSort : zVok zm_sh_refusalOfSort 1 := ⟨(List.mem_of_getElem? (i := 651) (by decide +kernel)), (List.mem_append_right _ (List.mem_of_getElem? (i := 652) (by decide +kernel))), zci_5, zcn_5.1, zcn_5.2, by decide +kernel⟩
noncomputable def zm_sh_refusalOfPlaces : zM := (5, ⟨"LemonGate$Shelf", "refusalOfPlaces", "(II)I"⟩, prog_7_method_8_code, 4, some .int, [(0, .aload_n 0, 1), (1, .aload_n 0, 1), (2, .getfield 15, 3), (5, .invokevirtual 45, 3), (8, .istore_n 3, 1), (9, .iload_n 3, 1), (10, .ifCond .eq 5, 3), (13, .iload_n 3, 1), (14, .ireturn, 1), (15, .aload_n 0, 1), (16, .iload_n 1, 1), (17, .iload_n 2, 1), (18, .invokevirtual 49, 3), (21, .ifCond .eq 7, 3), (24, .iconst 0, 1), (25, .goto 5, 3), (28, .bipush (-13), 2), (30, .ireturn, 1)])
theorem zmk_sh_refusalOfPlaces : zMok zm_sh_refusalOfPlaces := ⟨by decide +kernel, rfl, List.mem_append_right _ (List.mem_of_getElem? (i := 868) (by decide +kernel)), plainFor_of_name zcp_5⟩
theorem zok_sh_refusalOfPlaces : zVok zm_sh_refusalOfPlaces 2 := ⟨(List.mem_of_getElem? (i := 866) (by decide +kernel)), (List.mem_append_right _ (List.mem_of_getElem? (i := 867) (by decide +kernel))), zci_5, zcn_5.1, zcn_5.2, by decide +kernel⟩
noncomputable def zm_sh_write : zM := (5, ⟨"LemonGate$Shelf", "write", "(IJ)V"⟩, prog_7_method_9_code, 4, none, [(0, .aload_n 0, 1), (1, .getfield 15, 3), (4, .tableswitch 80 0 3 #[32, 45, 58, 70], 32), (36, .aload_n 0, 1), (37, .getfield 18, 3), (40, .iload_n 1, 1), (41, .lload_n 2, 1), (42, .l2i, 1), (43, .i2b, 1), (44, .i2l, 1), (45, .lastore, 1), (46, .goto 55, 3), (49, .aload_n 0, 1), (50, .getfield 18, 3), (53, .iload_n 1, 1), (54, .lload_n 2, 1), (55, .l2i, 1), (56, .i2s, 1), (57, .i2l, 1), (58, .lastore, 1), (59, .goto 42, 3), (62, .aload_n 0, 1), (63, .getfield 18, 3), (66, .iload_n 1, 1), (67, .lload_n 2, 1), (68, .l2i, 1), (69, .i2l, 1), (70, .lastore, 1), (71, .goto 30, 3), (74, .aload_n 0, 1), (75, .getfield 18, 3), (78, .iload_n 1, 1), (79, .lload_n 2, 1), (80, .lastore, 1), (81, .goto 20, 3), (84, .aload_n 0, 1), (85, .getfield 18, 3), (88, .iload_n 1, 1), (89, .lload_n 2, 1), (90, .lconst 0, 1), (91, .lcmp, 1), (92, .ifCond .ne 7, 3), (95, .lconst 0, 1), (96, .goto 4, 3), (99, .lconst 1, 1), (100, .lastore, 1), (101, .return_, 1)])
theorem zmk_sh_write : zMok zm_sh_write := ⟨by decide +kernel, rfl, List.mem_append_right _ (List.mem_of_getElem? (i := 874) (by decide +kernel)), plainFor_of_name zcp_5⟩
theorem zok_sh_write : zVok zm_sh_write 2 := ⟨(List.mem_of_getElem? (i := 872) (by decide +kernel)), (List.mem_append_right _ (List.mem_of_getElem? (i := 873) (by decide +kernel))), zci_5, zcn_5.1, zcn_5.2, by decide +kernel⟩
noncomputable def zm_sl_isName : zM := (6, ⟨"LemonGate$Slates", "isName", "(I)Z"⟩, prog_8_method_2_code, 1, some .boolean, [(0, .iload_n 0, 1), (1, .iconst 0, 1), (2, .iconst 5, 1), (3, .invokestatic 19, 3), (6, .ireturn, 1)])
theorem zmk_sl_isName : zMok zm_sl_isName := ⟨by decide +kernel, rfl, List.mem_append_right _ (List.mem_of_getElem? (i := 729) (by decide +kernel)), plainFor_of_name zcp_6⟩
theorem zok_sl_isName : zSok zm_sl_isName 1 := ⟨(List.mem_of_getElem? (i := 728) (by decide +kernel)), zci_6, zcn_6.1, zcn_6.2, by decide +kernel⟩
noncomputable def zm_sl_write : zM := (6, ⟨"LemonGate$Slates", "write", "(III)I"⟩, prog_8_method_3_code, 5, some .int, [(0, .aload_n 0, 1), (1, .getfield 9, 3), (4, .iload_n 1, 1), (5, .bipush 6, 2), (7, .imul, 1), (8, .iload_n 2, 1), (9, .iadd, 1), (10, .iaload, 1), (11, .istore 4, 2), (13, .aload_n 0, 1), (14, .getfield 9, 3), (17, .iload_n 1, 1), (18, .bipush 6, 2), (20, .imul, 1), (21, .iload_n 2, 1), (22, .iadd, 1), (23, .iload_n 3, 1), (24, .iastore, 1), (25, .iload 4, 2), (27, .ireturn, 1)])
theorem zmk_sl_write : zMok zm_sl_write := ⟨by decide +kernel, rfl, List.mem_append_right _ (List.mem_of_getElem? (i := 734) (by decide +kernel)), plainFor_of_name zcp_6⟩
theorem zok_sl_write : zVok zm_sl_write 3 := ⟨(List.mem_of_getElem? (i := 732) (by decide +kernel)), (List.mem_append_right _ (List.mem_of_getElem? (i := 733) (by decide +kernel))), zci_6, zcn_6.1, zcn_6.2, by decide +kernel⟩
noncomputable def zm_sl_balance : zM := (6, ⟨"LemonGate$Slates", "balance", "(I)I"⟩, prog_8_method_4_code, 4, some .int, [(0, .iconst 0, 1), (1, .istore_n 2, 1), (2, .iconst 0, 1), (3, .istore_n 3, 1), (4, .iload_n 3, 1), (5, .bipush 6, 2), (7, .if_icmp .ge 35, 3), (10, .iload_n 2, 1), (11, .aload_n 0, 1), (12, .getfield 9, 3), (15, .iload_n 1, 1), (16, .bipush 6, 2), (18, .imul, 1), (19, .iload_n 3, 1), (20, .iadd, 1), (21, .iaload, 1), (22, .aload_n 0, 1), (23, .getfield 9, 3), (26, .iload_n 3, 1), (27, .bipush 6, 2), (29, .imul, 1), (30, .iload_n 1, 1), (31, .iadd, 1), (32, .iaload, 1), (33, .isub, 1), (34, .iadd, 1), (35, .istore_n 2, 1), (36, .iinc 3 1, 3), (39, .goto (-35), 3), (42, .iload_n 2, 1), (43, .ireturn, 1)])
theorem zmk_sl_balance : zMok zm_sl_balance := ⟨by decide +kernel, rfl, List.mem_append_right _ (List.mem_of_getElem? (i := 742) (by decide +kernel)), plainFor_of_name zcp_6⟩
theorem zok_sl_balance : zVok zm_sl_balance 1 := ⟨(List.mem_of_getElem? (i := 740) (by decide +kernel)), (List.mem_append_right _ (List.mem_of_getElem? (i := 741) (by decide +kernel))), zci_6, zcn_6.1, zcn_6.2, by decide +kernel⟩
noncomputable def zm_sl_fewestPayments : zM := (6, ⟨"LemonGate$Slates", "fewestPayments", "()I"⟩, prog_8_method_5_code, 5, some .int, [(0, .iconst 0, 1), (1, .istore_n 1, 1), (2, .iload_n 1, 1), (3, .bipush 6, 2), (5, .if_icmp .ge 67, 3), (8, .aload_n 0, 1), (9, .iload_n 1, 1), (10, .invokevirtual 25, 3), (13, .istore_n 2, 1), (14, .iconst 1, 1), (15, .iload_n 1, 1), (16, .ishl, 1), (17, .istore_n 3, 1), (18, .iload_n 3, 1), (19, .istore 4, 2), (21, .iload 4, 2), (23, .iconst 2, 1), (24, .iload_n 3, 1), (25, .imul, 1), (26, .if_icmp .ge 40, 3), (29, .aload_n 0, 1), (30, .getfield 13, 3), (33, .iload 4, 2), (35, .aload_n 0, 1), (36, .getfield 13, 3), (39, .iload 4, 2), (41, .iload_n 3, 1), (42, .isub, 1), (43, .iaload, 1), (44, .iload_n 2, 1), (45, .iadd, 1), (46, .iastore, 1), (47, .aload_n 0, 1), (48, .getfield 16, 3), (51, .iload 4, 2), (53, .aload_n 0, 1), (54, .iload 4, 2), (56, .invokevirtual 29, 3), (59, .iastore, 1), (60, .iinc 4 1, 3), (63, .goto (-42), 3), (66, .iinc 1 1, 3), (69, .goto (-67), 3), (72, .bipush 6, 2), (74, .aload_n 0, 1), (75, .getfield 16, 3), (78, .bipush 63, 2), (80, .iaload, 1), (81, .isub, 1), (82, .ireturn, 1)])
theorem zmk_sl_fewestPayments : zMok zm_sl_fewestPayments := ⟨by decide +kernel, rfl, List.mem_append_right _ (List.mem_of_getElem? (i := 750) (by decide +kernel)), plainFor_of_name zcp_6⟩
theorem zok_sl_fewestPayments : zVok zm_sl_fewestPayments 0 := ⟨(List.mem_of_getElem? (i := 748) (by decide +kernel)), (List.mem_append_right _ (List.mem_of_getElem? (i := 749) (by decide +kernel))), zci_6, zcn_6.1, zcn_6.2, by decide +kernel⟩
noncomputable def zm_sl_mostGroups : zM := (6, ⟨"LemonGate$Slates", "mostGroups", "(I)I"⟩, prog_8_method_6_code, 4, some .int, [(0, .iconst 0, 1), (1, .istore_n 2, 1), (2, .iconst 0, 1), (3, .istore_n 3, 1), (4, .iload_n 3, 1), (5, .bipush 6, 2), (7, .if_icmp .ge 33, 3), (10, .iload_n 1, 1), (11, .iload_n 3, 1), (12, .ishr, 1), (13, .iconst 1, 1), (14, .iand, 1), (15, .iconst 1, 1), (16, .if_icmp .ne 18, 3), (19, .iload_n 2, 1), (20, .aload_n 0, 1), (21, .getfield 16, 3), (24, .iload_n 1, 1), (25, .iconst 1, 1), (26, .iload_n 3, 1), (27, .ishl, 1), (28, .ixor, 1), (29, .iaload, 1), (30, .invokestatic 32, 3), (33, .istore_n 2, 1), (34, .iinc 3 1, 3), (37, .goto (-33), 3), (40, .aload_n 0, 1), (41, .getfield 13, 3), (44, .iload_n 1, 1), (45, .iaload, 1), (46, .ifCond .ne 9, 3), (49, .iload_n 2, 1), (50, .iconst 1, 1), (51, .iadd, 1), (52, .goto 4, 3), (55, .iload_n 2, 1), (56, .ireturn, 1)])
theorem zmk_sl_mostGroups : zMok zm_sl_mostGroups := ⟨by decide +kernel, rfl, List.mem_append_right _ (List.mem_of_getElem? (i := 755) (by decide +kernel)), plainFor_of_name zcp_6⟩
theorem zok_sl_mostGroups : zVok zm_sl_mostGroups 1 := ⟨(List.mem_of_getElem? (i := 754) (by decide +kernel)), (List.mem_append_left _ (List.mem_map.mpr ⟨(⟨"LemonGate$Slates", "mostGroups", "(I)I"⟩, 3), List.mem_of_getElem? (i := 27) (by decide +kernel), rfl⟩)), zci_6, zcn_6.1, zcn_6.2, by decide +kernel⟩
noncomputable def zm_st_isPlace : zM := (7, ⟨"LemonGate$Street", "isPlace", "(I)Z"⟩, prog_9_method_2_code, 2, some .boolean, [(0, .iload_n 1, 1), (1, .iconst 0, 1), (2, .aload_n 0, 1), (3, .getfield 36, 3), (6, .iconst 1, 1), (7, .isub, 1), (8, .invokestatic 40, 3), (11, .ireturn, 1)])
theorem zmk_st_isPlace : zMok zm_st_isPlace := ⟨by decide +kernel, rfl, List.mem_append_right _ (List.mem_of_getElem? (i := 378) (by decide +kernel)), plainFor_of_name zcp_7⟩
theorem zok_st_isPlace : zVok zm_st_isPlace 1 := ⟨(List.mem_of_getElem? (i := 376) (by decide +kernel)), (List.mem_append_right _ (List.mem_of_getElem? (i := 377) (by decide +kernel))), zci_7, zcn_7.1, zcn_7.2, by decide +kernel⟩
noncomputable def zm_st_flowAt : zM := (7, ⟨"LemonGate$Street", "flowAt", "(II)I"⟩, prog_9_method_3_code, 3, some .int, [(0, .aload_n 0, 1), (1, .iload_n 1, 1), (2, .invokevirtual 44, 3), (5, .ifCond .eq 24, 3), (8, .iload_n 2, 1), (9, .invokestatic 48, 3), (12, .ifCond .eq 17, 3), (15, .aload_n 0, 1), (16, .getfield 18, 3), (19, .iload_n 1, 1), (20, .bipush 32, 2), (22, .imul, 1), (23, .iload_n 2, 1), (24, .iadd, 1), (25, .iaload, 1), (26, .goto 4, 3), (29, .iconst 0, 1), (30, .ireturn, 1)])
theorem zmk_st_flowAt : zMok zm_st_flowAt := ⟨by decide +kernel, rfl, List.mem_append_right _ (List.mem_of_getElem? (i := 431) (by decide +kernel)), plainFor_of_name zcp_7⟩
theorem zok_st_flowAt : zVok zm_st_flowAt 2 := ⟨(List.mem_of_getElem? (i := 429) (by decide +kernel)), (List.mem_append_right _ (List.mem_of_getElem? (i := 430) (by decide +kernel))), zci_7, zcn_7.1, zcn_7.2, by decide +kernel⟩
noncomputable def zm_st_passers : zM := (7, ⟨"LemonGate$Street", "passers", "(I)I"⟩, prog_9_method_4_code, 2, some .int, [(0, .iload_n 1, 1), (1, .invokestatic 48, 3), (4, .ifCond .eq 17, 3), (7, .aload_n 0, 1), (8, .aload_n 0, 1), (9, .getfield 15, 3), (12, .iload_n 1, 1), (13, .iaload, 1), (14, .iload_n 1, 1), (15, .invokevirtual 51, 3), (18, .goto 4, 3), (21, .iconst 0, 1), (22, .ireturn, 1)])
theorem zmk_st_passers : zMok zm_st_passers := ⟨by decide +kernel, rfl, List.mem_append_right _ (List.mem_of_getElem? (i := 588) (by decide +kernel)), plainFor_of_name zcp_7⟩
theorem zok_st_passers : zVok zm_st_passers 1 := ⟨(List.mem_of_getElem? (i := 586) (by decide +kernel)), (List.mem_append_right _ (List.mem_of_getElem? (i := 587) (by decide +kernel))), zci_7, zcn_7.1, zcn_7.2, by decide +kernel⟩
noncomputable def zm_st_sumOfHeats : zM := (7, ⟨"LemonGate$Street", "sumOfHeats", "()I"⟩, prog_9_method_5_code, 6, some .int, [(0, .iconst 0, 1), (1, .istore_n 1, 1), (2, .aload_n 0, 1), (3, .getfield 9, 3), (6, .astore_n 2, 1), (7, .aload_n 2, 1), (8, .arraylength, 1), (9, .istore_n 3, 1), (10, .iconst 0, 1), (11, .istore 4, 2), (13, .iload 4, 2), (15, .iload_n 3, 1), (16, .if_icmp .ge 20, 3), (19, .aload_n 2, 1), (20, .iload 4, 2), (22, .iaload, 1), (23, .istore 5, 2), (25, .iload_n 1, 1), (26, .iload 5, 2), (28, .iadd, 1), (29, .istore_n 1, 1), (30, .iinc 4 1, 3), (33, .goto (-20), 3), (36, .iload_n 1, 1), (37, .ireturn, 1)])
theorem zmk_st_sumOfHeats : zMok zm_st_sumOfHeats := ⟨by decide +kernel, rfl, List.mem_append_right _ (List.mem_of_getElem? (i := 769) (by decide +kernel)), plainFor_of_name zcp_7⟩
theorem zok_st_sumOfHeats : zVok zm_st_sumOfHeats 0 := ⟨(List.mem_of_getElem? (i := 767) (by decide +kernel)), (List.mem_append_right _ (List.mem_of_getElem? (i := 768) (by decide +kernel))), zci_7, zcn_7.1, zcn_7.2, by decide +kernel⟩
noncomputable def zm_st_keepImage : zM := (7, ⟨"LemonGate$Street", "keepImage", "()V"⟩, prog_9_method_6_code, 1, none, [(0, .aload_n 0, 1), (1, .getfield 9, 3), (4, .iconst 0, 1), (5, .aload_n 0, 1), (6, .getfield 21, 3), (9, .iconst 0, 1), (10, .bipush 32, 2), (12, .invokestatic 55, 3), (15, .aload_n 0, 1), (16, .getfield 15, 3), (19, .iconst 0, 1), (20, .aload_n 0, 1), (21, .getfield 24, 3), (24, .iconst 0, 1), (25, .bipush 32, 2), (27, .invokestatic 55, 3), (30, .aload_n 0, 1), (31, .iconst 1, 1), (32, .putfield 61, 3), (35, .return_, 1)])
theorem zmk_st_keepImage : zMok zm_st_keepImage := ⟨by decide +kernel, rfl, List.mem_append_right _ (List.mem_of_getElem? (i := 764) (by decide +kernel)), plainFor_of_name zcp_7⟩
theorem zok_st_keepImage : zVok zm_st_keepImage 0 := ⟨(List.mem_of_getElem? (i := 762) (by decide +kernel)), (List.mem_append_right _ (List.mem_of_getElem? (i := 763) (by decide +kernel))), zci_7, zcn_7.1, zcn_7.2, by decide +kernel⟩
noncomputable def zm_st_takeImage : zM := (7, ⟨"LemonGate$Street", "takeImage", "()V"⟩, prog_9_method_7_code, 1, none, [(0, .aload_n 0, 1), (1, .getfield 21, 3), (4, .iconst 0, 1), (5, .aload_n 0, 1), (6, .getfield 9, 3), (9, .iconst 0, 1), (10, .bipush 32, 2), (12, .invokestatic 55, 3), (15, .aload_n 0, 1), (16, .getfield 24, 3), (19, .iconst 0, 1), (20, .aload_n 0, 1), (21, .getfield 15, 3), (24, .iconst 0, 1), (25, .bipush 32, 2), (27, .invokestatic 55, 3), (30, .return_, 1)])
theorem zmk_st_takeImage : zMok zm_st_takeImage := ⟨by decide +kernel, rfl, List.mem_append_right _ (List.mem_of_getElem? (i := 777) (by decide +kernel)), plainFor_of_name zcp_7⟩
theorem zok_st_takeImage : zVok zm_st_takeImage 0 := ⟨(List.mem_of_getElem? (i := 775) (by decide +kernel)), (List.mem_append_right _ (List.mem_of_getElem? (i := 776) (by decide +kernel))), zci_7, zcn_7.1, zcn_7.2, by decide +kernel⟩
noncomputable def zm_st_lookAhead : zM := (7, ⟨"LemonGate$Street", "lookAhead", "(II)V"⟩, prog_9_method_8_code, 6, none, [(0, .iload_n 2, 1), (1, .istore_n 3, 1), (2, .iload_n 3, 1), (3, .iload_n 1, 1), (4, .if_icmp .lt 70, 3), (7, .iconst (-1), 1), (8, .istore 4, 2), (10, .iload 4, 2), (12, .aload_n 0, 1), (13, .getfield 36, 3), (16, .if_icmp .ge 52, 3), (19, .iload_n 3, 1), (20, .iload_n 2, 1), (21, .if_icmp .ne 7, 3), (24, .iconst 0, 1), (25, .goto 12, 3), (28, .aload_n 0, 1), (29, .iload 4, 2), (31, .iload_n 3, 1), (32, .iconst 1, 1), (33, .iadd, 1), (34, .invokevirtual 65, 3), (37, .istore 5, 2), (39, .aload_n 0, 1), (40, .getfield 27, 3), (43, .iload_n 3, 1), (44, .iconst 5, 1), (45, .imul, 1), (46, .iload 4, 2), (48, .iadd, 1), (49, .iconst 1, 1), (50, .iadd, 1), (51, .aload_n 0, 1), (52, .iload 4, 2), (54, .iload_n 3, 1), (55, .invokevirtual 51, 3), (58, .iload 5, 2), (60, .iadd, 1), (61, .iastore, 1), (62, .iinc 4 1, 3), (65, .goto (-55), 3), (68, .iinc 3 (-1), 3), (71, .goto (-69), 3), (74, .return_, 1)])
theorem zmk_st_lookAhead : zMok zm_st_lookAhead := ⟨by decide +kernel, rfl, List.mem_append_right _ (List.mem_of_getElem? (i := 628) (by decide +kernel)), plainFor_of_name zcp_7⟩
theorem zok_st_lookAhead : zVok zm_st_lookAhead 2 := ⟨(List.mem_of_getElem? (i := 626) (by decide +kernel)), (List.mem_append_right _ (List.mem_of_getElem? (i := 627) (by decide +kernel))), zci_7, zcn_7.1, zcn_7.2, by decide +kernel⟩
noncomputable def zm_st_mostFrom : zM := (7, ⟨"LemonGate$Street", "mostFrom", "(II)I"⟩, prog_9_method_9_code, 5, some .int, [(0, .iconst 0, 1), (1, .istore_n 3, 1), (2, .iconst (-1), 1), (3, .istore 4, 2), (5, .iload 4, 2), (7, .aload_n 0, 1), (8, .getfield 36, 3), (11, .if_icmp .ge 36, 3), (14, .iload_n 1, 1), (15, .iload 4, 2), (17, .invokestatic 68, 3), (20, .ifCond .eq 21, 3), (23, .iload_n 3, 1), (24, .aload_n 0, 1), (25, .getfield 27, 3), (28, .iload_n 2, 1), (29, .iconst 5, 1), (30, .imul, 1), (31, .iload 4, 2), (33, .iadd, 1), (34, .iconst 1, 1), (35, .iadd, 1), (36, .iaload, 1), (37, .invokestatic 72, 3), (40, .istore_n 3, 1), (41, .iinc 4 1, 3), (44, .goto (-39), 3), (47, .iload_n 3, 1), (48, .ireturn, 1)])
theorem zmk_st_mostFrom : zMok zm_st_mostFrom := ⟨by decide +kernel, rfl, List.mem_append_right _ (List.mem_of_getElem? (i := 632) (by decide +kernel)), plainFor_of_name zcp_7⟩
theorem zok_st_mostFrom : zVok zm_st_mostFrom 2 := ⟨(List.mem_of_getElem? (i := 630) (by decide +kernel)), (List.mem_append_right _ (List.mem_of_getElem? (i := 631) (by decide +kernel))), zci_7, zcn_7.1, zcn_7.2, by decide +kernel⟩
noncomputable def zm_st_placeIn : zM := (7, ⟨"LemonGate$Street", "placeIn", "(II)I"⟩, prog_9_method_10_code, 5, some .int, [(0, .iconst (-1), 1), (1, .istore_n 3, 1), (2, .iload_n 1, 1), (3, .istore 4, 2), (5, .iload 4, 2), (7, .iload_n 2, 1), (8, .if_icmp .gt 17, 3), (11, .aload_n 0, 1), (12, .iload_n 3, 1), (13, .iload 4, 2), (15, .invokevirtual 77, 3), (18, .istore_n 3, 1), (19, .iinc 4 1, 3), (22, .goto (-17), 3), (25, .iload_n 3, 1), (26, .ireturn, 1)])
theorem zmk_st_placeIn : zMok zm_st_placeIn := ⟨by decide +kernel, rfl, List.mem_append_right _ (List.mem_of_getElem? (i := 641) (by decide +kernel)), plainFor_of_name zcp_7⟩
theorem zok_st_placeIn : zVok zm_st_placeIn 2 := ⟨(List.mem_of_getElem? (i := 639) (by decide +kernel)), (List.mem_append_right _ (List.mem_of_getElem? (i := 640) (by decide +kernel))), zci_7, zcn_7.1, zcn_7.2, by decide +kernel⟩
noncomputable def zm_st_firstOfMost : zM := (7, ⟨"LemonGate$Street", "firstOfMost", "(II)I"⟩, prog_9_method_11_code, 5, some .int, [(0, .aload_n 0, 1), (1, .iload_n 1, 1), (2, .iload_n 2, 1), (3, .invokevirtual 65, 3), (6, .istore_n 3, 1), (7, .iconst (-1), 1), (8, .istore 4, 2), (10, .iload 4, 2), (12, .aload_n 0, 1), (13, .getfield 36, 3), (16, .if_icmp .ge 38, 3), (19, .iload_n 1, 1), (20, .iload 4, 2), (22, .invokestatic 68, 3), (25, .ifCond .eq 23, 3), (28, .aload_n 0, 1), (29, .getfield 27, 3), (32, .iload_n 2, 1), (33, .iconst 5, 1), (34, .imul, 1), (35, .iload 4, 2), (37, .iadd, 1), (38, .iconst 1, 1), (39, .iadd, 1), (40, .iaload, 1), (41, .iload_n 3, 1), (42, .if_icmp .ne 6, 3), (45, .iload 4, 2), (47, .ireturn, 1), (48, .iinc 4 1, 3), (51, .goto (-41), 3), (54, .iconst (-1), 1), (55, .ireturn, 1)])
theorem zmk_st_firstOfMost : zMok zm_st_firstOfMost := ⟨by decide +kernel, rfl, List.mem_append_right _ (List.mem_of_getElem? (i := 645) (by decide +kernel)), plainFor_of_name zcp_7⟩
theorem zok_st_firstOfMost : zVok zm_st_firstOfMost 2 := ⟨(List.mem_of_getElem? (i := 644) (by decide +kernel)), (List.mem_append_left _ (List.mem_map.mpr ⟨(⟨"LemonGate$Street", "firstOfMost", "(II)I"⟩, 8), List.mem_of_getElem? (i := 23) (by decide +kernel), rfl⟩)), zci_7, zcn_7.1, zcn_7.2, by decide +kernel⟩
noncomputable def zm_st_isNext : zM := (7, ⟨"LemonGate$Street", "isNext", "(II)Z"⟩, prog_9_method_12_code, 2, some .boolean, [(0, .iload_n 0, 1), (1, .iconst (-1), 1), (2, .if_icmp .eq 13, 3), (5, .iload_n 1, 1), (6, .iconst (-1), 1), (7, .if_icmp .eq 8, 3), (10, .iload_n 0, 1), (11, .iload_n 1, 1), (12, .if_icmp .ne 7, 3), (15, .iconst 1, 1), (16, .goto 4, 3), (19, .iconst 0, 1), (20, .ireturn, 1)])
theorem zmk_st_isNext : zMok zm_st_isNext := ⟨by decide +kernel, rfl, List.mem_append_right _ (List.mem_of_getElem? (i := 635) (by decide +kernel)), plainFor_of_name zcp_7⟩
theorem zok_st_isNext : zSok zm_st_isNext 2 := ⟨(List.mem_of_getElem? (i := 634) (by decide +kernel)), zci_7, zcn_7.1, zcn_7.2, by decide +kernel⟩
noncomputable def zm_su_power : zM := (8, ⟨"LemonGate$Sums", "power", "(JI)J"⟩, prog_10_method_2_code, 6, some .long, [(0, .lconst 1, 1), (1, .lstore_n 3, 1), (2, .iconst 0, 1), (3, .istore 5, 2), (5, .iload 5, 2), (7, .iload_n 2, 1), (8, .if_icmp .ge 13, 3), (11, .lload_n 3, 1), (12, .lload_n 0, 1), (13, .lmul, 1), (14, .lstore_n 3, 1), (15, .iinc 5 1, 3), (18, .goto (-13), 3), (21, .lload_n 3, 1), (22, .lreturn, 1)])
theorem zmk_su_power : zMok zm_su_power := ⟨by decide +kernel, rfl, List.mem_append_right _ (List.mem_of_getElem? (i := 681) (by decide +kernel)), plainFor_of_name zcp_8⟩
theorem zok_su_power : zSok zm_su_power 2 := ⟨(List.mem_of_getElem? (i := 680) (by decide +kernel)), zci_8, zcn_8.1, zcn_8.2, by decide +kernel⟩
noncomputable def zm_su_ways : zM := (8, ⟨"LemonGate$Sums", "ways", "(II)J"⟩, prog_10_method_3_code, 5, some .long, [(0, .lconst 1, 1), (1, .lstore_n 2, 1), (2, .iconst 1, 1), (3, .istore 4, 2), (5, .iload 4, 2), (7, .iload_n 1, 1), (8, .if_icmp .gt 23, 3), (11, .lload_n 2, 1), (12, .iload_n 0, 1), (13, .iload_n 1, 1), (14, .isub, 1), (15, .iload 4, 2), (17, .iadd, 1), (18, .i2l, 1), (19, .lmul, 1), (20, .iload 4, 2), (22, .i2l, 1), (23, .ldiv, 1), (24, .lstore_n 2, 1), (25, .iinc 4 1, 3), (28, .goto (-23), 3), (31, .lload_n 2, 1), (32, .lreturn, 1)])
theorem zmk_su_ways : zMok zm_su_ways := ⟨by decide +kernel, rfl, List.mem_append_right _ (List.mem_of_getElem? (i := 678) (by decide +kernel)), plainFor_of_name zcp_8⟩
theorem zok_su_ways : zSok zm_su_ways 2 := ⟨(List.mem_of_getElem? (i := 677) (by decide +kernel)), zci_8, zcn_8.1, zcn_8.2, by decide +kernel⟩
noncomputable def zm_su_meanSold : zM := (8, ⟨"LemonGate$Sums", "meanSold", "(III)J"⟩, prog_10_method_4_code, 8, some .long, [(0, .lconst 0, 1), (1, .lstore_n 3, 1), (2, .iconst 0, 1), (3, .istore 5, 2), (5, .iload 5, 2), (7, .iload_n 0, 1), (8, .if_icmp .gt 51, 3), (11, .iload_n 0, 1), (12, .iload 5, 2), (14, .invokestatic 9, 3), (17, .iload_n 1, 1), (18, .i2l, 1), (19, .iload 5, 2), (21, .invokestatic 15, 3), (24, .lmul, 1), (25, .bipush 12, 2), (27, .iload_n 1, 1), (28, .isub, 1), (29, .i2l, 1), (30, .iload_n 0, 1), (31, .iload 5, 2), (33, .isub, 1), (34, .invokestatic 15, 3), (37, .lmul, 1), (38, .lstore 6, 2), (40, .lload_n 3, 1), (41, .lload 6, 2), (43, .iload 5, 2), (45, .iload_n 2, 1), (46, .invokestatic 19, 3), (49, .i2l, 1), (50, .lmul, 1), (51, .ladd, 1), (52, .lstore_n 3, 1), (53, .iinc 5 1, 3), (56, .goto (-51), 3), (59, .lload_n 3, 1), (60, .lreturn, 1)])
theorem zmk_su_meanSold : zMok zm_su_meanSold := ⟨by decide +kernel, rfl, List.mem_append_right _ (List.mem_of_getElem? (i := 675) (by decide +kernel)), plainFor_of_name zcp_8⟩
theorem zok_su_meanSold : zSok zm_su_meanSold 3 := ⟨(List.mem_of_getElem? (i := 674) (by decide +kernel)), zci_8, zcn_8.1, zcn_8.2, by decide +kernel⟩
noncomputable def zm_su_divisor : zM := (8, ⟨"LemonGate$Sums", "divisor", "(JJ)J"⟩, prog_10_method_5_code, 11, some .long, [(0, .lload_n 0, 1), (1, .invokestatic 25, 3), (4, .lstore 4, 2), (6, .lload_n 2, 1), (7, .invokestatic 25, 3), (10, .lstore 6, 2), (12, .iconst 0, 1), (13, .istore 8, 2), (15, .iload 8, 2), (17, .sipush 1000, 3), (20, .if_icmp .ge 31, 3), (23, .lload 6, 2), (25, .lconst 0, 1), (26, .lcmp, 1), (27, .ifCond .eq 24, 3), (30, .lload 4, 2), (32, .lload 6, 2), (34, .lrem, 1), (35, .lstore 9, 2), (37, .lload 6, 2), (39, .lstore 4, 2), (41, .lload 9, 2), (43, .lstore 6, 2), (45, .iinc 8 1, 3), (48, .goto (-33), 3), (51, .lload 4, 2), (53, .lconst 1, 1), (54, .invokestatic 29, 3), (57, .lreturn, 1)])
theorem zmk_su_divisor : zMok zm_su_divisor := ⟨by decide +kernel, rfl, List.mem_append_right _ (List.mem_of_getElem? (i := 687) (by decide +kernel)), plainFor_of_name zcp_8⟩
theorem zok_su_divisor : zSok zm_su_divisor 2 := ⟨(List.mem_of_getElem? (i := 686) (by decide +kernel)), zci_8, zcn_8.1, zcn_8.2, by decide +kernel⟩
noncomputable def zm_tp_add : zM := (9, ⟨"LemonGate$Tape", "add", "(I)Z"⟩, prog_11_method_2_code, 2, some .boolean, [(0, .aload_n 0, 1), (1, .getfield 18, 3), (4, .bipush 120, 2), (6, .if_icmp .lt 5, 3), (9, .iconst 0, 1), (10, .ireturn, 1), (11, .aload_n 0, 1), (12, .getfield 9, 3), (15, .aload_n 0, 1), (16, .getfield 18, 3), (19, .iload_n 1, 1), (20, .iastore, 1), (21, .aload_n 0, 1), (22, .dup, 1), (23, .getfield 18, 3), (26, .iconst 1, 1), (27, .iadd, 1), (28, .putfield 18, 3), (31, .iconst 1, 1), (32, .ireturn, 1)])
theorem zmk_tp_add : zMok zm_tp_add := ⟨by decide +kernel, rfl, List.mem_append_right _ (List.mem_of_getElem? (i := 442) (by decide +kernel)), plainFor_of_name zcp_9⟩
theorem zok_tp_add : zVok zm_tp_add 1 := ⟨(List.mem_of_getElem? (i := 440) (by decide +kernel)), (List.mem_append_right _ (List.mem_of_getElem? (i := 441) (by decide +kernel))), zci_9, zcn_9.1, zcn_9.2, by decide +kernel⟩
noncomputable def zm_tp_clear : zM := (9, ⟨"LemonGate$Tape", "clear", "()V"⟩, prog_11_method_3_code, 1, none, [(0, .aload_n 0, 1), (1, .iconst 0, 1), (2, .putfield 18, 3), (5, .return_, 1)])
theorem zmk_tp_clear : zMok zm_tp_clear := ⟨by decide +kernel, rfl, List.mem_append_right _ (List.mem_of_getElem? (i := 518) (by decide +kernel)), plainFor_of_name zcp_9⟩
theorem zok_tp_clear : zVok zm_tp_clear 0 := ⟨(List.mem_of_getElem? (i := 516) (by decide +kernel)), (List.mem_append_right _ (List.mem_of_getElem? (i := 517) (by decide +kernel))), zci_9, zcn_9.1, zcn_9.2, by decide +kernel⟩
noncomputable def zm_tp_read : zM := (9, ⟨"LemonGate$Tape", "read", "()I"⟩, prog_11_method_4_code, 4, some .int, [(0, .iconst 1, 1), (1, .istore_n 1, 1), (2, .iconst 1, 1), (3, .istore_n 2, 1), (4, .aload_n 0, 1), (5, .iconst 0, 1), (6, .putfield 22, 3), (9, .aload_n 0, 1), (10, .iconst 0, 1), (11, .putfield 25, 3), (14, .iconst 0, 1), (15, .istore_n 3, 1), (16, .iload_n 1, 1), (17, .ifCond .eq 43, 3), (20, .iload_n 2, 1), (21, .ifCond .eq 39, 3), (24, .iload_n 3, 1), (25, .bipush 120, 2), (27, .if_icmp .gt 33, 3), (30, .aload_n 0, 1), (31, .invokevirtual 28, 3), (34, .istore_n 1, 1), (35, .iload_n 1, 1), (36, .ifCond .eq 16, 3), (39, .aload_n 0, 1), (40, .bipush 59, 2), (42, .invokevirtual 32, 3), (45, .ifCond .eq 7, 3), (48, .iconst 1, 1), (49, .goto 4, 3), (52, .iconst 0, 1), (53, .istore_n 2, 1), (54, .iinc 3 1, 3), (57, .goto (-41), 3), (60, .iload_n 1, 1), (61, .ifCond .eq 18, 3), (64, .aload_n 0, 1), (65, .getfield 22, 3), (68, .aload_n 0, 1), (69, .getfield 18, 3), (72, .if_icmp .ne 7, 3), (75, .iconst (-1), 1), (76, .goto 7, 3), (79, .aload_n 0, 1), (80, .getfield 22, 3), (83, .ireturn, 1)])
theorem zmk_tp_read : zMok zm_tp_read := ⟨by decide +kernel, rfl, List.mem_append_right _ (List.mem_of_getElem? (i := 450) (by decide +kernel)), plainFor_of_name zcp_9⟩
theorem zok_tp_read : zVok zm_tp_read 0 := ⟨(List.mem_of_getElem? (i := 448) (by decide +kernel)), (List.mem_append_right _ (List.mem_of_getElem? (i := 449) (by decide +kernel))), zci_9, zcn_9.1, zcn_9.2, by decide +kernel⟩
noncomputable def zm_tp_readLine : zM := (9, ⟨"LemonGate$Tape", "readLine", "()Z"⟩, prog_11_method_5_code, 1, some .boolean, [(0, .aload_n 0, 1), (1, .iconst 0, 1), (2, .invokevirtual 36, 3), (5, .ifCond .ne 5, 3), (8, .iconst 0, 1), (9, .ireturn, 1), (10, .aload_n 0, 1), (11, .bipush 63, 2), (13, .invokevirtual 32, 3), (16, .ifCond .ne 10, 3), (19, .aload_n 0, 1), (20, .bipush (-59), 2), (22, .invokevirtual 39, 3), (25, .ireturn, 1), (26, .aload_n 0, 1), (27, .iconst 0, 1), (28, .invokevirtual 36, 3), (31, .ifCond .eq 16, 3), (34, .aload_n 0, 1), (35, .bipush (-63), 2), (37, .invokevirtual 39, 3), (40, .ifCond .eq 7, 3), (43, .iconst 1, 1), (44, .goto 4, 3), (47, .iconst 0, 1), (48, .ireturn, 1)])
theorem zmk_tp_readLine : zMok zm_tp_readLine := ⟨by decide +kernel, rfl, List.mem_append_right _ (List.mem_of_getElem? (i := 454) (by decide +kernel)), plainFor_of_name zcp_9⟩
theorem zok_tp_readLine : zVok zm_tp_readLine 0 := ⟨(List.mem_of_getElem? (i := 453) (by decide +kernel)), (List.mem_append_left _ (List.mem_map.mpr ⟨(⟨"LemonGate$Tape", "readLine", "()Z"⟩, 5), List.mem_of_getElem? (i := 4) (by decide +kernel), rfl⟩)), zci_9, zcn_9.1, zcn_9.2, by decide +kernel⟩
noncomputable def zm_tp_readEither : zM := (9, ⟨"LemonGate$Tape", "readEither", "(I)Z"⟩, prog_11_method_6_code, 4, some .boolean, [(0, .aload_n 0, 1), (1, .iload_n 1, 1), (2, .invokevirtual 42, 3), (5, .istore_n 2, 1), (6, .iconst 0, 1), (7, .istore_n 3, 1), (8, .iload_n 3, 1), (9, .bipush 120, 2), (11, .if_icmp .ge 45, 3), (14, .iload_n 2, 1), (15, .ifCond .eq 41, 3), (18, .aload_n 0, 1), (19, .bipush 124, 2), (21, .invokevirtual 32, 3), (24, .ifCond .eq 32, 3), (27, .aload_n 0, 1), (28, .iload_n 1, 1), (29, .invokevirtual 42, 3), (32, .ifCond .eq 16, 3), (35, .aload_n 0, 1), (36, .bipush (-124), 2), (38, .invokevirtual 39, 3), (41, .ifCond .eq 7, 3), (44, .iconst 1, 1), (45, .goto 4, 3), (48, .iconst 0, 1), (49, .istore_n 2, 1), (50, .iinc 3 1, 3), (53, .goto (-45), 3), (56, .iload_n 2, 1), (57, .ireturn, 1)])
theorem zmk_tp_readEither : zMok zm_tp_readEither := ⟨by decide +kernel, rfl, List.mem_append_right _ (List.mem_of_getElem? (i := 458) (by decide +kernel)), plainFor_of_name zcp_9⟩
theorem zok_tp_readEither : zVok zm_tp_readEither 1 := ⟨(List.mem_of_getElem? (i := 457) (by decide +kernel)), (List.mem_append_left _ (List.mem_map.mpr ⟨(⟨"LemonGate$Tape", "readEither", "(I)Z"⟩, 5), List.mem_of_getElem? (i := 5) (by decide +kernel), rfl⟩)), zci_9, zcn_9.1, zcn_9.2, by decide +kernel⟩
noncomputable def zm_tp_readBoth : zM := (9, ⟨"LemonGate$Tape", "readBoth", "(I)Z"⟩, prog_11_method_7_code, 4, some .boolean, [(0, .aload_n 0, 1), (1, .iload_n 1, 1), (2, .invokevirtual 45, 3), (5, .istore_n 2, 1), (6, .iconst 0, 1), (7, .istore_n 3, 1), (8, .iload_n 3, 1), (9, .bipush 120, 2), (11, .if_icmp .ge 45, 3), (14, .iload_n 2, 1), (15, .ifCond .eq 41, 3), (18, .aload_n 0, 1), (19, .bipush 38, 2), (21, .invokevirtual 32, 3), (24, .ifCond .eq 32, 3), (27, .aload_n 0, 1), (28, .iload_n 1, 1), (29, .invokevirtual 45, 3), (32, .ifCond .eq 16, 3), (35, .aload_n 0, 1), (36, .bipush (-38), 2), (38, .invokevirtual 39, 3), (41, .ifCond .eq 7, 3), (44, .iconst 1, 1), (45, .goto 4, 3), (48, .iconst 0, 1), (49, .istore_n 2, 1), (50, .iinc 3 1, 3), (53, .goto (-45), 3), (56, .iload_n 2, 1), (57, .ireturn, 1)])
theorem zmk_tp_readBoth : zMok zm_tp_readBoth := ⟨by decide +kernel, rfl, List.mem_append_right _ (List.mem_of_getElem? (i := 462) (by decide +kernel)), plainFor_of_name zcp_9⟩
theorem zok_tp_readBoth : zVok zm_tp_readBoth 1 := ⟨(List.mem_of_getElem? (i := 461) (by decide +kernel)), (List.mem_append_left _ (List.mem_map.mpr ⟨(⟨"LemonGate$Tape", "readBoth", "(I)Z"⟩, 5), List.mem_of_getElem? (i := 6) (by decide +kernel), rfl⟩)), zci_9, zcn_9.1, zcn_9.2, by decide +kernel⟩
noncomputable def zm_tp_readCompared : zM := (9, ⟨"LemonGate$Tape", "readCompared", "(I)Z"⟩, prog_11_method_8_code, 3, some .boolean, [(0, .aload_n 0, 1), (1, .iload_n 1, 1), (2, .invokevirtual 48, 3), (5, .ifCond .ne 5, 3), (8, .iconst 0, 1), (9, .ireturn, 1), (10, .aload_n 0, 1), (11, .invokevirtual 51, 3), (14, .istore_n 2, 1), (15, .iload_n 2, 1), (16, .bipush 60, 2), (18, .if_icmp .eq 17, 3), (21, .iload_n 2, 1), (22, .bipush 61, 2), (24, .if_icmp .eq 11, 3), (27, .iload_n 2, 1), (28, .bipush 62, 2), (30, .if_icmp .eq 5, 3), (33, .iconst 1, 1), (34, .ireturn, 1), (35, .aload_n 0, 1), (36, .dup, 1), (37, .getfield 22, 3), (40, .iconst 1, 1), (41, .iadd, 1), (42, .putfield 22, 3), (45, .aload_n 0, 1), (46, .iload_n 1, 1), (47, .invokevirtual 48, 3), (50, .ifCond .eq 16, 3), (53, .aload_n 0, 1), (54, .iload_n 2, 1), (55, .ineg, 1), (56, .invokevirtual 39, 3), (59, .ifCond .eq 7, 3), (62, .iconst 1, 1), (63, .goto 4, 3), (66, .iconst 0, 1), (67, .ireturn, 1)])
theorem zmk_tp_readCompared : zMok zm_tp_readCompared := ⟨by decide +kernel, rfl, List.mem_append_right _ (List.mem_of_getElem? (i := 466) (by decide +kernel)), plainFor_of_name zcp_9⟩
theorem zok_tp_readCompared : zVok zm_tp_readCompared 1 := ⟨(List.mem_of_getElem? (i := 465) (by decide +kernel)), (List.mem_append_left _ (List.mem_map.mpr ⟨(⟨"LemonGate$Tape", "readCompared", "(I)Z"⟩, 5), List.mem_of_getElem? (i := 7) (by decide +kernel), rfl⟩)), zci_9, zcn_9.1, zcn_9.2, by decide +kernel⟩
noncomputable def zm_tp_readSum : zM := (9, ⟨"LemonGate$Tape", "readSum", "(I)Z"⟩, prog_11_method_9_code, 5, some .boolean, [(0, .aload_n 0, 1), (1, .iload_n 1, 1), (2, .invokevirtual 55, 3), (5, .istore_n 2, 1), (6, .aload_n 0, 1), (7, .invokevirtual 51, 3), (10, .istore_n 3, 1), (11, .iconst 0, 1), (12, .istore 4, 2), (14, .iload 4, 2), (16, .bipush 120, 2), (18, .if_icmp .ge 63, 3), (21, .iload_n 2, 1), (22, .ifCond .eq 59, 3), (25, .iload_n 3, 1), (26, .bipush 43, 2), (28, .if_icmp .eq 9, 3), (31, .iload_n 3, 1), (32, .bipush 45, 2), (34, .if_icmp .ne 47, 3), (37, .aload_n 0, 1), (38, .dup, 1), (39, .getfield 22, 3), (42, .iconst 1, 1), (43, .iadd, 1), (44, .putfield 22, 3), (47, .aload_n 0, 1), (48, .iload_n 1, 1), (49, .invokevirtual 55, 3), (52, .ifCond .eq 16, 3), (55, .aload_n 0, 1), (56, .iload_n 3, 1), (57, .ineg, 1), (58, .invokevirtual 39, 3), (61, .ifCond .eq 7, 3), (64, .iconst 1, 1), (65, .goto 4, 3), (68, .iconst 0, 1), (69, .istore_n 2, 1), (70, .aload_n 0, 1), (71, .invokevirtual 51, 3), (74, .istore_n 3, 1), (75, .iinc 4 1, 3), (78, .goto (-64), 3), (81, .iload_n 2, 1), (82, .ireturn, 1)])
theorem zmk_tp_readSum : zMok zm_tp_readSum := ⟨by decide +kernel, rfl, List.mem_append_right _ (List.mem_of_getElem? (i := 470) (by decide +kernel)), plainFor_of_name zcp_9⟩
theorem zok_tp_readSum : zVok zm_tp_readSum 1 := ⟨(List.mem_of_getElem? (i := 469) (by decide +kernel)), (List.mem_append_left _ (List.mem_map.mpr ⟨(⟨"LemonGate$Tape", "readSum", "(I)Z"⟩, 5), List.mem_of_getElem? (i := 8) (by decide +kernel), rfl⟩)), zci_9, zcn_9.1, zcn_9.2, by decide +kernel⟩
noncomputable def zm_tp_readProduct : zM := (9, ⟨"LemonGate$Tape", "readProduct", "(I)Z"⟩, prog_11_method_10_code, 5, some .boolean, [(0, .aload_n 0, 1), (1, .iload_n 1, 1), (2, .invokevirtual 58, 3), (5, .istore_n 2, 1), (6, .aload_n 0, 1), (7, .invokevirtual 51, 3), (10, .istore_n 3, 1), (11, .iconst 0, 1), (12, .istore 4, 2), (14, .iload 4, 2), (16, .bipush 120, 2), (18, .if_icmp .ge 69, 3), (21, .iload_n 2, 1), (22, .ifCond .eq 65, 3), (25, .iload_n 3, 1), (26, .bipush 42, 2), (28, .if_icmp .eq 15, 3), (31, .iload_n 3, 1), (32, .bipush 47, 2), (34, .if_icmp .eq 9, 3), (37, .iload_n 3, 1), (38, .bipush 37, 2), (40, .if_icmp .ne 47, 3), (43, .aload_n 0, 1), (44, .dup, 1), (45, .getfield 22, 3), (48, .iconst 1, 1), (49, .iadd, 1), (50, .putfield 22, 3), (53, .aload_n 0, 1), (54, .iload_n 1, 1), (55, .invokevirtual 58, 3), (58, .ifCond .eq 16, 3), (61, .aload_n 0, 1), (62, .iload_n 3, 1), (63, .ineg, 1), (64, .invokevirtual 39, 3), (67, .ifCond .eq 7, 3), (70, .iconst 1, 1), (71, .goto 4, 3), (74, .iconst 0, 1), (75, .istore_n 2, 1), (76, .aload_n 0, 1), (77, .invokevirtual 51, 3), (80, .istore_n 3, 1), (81, .iinc 4 1, 3), (84, .goto (-70), 3), (87, .iload_n 2, 1), (88, .ireturn, 1)])
theorem zmk_tp_readProduct : zMok zm_tp_readProduct := ⟨by decide +kernel, rfl, List.mem_append_right _ (List.mem_of_getElem? (i := 474) (by decide +kernel)), plainFor_of_name zcp_9⟩
theorem zok_tp_readProduct : zVok zm_tp_readProduct 1 := ⟨(List.mem_of_getElem? (i := 473) (by decide +kernel)), (List.mem_append_left _ (List.mem_map.mpr ⟨(⟨"LemonGate$Tape", "readProduct", "(I)Z"⟩, 5), List.mem_of_getElem? (i := 9) (by decide +kernel), rfl⟩)), zci_9, zcn_9.1, zcn_9.2, by decide +kernel⟩
noncomputable def zm_tp_readOperand : zM := (9, ⟨"LemonGate$Tape", "readOperand", "(I)Z"⟩, prog_11_method_11_code, 3, some .boolean, [(0, .aload_n 0, 1), (1, .invokevirtual 51, 3), (4, .istore_n 2, 1), (5, .iload_n 2, 1), (6, .invokestatic 61, 3), (9, .ifCond .eq 8, 3), (12, .aload_n 0, 1), (13, .invokevirtual 64, 3), (16, .ireturn, 1), (17, .iload_n 2, 1), (18, .bipush 40, 2), (20, .if_icmp .eq 21, 3), (23, .iload_n 2, 1), (24, .bipush 33, 2), (26, .if_icmp .eq 15, 3), (29, .iload_n 2, 1), (30, .bipush 45, 2), (32, .if_icmp .eq 9, 3), (35, .aload_n 0, 1), (36, .iload_n 2, 1), (37, .invokevirtual 67, 3), (40, .ireturn, 1), (41, .iload_n 1, 1), (42, .bipush 6, 2), (44, .if_icmp .lt 5, 3), (47, .iconst 0, 1), (48, .ireturn, 1), (49, .aload_n 0, 1), (50, .dup, 1), (51, .getfield 22, 3), (54, .iconst 1, 1), (55, .iadd, 1), (56, .putfield 22, 3), (59, .iload_n 2, 1), (60, .bipush 40, 2), (62, .if_icmp .ne 28, 3), (65, .aload_n 0, 1), (66, .iload_n 1, 1), (67, .iconst 1, 1), (68, .iadd, 1), (69, .invokevirtual 36, 3), (72, .ifCond .eq 16, 3), (75, .aload_n 0, 1), (76, .bipush 41, 2), (78, .invokevirtual 32, 3), (81, .ifCond .eq 7, 3), (84, .iconst 1, 1), (85, .goto 4, 3), (88, .iconst 0, 1), (89, .ireturn, 1), (90, .aload_n 0, 1), (91, .iload_n 1, 1), (92, .iconst 1, 1), (93, .iadd, 1), (94, .invokevirtual 58, 3), (97, .ifCond .eq 27, 3), (100, .aload_n 0, 1), (101, .iload_n 2, 1), (102, .bipush 33, 2), (104, .if_icmp .ne 8, 3), (107, .bipush (-33), 2), (109, .goto 5, 3), (112, .bipush (-126), 2), (114, .invokevirtual 39, 3), (117, .ifCond .eq 7, 3), (120, .iconst 1, 1), (121, .goto 4, 3), (124, .iconst 0, 1), (125, .ireturn, 1)])
theorem zmk_tp_readOperand : zMok zm_tp_readOperand := ⟨by decide +kernel, rfl, List.mem_append_right _ (List.mem_of_getElem? (i := 478) (by decide +kernel)), plainFor_of_name zcp_9⟩
theorem zok_tp_readOperand : zVok zm_tp_readOperand 1 := ⟨(List.mem_of_getElem? (i := 477) (by decide +kernel)), (List.mem_append_left _ (List.mem_map.mpr ⟨(⟨"LemonGate$Tape", "readOperand", "(I)Z"⟩, 5), List.mem_of_getElem? (i := 10) (by decide +kernel), rfl⟩)), zci_9, zcn_9.1, zcn_9.2, by decide +kernel⟩
noncomputable def zm_tp_readNumber : zM := (9, ⟨"LemonGate$Tape", "readNumber", "()Z"⟩, prog_11_method_12_code, 3, some .boolean, [(0, .iconst 0, 1), (1, .istore_n 1, 1), (2, .iconst 0, 1), (3, .istore_n 2, 1), (4, .iload_n 2, 1), (5, .iconst 4, 1), (6, .if_icmp .ge 42, 3), (9, .aload_n 0, 1), (10, .invokevirtual 51, 3), (13, .invokestatic 61, 3), (16, .ifCond .eq 32, 3), (19, .iload_n 1, 1), (20, .bipush 10, 2), (22, .imul, 1), (23, .aload_n 0, 1), (24, .invokevirtual 51, 3), (27, .iadd, 1), (28, .bipush 48, 2), (30, .isub, 1), (31, .istore_n 1, 1), (32, .aload_n 0, 1), (33, .dup, 1), (34, .getfield 22, 3), (37, .iconst 1, 1), (38, .iadd, 1), (39, .putfield 22, 3), (42, .iinc 2 1, 3), (45, .goto (-41), 3), (48, .aload_n 0, 1), (49, .iload_n 1, 1), (50, .invokevirtual 39, 3), (53, .ireturn, 1)])
theorem zmk_tp_readNumber : zMok zm_tp_readNumber := ⟨by decide +kernel, rfl, List.mem_append_right _ (List.mem_of_getElem? (i := 489) (by decide +kernel)), plainFor_of_name zcp_9⟩
theorem zok_tp_readNumber : zVok zm_tp_readNumber 0 := ⟨(List.mem_of_getElem? (i := 488) (by decide +kernel)), (List.mem_append_left _ (List.mem_map.mpr ⟨(⟨"LemonGate$Tape", "readNumber", "()Z"⟩, 5), List.mem_of_getElem? (i := 12) (by decide +kernel), rfl⟩)), zci_9, zcn_9.1, zcn_9.2, by decide +kernel⟩
noncomputable def zm_tp_readName : zM := (9, ⟨"LemonGate$Tape", "readName", "(I)Z"⟩, prog_11_method_13_code, 3, some .boolean, [(0, .iconst 0, 1), (1, .istore_n 2, 1), (2, .iload_n 2, 1), (3, .getstatic 70, 3), (6, .arraylength, 1), (7, .if_icmp .ge 36, 3), (10, .getstatic 70, 3), (13, .iload_n 2, 1), (14, .caload, 1), (15, .iload_n 1, 1), (16, .if_icmp .ne 21, 3), (19, .aload_n 0, 1), (20, .dup, 1), (21, .getfield 22, 3), (24, .iconst 1, 1), (25, .iadd, 1), (26, .putfield 22, 3), (29, .aload_n 0, 1), (30, .iconst (-1), 1), (31, .iload_n 2, 1), (32, .isub, 1), (33, .invokevirtual 39, 3), (36, .ireturn, 1), (37, .iinc 2 1, 3), (40, .goto (-38), 3), (43, .iconst 0, 1), (44, .ireturn, 1)])
theorem zmk_tp_readName : zMok zm_tp_readName := ⟨by decide +kernel, rfl, List.mem_append_right _ (List.mem_of_getElem? (i := 497) (by decide +kernel)), plainFor_of_name zcp_9⟩
theorem zok_tp_readName : zVok zm_tp_readName 1 := ⟨(List.mem_of_getElem? (i := 496) (by decide +kernel)), (List.mem_append_left _ (List.mem_map.mpr ⟨(⟨"LemonGate$Tape", "readName", "(I)Z"⟩, 5), List.mem_of_getElem? (i := 14) (by decide +kernel), rfl⟩)), zci_9, zcn_9.1, zcn_9.2, by decide +kernel⟩
noncomputable def zm_tp_step : zM := (9, ⟨"LemonGate$Tape", "step", "(I)Z"⟩, prog_11_method_14_code, 2, some .boolean, [(0, .aload_n 0, 1), (1, .getfield 25, 3), (4, .aload_n 0, 1), (5, .getfield 15, 3), (8, .arraylength, 1), (9, .if_icmp .lt 5, 3), (12, .iconst 0, 1), (13, .ireturn, 1), (14, .aload_n 0, 1), (15, .getfield 15, 3), (18, .aload_n 0, 1), (19, .getfield 25, 3), (22, .iload_n 1, 1), (23, .iastore, 1), (24, .aload_n 0, 1), (25, .dup, 1), (26, .getfield 25, 3), (29, .iconst 1, 1), (30, .iadd, 1), (31, .putfield 25, 3), (34, .iconst 1, 1), (35, .ireturn, 1)])
theorem zmk_tp_step : zMok zm_tp_step := ⟨by decide +kernel, rfl, List.mem_append_right _ (List.mem_of_getElem? (i := 493) (by decide +kernel)), plainFor_of_name zcp_9⟩
theorem zok_tp_step : zVok zm_tp_step 1 := ⟨(List.mem_of_getElem? (i := 492) (by decide +kernel)), (List.mem_append_left _ (List.mem_map.mpr ⟨(⟨"LemonGate$Tape", "step", "(I)Z"⟩, 5), List.mem_of_getElem? (i := 13) (by decide +kernel), rfl⟩)), zci_9, zcn_9.1, zcn_9.2, by decide +kernel⟩
noncomputable def zm_tp_next : zM := (9, ⟨"LemonGate$Tape", "next", "()I"⟩, prog_11_method_15_code, 1, some .int, [(0, .aload_n 0, 1), (1, .getfield 22, 3), (4, .aload_n 0, 1), (5, .getfield 18, 3), (8, .if_icmp .ge 15, 3), (11, .aload_n 0, 1), (12, .getfield 9, 3), (15, .aload_n 0, 1), (16, .getfield 22, 3), (19, .iaload, 1), (20, .goto 4, 3), (23, .iconst (-1), 1), (24, .ireturn, 1)])
theorem zmk_tp_next : zMok zm_tp_next := ⟨by decide +kernel, rfl, List.mem_append_right _ (List.mem_of_getElem? (i := 482) (by decide +kernel)), plainFor_of_name zcp_9⟩
theorem zok_tp_next : zVok zm_tp_next 0 := ⟨(List.mem_of_getElem? (i := 481) (by decide +kernel)), (List.mem_append_left _ (List.mem_map.mpr ⟨(⟨"LemonGate$Tape", "next", "()I"⟩, 5), List.mem_of_getElem? (i := 11) (by decide +kernel), rfl⟩)), zci_9, zcn_9.1, zcn_9.2, by decide +kernel⟩
noncomputable def zm_tp_took : zM := (9, ⟨"LemonGate$Tape", "took", "(I)Z"⟩, prog_11_method_16_code, 2, some .boolean, [(0, .aload_n 0, 1), (1, .invokevirtual 51, 3), (4, .iload_n 1, 1), (5, .if_icmp .eq 5, 3), (8, .iconst 0, 1), (9, .ireturn, 1), (10, .aload_n 0, 1), (11, .dup, 1), (12, .getfield 22, 3), (15, .iconst 1, 1), (16, .iadd, 1), (17, .putfield 22, 3), (20, .iconst 1, 1), (21, .ireturn, 1)])
theorem zmk_tp_took : zMok zm_tp_took := ⟨by decide +kernel, rfl, List.mem_append_right _ (List.mem_of_getElem? (i := 502) (by decide +kernel)), plainFor_of_name zcp_9⟩
theorem zok_tp_took : zVok zm_tp_took 1 := ⟨(List.mem_of_getElem? (i := 501) (by decide +kernel)), (List.mem_append_left _ (List.mem_map.mpr ⟨(⟨"LemonGate$Tape", "took", "(I)Z"⟩, 5), List.mem_of_getElem? (i := 15) (by decide +kernel), rfl⟩)), zci_9, zcn_9.1, zcn_9.2, by decide +kernel⟩
noncomputable def zm_tp_isDigit : zM := (9, ⟨"LemonGate$Tape", "isDigit", "(I)Z"⟩, prog_11_method_17_code, 1, some .boolean, [(0, .iload_n 0, 1), (1, .bipush 48, 2), (3, .if_icmp .lt 13, 3), (6, .iload_n 0, 1), (7, .bipush 57, 2), (9, .if_icmp .gt 7, 3), (12, .iconst 1, 1), (13, .goto 4, 3), (16, .iconst 0, 1), (17, .ireturn, 1)])
theorem zmk_tp_isDigit : zMok zm_tp_isDigit := ⟨by decide +kernel, rfl, List.mem_append_right _ (List.mem_of_getElem? (i := 485) (by decide +kernel)), plainFor_of_name zcp_9⟩
theorem zok_tp_isDigit : zSok zm_tp_isDigit 1 := ⟨(List.mem_of_getElem? (i := 484) (by decide +kernel)), zci_9, zcn_9.1, zcn_9.2, by decide +kernel⟩
noncomputable def zm_th_above : zM := (10, ⟨"LemonGate$Three", "above", "(II)I"⟩, prog_12_method_2_code, 3, some .int, [(0, .iload_n 2, 1), (1, .ifCond .ne 11, 3), (4, .aload_n 0, 1), (5, .getfield 9, 3), (8, .bipush 7, 2), (10, .iaload, 1), (11, .ireturn, 1), (12, .iload_n 2, 1), (13, .iconst 1, 1), (14, .if_icmp .ne 20, 3), (17, .aload_n 0, 1), (18, .getfield 9, 3), (21, .bipush 7, 2), (23, .iaload, 1), (24, .aload_n 0, 1), (25, .getfield 13, 3), (28, .iload_n 1, 1), (29, .iaload, 1), (30, .imul, 1), (31, .goto 8, 3), (34, .aload_n 0, 1), (35, .iload_n 1, 1), (36, .invokevirtual 16, 3), (39, .ireturn, 1)])
theorem zmk_th_above : zMok zm_th_above := ⟨by decide +kernel, rfl, List.mem_append_right _ (List.mem_of_getElem? (i := 713) (by decide +kernel)), plainFor_of_name zcp_10⟩
theorem zok_th_above : zVok zm_th_above 2 := ⟨(List.mem_of_getElem? (i := 711) (by decide +kernel)), (List.mem_append_right _ (List.mem_of_getElem? (i := 712) (by decide +kernel))), zci_10, zcn_10.1, zcn_10.2, by decide +kernel⟩
noncomputable def zm_th_below : zM := (10, ⟨"LemonGate$Three", "below", "(I)I"⟩, prog_12_method_3_code, 2, some .int, [(0, .iload_n 1, 1), (1, .ifCond .ne 5, 3), (4, .iconst 3, 1), (5, .ireturn, 1), (6, .iload_n 1, 1), (7, .iconst 1, 1), (8, .if_icmp .ne 30, 3), (11, .iconst 1, 1), (12, .aload_n 0, 1), (13, .getfield 13, 3), (16, .iconst 0, 1), (17, .iaload, 1), (18, .aload_n 0, 1), (19, .getfield 13, 3), (22, .iconst 1, 1), (23, .iaload, 1), (24, .iadd, 1), (25, .aload_n 0, 1), (26, .getfield 13, 3), (29, .iconst 2, 1), (30, .iaload, 1), (31, .iadd, 1), (32, .invokestatic 20, 3), (35, .goto 5, 3), (38, .bipush 6, 2), (40, .ireturn, 1)])
theorem zmk_th_below : zMok zm_th_below := ⟨by decide +kernel, rfl, List.mem_append_right _ (List.mem_of_getElem? (i := 721) (by decide +kernel)), plainFor_of_name zcp_10⟩
theorem zok_th_below : zVok zm_th_below 1 := ⟨(List.mem_of_getElem? (i := 719) (by decide +kernel)), (List.mem_append_right _ (List.mem_of_getElem? (i := 720) (by decide +kernel))), zci_10, zcn_10.1, zcn_10.2, by decide +kernel⟩
noncomputable def zm_th_addedInAllOrders : zM := (10, ⟨"LemonGate$Three", "addedInAllOrders", "(I)I"⟩, prog_12_method_4_code, 5, some .int, [(0, .iconst 1, 1), (1, .iload_n 1, 1), (2, .ishl, 1), (3, .istore_n 2, 1), (4, .iconst 1, 1), (5, .iload_n 1, 1), (6, .iconst 1, 1), (7, .iadd, 1), (8, .iconst 3, 1), (9, .irem, 1), (10, .ishl, 1), (11, .istore_n 3, 1), (12, .iconst 1, 1), (13, .iload_n 1, 1), (14, .iconst 2, 1), (15, .iadd, 1), (16, .iconst 3, 1), (17, .irem, 1), (18, .ishl, 1), (19, .istore 4, 2), (21, .iconst 2, 1), (22, .aload_n 0, 1), (23, .getfield 9, 3), (26, .iload_n 2, 1), (27, .iaload, 1), (28, .imul, 1), (29, .aload_n 0, 1), (30, .getfield 9, 3), (33, .iload_n 2, 1), (34, .iload_n 3, 1), (35, .ior, 1), (36, .iaload, 1), (37, .iadd, 1), (38, .aload_n 0, 1), (39, .getfield 9, 3), (42, .iload_n 3, 1), (43, .iaload, 1), (44, .isub, 1), (45, .aload_n 0, 1), (46, .getfield 9, 3), (49, .iload_n 2, 1), (50, .iload 4, 2), (52, .ior, 1), (53, .iaload, 1), (54, .iadd, 1), (55, .aload_n 0, 1), (56, .getfield 9, 3), (59, .iload 4, 2), (61, .iaload, 1), (62, .isub, 1), (63, .iconst 2, 1), (64, .aload_n 0, 1), (65, .getfield 9, 3), (68, .bipush 7, 2), (70, .iaload, 1), (71, .aload_n 0, 1), (72, .getfield 9, 3), (75, .iload_n 3, 1), (76, .iload 4, 2), (78, .ior, 1), (79, .iaload, 1), (80, .isub, 1), (81, .imul, 1), (82, .iadd, 1), (83, .ireturn, 1)])
theorem zmk_th_addedInAllOrders : zMok zm_th_addedInAllOrders := ⟨by decide +kernel, rfl, List.mem_append_right _ (List.mem_of_getElem? (i := 717) (by decide +kernel)), plainFor_of_name zcp_10⟩
theorem zok_th_addedInAllOrders : zVok zm_th_addedInAllOrders 1 := ⟨(List.mem_of_getElem? (i := 716) (by decide +kernel)), (List.mem_append_left _ (List.mem_map.mpr ⟨(⟨"LemonGate$Three", "addedInAllOrders", "(I)I"⟩, 2), List.mem_of_getElem? (i := 26) (by decide +kernel), rfl⟩)), zci_10, zcn_10.1, zcn_10.2, by decide +kernel⟩
noncomputable def zm_g_heat : zM := (11, ⟨"LemonGate", "heat", "(II)I"⟩, prog_1_method_2_code, 4, some .int, [(0, .iload_n 1, 1), (1, .invokestatic 75, 3), (4, .ifCond .eq 13, 3), (7, .iload_n 2, 1), (8, .iconst 0, 1), (9, .bipush 40, 2), (11, .invokestatic 79, 3), (14, .ifCond .ne 5, 3), (17, .iconst (-1), 1), (18, .ireturn, 1), (19, .aload_n 0, 1), (20, .getfield 19, 3), (23, .getfield 83, 3), (26, .iload_n 1, 1), (27, .iaload, 1), (28, .istore_n 3, 1), (29, .aload_n 0, 1), (30, .getfield 19, 3), (33, .getfield 83, 3), (36, .iload_n 1, 1), (37, .iload_n 2, 1), (38, .iastore, 1), (39, .iload_n 3, 1), (40, .ireturn, 1)])
theorem zmk_g_heat : zMok zm_g_heat := ⟨by decide +kernel, rfl, List.mem_append_right _ (List.mem_of_getElem? (i := 336) (by decide +kernel)), plainFor_of_name zcp_11⟩
theorem zok_g_heat : zVok zm_g_heat 2 := ⟨(List.mem_of_getElem? (i := 334) (by decide +kernel)), (List.mem_append_right _ (List.mem_of_getElem? (i := 335) (by decide +kernel))), zci_11, zcn_11.1, zcn_11.2, by decide +kernel⟩
noncomputable def zm_g_heats : zM := (11, ⟨"LemonGate", "heats", "(III)I"⟩, prog_1_method_3_code, 5, some .int, [(0, .aload_n 0, 1), (1, .iload_n 1, 1), (2, .invokevirtual 87, 3), (5, .astore 4, 2), (7, .aload 4, 2), (9, .ifnull 30, 3), (12, .iload_n 3, 1), (13, .ifCond .lt 26, 3), (16, .iload_n 3, 1), (17, .bipush 100, 2), (19, .idiv, 1), (20, .invokestatic 75, 3), (23, .ifCond .eq 16, 3), (26, .iload_n 3, 1), (27, .bipush 100, 2), (29, .irem, 1), (30, .iconst 1, 1), (31, .bipush 32, 2), (33, .invokestatic 79, 3), (36, .ifCond .ne 5, 3), (39, .iconst (-1), 1), (40, .ireturn, 1), (41, .aload 4, 2), (43, .invokevirtual 91, 3), (46, .ifCond .eq 5, 3), (49, .iconst 0, 1), (50, .ireturn, 1), (51, .aload 4, 2), (53, .iconst 0, 1), (54, .invokevirtual 95, 3), (57, .ifCond .ne 6, 3), (60, .bipush (-12), 2), (62, .ireturn, 1), (63, .aload_n 0, 1), (64, .aload 4, 2), (66, .iload_n 2, 1), (67, .iload_n 3, 1), (68, .bipush 100, 2), (70, .idiv, 1), (71, .iload_n 3, 1), (72, .bipush 100, 2), (74, .irem, 1), (75, .invokevirtual 98, 3), (78, .ireturn, 1)])
theorem zmk_g_heats : zMok zm_g_heats := ⟨by decide +kernel, rfl, List.mem_append_right _ (List.mem_of_getElem? (i := 346) (by decide +kernel)), plainFor_of_name zcp_11⟩
theorem zok_g_heats : zVok zm_g_heats 3 := ⟨(List.mem_of_getElem? (i := 344) (by decide +kernel)), (List.mem_append_right _ (List.mem_of_getElem? (i := 345) (by decide +kernel))), zci_11, zcn_11.1, zcn_11.2, by decide +kernel⟩
noncomputable def zm_g_place : zM := (11, ⟨"LemonGate", "place", "()I"⟩, prog_1_method_4_code, 1, some .int, [(0, .aload_n 0, 1), (1, .getfield 19, 3), (4, .getfield 102, 3), (7, .iconst 4, 1), (8, .if_icmp .lt 6, 3), (11, .bipush (-3), 2), (13, .ireturn, 1), (14, .aload_n 0, 1), (15, .getfield 19, 3), (18, .dup, 1), (19, .getfield 102, 3), (22, .dup_x1, 1), (23, .iconst 1, 1), (24, .iadd, 1), (25, .putfield 102, 3), (28, .ireturn, 1)])
theorem zmk_g_place : zMok zm_g_place := ⟨by decide +kernel, rfl, List.mem_append_right _ (List.mem_of_getElem? (i := 370) (by decide +kernel)), plainFor_of_name zcp_11⟩
theorem zok_g_place : zVok zm_g_place 0 := ⟨(List.mem_of_getElem? (i := 368) (by decide +kernel)), (List.mem_append_right _ (List.mem_of_getElem? (i := 369) (by decide +kernel))), zci_11, zcn_11.1, zcn_11.2, by decide +kernel⟩
noncomputable def zm_g_flow : zM := (11, ⟨"LemonGate", "flow", "(III)I"⟩, prog_1_method_5_code, 5, some .int, [(0, .aload_n 0, 1), (1, .getfield 19, 3), (4, .iload_n 1, 1), (5, .invokevirtual 106, 3), (8, .ifCond .eq 20, 3), (11, .iload_n 2, 1), (12, .invokestatic 109, 3), (15, .ifCond .eq 13, 3), (18, .iload_n 3, 1), (19, .iconst 0, 1), (20, .bipush 9, 2), (22, .invokestatic 79, 3), (25, .ifCond .ne 5, 3), (28, .iconst (-1), 1), (29, .ireturn, 1), (30, .iload_n 2, 1), (31, .bipush 100, 2), (33, .idiv, 1), (34, .istore 4, 2), (36, .iload 4, 2), (38, .iload_n 2, 1), (39, .bipush 100, 2), (41, .irem, 1), (42, .if_icmp .gt 25, 3), (45, .aload_n 0, 1), (46, .getfield 19, 3), (49, .getfield 112, 3), (52, .iload_n 1, 1), (53, .bipush 32, 2), (55, .imul, 1), (56, .iload 4, 2), (58, .iadd, 1), (59, .iload_n 3, 1), (60, .iastore, 1), (61, .iinc 4 1, 3), (64, .goto (-28), 3), (67, .iload_n 2, 1), (68, .bipush 100, 2), (70, .irem, 1), (71, .iload_n 2, 1), (72, .bipush 100, 2), (74, .idiv, 1), (75, .isub, 1), (76, .iconst 1, 1), (77, .iadd, 1), (78, .ireturn, 1)])
theorem zmk_g_flow : zMok zm_g_flow := ⟨by decide +kernel, rfl, List.mem_append_right _ (List.mem_of_getElem? (i := 374) (by decide +kernel)), plainFor_of_name zcp_11⟩
theorem zok_g_flow : zVok zm_g_flow 3 := ⟨(List.mem_of_getElem? (i := 372) (by decide +kernel)), (List.mem_append_right _ (List.mem_of_getElem? (i := 373) (by decide +kernel))), zci_11, zcn_11.1, zcn_11.2, by decide +kernel⟩
noncomputable def zm_g_stand : zM := (11, ⟨"LemonGate", "stand", "(II)I"⟩, prog_1_method_6_code, 4, some .int, [(0, .iload_n 1, 1), (1, .iconst (-1), 1), (2, .if_icmp .eq 14, 3), (5, .aload_n 0, 1), (6, .getfield 19, 3), (9, .iload_n 1, 1), (10, .invokevirtual 106, 3), (13, .ifCond .eq 10, 3), (16, .iload_n 2, 1), (17, .invokestatic 109, 3), (20, .ifCond .ne 5, 3), (23, .iconst (-1), 1), (24, .ireturn, 1), (25, .iload_n 2, 1), (26, .bipush 100, 2), (28, .idiv, 1), (29, .istore_n 3, 1), (30, .iload_n 3, 1), (31, .iload_n 2, 1), (32, .bipush 100, 2), (34, .irem, 1), (35, .if_icmp .gt 19, 3), (38, .aload_n 0, 1), (39, .getfield 19, 3), (42, .getfield 115, 3), (45, .iload_n 3, 1), (46, .iload_n 1, 1), (47, .iastore, 1), (48, .iinc 3 1, 3), (51, .goto (-21), 3), (54, .iload_n 2, 1), (55, .bipush 100, 2), (57, .irem, 1), (58, .iload_n 2, 1), (59, .bipush 100, 2), (61, .idiv, 1), (62, .isub, 1), (63, .iconst 1, 1), (64, .iadd, 1), (65, .ireturn, 1)])
theorem zmk_g_stand : zMok zm_g_stand := ⟨by decide +kernel, rfl, List.mem_append_right _ (List.mem_of_getElem? (i := 386) (by decide +kernel)), plainFor_of_name zcp_11⟩
theorem zok_g_stand : zVok zm_g_stand 2 := ⟨(List.mem_of_getElem? (i := 384) (by decide +kernel)), (List.mem_append_right _ (List.mem_of_getElem? (i := 385) (by decide +kernel))), zci_11, zcn_11.1, zcn_11.2, by decide +kernel⟩
noncomputable def zm_g_mend : zM := (11, ⟨"LemonGate", "mend", "(II)I"⟩, prog_1_method_7_code, 3, some .int, [(0, .aload_n 0, 1), (1, .getfield 10, 3), (4, .iload_n 1, 1), (5, .iload_n 2, 1), (6, .invokevirtual 118, 3), (9, .ifCond .eq 15, 3), (12, .aload_n 0, 1), (13, .getfield 10, 3), (16, .iload_n 1, 1), (17, .iload_n 2, 1), (18, .invokevirtual 122, 3), (21, .goto 4, 3), (24, .iconst (-1), 1), (25, .ireturn, 1)])
theorem zmk_g_mend : zMok zm_g_mend := ⟨by decide +kernel, rfl, List.mem_append_right _ (List.mem_of_getElem? (i := 390) (by decide +kernel)), plainFor_of_name zcp_11⟩
theorem zok_g_mend : zVok zm_g_mend 2 := ⟨(List.mem_of_getElem? (i := 388) (by decide +kernel)), (List.mem_append_right _ (List.mem_of_getElem? (i := 389) (by decide +kernel))), zci_11, zcn_11.1, zcn_11.2, by decide +kernel⟩
noncomputable def zm_g_of : zM := (11, ⟨"LemonGate", "of", "(I)I"⟩, prog_1_method_8_code, 2, some .int, [(0, .iload_n 1, 1), (1, .iconst 0, 1), (2, .bipush 7, 2), (4, .invokestatic 79, 3), (7, .ifCond .eq 13, 3), (10, .aload_n 0, 1), (11, .getfield 10, 3), (14, .getfield 126, 3), (17, .iload_n 1, 1), (18, .iaload, 1), (19, .ireturn, 1), (20, .iload_n 1, 1), (21, .bipush 8, 2), (23, .if_icmp .ne 11, 3), (26, .aload_n 0, 1), (27, .getfield 10, 3), (30, .invokevirtual 129, 3), (33, .ireturn, 1), (34, .iload_n 1, 1), (35, .bipush 9, 2), (37, .if_icmp .ne 11, 3), (40, .aload_n 0, 1), (41, .getfield 10, 3), (44, .invokevirtual 133, 3), (47, .ireturn, 1), (48, .iload_n 1, 1), (49, .bipush 100, 2), (51, .isub, 1), (52, .invokestatic 75, 3), (55, .ifCond .eq 16, 3), (58, .aload_n 0, 1), (59, .getfield 19, 3), (62, .getfield 83, 3), (65, .iload_n 1, 1), (66, .bipush 100, 2), (68, .isub, 1), (69, .iaload, 1), (70, .ireturn, 1), (71, .iload_n 1, 1), (72, .sipush 200, 3), (75, .isub, 1), (76, .invokestatic 75, 3), (79, .ifCond .eq 17, 3), (82, .aload_n 0, 1), (83, .getfield 19, 3), (86, .getfield 115, 3), (89, .iload_n 1, 1), (90, .sipush 200, 3), (93, .isub, 1), (94, .iaload, 1), (95, .ireturn, 1), (96, .iload_n 1, 1), (97, .sipush 1000, 3), (100, .if_icmp .lt 51, 3), (103, .aload_n 0, 1), (104, .getfield 19, 3), (107, .iload_n 1, 1), (108, .sipush 1000, 3), (111, .isub, 1), (112, .bipush 100, 2), (114, .idiv, 1), (115, .invokevirtual 106, 3), (118, .ifCond .eq 33, 3), (121, .iload_n 1, 1), (122, .bipush 100, 2), (124, .irem, 1), (125, .invokestatic 75, 3), (128, .ifCond .eq 23, 3), (131, .aload_n 0, 1), (132, .getfield 19, 3), (135, .iload_n 1, 1), (136, .sipush 1000, 3), (139, .isub, 1), (140, .bipush 100, 2), (142, .idiv, 1), (143, .iload_n 1, 1), (144, .bipush 100, 2), (146, .irem, 1), (147, .invokevirtual 136, 3), (150, .ireturn, 1), (151, .ldc 139, 2), (153, .ireturn, 1)])
theorem zmk_g_of : zMok zm_g_of := ⟨by decide +kernel, rfl, List.mem_append_right _ (List.mem_of_getElem? (i := 418) (by decide +kernel)), plainFor_of_name zcp_11⟩
theorem zok_g_of : zVok zm_g_of 1 := ⟨(List.mem_of_getElem? (i := 416) (by decide +kernel)), (List.mem_append_right _ (List.mem_of_getElem? (i := 417) (by decide +kernel))), zci_11, zcn_11.1, zcn_11.2, by decide +kernel⟩
noncomputable def zm_g_feed : zM := (11, ⟨"LemonGate", "feed", "(I)I"⟩, prog_1_method_9_code, 2, some .int, [(0, .iload_n 1, 1), (1, .iconst 0, 1), (2, .sipush 255, 3), (5, .invokestatic 79, 3), (8, .ifCond .ne 5, 3), (11, .iconst (-1), 1), (12, .ireturn, 1), (13, .aload_n 0, 1), (14, .getfield 26, 3), (17, .iload_n 1, 1), (18, .invokevirtual 140, 3), (21, .ifCond .eq 13, 3), (24, .aload_n 0, 1), (25, .getfield 26, 3), (28, .getfield 143, 3), (31, .goto 5, 3), (34, .bipush (-3), 2), (36, .ireturn, 1)])
theorem zmk_g_feed : zMok zm_g_feed := ⟨by decide +kernel, rfl, List.mem_append_right _ (List.mem_of_getElem? (i := 438) (by decide +kernel)), plainFor_of_name zcp_11⟩
theorem zok_g_feed : zVok zm_g_feed 1 := ⟨(List.mem_of_getElem? (i := 436) (by decide +kernel)), (List.mem_append_right _ (List.mem_of_getElem? (i := 437) (by decide +kernel))), zci_11, zcn_11.1, zcn_11.2, by decide +kernel⟩
noncomputable def zm_g_law : zM := (11, ⟨"LemonGate", "law", "(I)I"⟩, prog_1_method_10_code, 3, some .int, [(0, .iload_n 1, 1), (1, .iconst 0, 1), (2, .iconst 1, 1), (3, .invokestatic 79, 3), (6, .ifCond .ne 5, 3), (9, .iconst (-1), 1), (10, .ireturn, 1), (11, .aload_n 0, 1), (12, .getfield 26, 3), (15, .invokevirtual 146, 3), (18, .istore_n 2, 1), (19, .iload_n 2, 1), (20, .ifCond .ge 15, 3), (23, .aload_n 0, 1), (24, .getfield 33, 3), (27, .iload_n 1, 1), (28, .aload_n 0, 1), (29, .getfield 26, 3), (32, .invokevirtual 149, 3), (35, .aload_n 0, 1), (36, .getfield 26, 3), (39, .invokevirtual 153, 3), (42, .iload_n 2, 1), (43, .ifCond .ge 7, 3), (46, .iconst 1, 1), (47, .goto 7, 3), (50, .bipush (-100), 2), (52, .iload_n 2, 1), (53, .isub, 1), (54, .ireturn, 1)])
theorem zmk_g_law : zMok zm_g_law := ⟨by decide +kernel, rfl, List.mem_append_right _ (List.mem_of_getElem? (i := 446) (by decide +kernel)), plainFor_of_name zcp_11⟩
theorem zok_g_law : zVok zm_g_law 1 := ⟨(List.mem_of_getElem? (i := 444) (by decide +kernel)), (List.mem_append_right _ (List.mem_of_getElem? (i := 445) (by decide +kernel))), zci_11, zcn_11.1, zcn_11.2, by decide +kernel⟩
noncomputable def zm_g_taste : zM := (11, ⟨"LemonGate", "taste", "(III)I"⟩, prog_1_method_11_code, 5, some .int, [(0, .iload_n 1, 1), (1, .invokestatic 75, 3), (4, .ifCond .eq 22, 3), (7, .iload_n 2, 1), (8, .iconst 0, 1), (9, .bipush 32, 2), (11, .invokestatic 79, 3), (14, .ifCond .eq 12, 3), (17, .iload_n 3, 1), (18, .iconst 0, 1), (19, .iconst 1, 1), (20, .invokestatic 79, 3), (23, .ifCond .ne 5, 3), (26, .iconst (-1), 1), (27, .ireturn, 1), (28, .aload_n 0, 1), (29, .getfield 33, 3), (32, .aload_n 0, 1), (33, .getfield 10, 3), (36, .aload_n 0, 1), (37, .getfield 10, 3), (40, .getfield 126, 3), (43, .iconst 3, 1), (44, .iaload, 1), (45, .invokevirtual 156, 3), (48, .aload_n 0, 1), (49, .getfield 19, 3), (52, .getfield 83, 3), (55, .iload_n 1, 1), (56, .iaload, 1), (57, .istore 4, 2), (59, .iload_n 3, 1), (60, .ifCond .ne 17, 3), (63, .aload_n 0, 1), (64, .getfield 33, 3), (67, .iload_n 1, 1), (68, .iload 4, 2), (70, .iload_n 2, 1), (71, .invokevirtual 160, 3), (74, .goto 14, 3), (77, .aload_n 0, 1), (78, .getfield 33, 3), (81, .iload_n 1, 1), (82, .iload 4, 2), (84, .iload_n 2, 1), (85, .invokevirtual 164, 3), (88, .ireturn, 1)])
theorem zmk_g_taste : zMok zm_g_taste := ⟨by decide +kernel, rfl, List.mem_append_right _ (List.mem_of_getElem? (i := 522) (by decide +kernel)), plainFor_of_name zcp_11⟩
theorem zok_g_taste : zVok zm_g_taste 3 := ⟨(List.mem_of_getElem? (i := 520) (by decide +kernel)), (List.mem_append_right _ (List.mem_of_getElem? (i := 521) (by decide +kernel))), zci_11, zcn_11.1, zcn_11.2, by decide +kernel⟩
noncomputable def zm_g_day : zM := (11, ⟨"LemonGate", "day", "(I)I"⟩, prog_1_method_12_code, 2, some .int, [(0, .aload_n 0, 1), (1, .getfield 33, 3), (4, .aload_n 0, 1), (5, .getfield 10, 3), (8, .aload_n 0, 1), (9, .getfield 10, 3), (12, .getfield 126, 3), (15, .iconst 3, 1), (16, .iaload, 1), (17, .invokevirtual 156, 3), (20, .aload_n 0, 1), (21, .aload_n 0, 1), (22, .getfield 40, 3), (25, .iload_n 1, 1), (26, .aload_n 0, 1), (27, .getfield 10, 3), (30, .getfield 126, 3), (33, .iconst 3, 1), (34, .iaload, 1), (35, .aload_n 0, 1), (36, .getfield 10, 3), (39, .getfield 126, 3), (42, .bipush 7, 2), (44, .iaload, 1), (45, .invokevirtual 167, 3), (48, .aload_n 0, 1), (49, .iconst 1, 1), (50, .putfield 171, 3), (53, .aload_n 0, 1), (54, .getfield 40, 3), (57, .getfield 175, 3), (60, .ireturn, 1)])
theorem zmk_g_day : zMok zm_g_day := ⟨by decide +kernel, rfl, List.mem_append_right _ (List.mem_of_getElem? (i := 565) (by decide +kernel)), plainFor_of_name zcp_11⟩
theorem zok_g_day : zVok zm_g_day 1 := ⟨(List.mem_of_getElem? (i := 563) (by decide +kernel)), (List.mem_append_right _ (List.mem_of_getElem? (i := 564) (by decide +kernel))), zci_11, zcn_11.1, zcn_11.2, by decide +kernel⟩
noncomputable def zm_g_told : zM := (11, ⟨"LemonGate", "told", "(I)I"⟩, prog_1_method_13_code, 4, some .int, [(0, .iload_n 1, 1), (1, .bipush 100, 2), (3, .isub, 1), (4, .invokestatic 75, 3), (7, .istore_n 2, 1), (8, .iload_n 1, 1), (9, .sipush 200, 3), (12, .isub, 1), (13, .invokestatic 75, 3), (16, .istore_n 3, 1), (17, .iload_n 1, 1), (18, .iconst 0, 1), (19, .bipush 7, 2), (21, .invokestatic 79, 3), (24, .ifCond .ne 14, 3), (27, .iload_n 2, 1), (28, .ifCond .ne 10, 3), (31, .iload_n 3, 1), (32, .ifCond .ne 6, 3), (35, .ldc 139, 2), (37, .ireturn, 1), (38, .aload_n 0, 1), (39, .getfield 171, 3), (42, .ifCond .ne 6, 3), (45, .bipush (-5), 2), (47, .ireturn, 1), (48, .iload_n 2, 1), (49, .ifCond .eq 16, 3), (52, .aload_n 0, 1), (53, .getfield 40, 3), (56, .getfield 178, 3), (59, .iload_n 1, 1), (60, .bipush 100, 2), (62, .isub, 1), (63, .iaload, 1), (64, .ireturn, 1), (65, .iload_n 3, 1), (66, .ifCond .eq 27, 3), (69, .aload_n 0, 1), (70, .getfield 40, 3), (73, .getfield 178, 3), (76, .iload_n 1, 1), (77, .sipush 200, 3), (80, .isub, 1), (81, .iaload, 1), (82, .aload_n 0, 1), (83, .getfield 40, 3), (86, .getfield 181, 3), (89, .imul, 1), (90, .goto 11, 3), (93, .aload_n 0, 1), (94, .getfield 40, 3), (97, .iload_n 1, 1), (98, .invokevirtual 184, 3), (101, .ireturn, 1)])
theorem zmk_g_told : zMok zm_g_told := ⟨by decide +kernel, rfl, List.mem_append_right _ (List.mem_of_getElem? (i := 607) (by decide +kernel)), plainFor_of_name zcp_11⟩
theorem zok_g_told : zVok zm_g_told 1 := ⟨(List.mem_of_getElem? (i := 605) (by decide +kernel)), (List.mem_append_right _ (List.mem_of_getElem? (i := 606) (by decide +kernel))), zci_11, zcn_11.1, zcn_11.2, by decide +kernel⟩
noncomputable def zm_g_best : zM := (11, ⟨"LemonGate", "best", "(II)I"⟩, prog_1_method_14_code, 9, some .int, [(0, .iload_n 2, 1), (1, .iconst 0, 1), (2, .iconst 1, 1), (3, .invokestatic 79, 3), (6, .ifCond .ne 5, 3), (9, .iconst (-1), 1), (10, .ireturn, 1), (11, .iload_n 2, 1), (12, .ifCond .ne 8, 3), (15, .bipush 50, 2), (17, .goto 5, 3), (20, .bipush 9, 2), (22, .istore_n 3, 1), (23, .iconst 0, 1), (24, .istore 4, 2), (26, .iconst 0, 1), (27, .istore 5, 2), (29, .iconst 0, 1), (30, .istore 6, 2), (32, .iload 6, 2), (34, .iload_n 3, 1), (35, .if_icmp .gt 115, 3), (38, .iload_n 2, 1), (39, .ifCond .ne 8, 3), (42, .iload 6, 2), (44, .goto 12, 3), (47, .aload_n 0, 1), (48, .getfield 10, 3), (51, .getfield 126, 3), (54, .iconst 3, 1), (55, .iaload, 1), (56, .istore 7, 2), (58, .iload_n 2, 1), (59, .ifCond .ne 16, 3), (62, .aload_n 0, 1), (63, .getfield 10, 3), (66, .getfield 126, 3), (69, .bipush 7, 2), (71, .iaload, 1), (72, .goto 5, 3), (75, .iload 6, 2), (77, .istore 8, 2), (79, .iload_n 2, 1), (80, .ifCond .eq 8, 3), (83, .iload 6, 2), (85, .ifCond .ne 16, 3), (88, .aload_n 0, 1), (89, .getfield 33, 3), (92, .aload_n 0, 1), (93, .getfield 10, 3), (96, .iload 7, 2), (98, .invokevirtual 156, 3), (101, .aload_n 0, 1), (102, .aload_n 0, 1), (103, .getfield 44, 3), (106, .iload_n 1, 1), (107, .iload 7, 2), (109, .iload 8, 2), (111, .invokevirtual 167, 3), (114, .iload 6, 2), (116, .ifCond .eq 15, 3), (119, .aload_n 0, 1), (120, .getfield 44, 3), (123, .invokevirtual 188, 3), (126, .iload 5, 2), (128, .if_icmp .le 16, 3), (131, .iload 6, 2), (133, .istore 4, 2), (135, .aload_n 0, 1), (136, .getfield 44, 3), (139, .invokevirtual 188, 3), (142, .istore 5, 2), (144, .iinc 6 1, 3), (147, .goto (-115), 3), (150, .iload 4, 2), (152, .ireturn, 1)])
theorem zmk_g_best : zMok zm_g_best := ⟨by decide +kernel, rfl, List.mem_append_right _ (List.mem_of_getElem? (i := 619) (by decide +kernel)), plainFor_of_name zcp_11⟩
theorem zok_g_best : zVok zm_g_best 2 := ⟨(List.mem_of_getElem? (i := 617) (by decide +kernel)), (List.mem_append_right _ (List.mem_of_getElem? (i := 618) (by decide +kernel))), zci_11, zcn_11.1, zcn_11.2, by decide +kernel⟩
noncomputable def zm_g_where : zM := (11, ⟨"LemonGate", "where", "(II)I"⟩, prog_1_method_15_code, 3, some .int, [(0, .iload_n 1, 1), (1, .invokestatic 109, 3), (4, .ifCond .eq 23, 3), (7, .iload_n 2, 1), (8, .iconst (-1), 1), (9, .if_icmp .eq 21, 3), (12, .iload_n 2, 1), (13, .iload_n 1, 1), (14, .bipush 100, 2), (16, .idiv, 1), (17, .iload_n 1, 1), (18, .bipush 100, 2), (20, .irem, 1), (21, .invokestatic 79, 3), (24, .ifCond .ne 6, 3), (27, .ldc 139, 2), (29, .ireturn, 1), (30, .aload_n 0, 1), (31, .getfield 19, 3), (34, .getfield 102, 3), (37, .ifCond .ne 6, 3), (40, .bipush (-5), 2), (42, .ireturn, 1), (43, .aload_n 0, 1), (44, .getfield 19, 3), (47, .iload_n 1, 1), (48, .bipush 100, 2), (50, .idiv, 1), (51, .iload_n 1, 1), (52, .bipush 100, 2), (54, .irem, 1), (55, .invokevirtual 191, 3), (58, .iload_n 2, 1), (59, .iconst (-1), 1), (60, .if_icmp .ne 18, 3), (63, .aload_n 0, 1), (64, .getfield 19, 3), (67, .iconst (-1), 1), (68, .iload_n 1, 1), (69, .bipush 100, 2), (71, .idiv, 1), (72, .invokevirtual 195, 3), (75, .goto 15, 3), (78, .aload_n 0, 1), (79, .getfield 19, 3), (82, .iload_n 1, 1), (83, .bipush 100, 2), (85, .idiv, 1), (86, .iload_n 2, 1), (87, .invokevirtual 198, 3), (90, .ireturn, 1)])
theorem zmk_g_where : zMok zm_g_where := ⟨by decide +kernel, rfl, List.mem_append_right _ (List.mem_of_getElem? (i := 624) (by decide +kernel)), plainFor_of_name zcp_11⟩
theorem zok_g_where : zVok zm_g_where 2 := ⟨(List.mem_of_getElem? (i := 622) (by decide +kernel)), (List.mem_append_right _ (List.mem_of_getElem? (i := 623) (by decide +kernel))), zci_11, zcn_11.1, zcn_11.2, by decide +kernel⟩
noncomputable def zm_g_judge : zM := (11, ⟨"LemonGate", "judge", "(II)I"⟩, prog_1_method_16_code, 5, some .int, [(0, .aload_n 0, 1), (1, .iload_n 1, 1), (2, .invokevirtual 87, 3), (5, .astore_n 3, 1), (6, .aload_n 3, 1), (7, .ifnonnull 5, 3), (10, .iconst (-1), 1), (11, .ireturn, 1), (12, .aload_n 3, 1), (13, .iconst 1, 1), (14, .invokevirtual 201, 3), (17, .istore 4, 2), (19, .iload 4, 2), (21, .ifCond .eq 6, 3), (24, .iload 4, 2), (26, .ireturn, 1), (27, .aload_n 0, 1), (28, .getfield 33, 3), (31, .aload_n 0, 1), (32, .getfield 10, 3), (35, .aload_n 0, 1), (36, .getfield 10, 3), (39, .getfield 126, 3), (42, .iconst 3, 1), (43, .iaload, 1), (44, .invokevirtual 156, 3), (47, .aload_n 0, 1), (48, .aload_n 3, 1), (49, .iload_n 2, 1), (50, .invokevirtual 204, 3), (53, .ireturn, 1)])
theorem zmk_g_judge : zMok zm_g_judge := ⟨by decide +kernel, rfl, List.mem_append_right _ (List.mem_of_getElem? (i := 649) (by decide +kernel)), plainFor_of_name zcp_11⟩
theorem zok_g_judge : zVok zm_g_judge 2 := ⟨(List.mem_of_getElem? (i := 647) (by decide +kernel)), (List.mem_append_right _ (List.mem_of_getElem? (i := 648) (by decide +kernel))), zci_11, zcn_11.1, zcn_11.2, by decide +kernel⟩
noncomputable def zm_g_seeded : zM := (11, ⟨"LemonGate", "seeded", "(I)I"⟩, prog_1_method_17_code, 5, some .int, [(0, .aload_n 0, 1), (1, .iload_n 1, 1), (2, .invokevirtual 87, 3), (5, .astore_n 2, 1), (6, .aload_n 2, 1), (7, .ifnonnull 5, 3), (10, .iconst (-1), 1), (11, .ireturn, 1), (12, .aload_n 2, 1), (13, .iconst 1, 1), (14, .invokevirtual 201, 3), (17, .istore_n 3, 1), (18, .iload_n 3, 1), (19, .ifCond .eq 5, 3), (22, .iload_n 3, 1), (23, .ireturn, 1), (24, .aload_n 0, 1), (25, .getfield 33, 3), (28, .aload_n 0, 1), (29, .getfield 10, 3), (32, .aload_n 0, 1), (33, .getfield 10, 3), (36, .getfield 126, 3), (39, .iconst 3, 1), (40, .iaload, 1), (41, .invokevirtual 156, 3), (44, .iconst 0, 1), (45, .istore 4, 2), (47, .iload 4, 2), (49, .bipush 100, 2), (51, .if_icmp .ge 24, 3), (54, .aload_n 0, 1), (55, .aload_n 2, 1), (56, .iload 4, 2), (58, .invokevirtual 204, 3), (61, .bipush (-2), 2), (63, .if_icmp .ne 6, 3), (66, .iload 4, 2), (68, .ireturn, 1), (69, .iinc 4 1, 3), (72, .goto (-25), 3), (75, .bipush (-2), 2), (77, .ireturn, 1)])
theorem zmk_g_seeded : zMok zm_g_seeded := ⟨by decide +kernel, rfl, List.mem_append_right _ (List.mem_of_getElem? (i := 663) (by decide +kernel)), plainFor_of_name zcp_11⟩
theorem zok_g_seeded : zVok zm_g_seeded 1 := ⟨(List.mem_of_getElem? (i := 661) (by decide +kernel)), (List.mem_append_right _ (List.mem_of_getElem? (i := 662) (by decide +kernel))), zci_11, zcn_11.1, zcn_11.2, by decide +kernel⟩
noncomputable def zm_g_make : zM := (11, ⟨"LemonGate", "make", "(III)J"⟩, prog_1_method_18_code, 11, some .long, [(0, .iload_n 1, 1), (1, .ifCond .lt 40, 3), (4, .iload_n 1, 1), (5, .bipush 100, 2), (7, .idiv, 1), (8, .bipush 8, 2), (10, .if_icmp .gt 31, 3), (13, .iload_n 1, 1), (14, .bipush 100, 2), (16, .irem, 1), (17, .bipush 12, 2), (19, .if_icmp .gt 22, 3), (22, .iload_n 2, 1), (23, .iconst 0, 1), (24, .bipush 99, 2), (26, .invokestatic 79, 3), (29, .ifCond .eq 12, 3), (32, .iload_n 3, 1), (33, .iconst 0, 1), (34, .iconst 2, 1), (35, .invokestatic 79, 3), (38, .ifCond .ne 7, 3), (41, .ldc2_w 210, 3), (44, .lreturn, 1), (45, .iload_n 1, 1), (46, .bipush 100, 2), (48, .idiv, 1), (49, .istore 4, 2), (51, .iload_n 1, 1), (52, .bipush 100, 2), (54, .irem, 1), (55, .istore 5, 2), (57, .iconst 0, 1), (58, .istore 6, 2), (60, .iconst 1, 1), (61, .istore 7, 2), (63, .iload 7, 2), (65, .iload 4, 2), (67, .if_icmp .gt 39, 3), (70, .aload_n 0, 1), (71, .iload 4, 2), (73, .iload 5, 2), (75, .iload_n 2, 1), (76, .iload 7, 2), (78, .invokevirtual 212, 3), (81, .aload_n 0, 1), (82, .iload 4, 2), (84, .iload 5, 2), (86, .iload_n 2, 1), (87, .iload 6, 2), (89, .invokevirtual 212, 3), (92, .lcmp, 1), (93, .ifCond .le 7, 3), (96, .iload 7, 2), (98, .istore 6, 2), (100, .iinc 7 1, 3), (103, .goto (-40), 3), (106, .iload_n 3, 1), (107, .ifCond .ne 7, 3), (110, .iload 6, 2), (112, .i2l, 1), (113, .lreturn, 1), (114, .aload_n 0, 1), (115, .iload 4, 2), (117, .iload 5, 2), (119, .iload_n 2, 1), (120, .iload 6, 2), (122, .invokevirtual 212, 3), (125, .lstore 7, 2), (127, .ldc2_w 216, 3), (130, .iload 4, 2), (132, .invokestatic 218, 3), (135, .lstore 9, 2), (137, .iload_n 3, 1), (138, .iconst 1, 1), (139, .if_icmp .ne 8, 3), (142, .lload 7, 2), (144, .goto 5, 3), (147, .lload 9, 2), (149, .lload 7, 2), (151, .lload 9, 2), (153, .invokestatic 224, 3), (156, .ldiv, 1), (157, .lreturn, 1)])
theorem zmk_g_make : zMok zm_g_make := ⟨by decide +kernel, rfl, List.mem_append_right _ (List.mem_of_getElem? (i := 667) (by decide +kernel)), plainFor_of_name zcp_11⟩
theorem zok_g_make : zVok zm_g_make 3 := ⟨(List.mem_of_getElem? (i := 665) (by decide +kernel)), (List.mem_append_right _ (List.mem_of_getElem? (i := 666) (by decide +kernel))), zci_11, zcn_11.1, zcn_11.2, by decide +kernel⟩
noncomputable def zm_g_undercut : zM := (11, ⟨"LemonGate", "undercut", "(II)I"⟩, prog_1_method_19_code, 9, some .int, [(0, .iload_n 1, 1), (1, .iconst 0, 1), (2, .bipush 50, 2), (4, .invokestatic 79, 3), (7, .ifCond .eq 12, 3), (10, .iload_n 2, 1), (11, .iconst 0, 1), (12, .iconst 2, 1), (13, .invokestatic 79, 3), (16, .ifCond .ne 5, 3), (19, .iconst (-1), 1), (20, .ireturn, 1), (21, .aload_n 0, 1), (22, .getfield 10, 3), (25, .getfield 126, 3), (28, .iconst 3, 1), (29, .iaload, 1), (30, .istore_n 3, 1), (31, .aload_n 0, 1), (32, .getfield 10, 3), (35, .getfield 126, 3), (38, .iconst 4, 1), (39, .iaload, 1), (40, .istore 4, 2), (42, .aload_n 0, 1), (43, .getfield 10, 3), (46, .invokevirtual 133, 3), (49, .istore 5, 2), (51, .iconst 0, 1), (52, .istore 6, 2), (54, .iload 4, 2), (56, .ifCond .ne 6, 3), (59, .bipush (-5), 2), (61, .ireturn, 1), (62, .iload 6, 2), (64, .bipush 50, 2), (66, .if_icmp .gt 83, 3), (69, .iload 6, 2), (71, .iconst 2, 1), (72, .irem, 1), (73, .ifCond .ne 7, 3), (76, .iconst 1, 1), (77, .goto 4, 3), (80, .iconst 0, 1), (81, .istore 7, 2), (83, .iload 7, 2), (85, .ifCond .eq 7, 3), (88, .iload_n 3, 1), (89, .goto 5, 3), (92, .iload 4, 2), (94, .iconst 1, 1), (95, .isub, 1), (96, .istore 8, 2), (98, .iload 8, 2), (100, .iload 7, 2), (102, .ifCond .eq 7, 3), (105, .iload_n 1, 1), (106, .goto 5, 3), (109, .iload 5, 2), (111, .if_icmp .ge 6, 3), (114, .goto 35, 3), (117, .iload 7, 2), (119, .ifCond .eq 7, 3), (122, .iload_n 3, 1), (123, .goto 5, 3), (126, .iload 8, 2), (128, .istore_n 3, 1), (129, .iload 7, 2), (131, .ifCond .eq 8, 3), (134, .iload 8, 2), (136, .goto 5, 3), (139, .iload 4, 2), (141, .istore 4, 2), (143, .iinc 6 1, 3), (146, .goto (-84), 3), (149, .iload_n 2, 1), (150, .ifCond .ne 8, 3), (153, .iload 6, 2), (155, .goto 14, 3), (158, .iload_n 2, 1), (159, .iconst 1, 1), (160, .if_icmp .ne 7, 3), (163, .iload_n 3, 1), (164, .goto 5, 3), (167, .iload 4, 2), (169, .ireturn, 1)])
theorem zmk_g_undercut : zMok zm_g_undercut := ⟨by decide +kernel, rfl, List.mem_append_right _ (List.mem_of_getElem? (i := 697) (by decide +kernel)), plainFor_of_name zcp_11⟩
theorem zok_g_undercut : zVok zm_g_undercut 2 := ⟨(List.mem_of_getElem? (i := 695) (by decide +kernel)), (List.mem_append_right _ (List.mem_of_getElem? (i := 696) (by decide +kernel))), zci_11, zcn_11.1, zcn_11.2, by decide +kernel⟩
noncomputable def zm_g_brings : zM := (11, ⟨"LemonGate", "brings", "(II)I"⟩, prog_1_method_20_code, 4, some .int, [(0, .iload_n 1, 1), (1, .iconst 1, 1), (2, .bipush 7, 2), (4, .invokestatic 79, 3), (7, .ifCond .eq 14, 3), (10, .iload_n 2, 1), (11, .iconst 0, 1), (12, .sipush 999, 3), (15, .invokestatic 79, 3), (18, .ifCond .ne 5, 3), (21, .iconst (-1), 1), (22, .ireturn, 1), (23, .aload_n 0, 1), (24, .getfield 50, 3), (27, .getfield 228, 3), (30, .iload_n 1, 1), (31, .iaload, 1), (32, .istore_n 3, 1), (33, .aload_n 0, 1), (34, .getfield 50, 3), (37, .getfield 228, 3), (40, .iload_n 1, 1), (41, .iload_n 2, 1), (42, .iastore, 1), (43, .iload_n 3, 1), (44, .ireturn, 1)])
theorem zmk_g_brings : zMok zm_g_brings := ⟨by decide +kernel, rfl, List.mem_append_right _ (List.mem_of_getElem? (i := 701) (by decide +kernel)), plainFor_of_name zcp_11⟩
theorem zok_g_brings : zVok zm_g_brings 2 := ⟨(List.mem_of_getElem? (i := 699) (by decide +kernel)), (List.mem_append_right _ (List.mem_of_getElem? (i := 700) (by decide +kernel))), zci_11, zcn_11.1, zcn_11.2, by decide +kernel⟩
noncomputable def zm_g_minutes : zM := (11, ⟨"LemonGate", "minutes", "(II)I"⟩, prog_1_method_21_code, 4, some .int, [(0, .iload_n 1, 1), (1, .iconst 0, 1), (2, .iconst 2, 1), (3, .invokestatic 79, 3), (6, .ifCond .eq 14, 3), (9, .iload_n 2, 1), (10, .iconst 0, 1), (11, .sipush 600, 3), (14, .invokestatic 79, 3), (17, .ifCond .ne 5, 3), (20, .iconst (-1), 1), (21, .ireturn, 1), (22, .aload_n 0, 1), (23, .getfield 50, 3), (26, .getfield 231, 3), (29, .iload_n 1, 1), (30, .iaload, 1), (31, .istore_n 3, 1), (32, .aload_n 0, 1), (33, .getfield 50, 3), (36, .getfield 231, 3), (39, .iload_n 1, 1), (40, .iload_n 2, 1), (41, .iastore, 1), (42, .iload_n 3, 1), (43, .ireturn, 1)])
theorem zmk_g_minutes : zMok zm_g_minutes := ⟨by decide +kernel, rfl, List.mem_append_right _ (List.mem_of_getElem? (i := 705) (by decide +kernel)), plainFor_of_name zcp_11⟩
theorem zok_g_minutes : zVok zm_g_minutes 2 := ⟨(List.mem_of_getElem? (i := 703) (by decide +kernel)), (List.mem_append_right _ (List.mem_of_getElem? (i := 704) (by decide +kernel))), zci_11, zcn_11.1, zcn_11.2, by decide +kernel⟩
noncomputable def zm_g_share : zM := (11, ⟨"LemonGate", "share", "(III)I"⟩, prog_1_method_22_code, 6, some .int, [(0, .iload_n 1, 1), (1, .iconst 0, 1), (2, .iconst 2, 1), (3, .invokestatic 79, 3), (6, .ifCond .eq 21, 3), (9, .iload_n 2, 1), (10, .iconst 0, 1), (11, .iconst 2, 1), (12, .invokestatic 79, 3), (15, .ifCond .eq 12, 3), (18, .iload_n 3, 1), (19, .iconst 0, 1), (20, .iconst 1, 1), (21, .invokestatic 79, 3), (24, .ifCond .ne 6, 3), (27, .ldc 139, 2), (29, .ireturn, 1), (30, .aload_n 0, 1), (31, .getfield 50, 3), (34, .iload_n 1, 1), (35, .iload_n 2, 1), (36, .invokevirtual 234, 3), (39, .istore 4, 2), (41, .aload_n 0, 1), (42, .getfield 50, 3), (45, .iload_n 2, 1), (46, .invokevirtual 237, 3), (49, .istore 5, 2), (51, .iload_n 3, 1), (52, .ifCond .ne 8, 3), (55, .iload 4, 2), (57, .goto 5, 3), (60, .iload 5, 2), (62, .i2l, 1), (63, .iload 4, 2), (65, .i2l, 1), (66, .iload 5, 2), (68, .i2l, 1), (69, .invokestatic 224, 3), (72, .ldiv, 1), (73, .l2i, 1), (74, .ireturn, 1)])
theorem zmk_g_share : zMok zm_g_share := ⟨by decide +kernel, rfl, List.mem_append_right _ (List.mem_of_getElem? (i := 709) (by decide +kernel)), plainFor_of_name zcp_11⟩
theorem zok_g_share : zVok zm_g_share 3 := ⟨(List.mem_of_getElem? (i := 707) (by decide +kernel)), (List.mem_append_right _ (List.mem_of_getElem? (i := 708) (by decide +kernel))), zci_11, zcn_11.1, zcn_11.2, by decide +kernel⟩
noncomputable def zm_g_slate : zM := (11, ⟨"LemonGate", "slate", "(II)I"⟩, prog_1_method_23_code, 5, some .int, [(0, .iload_n 1, 1), (1, .bipush 10, 2), (3, .idiv, 1), (4, .istore_n 3, 1), (5, .iload_n 1, 1), (6, .bipush 10, 2), (8, .irem, 1), (9, .istore 4, 2), (11, .iload_n 3, 1), (12, .invokestatic 240, 3), (15, .ifCond .eq 28, 3), (18, .iload 4, 2), (20, .invokestatic 240, 3), (23, .ifCond .eq 20, 3), (26, .iload_n 3, 1), (27, .iload 4, 2), (29, .if_icmp .eq 14, 3), (32, .iload_n 2, 1), (33, .iconst 0, 1), (34, .sipush 999, 3), (37, .invokestatic 79, 3), (40, .ifCond .ne 5, 3), (43, .iconst (-1), 1), (44, .ireturn, 1), (45, .aload_n 0, 1), (46, .getfield 57, 3), (49, .iload_n 3, 1), (50, .iload 4, 2), (52, .iload_n 2, 1), (53, .invokevirtual 243, 3), (56, .ireturn, 1)])
theorem zmk_g_slate : zMok zm_g_slate := ⟨by decide +kernel, rfl, List.mem_append_right _ (List.mem_of_getElem? (i := 726) (by decide +kernel)), plainFor_of_name zcp_11⟩
theorem zok_g_slate : zVok zm_g_slate 2 := ⟨(List.mem_of_getElem? (i := 724) (by decide +kernel)), (List.mem_append_right _ (List.mem_of_getElem? (i := 725) (by decide +kernel))), zci_11, zcn_11.1, zcn_11.2, by decide +kernel⟩
noncomputable def zm_g_owes : zM := (11, ⟨"LemonGate", "owes", "(I)I"⟩, prog_1_method_24_code, 2, some .int, [(0, .iload_n 1, 1), (1, .invokestatic 240, 3), (4, .ifCond .eq 14, 3), (7, .aload_n 0, 1), (8, .getfield 57, 3), (11, .iload_n 1, 1), (12, .invokevirtual 246, 3), (15, .goto 5, 3), (18, .ldc 139, 2), (20, .ireturn, 1)])
theorem zmk_g_owes : zMok zm_g_owes := ⟨by decide +kernel, rfl, List.mem_append_right _ (List.mem_of_getElem? (i := 738) (by decide +kernel)), plainFor_of_name zcp_11⟩
theorem zok_g_owes : zVok zm_g_owes 1 := ⟨(List.mem_of_getElem? (i := 736) (by decide +kernel)), (List.mem_append_right _ (List.mem_of_getElem? (i := 737) (by decide +kernel))), zci_11, zcn_11.1, zcn_11.2, by decide +kernel⟩
noncomputable def zm_g_wiped : zM := (11, ⟨"LemonGate", "wiped", "()I"⟩, prog_1_method_25_code, 1, some .int, [(0, .aload_n 0, 1), (1, .getfield 57, 3), (4, .invokevirtual 249, 3), (7, .ireturn, 1)])
theorem zmk_g_wiped : zMok zm_g_wiped := ⟨by decide +kernel, rfl, List.mem_append_right _ (List.mem_of_getElem? (i := 746) (by decide +kernel)), plainFor_of_name zcp_11⟩
theorem zok_g_wiped : zVok zm_g_wiped 0 := ⟨(List.mem_of_getElem? (i := 744) (by decide +kernel)), (List.mem_append_right _ (List.mem_of_getElem? (i := 745) (by decide +kernel))), zci_11, zcn_11.1, zcn_11.2, by decide +kernel⟩
noncomputable def zm_g_image : zM := (11, ⟨"LemonGate", "image", "()I"⟩, prog_1_method_26_code, 1, some .int, [(0, .aload_n 0, 1), (1, .getfield 19, 3), (4, .invokevirtual 252, 3), (7, .aload_n 0, 1), (8, .getfield 19, 3), (11, .invokevirtual 255, 3), (14, .ireturn, 1)])
theorem zmk_g_image : zMok zm_g_image := ⟨by decide +kernel, rfl, List.mem_append_right _ (List.mem_of_getElem? (i := 760) (by decide +kernel)), plainFor_of_name zcp_11⟩
theorem zok_g_image : zVok zm_g_image 0 := ⟨(List.mem_of_getElem? (i := 758) (by decide +kernel)), (List.mem_append_right _ (List.mem_of_getElem? (i := 759) (by decide +kernel))), zci_11, zcn_11.1, zcn_11.2, by decide +kernel⟩
noncomputable def zm_g_back : zM := (11, ⟨"LemonGate", "back", "()I"⟩, prog_1_method_27_code, 1, some .int, [(0, .aload_n 0, 1), (1, .getfield 19, 3), (4, .getfield 258, 3), (7, .ifCond .ne 6, 3), (10, .bipush (-5), 2), (12, .ireturn, 1), (13, .aload_n 0, 1), (14, .getfield 19, 3), (17, .invokevirtual 261, 3), (20, .aload_n 0, 1), (21, .getfield 19, 3), (24, .invokevirtual 255, 3), (27, .ireturn, 1)])
theorem zmk_g_back : zMok zm_g_back := ⟨by decide +kernel, rfl, List.mem_append_right _ (List.mem_of_getElem? (i := 773) (by decide +kernel)), plainFor_of_name zcp_11⟩
theorem zok_g_back : zVok zm_g_back 0 := ⟨(List.mem_of_getElem? (i := 771) (by decide +kernel)), (List.mem_append_right _ (List.mem_of_getElem? (i := 772) (by decide +kernel))), zci_11, zcn_11.1, zcn_11.2, by decide +kernel⟩
noncomputable def zm_g_undo : zM := (11, ⟨"LemonGate", "undo", "()I"⟩, prog_1_method_28_code, 1, some .int, [(0, .aload_n 0, 1), (1, .getfield 10, 3), (4, .invokevirtual 264, 3), (7, .ifCond .eq 13, 3), (10, .aload_n 0, 1), (11, .getfield 10, 3), (14, .getfield 267, 3), (17, .goto 5, 3), (20, .bipush (-5), 2), (22, .ireturn, 1)])
theorem zmk_g_undo : zMok zm_g_undo := ⟨by decide +kernel, rfl, List.mem_append_right _ (List.mem_of_getElem? (i := 781) (by decide +kernel)), plainFor_of_name zcp_11⟩
theorem zok_g_undo : zVok zm_g_undo 0 := ⟨(List.mem_of_getElem? (i := 779) (by decide +kernel)), (List.mem_append_right _ (List.mem_of_getElem? (i := 780) (by decide +kernel))), zci_11, zcn_11.1, zcn_11.2, by decide +kernel⟩
noncomputable def zm_g_redo : zM := (11, ⟨"LemonGate", "redo", "()I"⟩, prog_1_method_29_code, 1, some .int, [(0, .aload_n 0, 1), (1, .getfield 10, 3), (4, .invokevirtual 270, 3), (7, .ifCond .eq 21, 3), (10, .aload_n 0, 1), (11, .getfield 10, 3), (14, .getfield 273, 3), (17, .aload_n 0, 1), (18, .getfield 10, 3), (21, .getfield 267, 3), (24, .isub, 1), (25, .goto 5, 3), (28, .bipush (-5), 2), (30, .ireturn, 1)])
theorem zmk_g_redo : zMok zm_g_redo := ⟨by decide +kernel, rfl, List.mem_append_right _ (List.mem_of_getElem? (i := 789) (by decide +kernel)), plainFor_of_name zcp_11⟩
theorem zok_g_redo : zVok zm_g_redo 0 := ⟨(List.mem_of_getElem? (i := 787) (by decide +kernel)), (List.mem_append_right _ (List.mem_of_getElem? (i := 788) (by decide +kernel))), zci_11, zcn_11.1, zcn_11.2, by decide +kernel⟩
noncomputable def zm_g_body : zM := (11, ⟨"LemonGate", "body", "(I)I"⟩, prog_1_method_30_code, 2, some .int, [(0, .iload_n 1, 1), (1, .iconst 0, 1), (2, .bipush 7, 2), (4, .invokestatic 79, 3), (7, .ifCond .ne 5, 3), (10, .iconst (-1), 1), (11, .ireturn, 1), (12, .aload_n 0, 1), (13, .getfield 64, 3), (16, .iload_n 1, 1), (17, .invokevirtual 276, 3), (20, .ifCond .eq 15, 3), (23, .aload_n 0, 1), (24, .getfield 64, 3), (27, .getfield 277, 3), (30, .iconst 1, 1), (31, .isub, 1), (32, .goto 5, 3), (35, .bipush (-3), 2), (37, .ireturn, 1)])
theorem zmk_g_body : zMok zm_g_body := ⟨by decide +kernel, rfl, List.mem_append_right _ (List.mem_of_getElem? (i := 797) (by decide +kernel)), plainFor_of_name zcp_11⟩
theorem zok_g_body : zVok zm_g_body 1 := ⟨(List.mem_of_getElem? (i := 795) (by decide +kernel)), (List.mem_append_right _ (List.mem_of_getElem? (i := 796) (by decide +kernel))), zci_11, zcn_11.1, zcn_11.2, by decide +kernel⟩
noncomputable def zm_g_act : zM := (11, ⟨"LemonGate", "act", "(III)I"⟩, prog_1_method_31_code, 4, some .int, [(0, .aload_n 0, 1), (1, .getfield 64, 3), (4, .iload_n 1, 1), (5, .iload_n 2, 1), (6, .iload_n 3, 1), (7, .invokevirtual 280, 3), (10, .ireturn, 1)])
theorem zmk_g_act : zMok zm_g_act := ⟨by decide +kernel, rfl, List.mem_append_right _ (List.mem_of_getElem? (i := 805) (by decide +kernel)), plainFor_of_name zcp_11⟩
theorem zok_g_act : zVok zm_g_act 3 := ⟨(List.mem_of_getElem? (i := 803) (by decide +kernel)), (List.mem_append_right _ (List.mem_of_getElem? (i := 804) (by decide +kernel))), zci_11, zcn_11.1, zcn_11.2, by decide +kernel⟩
noncomputable def zm_g_trace : zM := (11, ⟨"LemonGate", "trace", "(I)I"⟩, prog_1_method_32_code, 2, some .int, [(0, .iload_n 1, 1), (1, .iconst 0, 1), (2, .aload_n 0, 1), (3, .getfield 64, 3), (6, .invokevirtual 283, 3), (9, .iconst 1, 1), (10, .isub, 1), (11, .invokestatic 79, 3), (14, .ifCond .eq 15, 3), (17, .aload_n 0, 1), (18, .getfield 64, 3), (21, .getfield 286, 3), (24, .iload_n 1, 1), (25, .iaload, 1), (26, .goto 4, 3), (29, .iconst (-1), 1), (30, .ireturn, 1)])
theorem zmk_g_trace : zMok zm_g_trace := ⟨by decide +kernel, rfl, List.mem_append_right _ (List.mem_of_getElem? (i := 834) (by decide +kernel)), plainFor_of_name zcp_11⟩
theorem zok_g_trace : zVok zm_g_trace 1 := ⟨(List.mem_of_getElem? (i := 832) (by decide +kernel)), (List.mem_append_right _ (List.mem_of_getElem? (i := 833) (by decide +kernel))), zci_11, zcn_11.1, zcn_11.2, by decide +kernel⟩
noncomputable def zm_g_keep : zM := (11, ⟨"LemonGate", "keep", "(II)I"⟩, prog_1_method_33_code, 4, some .int, [(0, .aload_n 0, 1), (1, .iload_n 1, 1), (2, .invokevirtual 87, 3), (5, .astore_n 3, 1), (6, .aload_n 3, 1), (7, .ifnull 19, 3), (10, .iload_n 2, 1), (11, .iconst (-1), 1), (12, .if_icmp .eq 16, 3), (15, .aload_n 0, 1), (16, .getfield 64, 3), (19, .iload_n 2, 1), (20, .invokevirtual 289, 3), (23, .ifCond .ne 5, 3), (26, .iconst (-1), 1), (27, .ireturn, 1), (28, .aload_n 3, 1), (29, .iload_n 2, 1), (30, .invokevirtual 292, 3), (33, .iconst 1, 1), (34, .ireturn, 1)])
theorem zmk_g_keep : zMok zm_g_keep := ⟨by decide +kernel, rfl, List.mem_append_right _ (List.mem_of_getElem? (i := 843) (by decide +kernel)), plainFor_of_name zcp_11⟩
theorem zok_g_keep : zVok zm_g_keep 2 := ⟨(List.mem_of_getElem? (i := 841) (by decide +kernel)), (List.mem_append_right _ (List.mem_of_getElem? (i := 842) (by decide +kernel))), zci_11, zcn_11.1, zcn_11.2, by decide +kernel⟩
noncomputable def zm_g_row : zM := (11, ⟨"LemonGate", "row", "(III)I"⟩, prog_1_method_34_code, 5, some .int, [(0, .aload_n 0, 1), (1, .iload_n 1, 1), (2, .invokevirtual 87, 3), (5, .astore 4, 2), (7, .aload 4, 2), (9, .ifnull 18, 3), (12, .iload_n 2, 1), (13, .iconst 0, 1), (14, .iconst 4, 1), (15, .invokestatic 79, 3), (18, .ifCond .eq 9, 3), (21, .iload_n 3, 1), (22, .bipush 60, 2), (24, .if_icmp .le 5, 3), (27, .iconst (-1), 1), (28, .ireturn, 1), (29, .iload_n 3, 1), (30, .ifCond .ge 6, 3), (33, .bipush (-14), 2), (35, .ireturn, 1), (36, .aload 4, 2), (38, .iload_n 2, 1), (39, .iload_n 3, 1), (40, .invokevirtual 296, 3), (43, .iconst 1, 1), (44, .ireturn, 1)])
theorem zmk_g_row : zMok zm_g_row := ⟨by decide +kernel, rfl, List.mem_append_right _ (List.mem_of_getElem? (i := 852) (by decide +kernel)), plainFor_of_name zcp_11⟩
theorem zok_g_row : zVok zm_g_row 3 := ⟨(List.mem_of_getElem? (i := 850) (by decide +kernel)), (List.mem_append_right _ (List.mem_of_getElem? (i := 851) (by decide +kernel))), zci_11, zcn_11.1, zcn_11.2, by decide +kernel⟩
noncomputable def zm_g_put : zM := (11, ⟨"LemonGate", "put", "(IIJ)I"⟩, prog_1_method_35_code, 7, some .int, [(0, .aload_n 0, 1), (1, .iload_n 1, 1), (2, .invokevirtual 87, 3), (5, .astore 5, 2), (7, .aload 5, 2), (9, .ifnonnull 5, 3), (12, .iconst (-1), 1), (13, .ireturn, 1), (14, .aload 5, 2), (16, .iload_n 2, 1), (17, .iconst 1, 1), (18, .invokevirtual 299, 3), (21, .istore 6, 2), (23, .iload 6, 2), (25, .ifCond .eq 6, 3), (28, .iload 6, 2), (30, .ireturn, 1), (31, .aload 5, 2), (33, .iload_n 2, 1), (34, .lload_n 3, 1), (35, .invokevirtual 302, 3), (38, .iconst 1, 1), (39, .ireturn, 1)])
theorem zmk_g_put : zMok zm_g_put := ⟨by decide +kernel, rfl, List.mem_append_right _ (List.mem_of_getElem? (i := 864) (by decide +kernel)), plainFor_of_name zcp_11⟩
theorem zok_g_put : zVok zm_g_put 3 := ⟨(List.mem_of_getElem? (i := 862) (by decide +kernel)), (List.mem_append_right _ (List.mem_of_getElem? (i := 863) (by decide +kernel))), zci_11, zcn_11.1, zcn_11.2, by decide +kernel⟩
noncomputable def zm_g_element : zM := (11, ⟨"LemonGate", "element", "(II)J"⟩, prog_1_method_36_code, 4, some .long, [(0, .aload_n 0, 1), (1, .iload_n 1, 1), (2, .invokevirtual 87, 3), (5, .astore_n 3, 1), (6, .aload_n 3, 1), (7, .ifnull 12, 3), (10, .aload_n 3, 1), (11, .iload_n 2, 1), (12, .iconst 1, 1), (13, .invokevirtual 299, 3), (16, .ifCond .eq 7, 3), (19, .ldc2_w 210, 3), (22, .lreturn, 1), (23, .aload_n 3, 1), (24, .getfield 305, 3), (27, .iload_n 2, 1), (28, .laload, 1), (29, .lreturn, 1)])
theorem zmk_g_element : zMok zm_g_element := ⟨by decide +kernel, rfl, List.mem_append_right _ (List.mem_of_getElem? (i := 878) (by decide +kernel)), plainFor_of_name zcp_11⟩
theorem zok_g_element : zVok zm_g_element 2 := ⟨(List.mem_of_getElem? (i := 876) (by decide +kernel)), (List.mem_append_right _ (List.mem_of_getElem? (i := 877) (by decide +kernel))), zci_11, zcn_11.1, zcn_11.2, by decide +kernel⟩
noncomputable def zm_g_shift : zM := (11, ⟨"LemonGate", "shift", "(IIIII)I"⟩, prog_1_method_37_code, 8, some .int, [(0, .aload_n 0, 1), (1, .iload_n 1, 1), (2, .invokevirtual 87, 3), (5, .astore 6, 2), (7, .aload_n 0, 1), (8, .iload_n 3, 1), (9, .invokevirtual 87, 3), (12, .astore 7, 2), (14, .aload 6, 2), (16, .ifnull 8, 3), (19, .aload 7, 2), (21, .ifnonnull 5, 3), (24, .iconst (-1), 1), (25, .ireturn, 1), (26, .aload 6, 2), (28, .invokevirtual 91, 3), (31, .ifCond .ne 11, 3), (34, .aload 7, 2), (36, .invokevirtual 91, 3), (39, .ifCond .eq 6, 3), (42, .bipush (-11), 2), (44, .ireturn, 1), (45, .aload 6, 2), (47, .aload 7, 2), (49, .getfield 309, 3), (52, .invokevirtual 95, 3), (55, .ifCond .ne 6, 3), (58, .bipush (-12), 2), (60, .ireturn, 1), (61, .aload 6, 2), (63, .iload_n 2, 1), (64, .iload 5, 2), (66, .invokevirtual 312, 3), (69, .ifCond .eq 15, 3), (72, .aload 7, 2), (74, .iload 4, 2), (76, .iload 5, 2), (78, .invokevirtual 312, 3), (81, .ifCond .ne 6, 3), (84, .bipush (-13), 2), (86, .ireturn, 1), (87, .aload 6, 2), (89, .getfield 305, 3), (92, .iload_n 2, 1), (93, .aload 7, 2), (95, .getfield 305, 3), (98, .iload 4, 2), (100, .iload 5, 2), (102, .invokestatic 315, 3), (105, .iload 5, 2), (107, .ireturn, 1)])
theorem zmk_g_shift : zMok zm_g_shift := ⟨by decide +kernel, rfl, List.mem_append_right _ (List.mem_of_getElem? (i := 882) (by decide +kernel)), plainFor_of_name zcp_11⟩
theorem zok_g_shift : zVok zm_g_shift 5 := ⟨(List.mem_of_getElem? (i := 880) (by decide +kernel)), (List.mem_append_right _ (List.mem_of_getElem? (i := 881) (by decide +kernel))), zci_11, zcn_11.1, zcn_11.2, by decide +kernel⟩
noncomputable def zm_g_taken : zM := (11, ⟨"LemonGate", "taken", "(II)I"⟩, prog_1_method_38_code, 4, some .int, [(0, .aload_n 0, 1), (1, .iload_n 1, 1), (2, .invokevirtual 87, 3), (5, .astore_n 3, 1), (6, .aload_n 3, 1), (7, .ifnull 13, 3), (10, .iload_n 2, 1), (11, .iconst 0, 1), (12, .bipush 7, 2), (14, .invokestatic 79, 3), (17, .ifCond .ne 5, 3), (20, .iconst (-1), 1), (21, .ireturn, 1), (22, .aload_n 3, 1), (23, .invokevirtual 91, 3), (26, .ifCond .eq 6, 3), (29, .bipush (-11), 2), (31, .ireturn, 1), (32, .aload_n 0, 1), (33, .getfield 64, 3), (36, .aload_n 3, 1), (37, .getfield 321, 3), (40, .invokevirtual 289, 3), (43, .ifCond .eq 18, 3), (46, .aload_n 0, 1), (47, .getfield 64, 3), (50, .aload_n 3, 1), (51, .getfield 321, 3), (54, .iload_n 2, 1), (55, .invokevirtual 324, 3), (58, .ifCond .ne 6, 3), (61, .bipush (-12), 2), (63, .ireturn, 1), (64, .aload_n 0, 1), (65, .getfield 64, 3), (68, .getfield 327, 3), (71, .aload_n 3, 1), (72, .getfield 321, 3), (75, .iaload, 1), (76, .ireturn, 1)])
theorem zmk_g_taken : zMok zm_g_taken := ⟨by decide +kernel, rfl, List.mem_append_right _ (List.mem_of_getElem? (i := 887) (by decide +kernel)), plainFor_of_name zcp_11⟩
theorem zok_g_taken : zVok zm_g_taken 2 := ⟨(List.mem_of_getElem? (i := 885) (by decide +kernel)), (List.mem_append_right _ (List.mem_of_getElem? (i := 886) (by decide +kernel))), zci_11, zcn_11.1, zcn_11.2, by decide +kernel⟩
noncomputable def zm_g_count : zM := (11, ⟨"LemonGate", "count", "(I)I"⟩, prog_1_method_39_code, 2, some .int, [(0, .iload_n 1, 1), (1, .tableswitch 75 0 4 #[35, 43, 51, 59, 67], 35), (36, .aload_n 0, 1), (37, .getfield 19, 3), (40, .getfield 102, 3), (43, .ireturn, 1), (44, .aload_n 0, 1), (45, .getfield 26, 3), (48, .getfield 143, 3), (51, .ireturn, 1), (52, .aload_n 0, 1), (53, .getfield 10, 3), (56, .getfield 267, 3), (59, .ireturn, 1), (60, .aload_n 0, 1), (61, .getfield 64, 3), (64, .getfield 277, 3), (67, .ireturn, 1), (68, .aload_n 0, 1), (69, .getfield 64, 3), (72, .getfield 330, 3), (75, .ireturn, 1), (76, .iconst (-1), 1), (77, .ireturn, 1)])
theorem zmk_g_count : zMok zm_g_count := ⟨by decide +kernel, rfl, List.mem_append_right _ (List.mem_of_getElem? (i := 895) (by decide +kernel)), plainFor_of_name zcp_11⟩
theorem zok_g_count : zVok zm_g_count 1 := ⟨(List.mem_of_getElem? (i := 893) (by decide +kernel)), (List.mem_append_right _ (List.mem_of_getElem? (i := 894) (by decide +kernel))), zci_11, zcn_11.1, zcn_11.2, by decide +kernel⟩
noncomputable def zm_g_isWithin : zM := (11, ⟨"LemonGate", "isWithin", "(III)Z"⟩, prog_1_method_40_code, 3, some .boolean, [(0, .iload_n 0, 1), (1, .iload_n 1, 1), (2, .if_icmp .lt 12, 3), (5, .iload_n 0, 1), (6, .iload_n 2, 1), (7, .if_icmp .gt 7, 3), (10, .iconst 1, 1), (11, .goto 4, 3), (14, .iconst 0, 1), (15, .ireturn, 1)])
theorem zmk_g_isWithin : zMok zm_g_isWithin := ⟨by decide +kernel, rfl, List.mem_append_right _ (List.mem_of_getElem? (i := 342) (by decide +kernel)), plainFor_of_name zcp_11⟩
theorem zok_g_isWithin : zSok zm_g_isWithin 3 := ⟨(List.mem_of_getElem? (i := 341) (by decide +kernel)), zci_11, zcn_11.1, zcn_11.2, by decide +kernel⟩
noncomputable def zm_g_isQuarter : zM := (11, ⟨"LemonGate", "isQuarter", "(I)Z"⟩, prog_1_method_41_code, 1, some .boolean, [(0, .iload_n 0, 1), (1, .iconst 0, 1), (2, .bipush 31, 2), (4, .invokestatic 79, 3), (7, .ireturn, 1)])
theorem zmk_g_isQuarter : zMok zm_g_isQuarter := ⟨by decide +kernel, rfl, List.mem_append_right _ (List.mem_of_getElem? (i := 339) (by decide +kernel)), plainFor_of_name zcp_11⟩
theorem zok_g_isQuarter : zSok zm_g_isQuarter 1 := ⟨(List.mem_of_getElem? (i := 338) (by decide +kernel)), zci_11, zcn_11.1, zcn_11.2, by decide +kernel⟩
noncomputable def zm_g_isSpan : zM := (11, ⟨"LemonGate", "isSpan", "(I)Z"⟩, prog_1_method_42_code, 1, some .boolean, [(0, .iload_n 0, 1), (1, .ifCond .lt 28, 3), (4, .iload_n 0, 1), (5, .bipush 100, 2), (7, .irem, 1), (8, .invokestatic 75, 3), (11, .ifCond .eq 18, 3), (14, .iload_n 0, 1), (15, .bipush 100, 2), (17, .idiv, 1), (18, .iload_n 0, 1), (19, .bipush 100, 2), (21, .irem, 1), (22, .if_icmp .gt 7, 3), (25, .iconst 1, 1), (26, .goto 4, 3), (29, .iconst 0, 1), (30, .ireturn, 1)])
theorem zmk_g_isSpan : zMok zm_g_isSpan := ⟨by decide +kernel, rfl, List.mem_append_right _ (List.mem_of_getElem? (i := 382) (by decide +kernel)), plainFor_of_name zcp_11⟩
theorem zok_g_isSpan : zSok zm_g_isSpan 1 := ⟨(List.mem_of_getElem? (i := 381) (by decide +kernel)), zci_11, zcn_11.1, zcn_11.2, by decide +kernel⟩
noncomputable def zm_g_shelfAt : zM := (11, ⟨"LemonGate", "shelfAt", "(I)LLemonGate$Shelf;"⟩, prog_1_method_43_code, 2, some (.object "LemonGate$Shelf"), [(0, .iload_n 1, 1), (1, .iconst 0, 1), (2, .iconst 5, 1), (3, .invokestatic 79, 3), (6, .ifCond .eq 12, 3), (9, .aload_n 0, 1), (10, .getfield 70, 3), (13, .iload_n 1, 1), (14, .aaload, 1), (15, .goto 4, 3), (18, .aconst_null, 1), (19, .areturn, 1)])
theorem zmk_g_shelfAt : zMok zm_g_shelfAt := ⟨by decide +kernel, rfl, List.mem_append_right _ (List.mem_of_getElem? (i := 350) (by decide +kernel)), plainFor_of_name zcp_11⟩
theorem zok_g_shelfAt : zVok zm_g_shelfAt 1 := ⟨(List.mem_of_getElem? (i := 349) (by decide +kernel)), (List.mem_append_left _ (List.mem_map.mpr ⟨(⟨"LemonGate", "shelfAt", "(I)LLemonGate$Shelf;"⟩, 11), List.mem_of_getElem? (i := 0) (by decide +kernel), rfl⟩)), zci_11, zcn_11.1, zcn_11.2, by decide +kernel⟩
noncomputable def zm_g_heatsCome : zM := (11, ⟨"LemonGate", "heatsCome", "(LLemonGate$Shelf;III)I"⟩, prog_1_method_44_code, 6, some .int, [(0, .iconst 0, 1), (1, .istore 5, 2), (3, .iload 5, 2), (5, .iload 4, 2), (7, .if_icmp .ge 72, 3), (10, .iload_n 3, 1), (11, .iload 5, 2), (13, .iadd, 1), (14, .invokestatic 75, 3), (17, .ifCond .eq 62, 3), (20, .aload_n 1, 1), (21, .iload_n 2, 1), (22, .iload 5, 2), (24, .iconst 1, 1), (25, .iadd, 1), (26, .invokevirtual 312, 3), (29, .ifCond .eq 50, 3), (32, .aload_n 1, 1), (33, .getfield 305, 3), (36, .iload_n 2, 1), (37, .iload 5, 2), (39, .iadd, 1), (40, .laload, 1), (41, .l2i, 1), (42, .iconst 0, 1), (43, .bipush 40, 2), (45, .invokestatic 79, 3), (48, .ifCond .eq 31, 3), (51, .aload_n 0, 1), (52, .getfield 19, 3), (55, .getfield 83, 3), (58, .iload_n 3, 1), (59, .iload 5, 2), (61, .iadd, 1), (62, .aload_n 1, 1), (63, .getfield 305, 3), (66, .iload_n 2, 1), (67, .iload 5, 2), (69, .iadd, 1), (70, .laload, 1), (71, .l2i, 1), (72, .iastore, 1), (73, .iinc 5 1, 3), (76, .goto (-73), 3), (79, .iload 5, 2), (81, .ireturn, 1)])
theorem zmk_g_heatsCome : zMok zm_g_heatsCome := ⟨by decide +kernel, rfl, List.mem_append_right _ (List.mem_of_getElem? (i := 362) (by decide +kernel)), plainFor_of_name zcp_11⟩
theorem zok_g_heatsCome : zVok zm_g_heatsCome 4 := ⟨(List.mem_of_getElem? (i := 361) (by decide +kernel)), (List.mem_append_left _ (List.mem_map.mpr ⟨(⟨"LemonGate", "heatsCome", "(LLemonGate$Shelf;III)I"⟩, 11), List.mem_of_getElem? (i := 1) (by decide +kernel), rfl⟩)), zci_11, zcn_11.1, zcn_11.2, by decide +kernel⟩
noncomputable def zm_g_spend : zM := (11, ⟨"LemonGate", "spend", "(LLemonGate$Day;III)V"⟩, prog_1_method_45_code, 6, none, [(0, .aload_n 1, 1), (1, .iload_n 2, 1), (2, .aload_n 0, 1), (3, .getfield 10, 3), (6, .iload_n 3, 1), (7, .iload 4, 2), (9, .invokevirtual 333, 3), (12, .iconst 0, 1), (13, .istore 5, 2), (15, .iload 5, 2), (17, .bipush 32, 2), (19, .if_icmp .ge 23, 3), (22, .aload_n 1, 1), (23, .iload 5, 2), (25, .aload_n 0, 1), (26, .getfield 19, 3), (29, .aload_n 0, 1), (30, .getfield 33, 3), (33, .invokevirtual 336, 3), (36, .iinc 5 1, 3), (39, .goto (-24), 3), (42, .return_, 1)])
theorem zmk_g_spend : zMok zm_g_spend := ⟨by decide +kernel, rfl, List.mem_append_right _ (List.mem_of_getElem? (i := 569) (by decide +kernel)), plainFor_of_name zcp_11⟩
theorem zok_g_spend : zVok zm_g_spend 4 := ⟨(List.mem_of_getElem? (i := 568) (by decide +kernel)), (List.mem_append_left _ (List.mem_map.mpr ⟨(⟨"LemonGate", "spend", "(LLemonGate$Day;III)V"⟩, 11), List.mem_of_getElem? (i := 18) (by decide +kernel), rfl⟩)), zci_11, zcn_11.1, zcn_11.2, by decide +kernel⟩
noncomputable def zm_g_firstWrong : zM := (11, ⟨"LemonGate", "firstWrong", "(LLemonGate$Shelf;I)I"⟩, prog_1_method_46_code, 4, some .int, [(0, .aload_n 0, 1), (1, .getfield 44, 3), (4, .iload_n 2, 1), (5, .aload_n 0, 1), (6, .getfield 10, 3), (9, .aload_n 0, 1), (10, .getfield 10, 3), (13, .getfield 126, 3), (16, .iconst 3, 1), (17, .iaload, 1), (18, .aload_n 0, 1), (19, .getfield 10, 3), (22, .getfield 126, 3), (25, .bipush 7, 2), (27, .iaload, 1), (28, .invokevirtual 333, 3), (31, .iconst 0, 1), (32, .istore_n 3, 1), (33, .iload_n 3, 1), (34, .bipush 32, 2), (36, .if_icmp .ge 55, 3), (39, .iload_n 3, 1), (40, .aload_n 1, 1), (41, .getfield 340, 3), (44, .if_icmp .ge 47, 3), (47, .aload_n 0, 1), (48, .getfield 44, 3), (51, .iload_n 3, 1), (52, .aload_n 0, 1), (53, .getfield 19, 3), (56, .aload_n 0, 1), (57, .getfield 33, 3), (60, .invokevirtual 336, 3), (63, .aload_n 0, 1), (64, .getfield 44, 3), (67, .getfield 178, 3), (70, .iload_n 3, 1), (71, .iaload, 1), (72, .i2l, 1), (73, .aload_n 1, 1), (74, .getfield 305, 3), (77, .iload_n 3, 1), (78, .laload, 1), (79, .lcmp, 1), (80, .ifCond .eq 5, 3), (83, .iload_n 3, 1), (84, .ireturn, 1), (85, .iinc 3 1, 3), (88, .goto (-55), 3), (91, .bipush (-2), 2), (93, .ireturn, 1)])
theorem zmk_g_firstWrong : zMok zm_g_firstWrong := ⟨by decide +kernel, rfl, List.mem_append_right _ (List.mem_of_getElem? (i := 659) (by decide +kernel)), plainFor_of_name zcp_11⟩
theorem zok_g_firstWrong : zVok zm_g_firstWrong 2 := ⟨(List.mem_of_getElem? (i := 658) (by decide +kernel)), (List.mem_append_left _ (List.mem_map.mpr ⟨(⟨"LemonGate", "firstWrong", "(LLemonGate$Shelf;I)I"⟩, 11), List.mem_of_getElem? (i := 24) (by decide +kernel), rfl⟩)), zci_11, zcn_11.1, zcn_11.2, by decide +kernel⟩
noncomputable def zm_g_meanGain : zM := (11, ⟨"LemonGate", "meanGain", "(IIII)J"⟩, prog_1_method_47_code, 5, some .long, [(0, .aload_n 0, 1), (1, .getfield 10, 3), (4, .getfield 126, 3), (7, .iconst 3, 1), (8, .iaload, 1), (9, .i2l, 1), (10, .iload_n 1, 1), (11, .iload_n 2, 1), (12, .iload 4, 2), (14, .invokestatic 341, 3), (17, .lmul, 1), (18, .iload_n 3, 1), (19, .iload 4, 2), (21, .imul, 1), (22, .i2l, 1), (23, .ldc2_w 216, 3), (26, .iload_n 1, 1), (27, .invokestatic 218, 3), (30, .lmul, 1), (31, .lsub, 1), (32, .lreturn, 1)])
theorem zmk_g_meanGain : zMok zm_g_meanGain := ⟨by decide +kernel, rfl, List.mem_append_right _ (List.mem_of_getElem? (i := 672) (by decide +kernel)), plainFor_of_name zcp_11⟩
theorem zok_g_meanGain : zVok zm_g_meanGain 4 := ⟨(List.mem_of_getElem? (i := 671) (by decide +kernel)), (List.mem_append_left _ (List.mem_map.mpr ⟨(⟨"LemonGate", "meanGain", "(IIII)J"⟩, 11), List.mem_of_getElem? (i := 25) (by decide +kernel), rfl⟩)), zci_11, zcn_11.1, zcn_11.2, by decide +kernel⟩
noncomputable def zm_m_within : zM := (12, ⟨"LemonGateModel", "within", "(JJJ)Z"⟩, prog_14_method_1_code, 6, some .boolean, [(0, .lload_n 0, 1), (1, .lload_n 2, 1), (2, .lcmp, 1), (3, .ifCond .lt 14, 3), (6, .lload_n 0, 1), (7, .lload 4, 2), (9, .lcmp, 1), (10, .ifCond .gt 7, 3), (13, .iconst 1, 1), (14, .goto 4, 3), (17, .iconst 0, 1), (18, .ireturn, 1)])
theorem zmk_m_within : zMok zm_m_within := ⟨by decide +kernel, rfl, List.mem_append_right _ (List.mem_of_getElem? (i := 1074) (by decide +kernel)), plainFor_of_name zcp_12⟩
theorem zok_m_within : zSok zm_m_within 3 := ⟨(List.mem_of_getElem? (i := 1073) (by decide +kernel)), zci_12, zcn_12.1, zcn_12.2, by decide +kernel⟩
noncomputable def zm_m_becomes : zM := (12, ⟨"LemonGateModel", "becomes", "(II)I"⟩, prog_14_method_3_code, 5, some .int, [(0, .aload_n 0, 1), (1, .getfield 7, 3), (4, .iload_n 1, 1), (5, .iaload, 1), (6, .istore_n 3, 1), (7, .iload_n 3, 1), (8, .iload_n 2, 1), (9, .if_icmp .ne 5, 3), (12, .iload_n 3, 1), (13, .ireturn, 1), (14, .aload_n 0, 1), (15, .getfield 98, 3), (18, .bipush 40, 2), (20, .if_icmp .ne 77, 3), (23, .iconst 1, 1), (24, .istore 4, 2), (26, .iload 4, 2), (28, .bipush 40, 2), (30, .if_icmp .ge 57, 3), (33, .aload_n 0, 1), (34, .getfield 13, 3), (37, .iload 4, 2), (39, .iconst 1, 1), (40, .isub, 1), (41, .aload_n 0, 1), (42, .getfield 13, 3), (45, .iload 4, 2), (47, .iaload, 1), (48, .iastore, 1), (49, .aload_n 0, 1), (50, .getfield 16, 3), (53, .iload 4, 2), (55, .iconst 1, 1), (56, .isub, 1), (57, .aload_n 0, 1), (58, .getfield 16, 3), (61, .iload 4, 2), (63, .iaload, 1), (64, .iastore, 1), (65, .aload_n 0, 1), (66, .getfield 19, 3), (69, .iload 4, 2), (71, .iconst 1, 1), (72, .isub, 1), (73, .aload_n 0, 1), (74, .getfield 19, 3), (77, .iload 4, 2), (79, .iaload, 1), (80, .iastore, 1), (81, .iinc 4 1, 3), (84, .goto (-58), 3), (87, .aload_n 0, 1), (88, .dup, 1), (89, .getfield 98, 3), (92, .iconst 1, 1), (93, .isub, 1), (94, .putfield 98, 3), (97, .aload_n 0, 1), (98, .getfield 13, 3), (101, .aload_n 0, 1), (102, .getfield 98, 3), (105, .iload_n 1, 1), (106, .iastore, 1), (107, .aload_n 0, 1), (108, .getfield 16, 3), (111, .aload_n 0, 1), (112, .getfield 98, 3), (115, .iload_n 3, 1), (116, .iastore, 1), (117, .aload_n 0, 1), (118, .getfield 19, 3), (121, .aload_n 0, 1), (122, .getfield 98, 3), (125, .iload_n 2, 1), (126, .iastore, 1), (127, .aload_n 0, 1), (128, .dup, 1), (129, .getfield 98, 3), (132, .iconst 1, 1), (133, .iadd, 1), (134, .putfield 98, 3), (137, .aload_n 0, 1), (138, .aload_n 0, 1), (139, .getfield 98, 3), (142, .putfield 102, 3), (145, .aload_n 0, 1), (146, .getfield 7, 3), (149, .iload_n 1, 1), (150, .iload_n 2, 1), (151, .iastore, 1), (152, .iload_n 3, 1), (153, .ireturn, 1)])
theorem zmk_m_becomes : zMok zm_m_becomes := ⟨by decide +kernel, rfl, List.mem_append_right _ (List.mem_of_getElem? (i := 1118) (by decide +kernel)), plainFor_of_name zcp_12⟩
theorem zok_m_becomes : zVok zm_m_becomes 2 := ⟨(List.mem_of_getElem? (i := 1117) (by decide +kernel)), (List.mem_append_left _ (List.mem_map.mpr ⟨(⟨"LemonGateModel", "becomes", "(II)I"⟩, 51), List.mem_of_getElem? (i := 31) (by decide +kernel), rfl⟩)), zci_12, zcn_12.1, zcn_12.2, by decide +kernel⟩
noncomputable def zm_m_undo : zM := (12, ⟨"LemonGateModel", "undo", "()I"⟩, prog_14_method_4_code, 1, some .int, [(0, .aload_n 0, 1), (1, .getfield 98, 3), (4, .ifCond .ne 6, 3), (7, .bipush (-5), 2), (9, .ireturn, 1), (10, .aload_n 0, 1), (11, .dup, 1), (12, .getfield 98, 3), (15, .iconst 1, 1), (16, .isub, 1), (17, .putfield 98, 3), (20, .aload_n 0, 1), (21, .getfield 7, 3), (24, .aload_n 0, 1), (25, .getfield 13, 3), (28, .aload_n 0, 1), (29, .getfield 98, 3), (32, .iaload, 1), (33, .aload_n 0, 1), (34, .getfield 16, 3), (37, .aload_n 0, 1), (38, .getfield 98, 3), (41, .iaload, 1), (42, .iastore, 1), (43, .aload_n 0, 1), (44, .getfield 98, 3), (47, .ireturn, 1)])
theorem zmk_m_undo : zMok zm_m_undo := ⟨by decide +kernel, rfl, List.mem_append_right _ (List.mem_of_getElem? (i := 1059) (by decide +kernel)), plainFor_of_name zcp_12⟩
theorem zok_m_undo : zVok zm_m_undo 0 := ⟨(List.mem_of_getElem? (i := 1057) (by decide +kernel)), (List.mem_append_right _ (List.mem_of_getElem? (i := 1058) (by decide +kernel))), zci_12, zcn_12.1, zcn_12.2, by decide +kernel⟩
noncomputable def zm_m_redo : zM := (12, ⟨"LemonGateModel", "redo", "()I"⟩, prog_14_method_5_code, 1, some .int, [(0, .aload_n 0, 1), (1, .getfield 98, 3), (4, .aload_n 0, 1), (5, .getfield 102, 3), (8, .if_icmp .ne 6, 3), (11, .bipush (-5), 2), (13, .ireturn, 1), (14, .aload_n 0, 1), (15, .getfield 7, 3), (18, .aload_n 0, 1), (19, .getfield 13, 3), (22, .aload_n 0, 1), (23, .getfield 98, 3), (26, .iaload, 1), (27, .aload_n 0, 1), (28, .getfield 19, 3), (31, .aload_n 0, 1), (32, .getfield 98, 3), (35, .iaload, 1), (36, .iastore, 1), (37, .aload_n 0, 1), (38, .dup, 1), (39, .getfield 98, 3), (42, .iconst 1, 1), (43, .iadd, 1), (44, .putfield 98, 3), (47, .aload_n 0, 1), (48, .getfield 102, 3), (51, .aload_n 0, 1), (52, .getfield 98, 3), (55, .isub, 1), (56, .ireturn, 1)])
theorem zmk_m_redo : zMok zm_m_redo := ⟨by decide +kernel, rfl, List.mem_append_right _ (List.mem_of_getElem? (i := 1063) (by decide +kernel)), plainFor_of_name zcp_12⟩
theorem zok_m_redo : zVok zm_m_redo 0 := ⟨(List.mem_of_getElem? (i := 1061) (by decide +kernel)), (List.mem_append_right _ (List.mem_of_getElem? (i := 1062) (by decide +kernel))), zci_12, zcn_12.1, zcn_12.2, by decide +kernel⟩
noncomputable def zm_m_isQuarter : zM := (12, ⟨"LemonGateModel", "isQuarter", "(I)Z"⟩, prog_14_method_6_code, 1, some .boolean, [(0, .iload_n 0, 1), (1, .i2l, 1), (2, .lconst 0, 1), (3, .ldc2_w 105, 3), (6, .invokestatic 107, 3), (9, .ireturn, 1)])
theorem zmk_m_isQuarter : zMok zm_m_isQuarter := ⟨by decide +kernel, rfl, List.mem_append_right _ (List.mem_of_getElem? (i := 1070) (by decide +kernel)), plainFor_of_name zcp_12⟩
theorem zok_m_isQuarter : zSok zm_m_isQuarter 1 := ⟨(List.mem_of_getElem? (i := 1069) (by decide +kernel)), zci_12, zcn_12.1, zcn_12.2, by decide +kernel⟩
noncomputable def zm_m_isPlace : zM := (12, ⟨"LemonGateModel", "isPlace", "(I)Z"⟩, prog_14_method_7_code, 2, some .boolean, [(0, .iload_n 1, 1), (1, .i2l, 1), (2, .lconst 0, 1), (3, .aload_n 0, 1), (4, .getfield 111, 3), (7, .iconst 1, 1), (8, .isub, 1), (9, .i2l, 1), (10, .invokestatic 107, 3), (13, .ireturn, 1)])
theorem zmk_m_isPlace : zMok zm_m_isPlace := ⟨by decide +kernel, rfl, List.mem_append_right _ (List.mem_of_getElem? (i := 1096) (by decide +kernel)), plainFor_of_name zcp_12⟩
theorem zok_m_isPlace : zVok zm_m_isPlace 1 := ⟨(List.mem_of_getElem? (i := 1095) (by decide +kernel)), (List.mem_append_left _ (List.mem_map.mpr ⟨(⟨"LemonGateModel", "isPlace", "(I)Z"⟩, 51), List.mem_of_getElem? (i := 30) (by decide +kernel), rfl⟩)), zci_12, zcn_12.1, zcn_12.2, by decide +kernel⟩
noncomputable def zm_m_isFt : zM := (12, ⟨"LemonGateModel", "isFt", "(I)Z"⟩, prog_14_method_8_code, 1, some .boolean, [(0, .iload_n 0, 1), (1, .ifCond .lt 28, 3), (4, .iload_n 0, 1), (5, .bipush 100, 2), (7, .idiv, 1), (8, .iload_n 0, 1), (9, .bipush 100, 2), (11, .irem, 1), (12, .if_icmp .gt 17, 3), (15, .iload_n 0, 1), (16, .bipush 100, 2), (18, .irem, 1), (19, .invokestatic 114, 3), (22, .ifCond .eq 7, 3), (25, .iconst 1, 1), (26, .goto 4, 3), (29, .iconst 0, 1), (30, .ireturn, 1)])
theorem zmk_m_isFt : zMok zm_m_isFt := ⟨by decide +kernel, rfl, List.mem_append_right _ (List.mem_of_getElem? (i := 1099) (by decide +kernel)), plainFor_of_name zcp_12⟩
theorem zok_m_isFt : zSok zm_m_isFt 1 := ⟨(List.mem_of_getElem? (i := 1098) (by decide +kernel)), zci_12, zcn_12.1, zcn_12.2, by decide +kernel⟩
noncomputable def zm_m_heat : zM := (12, ⟨"LemonGateModel", "heat", "(II)I"⟩, prog_14_method_9_code, 4, some .int, [(0, .iload_n 1, 1), (1, .invokestatic 114, 3), (4, .ifCond .eq 15, 3), (7, .iload_n 2, 1), (8, .i2l, 1), (9, .lconst 0, 1), (10, .ldc2_w 118, 3), (13, .invokestatic 107, 3), (16, .ifCond .ne 5, 3), (19, .iconst (-1), 1), (20, .ireturn, 1), (21, .aload_n 0, 1), (22, .getfield 22, 3), (25, .iload_n 1, 1), (26, .iaload, 1), (27, .istore_n 3, 1), (28, .aload_n 0, 1), (29, .getfield 22, 3), (32, .iload_n 1, 1), (33, .iload_n 2, 1), (34, .iastore, 1), (35, .iload_n 3, 1), (36, .ireturn, 1)])
theorem zmk_m_heat : zMok zm_m_heat := ⟨by decide +kernel, rfl, List.mem_append_right _ (List.mem_of_getElem? (i := 1067) (by decide +kernel)), plainFor_of_name zcp_12⟩
theorem zok_m_heat : zVok zm_m_heat 2 := ⟨(List.mem_of_getElem? (i := 1065) (by decide +kernel)), (List.mem_append_right _ (List.mem_of_getElem? (i := 1066) (by decide +kernel))), zci_12, zcn_12.1, zcn_12.2, by decide +kernel⟩
noncomputable def zm_m_heats : zM := (12, ⟨"LemonGateModel", "heats", "(III)I"⟩, prog_14_method_10_code, 6, some .int, [(0, .iload_n 1, 1), (1, .invokestatic 120, 3), (4, .ifCond .eq 32, 3), (7, .iload_n 3, 1), (8, .ifCond .lt 28, 3), (11, .iload_n 3, 1), (12, .bipush 100, 2), (14, .idiv, 1), (15, .invokestatic 114, 3), (18, .ifCond .eq 18, 3), (21, .iload_n 3, 1), (22, .bipush 100, 2), (24, .irem, 1), (25, .i2l, 1), (26, .lconst 1, 1), (27, .ldc2_w 123, 3), (30, .invokestatic 107, 3), (33, .ifCond .ne 5, 3), (36, .iconst (-1), 1), (37, .ireturn, 1), (38, .aload_n 0, 1), (39, .getfield 86, 3), (42, .iload_n 1, 1), (43, .iaload, 1), (44, .ifCond .lt 17, 3), (47, .aload_n 0, 1), (48, .getfield 86, 3), (51, .iload_n 1, 1), (52, .iaload, 1), (53, .bipush 50, 2), (55, .if_icmp .eq 6, 3), (58, .bipush (-12), 2), (60, .ireturn, 1), (61, .iconst 0, 1), (62, .istore 4, 2), (64, .aload_n 0, 1), (65, .getfield 86, 3), (68, .iload_n 1, 1), (69, .iaload, 1), (70, .bipush 50, 2), (72, .if_icmp .ne 11, 3), (75, .iload_n 2, 1), (76, .ifCond .lt 7, 3), (79, .iconst 1, 1), (80, .goto 4, 3), (83, .iconst 0, 1), (84, .istore 5, 2), (86, .iload 5, 2), (88, .ifCond .eq 109, 3), (91, .iload 4, 2), (93, .iload_n 3, 1), (94, .bipush 100, 2), (96, .irem, 1), (97, .if_icmp .ge 100, 3), (100, .iload_n 2, 1), (101, .aload_n 0, 1), (102, .getfield 89, 3), (105, .iload_n 1, 1), (106, .iaload, 1), (107, .iconst 1, 1), (108, .isub, 1), (109, .iload 4, 2), (111, .isub, 1), (112, .if_icmp .gt 44, 3), (115, .iload_n 3, 1), (116, .bipush 100, 2), (118, .idiv, 1), (119, .iload 4, 2), (121, .iadd, 1), (122, .invokestatic 114, 3), (125, .ifCond .eq 31, 3), (128, .aload_n 0, 1), (129, .getfield 92, 3), (132, .bipush 60, 2), (134, .iload_n 1, 1), (135, .imul, 1), (136, .iload_n 2, 1), (137, .iadd, 1), (138, .iload 4, 2), (140, .iadd, 1), (141, .laload, 1), (142, .lconst 0, 1), (143, .ldc2_w 118, 3), (146, .invokestatic 107, 3), (149, .ifCond .eq 7, 3), (152, .iconst 1, 1), (153, .goto 4, 3), (156, .iconst 0, 1), (157, .istore 5, 2), (159, .iload 5, 2), (161, .ifCond .eq (-75), 3), (164, .aload_n 0, 1), (165, .getfield 22, 3), (168, .iload_n 3, 1), (169, .bipush 100, 2), (171, .idiv, 1), (172, .iload 4, 2), (174, .iadd, 1), (175, .aload_n 0, 1), (176, .getfield 92, 3), (179, .bipush 60, 2), (181, .iload_n 1, 1), (182, .imul, 1), (183, .iload_n 2, 1), (184, .iadd, 1), (185, .iload 4, 2), (187, .iadd, 1), (188, .laload, 1), (189, .l2i, 1), (190, .iastore, 1), (191, .iinc 4 1, 3), (194, .goto (-108), 3), (197, .iload 4, 2), (199, .ireturn, 1)])
theorem zmk_m_heats : zMok zm_m_heats := ⟨by decide +kernel, rfl, List.mem_append_right _ (List.mem_of_getElem? (i := 1079) (by decide +kernel)), plainFor_of_name zcp_12⟩
theorem zok_m_heats : zVok zm_m_heats 3 := ⟨(List.mem_of_getElem? (i := 1077) (by decide +kernel)), (List.mem_append_right _ (List.mem_of_getElem? (i := 1078) (by decide +kernel))), zci_12, zcn_12.1, zcn_12.2, by decide +kernel⟩
noncomputable def zm_m_place : zM := (12, ⟨"LemonGateModel", "place", "()I"⟩, prog_14_method_11_code, 1, some .int, [(0, .aload_n 0, 1), (1, .getfield 111, 3), (4, .iconst 4, 1), (5, .if_icmp .ne 6, 3), (8, .bipush (-3), 2), (10, .ireturn, 1), (11, .aload_n 0, 1), (12, .dup, 1), (13, .getfield 111, 3), (16, .iconst 1, 1), (17, .iadd, 1), (18, .putfield 111, 3), (21, .aload_n 0, 1), (22, .getfield 111, 3), (25, .iconst 1, 1), (26, .isub, 1), (27, .ireturn, 1)])
theorem zmk_m_place : zMok zm_m_place := ⟨by decide +kernel, rfl, List.mem_append_right _ (List.mem_of_getElem? (i := 1088) (by decide +kernel)), plainFor_of_name zcp_12⟩
theorem zok_m_place : zVok zm_m_place 0 := ⟨(List.mem_of_getElem? (i := 1086) (by decide +kernel)), (List.mem_append_right _ (List.mem_of_getElem? (i := 1087) (by decide +kernel))), zci_12, zcn_12.1, zcn_12.2, by decide +kernel⟩
noncomputable def zm_m_flow : zM := (12, ⟨"LemonGateModel", "flow", "(III)I"⟩, prog_14_method_12_code, 5, some .int, [(0, .aload_n 0, 1), (1, .iload_n 1, 1), (2, .invokevirtual 125, 3), (5, .ifCond .eq 22, 3), (8, .iload_n 2, 1), (9, .invokestatic 128, 3), (12, .ifCond .eq 15, 3), (15, .iload_n 3, 1), (16, .i2l, 1), (17, .lconst 0, 1), (18, .ldc2_w 131, 3), (21, .invokestatic 107, 3), (24, .ifCond .ne 5, 3), (27, .iconst (-1), 1), (28, .ireturn, 1), (29, .iload_n 2, 1), (30, .bipush 100, 2), (32, .idiv, 1), (33, .istore 4, 2), (35, .iload 4, 2), (37, .iload_n 2, 1), (38, .bipush 100, 2), (40, .irem, 1), (41, .if_icmp .gt 22, 3), (44, .aload_n 0, 1), (45, .getfield 28, 3), (48, .bipush 32, 2), (50, .iload_n 1, 1), (51, .imul, 1), (52, .iload 4, 2), (54, .iadd, 1), (55, .iload_n 3, 1), (56, .iastore, 1), (57, .iinc 4 1, 3), (60, .goto (-25), 3), (63, .iload_n 2, 1), (64, .bipush 100, 2), (66, .irem, 1), (67, .iload_n 2, 1), (68, .bipush 100, 2), (70, .idiv, 1), (71, .isub, 1), (72, .iconst 1, 1), (73, .iadd, 1), (74, .ireturn, 1)])
theorem zmk_m_flow : zMok zm_m_flow := ⟨by decide +kernel, rfl, List.mem_append_right _ (List.mem_of_getElem? (i := 1092) (by decide +kernel)), plainFor_of_name zcp_12⟩
theorem zok_m_flow : zVok zm_m_flow 3 := ⟨(List.mem_of_getElem? (i := 1090) (by decide +kernel)), (List.mem_append_right _ (List.mem_of_getElem? (i := 1091) (by decide +kernel))), zci_12, zcn_12.1, zcn_12.2, by decide +kernel⟩
noncomputable def zm_m_stand : zM := (12, ⟨"LemonGateModel", "stand", "(II)I"⟩, prog_14_method_13_code, 4, some .int, [(0, .iload_n 1, 1), (1, .iconst (-1), 1), (2, .if_icmp .eq 11, 3), (5, .aload_n 0, 1), (6, .iload_n 1, 1), (7, .invokevirtual 125, 3), (10, .ifCond .eq 10, 3), (13, .iload_n 2, 1), (14, .invokestatic 128, 3), (17, .ifCond .ne 5, 3), (20, .iconst (-1), 1), (21, .ireturn, 1), (22, .iload_n 2, 1), (23, .bipush 100, 2), (25, .idiv, 1), (26, .istore_n 3, 1), (27, .iload_n 3, 1), (28, .iload_n 2, 1), (29, .bipush 100, 2), (31, .irem, 1), (32, .if_icmp .gt 16, 3), (35, .aload_n 0, 1), (36, .getfield 25, 3), (39, .iload_n 3, 1), (40, .iload_n 1, 1), (41, .iastore, 1), (42, .iinc 3 1, 3), (45, .goto (-18), 3), (48, .iload_n 2, 1), (49, .bipush 100, 2), (51, .irem, 1), (52, .iload_n 2, 1), (53, .bipush 100, 2), (55, .idiv, 1), (56, .isub, 1), (57, .iconst 1, 1), (58, .iadd, 1), (59, .ireturn, 1)])
theorem zmk_m_stand : zMok zm_m_stand := ⟨by decide +kernel, rfl, List.mem_append_right _ (List.mem_of_getElem? (i := 1104) (by decide +kernel)), plainFor_of_name zcp_12⟩
theorem zok_m_stand : zVok zm_m_stand 2 := ⟨(List.mem_of_getElem? (i := 1102) (by decide +kernel)), (List.mem_append_right _ (List.mem_of_getElem? (i := 1103) (by decide +kernel))), zci_12, zcn_12.1, zcn_12.2, by decide +kernel⟩
noncomputable def zm_m_mayBe : zM := (12, ⟨"LemonGateModel", "mayBe", "(II)Z"⟩, prog_14_method_14_code, 2, some .boolean, [(0, .iload_n 0, 1), (1, .tableswitch 97 0 7 #[47, 47, 57, 67, 67, 77, 87, 47], 47), (48, .iload_n 1, 1), (49, .i2l, 1), (50, .lconst 0, 1), (51, .ldc2_w 131, 3), (54, .invokestatic 107, 3), (57, .ireturn, 1), (58, .iload_n 1, 1), (59, .i2l, 1), (60, .lconst 1, 1), (61, .ldc2_w 133, 3), (64, .invokestatic 107, 3), (67, .ireturn, 1), (68, .iload_n 1, 1), (69, .i2l, 1), (70, .lconst 0, 1), (71, .ldc2_w 135, 3), (74, .invokestatic 107, 3), (77, .ireturn, 1), (78, .iload_n 1, 1), (79, .i2l, 1), (80, .lconst 1, 1), (81, .ldc2_w 123, 3), (84, .invokestatic 107, 3), (87, .ireturn, 1), (88, .iload_n 1, 1), (89, .i2l, 1), (90, .lconst 0, 1), (91, .ldc2_w 137, 3), (94, .invokestatic 107, 3), (97, .ireturn, 1), (98, .iconst 0, 1), (99, .ireturn, 1)])
theorem zmk_m_mayBe : zMok zm_m_mayBe := ⟨by decide +kernel, rfl, List.mem_append_right _ (List.mem_of_getElem? (i := 1111) (by decide +kernel)), plainFor_of_name zcp_12⟩
theorem zok_m_mayBe : zSok zm_m_mayBe 2 := ⟨(List.mem_of_getElem? (i := 1110) (by decide +kernel)), zci_12, zcn_12.1, zcn_12.2, by decide +kernel⟩
noncomputable def zm_m_mend : zM := (12, ⟨"LemonGateModel", "mend", "(II)I"⟩, prog_14_method_15_code, 3, some .int, [(0, .iload_n 1, 1), (1, .iload_n 2, 1), (2, .invokestatic 139, 3), (5, .ifCond .eq 12, 3), (8, .aload_n 0, 1), (9, .iload_n 1, 1), (10, .iload_n 2, 1), (11, .invokevirtual 143, 3), (14, .goto 4, 3), (17, .iconst (-1), 1), (18, .ireturn, 1)])
theorem zmk_m_mend : zMok zm_m_mend := ⟨by decide +kernel, rfl, List.mem_append_right _ (List.mem_of_getElem? (i := 1108) (by decide +kernel)), plainFor_of_name zcp_12⟩
theorem zok_m_mend : zVok zm_m_mend 2 := ⟨(List.mem_of_getElem? (i := 1106) (by decide +kernel)), (List.mem_append_right _ (List.mem_of_getElem? (i := 1107) (by decide +kernel))), zci_12, zcn_12.1, zcn_12.2, by decide +kernel⟩
noncomputable def zm_m_jugCost : zM := (12, ⟨"LemonGateModel", "jugCost", "()I"⟩, prog_14_method_16_code, 1, some .int, [(0, .iconst 3, 1), (1, .aload_n 0, 1), (2, .getfield 7, 3), (5, .iconst 0, 1), (6, .iaload, 1), (7, .imul, 1), (8, .aload_n 0, 1), (9, .getfield 7, 3), (12, .iconst 1, 1), (13, .iaload, 1), (14, .iadd, 1), (15, .ireturn, 1)])
theorem zmk_m_jugCost : zMok zm_m_jugCost := ⟨by decide +kernel, rfl, List.mem_append_right _ (List.mem_of_getElem? (i := 1128) (by decide +kernel)), plainFor_of_name zcp_12⟩
theorem zok_m_jugCost : zVok zm_m_jugCost 0 := ⟨(List.mem_of_getElem? (i := 1127) (by decide +kernel)), (List.mem_append_left _ (List.mem_map.mpr ⟨(⟨"LemonGateModel", "jugCost", "()I"⟩, 51), List.mem_of_getElem? (i := 32) (by decide +kernel), rfl⟩)), zci_12, zcn_12.1, zcn_12.2, by decide +kernel⟩
noncomputable def zm_m_of : zM := (12, ⟨"LemonGateModel", "of", "(I)I"⟩, prog_14_method_17_code, 3, some .int, [(0, .iload_n 1, 1), (1, .i2l, 1), (2, .lconst 0, 1), (3, .ldc2_w 147, 3), (6, .invokestatic 107, 3), (9, .ifCond .eq 10, 3), (12, .aload_n 0, 1), (13, .getfield 7, 3), (16, .iload_n 1, 1), (17, .iaload, 1), (18, .ireturn, 1), (19, .iload_n 1, 1), (20, .i2l, 1), (21, .ldc2_w 149, 3), (24, .ldc2_w 131, 3), (27, .invokestatic 107, 3), (30, .ifCond .eq 28, 3), (33, .iload_n 1, 1), (34, .bipush 8, 2), (36, .if_icmp .ne 10, 3), (39, .aload_n 0, 1), (40, .invokevirtual 151, 3), (43, .goto 14, 3), (46, .aload_n 0, 1), (47, .invokevirtual 151, 3), (50, .aload_n 0, 1), (51, .getfield 7, 3), (54, .iconst 2, 1), (55, .iaload, 1), (56, .idiv, 1), (57, .ireturn, 1), (58, .iload_n 1, 1), (59, .sipush 1000, 3), (62, .if_icmp .lt 50, 3), (65, .iload_n 1, 1), (66, .sipush 1000, 3), (69, .isub, 1), (70, .bipush 100, 2), (72, .idiv, 1), (73, .istore_n 2, 1), (74, .aload_n 0, 1), (75, .iload_n 2, 1), (76, .invokevirtual 125, 3), (79, .ifCond .eq 30, 3), (82, .iload_n 1, 1), (83, .bipush 100, 2), (85, .irem, 1), (86, .invokestatic 114, 3), (89, .ifCond .eq 20, 3), (92, .aload_n 0, 1), (93, .getfield 28, 3), (96, .bipush 32, 2), (98, .iload_n 2, 1), (99, .imul, 1), (100, .iload_n 1, 1), (101, .bipush 100, 2), (103, .irem, 1), (104, .iadd, 1), (105, .iaload, 1), (106, .goto 5, 3), (109, .ldc 155, 2), (111, .ireturn, 1), (112, .iload_n 1, 1), (113, .i2l, 1), (114, .ldc2_w 156, 3), (117, .ldc2_w 158, 3), (120, .invokestatic 107, 3), (123, .ifCond .eq 13, 3), (126, .iload_n 1, 1), (127, .bipush 100, 2), (129, .irem, 1), (130, .invokestatic 114, 3), (133, .ifCond .ne 6, 3), (136, .ldc 155, 2), (138, .ireturn, 1), (139, .iload_n 1, 1), (140, .sipush 200, 3), (143, .if_icmp .ge 15, 3), (146, .aload_n 0, 1), (147, .getfield 22, 3), (150, .iload_n 1, 1), (151, .bipush 100, 2), (153, .isub, 1), (154, .iaload, 1), (155, .goto 13, 3), (158, .aload_n 0, 1), (159, .getfield 25, 3), (162, .iload_n 1, 1), (163, .sipush 200, 3), (166, .isub, 1), (167, .iaload, 1), (168, .ireturn, 1)])
theorem zmk_m_of : zMok zm_m_of := ⟨by decide +kernel, rfl, List.mem_append_right _ (List.mem_of_getElem? (i := 1122) (by decide +kernel)), plainFor_of_name zcp_12⟩
theorem zok_m_of : zVok zm_m_of 1 := ⟨(List.mem_of_getElem? (i := 1120) (by decide +kernel)), (List.mem_append_right _ (List.mem_of_getElem? (i := 1121) (by decide +kernel))), zci_12, zcn_12.1, zcn_12.2, by decide +kernel⟩
noncomputable def zm_m_feed : zM := (12, ⟨"LemonGateModel", "feed", "(I)I"⟩, prog_14_method_18_code, 2, some .int, [(0, .iload_n 1, 1), (1, .i2l, 1), (2, .lconst 0, 1), (3, .ldc2_w 160, 3), (6, .invokestatic 107, 3), (9, .ifCond .ne 5, 3), (12, .iconst (-1), 1), (13, .ireturn, 1), (14, .aload_n 0, 1), (15, .getfield 162, 3), (18, .bipush 120, 2), (20, .if_icmp .ne 6, 3), (23, .bipush (-3), 2), (25, .ireturn, 1), (26, .aload_n 0, 1), (27, .getfield 31, 3), (30, .aload_n 0, 1), (31, .getfield 162, 3), (34, .iload_n 1, 1), (35, .iastore, 1), (36, .aload_n 0, 1), (37, .dup, 1), (38, .getfield 162, 3), (41, .iconst 1, 1), (42, .iadd, 1), (43, .putfield 162, 3), (46, .aload_n 0, 1), (47, .getfield 162, 3), (50, .ireturn, 1)])
theorem zmk_m_feed : zMok zm_m_feed := ⟨by decide +kernel, rfl, List.mem_append_right _ (List.mem_of_getElem? (i := 1135) (by decide +kernel)), plainFor_of_name zcp_12⟩
theorem zok_m_feed : zVok zm_m_feed 1 := ⟨(List.mem_of_getElem? (i := 1133) (by decide +kernel)), (List.mem_append_right _ (List.mem_of_getElem? (i := 1134) (by decide +kernel))), zci_12, zcn_12.1, zcn_12.2, by decide +kernel⟩
noncomputable def zm_m_byteAt : zM := (12, ⟨"LemonGateModel", "byteAt", "()I"⟩, prog_14_method_19_code, 1, some .int, [(0, .aload_n 0, 1), (1, .getfield 165, 3), (4, .aload_n 0, 1), (5, .getfield 168, 3), (8, .if_icmp .ge 39, 3), (11, .aload_n 0, 1), (12, .getfield 171, 3), (15, .ifCond .ge 15, 3), (18, .aload_n 0, 1), (19, .getfield 31, 3), (22, .aload_n 0, 1), (23, .getfield 165, 3), (26, .iaload, 1), (27, .goto 21, 3), (30, .aload_n 0, 1), (31, .getfield 34, 3), (34, .aload_n 0, 1), (35, .getfield 171, 3), (38, .aload_n 0, 1), (39, .getfield 165, 3), (42, .iadd, 1), (43, .iaload, 1), (44, .goto 4, 3), (47, .iconst 0, 1), (48, .ireturn, 1)])
theorem zmk_m_byteAt : zMok zm_m_byteAt := ⟨by decide +kernel, rfl, List.mem_append_right _ (List.mem_of_getElem? (i := 1172) (by decide +kernel)), plainFor_of_name zcp_12⟩
theorem zok_m_byteAt : zVok zm_m_byteAt 0 := ⟨(List.mem_of_getElem? (i := 1171) (by decide +kernel)), (List.mem_append_left _ (List.mem_map.mpr ⟨(⟨"LemonGateModel", "byteAt", "()I"⟩, 51), List.mem_of_getElem? (i := 40) (by decide +kernel), rfl⟩)), zci_12, zcn_12.1, zcn_12.2, by decide +kernel⟩
noncomputable def zm_m_wrong : zM := (12, ⟨"LemonGateModel", "wrong", "()I"⟩, prog_14_method_20_code, 1, some .int, [(0, .aload_n 0, 1), (1, .aload_n 0, 1), (2, .getfield 174, 3), (5, .ifCond .ge 10, 3), (8, .aload_n 0, 1), (9, .getfield 165, 3), (12, .goto 7, 3), (15, .aload_n 0, 1), (16, .getfield 174, 3), (19, .putfield 174, 3), (22, .iconst 0, 1), (23, .ireturn, 1)])
theorem zmk_m_wrong : zMok zm_m_wrong := ⟨by decide +kernel, rfl, List.mem_append_right _ (List.mem_of_getElem? (i := 1176) (by decide +kernel)), plainFor_of_name zcp_12⟩
theorem zok_m_wrong : zVok zm_m_wrong 0 := ⟨(List.mem_of_getElem? (i := 1175) (by decide +kernel)), (List.mem_append_left _ (List.mem_map.mpr ⟨(⟨"LemonGateModel", "wrong", "()I"⟩, 51), List.mem_of_getElem? (i := 41) (by decide +kernel), rfl⟩)), zci_12, zcn_12.1, zcn_12.2, by decide +kernel⟩
noncomputable def zm_m_takes : zM := (12, ⟨"LemonGateModel", "takes", "(I)Z"⟩, prog_14_method_21_code, 2, some .boolean, [(0, .aload_n 0, 1), (1, .getfield 174, 3), (4, .ifCond .ge 11, 3), (7, .aload_n 0, 1), (8, .invokevirtual 177, 3), (11, .iload_n 1, 1), (12, .if_icmp .eq 5, 3), (15, .iconst 0, 1), (16, .ireturn, 1), (17, .aload_n 0, 1), (18, .dup, 1), (19, .getfield 165, 3), (22, .iconst 1, 1), (23, .iadd, 1), (24, .putfield 165, 3), (27, .iconst 1, 1), (28, .ireturn, 1)])
theorem zmk_m_takes : zMok zm_m_takes := ⟨by decide +kernel, rfl, List.mem_append_right _ (List.mem_of_getElem? (i := 1180) (by decide +kernel)), plainFor_of_name zcp_12⟩
theorem zok_m_takes : zVok zm_m_takes 1 := ⟨(List.mem_of_getElem? (i := 1179) (by decide +kernel)), (List.mem_append_left _ (List.mem_map.mpr ⟨(⟨"LemonGateModel", "takes", "(I)Z"⟩, 51), List.mem_of_getElem? (i := 42) (by decide +kernel), rfl⟩)), zci_12, zcn_12.1, zcn_12.2, by decide +kernel⟩
noncomputable def zm_m_either : zM := (12, ⟨"LemonGateModel", "either", "()I"⟩, prog_14_method_22_code, 3, some .int, [(0, .aload_n 0, 1), (1, .invokevirtual 180, 3), (4, .istore_n 1, 1), (5, .aload_n 0, 1), (6, .bipush 124, 2), (8, .invokevirtual 183, 3), (11, .ifCond .eq 25, 3), (14, .aload_n 0, 1), (15, .invokevirtual 180, 3), (18, .istore_n 2, 1), (19, .iload_n 1, 1), (20, .ifCond .ne 7, 3), (23, .iload_n 2, 1), (24, .ifCond .eq 7, 3), (27, .iconst 1, 1), (28, .goto 4, 3), (31, .iconst 0, 1), (32, .istore_n 1, 1), (33, .goto (-28), 3), (36, .iload_n 1, 1), (37, .ireturn, 1)])
theorem zmk_m_either : zMok zm_m_either := ⟨by decide +kernel, rfl, List.mem_append_right _ (List.mem_of_getElem? (i := 1148) (by decide +kernel)), plainFor_of_name zcp_12⟩
theorem zok_m_either : zVok zm_m_either 0 := ⟨(List.mem_of_getElem? (i := 1147) (by decide +kernel)), (List.mem_append_left _ (List.mem_map.mpr ⟨(⟨"LemonGateModel", "either", "()I"⟩, 51), List.mem_of_getElem? (i := 34) (by decide +kernel), rfl⟩)), zci_12, zcn_12.1, zcn_12.2, by decide +kernel⟩
noncomputable def zm_m_both : zM := (12, ⟨"LemonGateModel", "both", "()I"⟩, prog_14_method_23_code, 3, some .int, [(0, .aload_n 0, 1), (1, .invokevirtual 186, 3), (4, .istore_n 1, 1), (5, .aload_n 0, 1), (6, .bipush 38, 2), (8, .invokevirtual 183, 3), (11, .ifCond .eq 25, 3), (14, .aload_n 0, 1), (15, .invokevirtual 186, 3), (18, .istore_n 2, 1), (19, .iload_n 1, 1), (20, .ifCond .eq 11, 3), (23, .iload_n 2, 1), (24, .ifCond .eq 7, 3), (27, .iconst 1, 1), (28, .goto 4, 3), (31, .iconst 0, 1), (32, .istore_n 1, 1), (33, .goto (-28), 3), (36, .iload_n 1, 1), (37, .ireturn, 1)])
theorem zmk_m_both : zMok zm_m_both := ⟨by decide +kernel, rfl, List.mem_append_right _ (List.mem_of_getElem? (i := 1152) (by decide +kernel)), plainFor_of_name zcp_12⟩
theorem zok_m_both : zVok zm_m_both 0 := ⟨(List.mem_of_getElem? (i := 1151) (by decide +kernel)), (List.mem_append_left _ (List.mem_map.mpr ⟨(⟨"LemonGateModel", "both", "()I"⟩, 51), List.mem_of_getElem? (i := 35) (by decide +kernel), rfl⟩)), zci_12, zcn_12.1, zcn_12.2, by decide +kernel⟩
noncomputable def zm_m_compared : zM := (12, ⟨"LemonGateModel", "compared", "()I"⟩, prog_14_method_24_code, 4, some .int, [(0, .aload_n 0, 1), (1, .invokevirtual 189, 3), (4, .istore_n 1, 1), (5, .aload_n 0, 1), (6, .invokevirtual 177, 3), (9, .istore_n 2, 1), (10, .aload_n 0, 1), (11, .getfield 174, 3), (14, .ifCond .ge 21, 3), (17, .iload_n 2, 1), (18, .bipush 60, 2), (20, .if_icmp .eq 17, 3), (23, .iload_n 2, 1), (24, .bipush 61, 2), (26, .if_icmp .eq 11, 3), (29, .iload_n 2, 1), (30, .bipush 62, 2), (32, .if_icmp .eq 5, 3), (35, .iload_n 1, 1), (36, .ireturn, 1), (37, .aload_n 0, 1), (38, .dup, 1), (39, .getfield 165, 3), (42, .iconst 1, 1), (43, .iadd, 1), (44, .putfield 165, 3), (47, .aload_n 0, 1), (48, .invokevirtual 189, 3), (51, .istore_n 3, 1), (52, .iload_n 2, 1), (53, .bipush 60, 2), (55, .if_icmp .ne 11, 3), (58, .iload_n 1, 1), (59, .iload_n 3, 1), (60, .if_icmp .ge 29, 3), (63, .goto 22, 3), (66, .iload_n 2, 1), (67, .bipush 61, 2), (69, .if_icmp .ne 11, 3), (72, .iload_n 1, 1), (73, .iload_n 3, 1), (74, .if_icmp .ne 15, 3), (77, .goto 8, 3), (80, .iload_n 1, 1), (81, .iload_n 3, 1), (82, .if_icmp .le 7, 3), (85, .iconst 1, 1), (86, .goto 4, 3), (89, .iconst 0, 1), (90, .ireturn, 1)])
theorem zmk_m_compared : zMok zm_m_compared := ⟨by decide +kernel, rfl, List.mem_append_right _ (List.mem_of_getElem? (i := 1156) (by decide +kernel)), plainFor_of_name zcp_12⟩
theorem zok_m_compared : zVok zm_m_compared 0 := ⟨(List.mem_of_getElem? (i := 1155) (by decide +kernel)), (List.mem_append_left _ (List.mem_map.mpr ⟨(⟨"LemonGateModel", "compared", "()I"⟩, 51), List.mem_of_getElem? (i := 36) (by decide +kernel), rfl⟩)), zci_12, zcn_12.1, zcn_12.2, by decide +kernel⟩
noncomputable def zm_m_sums : zM := (12, ⟨"LemonGateModel", "sums", "()I"⟩, prog_14_method_25_code, 4, some .int, [(0, .aload_n 0, 1), (1, .invokevirtual 191, 3), (4, .istore_n 1, 1), (5, .aload_n 0, 1), (6, .getfield 174, 3), (9, .ifCond .ge 68, 3), (12, .aload_n 0, 1), (13, .invokevirtual 177, 3), (16, .bipush 43, 2), (18, .if_icmp .eq 12, 3), (21, .aload_n 0, 1), (22, .invokevirtual 177, 3), (25, .bipush 45, 2), (27, .if_icmp .ne 50, 3), (30, .aload_n 0, 1), (31, .invokevirtual 177, 3), (34, .bipush 43, 2), (36, .if_icmp .ne 7, 3), (39, .iconst 1, 1), (40, .goto 4, 3), (43, .iconst 0, 1), (44, .istore_n 2, 1), (45, .aload_n 0, 1), (46, .dup, 1), (47, .getfield 165, 3), (50, .iconst 1, 1), (51, .iadd, 1), (52, .putfield 165, 3), (55, .aload_n 0, 1), (56, .invokevirtual 191, 3), (59, .istore_n 3, 1), (60, .iload_n 2, 1), (61, .ifCond .eq 9, 3), (64, .iload_n 1, 1), (65, .iload_n 3, 1), (66, .iadd, 1), (67, .goto 6, 3), (70, .iload_n 1, 1), (71, .iload_n 3, 1), (72, .isub, 1), (73, .istore_n 1, 1), (74, .goto (-69), 3), (77, .iload_n 1, 1), (78, .ireturn, 1)])
theorem zmk_m_sums : zMok zm_m_sums := ⟨by decide +kernel, rfl, List.mem_append_right _ (List.mem_of_getElem? (i := 1160) (by decide +kernel)), plainFor_of_name zcp_12⟩
theorem zok_m_sums : zVok zm_m_sums 0 := ⟨(List.mem_of_getElem? (i := 1159) (by decide +kernel)), (List.mem_append_left _ (List.mem_map.mpr ⟨(⟨"LemonGateModel", "sums", "()I"⟩, 51), List.mem_of_getElem? (i := 37) (by decide +kernel), rfl⟩)), zci_12, zcn_12.1, zcn_12.2, by decide +kernel⟩
noncomputable def zm_m_product : zM := (12, ⟨"LemonGateModel", "product", "()I"⟩, prog_14_method_26_code, 4, some .int, [(0, .aload_n 0, 1), (1, .invokevirtual 194, 3), (4, .istore_n 1, 1), (5, .aload_n 0, 1), (6, .invokevirtual 177, 3), (9, .istore_n 2, 1), (10, .aload_n 0, 1), (11, .getfield 174, 3), (14, .ifCond .ge 80, 3), (17, .iload_n 2, 1), (18, .bipush 42, 2), (20, .if_icmp .eq 15, 3), (23, .iload_n 2, 1), (24, .bipush 47, 2), (26, .if_icmp .eq 9, 3), (29, .iload_n 2, 1), (30, .bipush 37, 2), (32, .if_icmp .ne 62, 3), (35, .aload_n 0, 1), (36, .dup, 1), (37, .getfield 165, 3), (40, .iconst 1, 1), (41, .iadd, 1), (42, .putfield 165, 3), (45, .aload_n 0, 1), (46, .invokevirtual 194, 3), (49, .istore_n 3, 1), (50, .iload_n 2, 1), (51, .bipush 42, 2), (53, .if_icmp .ne 9, 3), (56, .iload_n 1, 1), (57, .iload_n 3, 1), (58, .imul, 1), (59, .goto 26, 3), (62, .iload_n 3, 1), (63, .ifCond .ne 7, 3), (66, .iconst 0, 1), (67, .goto 18, 3), (70, .iload_n 2, 1), (71, .bipush 47, 2), (73, .if_icmp .ne 9, 3), (76, .iload_n 1, 1), (77, .iload_n 3, 1), (78, .idiv, 1), (79, .goto 6, 3), (82, .iload_n 1, 1), (83, .iload_n 3, 1), (84, .irem, 1), (85, .istore_n 1, 1), (86, .aload_n 0, 1), (87, .invokevirtual 177, 3), (90, .istore_n 2, 1), (91, .goto (-81), 3), (94, .iload_n 1, 1), (95, .ireturn, 1)])
theorem zmk_m_product : zMok zm_m_product := ⟨by decide +kernel, rfl, List.mem_append_right _ (List.mem_of_getElem? (i := 1164) (by decide +kernel)), plainFor_of_name zcp_12⟩
theorem zok_m_product : zVok zm_m_product 0 := ⟨(List.mem_of_getElem? (i := 1163) (by decide +kernel)), (List.mem_append_left _ (List.mem_map.mpr ⟨(⟨"LemonGateModel", "product", "()I"⟩, 51), List.mem_of_getElem? (i := 38) (by decide +kernel), rfl⟩)), zci_12, zcn_12.1, zcn_12.2, by decide +kernel⟩
noncomputable def zm_m_nameOf : zM := (12, ⟨"LemonGateModel", "nameOf", "(I)I"⟩, prog_14_method_27_code, 1, some .int, [(0, .iload_n 0, 1), (1, .tableswitch 116 97 116 #[101, 110, 116, 116, 116, 116, 99, 103, 116, 116, 116, 95, 116, 116, 116, 107, 113, 116, 97, 105], 95), (96, .iconst 0, 1), (97, .ireturn, 1), (98, .iconst 1, 1), (99, .ireturn, 1), (100, .iconst 2, 1), (101, .ireturn, 1), (102, .iconst 3, 1), (103, .ireturn, 1), (104, .iconst 4, 1), (105, .ireturn, 1), (106, .iconst 5, 1), (107, .ireturn, 1), (108, .bipush 6, 2), (110, .ireturn, 1), (111, .bipush 7, 2), (113, .ireturn, 1), (114, .bipush 8, 2), (116, .ireturn, 1), (117, .iconst (-1), 1), (118, .ireturn, 1)])
theorem zmk_m_nameOf : zMok zm_m_nameOf := ⟨by decide +kernel, rfl, List.mem_append_right _ (List.mem_of_getElem? (i := 1183) (by decide +kernel)), plainFor_of_name zcp_12⟩
theorem zok_m_nameOf : zSok zm_m_nameOf 1 := ⟨(List.mem_of_getElem? (i := 1182) (by decide +kernel)), zci_12, zcn_12.1, zcn_12.2, by decide +kernel⟩
noncomputable def zm_m_one : zM := (12, ⟨"LemonGateModel", "one", "()I"⟩, prog_14_method_28_code, 5, some .int, [(0, .aload_n 0, 1), (1, .getfield 174, 3), (4, .ifCond .lt 5, 3), (7, .iconst 0, 1), (8, .ireturn, 1), (9, .aload_n 0, 1), (10, .invokevirtual 177, 3), (13, .istore_n 1, 1), (14, .iload_n 1, 1), (15, .bipush 33, 2), (17, .if_icmp .eq 15, 3), (20, .iload_n 1, 1), (21, .bipush 45, 2), (23, .if_icmp .eq 9, 3), (26, .iload_n 1, 1), (27, .bipush 40, 2), (29, .if_icmp .ne 116, 3), (32, .aload_n 0, 1), (33, .getfield 197, 3), (36, .bipush 6, 2), (38, .if_icmp .ne 8, 3), (41, .aload_n 0, 1), (42, .invokevirtual 200, 3), (45, .ireturn, 1), (46, .aload_n 0, 1), (47, .dup, 1), (48, .getfield 197, 3), (51, .iconst 1, 1), (52, .iadd, 1), (53, .putfield 197, 3), (56, .aload_n 0, 1), (57, .dup, 1), (58, .getfield 165, 3), (61, .iconst 1, 1), (62, .iadd, 1), (63, .putfield 165, 3), (66, .iload_n 1, 1), (67, .bipush 40, 2), (69, .if_icmp .ne 10, 3), (72, .aload_n 0, 1), (73, .invokevirtual 203, 3), (76, .goto 7, 3), (79, .aload_n 0, 1), (80, .invokevirtual 194, 3), (83, .istore_n 2, 1), (84, .iload_n 1, 1), (85, .bipush 40, 2), (87, .if_icmp .ne 17, 3), (90, .aload_n 0, 1), (91, .bipush 41, 2), (93, .invokevirtual 183, 3), (96, .ifCond .ne 8, 3), (99, .aload_n 0, 1), (100, .invokevirtual 200, 3), (103, .ireturn, 1), (104, .aload_n 0, 1), (105, .dup, 1), (106, .getfield 197, 3), (109, .iconst 1, 1), (110, .isub, 1), (111, .putfield 197, 3), (114, .iload_n 1, 1), (115, .bipush 40, 2), (117, .if_icmp .ne 7, 3), (120, .iload_n 2, 1), (121, .goto 23, 3), (124, .iload_n 1, 1), (125, .bipush 45, 2), (127, .if_icmp .ne 8, 3), (130, .iload_n 2, 1), (131, .ineg, 1), (132, .goto 12, 3), (135, .iload_n 2, 1), (136, .ifCond .ne 7, 3), (139, .iconst 1, 1), (140, .goto 4, 3), (143, .iconst 0, 1), (144, .ireturn, 1), (145, .iload_n 1, 1), (146, .invokestatic 206, 3), (149, .istore_n 2, 1), (150, .iload_n 2, 1), (151, .ifCond .lt 20, 3), (154, .aload_n 0, 1), (155, .dup, 1), (156, .getfield 165, 3), (159, .iconst 1, 1), (160, .iadd, 1), (161, .putfield 165, 3), (164, .aload_n 0, 1), (165, .getfield 40, 3), (168, .iload_n 2, 1), (169, .iaload, 1), (170, .ireturn, 1), (171, .iconst 0, 1), (172, .istore_n 3, 1), (173, .iconst 0, 1), (174, .istore 4, 2), (176, .iload 4, 2), (178, .iconst 4, 1), (179, .if_icmp .ge 50, 3), (182, .aload_n 0, 1), (183, .invokevirtual 177, 3), (186, .bipush 48, 2), (188, .if_icmp .lt 41, 3), (191, .aload_n 0, 1), (192, .invokevirtual 177, 3), (195, .bipush 57, 2), (197, .if_icmp .gt 32, 3), (200, .bipush 10, 2), (202, .iload_n 3, 1), (203, .imul, 1), (204, .aload_n 0, 1), (205, .invokevirtual 177, 3), (208, .iadd, 1), (209, .bipush 48, 2), (211, .isub, 1), (212, .istore_n 3, 1), (213, .iinc 4 1, 3), (216, .aload_n 0, 1), (217, .dup, 1), (218, .getfield 165, 3), (221, .iconst 1, 1), (222, .iadd, 1), (223, .putfield 165, 3), (226, .goto (-50), 3), (229, .iload 4, 2), (231, .ifCond .ne 10, 3), (234, .aload_n 0, 1), (235, .invokevirtual 200, 3), (238, .goto 4, 3), (241, .iload_n 3, 1), (242, .ireturn, 1)])
theorem zmk_m_one : zMok zm_m_one := ⟨by decide +kernel, rfl, List.mem_append_right _ (List.mem_of_getElem? (i := 1168) (by decide +kernel)), plainFor_of_name zcp_12⟩
theorem zok_m_one : zVok zm_m_one 0 := ⟨(List.mem_of_getElem? (i := 1167) (by decide +kernel)), (List.mem_append_left _ (List.mem_map.mpr ⟨(⟨"LemonGateModel", "one", "()I"⟩, 51), List.mem_of_getElem? (i := 39) (by decide +kernel), rfl⟩)), zci_12, zcn_12.1, zcn_12.2, by decide +kernel⟩
noncomputable def zm_m_workOut : zM := (12, ⟨"LemonGateModel", "workOut", "(II)I"⟩, prog_14_method_29_code, 8, some .int, [(0, .aload_n 0, 1), (1, .iload_n 1, 1), (2, .putfield 171, 3), (5, .aload_n 0, 1), (6, .iconst 0, 1), (7, .putfield 165, 3), (10, .aload_n 0, 1), (11, .iload_n 2, 1), (12, .putfield 168, 3), (15, .aload_n 0, 1), (16, .iconst (-1), 1), (17, .putfield 174, 3), (20, .aload_n 0, 1), (21, .iconst 0, 1), (22, .putfield 197, 3), (25, .iconst 0, 1), (26, .istore_n 3, 1), (27, .iconst 0, 1), (28, .istore 4, 2), (30, .iconst 1, 1), (31, .istore 5, 2), (33, .iload 5, 2), (35, .ifCond .eq 72, 3), (38, .aload_n 0, 1), (39, .invokevirtual 203, 3), (42, .istore 6, 2), (44, .iconst 1, 1), (45, .istore 7, 2), (47, .aload_n 0, 1), (48, .bipush 63, 2), (50, .invokevirtual 183, 3), (53, .ifCond .eq 21, 3), (56, .iload 6, 2), (58, .ifCond .eq 7, 3), (61, .iconst 1, 1), (62, .goto 4, 3), (65, .iconst 0, 1), (66, .istore 7, 2), (68, .aload_n 0, 1), (69, .invokevirtual 203, 3), (72, .istore 6, 2), (74, .aload_n 0, 1), (75, .getfield 174, 3), (78, .ifCond .ge 18, 3), (81, .iload 7, 2), (83, .ifCond .eq 13, 3), (86, .iload_n 3, 1), (87, .ifCond .ne 9, 3), (90, .iconst 1, 1), (91, .istore_n 3, 1), (92, .iload 6, 2), (94, .istore 4, 2), (96, .aload_n 0, 1), (97, .bipush 59, 2), (99, .invokevirtual 183, 3), (102, .istore 5, 2), (104, .goto (-71), 3), (107, .aload_n 0, 1), (108, .getfield 174, 3), (111, .ifCond .ge 19, 3), (114, .aload_n 0, 1), (115, .getfield 165, 3), (118, .aload_n 0, 1), (119, .getfield 168, 3), (122, .if_icmp .ge 8, 3), (125, .aload_n 0, 1), (126, .invokevirtual 200, 3), (129, .ireturn, 1), (130, .iload 4, 2), (132, .ireturn, 1)])
theorem zmk_m_workOut : zMok zm_m_workOut := ⟨by decide +kernel, rfl, List.mem_append_right _ (List.mem_of_getElem? (i := 1144) (by decide +kernel)), plainFor_of_name zcp_12⟩
theorem zok_m_workOut : zVok zm_m_workOut 2 := ⟨(List.mem_of_getElem? (i := 1143) (by decide +kernel)), (List.mem_append_left _ (List.mem_map.mpr ⟨(⟨"LemonGateModel", "workOut", "(II)I"⟩, 51), List.mem_of_getElem? (i := 33) (by decide +kernel), rfl⟩)), zci_12, zcn_12.1, zcn_12.2, by decide +kernel⟩
noncomputable def zm_m_law : zM := (12, ⟨"LemonGateModel", "law", "(I)I"⟩, prog_14_method_30_code, 5, some .int, [(0, .iload_n 1, 1), (1, .i2l, 1), (2, .lconst 0, 1), (3, .lconst 1, 1), (4, .invokestatic 107, 3), (7, .ifCond .ne 5, 3), (10, .iconst (-1), 1), (11, .ireturn, 1), (12, .aload_n 0, 1), (13, .iconst (-1), 1), (14, .aload_n 0, 1), (15, .getfield 162, 3), (18, .invokevirtual 210, 3), (21, .istore_n 2, 1), (22, .aload_n 0, 1), (23, .getfield 162, 3), (26, .istore_n 3, 1), (27, .aload_n 0, 1), (28, .iconst 0, 1), (29, .putfield 162, 3), (32, .aload_n 0, 1), (33, .getfield 174, 3), (36, .ifCond .lt 11, 3), (39, .bipush (-100), 2), (41, .aload_n 0, 1), (42, .getfield 174, 3), (45, .isub, 1), (46, .ireturn, 1), (47, .iconst 0, 1), (48, .istore 4, 2), (50, .iload 4, 2), (52, .iload_n 3, 1), (53, .if_icmp .ge 28, 3), (56, .aload_n 0, 1), (57, .getfield 34, 3), (60, .bipush 120, 2), (62, .iload_n 1, 1), (63, .imul, 1), (64, .iload 4, 2), (66, .iadd, 1), (67, .aload_n 0, 1), (68, .getfield 31, 3), (71, .iload 4, 2), (73, .iaload, 1), (74, .iastore, 1), (75, .iinc 4 1, 3), (78, .goto (-28), 3), (81, .aload_n 0, 1), (82, .getfield 37, 3), (85, .iload_n 1, 1), (86, .iload_n 3, 1), (87, .iastore, 1), (88, .iconst 1, 1), (89, .ireturn, 1)])
theorem zmk_m_law : zMok zm_m_law := ⟨by decide +kernel, rfl, List.mem_append_right _ (List.mem_of_getElem? (i := 1140) (by decide +kernel)), plainFor_of_name zcp_12⟩
theorem zok_m_law : zVok zm_m_law 1 := ⟨(List.mem_of_getElem? (i := 1138) (by decide +kernel)), (List.mem_append_right _ (List.mem_of_getElem? (i := 1139) (by decide +kernel))), zci_12, zcn_12.1, zcn_12.2, by decide +kernel⟩
noncomputable def zm_m_namesAll : zM := (12, ⟨"LemonGateModel", "namesAll", "(III)V"⟩, prog_14_method_31_code, 4, none, [(0, .aload_n 0, 1), (1, .getfield 40, 3), (4, .iconst 0, 1), (5, .aload_n 0, 1), (6, .getfield 7, 3), (9, .iconst 0, 1), (10, .iaload, 1), (11, .iastore, 1), (12, .aload_n 0, 1), (13, .getfield 40, 3), (16, .iconst 1, 1), (17, .aload_n 0, 1), (18, .getfield 7, 3), (21, .iconst 1, 1), (22, .iaload, 1), (23, .iastore, 1), (24, .aload_n 0, 1), (25, .getfield 40, 3), (28, .iconst 2, 1), (29, .aload_n 0, 1), (30, .getfield 7, 3), (33, .iconst 2, 1), (34, .iaload, 1), (35, .iastore, 1), (36, .aload_n 0, 1), (37, .getfield 40, 3), (40, .iconst 3, 1), (41, .iload_n 2, 1), (42, .iastore, 1), (43, .aload_n 0, 1), (44, .getfield 40, 3), (47, .iconst 4, 1), (48, .aload_n 0, 1), (49, .getfield 22, 3), (52, .iload_n 1, 1), (53, .iaload, 1), (54, .iastore, 1), (55, .aload_n 0, 1), (56, .getfield 40, 3), (59, .iconst 5, 1), (60, .iload_n 3, 1), (61, .iastore, 1), (62, .aload_n 0, 1), (63, .getfield 40, 3), (66, .bipush 6, 2), (68, .aload_n 0, 1), (69, .getfield 7, 3), (72, .iconst 3, 1), (73, .iaload, 1), (74, .iastore, 1), (75, .aload_n 0, 1), (76, .getfield 40, 3), (79, .bipush 7, 2), (81, .aload_n 0, 1), (82, .getfield 7, 3), (85, .iconst 4, 1), (86, .iaload, 1), (87, .iastore, 1), (88, .aload_n 0, 1), (89, .getfield 40, 3), (92, .bipush 8, 2), (94, .iload_n 1, 1), (95, .iastore, 1), (96, .return_, 1)])
theorem zmk_m_namesAll : zMok zm_m_namesAll := ⟨by decide +kernel, rfl, List.mem_append_right _ (List.mem_of_getElem? (i := 1195) (by decide +kernel)), plainFor_of_name zcp_12⟩
theorem zok_m_namesAll : zVok zm_m_namesAll 3 := ⟨(List.mem_of_getElem? (i := 1194) (by decide +kernel)), (List.mem_append_left _ (List.mem_map.mpr ⟨(⟨"LemonGateModel", "namesAll", "(III)V"⟩, 51), List.mem_of_getElem? (i := 44) (by decide +kernel), rfl⟩)), zci_12, zcn_12.1, zcn_12.2, by decide +kernel⟩
noncomputable def zm_m_heldTo : zM := (12, ⟨"LemonGateModel", "heldTo", "(II)I"⟩, prog_14_method_32_code, 2, some .int, [(0, .iload_n 0, 1), (1, .ifCond .ge 7, 3), (4, .iconst 0, 1), (5, .goto 13, 3), (8, .iload_n 0, 1), (9, .iload_n 1, 1), (10, .if_icmp .le 7, 3), (13, .iload_n 1, 1), (14, .goto 4, 3), (17, .iload_n 0, 1), (18, .ireturn, 1)])
theorem zmk_m_heldTo : zMok zm_m_heldTo := ⟨by decide +kernel, rfl, List.mem_append_right _ (List.mem_of_getElem? (i := 1198) (by decide +kernel)), plainFor_of_name zcp_12⟩
theorem zok_m_heldTo : zSok zm_m_heldTo 2 := ⟨(List.mem_of_getElem? (i := 1197) (by decide +kernel)), zci_12, zcn_12.1, zcn_12.2, by decide +kernel⟩
noncomputable def zm_m_tasteOf : zM := (12, ⟨"LemonGateModel", "tasteOf", "(II)I"⟩, prog_14_method_33_code, 4, some .int, [(0, .iload_n 2, 1), (1, .aload_n 0, 1), (2, .getfield 7, 3), (5, .iconst 5, 1), (6, .iaload, 1), (7, .if_icmp .lt 5, 3), (10, .iconst 0, 1), (11, .ireturn, 1), (12, .aload_n 0, 1), (13, .getfield 7, 3), (16, .iconst 0, 1), (17, .iaload, 1), (18, .aload_n 0, 1), (19, .getfield 7, 3), (22, .iconst 1, 1), (23, .iaload, 1), (24, .iadd, 1), (25, .aload_n 0, 1), (26, .getfield 7, 3), (29, .iconst 2, 1), (30, .iaload, 1), (31, .iconst 3, 1), (32, .idiv, 1), (33, .isub, 1), (34, .istore_n 3, 1), (35, .aload_n 0, 1), (36, .getfield 37, 3), (39, .iconst 0, 1), (40, .iaload, 1), (41, .ifCond .lt 22, 3), (44, .aload_n 0, 1), (45, .iload_n 1, 1), (46, .iload_n 2, 1), (47, .iconst 0, 1), (48, .invokevirtual 213, 3), (51, .aload_n 0, 1), (52, .iconst 0, 1), (53, .aload_n 0, 1), (54, .getfield 37, 3), (57, .iconst 0, 1), (58, .iaload, 1), (59, .invokevirtual 210, 3), (62, .istore_n 3, 1), (63, .iload_n 3, 1), (64, .bipush 9, 2), (66, .invokestatic 217, 3), (69, .ireturn, 1)])
theorem zmk_m_tasteOf : zMok zm_m_tasteOf := ⟨by decide +kernel, rfl, List.mem_append_right _ (List.mem_of_getElem? (i := 1191) (by decide +kernel)), plainFor_of_name zcp_12⟩
theorem zok_m_tasteOf : zVok zm_m_tasteOf 2 := ⟨(List.mem_of_getElem? (i := 1190) (by decide +kernel)), (List.mem_append_left _ (List.mem_map.mpr ⟨(⟨"LemonGateModel", "tasteOf", "(II)I"⟩, 51), List.mem_of_getElem? (i := 43) (by decide +kernel), rfl⟩)), zci_12, zcn_12.1, zcn_12.2, by decide +kernel⟩
noncomputable def zm_m_buysOf : zM := (12, ⟨"LemonGateModel", "buysOf", "(II)I"⟩, prog_14_method_34_code, 5, some .int, [(0, .aload_n 0, 1), (1, .iload_n 1, 1), (2, .iload_n 2, 1), (3, .invokevirtual 220, 3), (6, .istore_n 3, 1), (7, .iload_n 3, 1), (8, .aload_n 0, 1), (9, .getfield 22, 3), (12, .iload_n 1, 1), (13, .iaload, 1), (14, .iconst 5, 1), (15, .idiv, 1), (16, .iadd, 1), (17, .aload_n 0, 1), (18, .getfield 7, 3), (21, .iconst 3, 1), (22, .iaload, 1), (23, .iconst 4, 1), (24, .idiv, 1), (25, .isub, 1), (26, .aload_n 0, 1), (27, .getfield 7, 3), (30, .iconst 4, 1), (31, .iaload, 1), (32, .iconst 4, 1), (33, .idiv, 1), (34, .iadd, 1), (35, .istore 4, 2), (37, .aload_n 0, 1), (38, .getfield 37, 3), (41, .iconst 1, 1), (42, .iaload, 1), (43, .ifCond .lt 24, 3), (46, .aload_n 0, 1), (47, .iload_n 1, 1), (48, .iload_n 2, 1), (49, .iload_n 3, 1), (50, .invokevirtual 213, 3), (53, .aload_n 0, 1), (54, .bipush 120, 2), (56, .aload_n 0, 1), (57, .getfield 37, 3), (60, .iconst 1, 1), (61, .iaload, 1), (62, .invokevirtual 210, 3), (65, .istore 4, 2), (67, .iload 4, 2), (69, .bipush 12, 2), (71, .invokestatic 217, 3), (74, .ireturn, 1)])
theorem zmk_m_buysOf : zMok zm_m_buysOf := ⟨by decide +kernel, rfl, List.mem_append_right _ (List.mem_of_getElem? (i := 1202) (by decide +kernel)), plainFor_of_name zcp_12⟩
theorem zok_m_buysOf : zVok zm_m_buysOf 2 := ⟨(List.mem_of_getElem? (i := 1201) (by decide +kernel)), (List.mem_append_left _ (List.mem_map.mpr ⟨(⟨"LemonGateModel", "buysOf", "(II)I"⟩, 51), List.mem_of_getElem? (i := 45) (by decide +kernel), rfl⟩)), zci_12, zcn_12.1, zcn_12.2, by decide +kernel⟩
noncomputable def zm_m_taste : zM := (12, ⟨"LemonGateModel", "taste", "(III)I"⟩, prog_14_method_35_code, 4, some .int, [(0, .iload_n 1, 1), (1, .invokestatic 114, 3), (4, .ifCond .eq 25, 3), (7, .iload_n 2, 1), (8, .i2l, 1), (9, .lconst 0, 1), (10, .ldc2_w 123, 3), (13, .invokestatic 107, 3), (16, .ifCond .eq 13, 3), (19, .iload_n 3, 1), (20, .i2l, 1), (21, .lconst 0, 1), (22, .lconst 1, 1), (23, .invokestatic 107, 3), (26, .ifCond .ne 5, 3), (29, .iconst (-1), 1), (30, .ireturn, 1), (31, .iload_n 3, 1), (32, .ifCond .ne 12, 3), (35, .aload_n 0, 1), (36, .iload_n 1, 1), (37, .iload_n 2, 1), (38, .invokevirtual 220, 3), (41, .goto 9, 3), (44, .aload_n 0, 1), (45, .iload_n 1, 1), (46, .iload_n 2, 1), (47, .invokevirtual 223, 3), (50, .ireturn, 1)])
theorem zmk_m_taste : zMok zm_m_taste := ⟨by decide +kernel, rfl, List.mem_append_right _ (List.mem_of_getElem? (i := 1187) (by decide +kernel)), plainFor_of_name zcp_12⟩
theorem zok_m_taste : zVok zm_m_taste 3 := ⟨(List.mem_of_getElem? (i := 1185) (by decide +kernel)), (List.mem_append_right _ (List.mem_of_getElem? (i := 1186) (by decide +kernel))), zci_12, zcn_12.1, zcn_12.2, by decide +kernel⟩
noncomputable def zm_m_draws : zM := (12, ⟨"LemonGateModel", "draws", "()I"⟩, prog_14_method_36_code, 1, some .int, [(0, .aload_n 0, 1), (1, .aload_n 0, 1), (2, .getfield 226, 3), (5, .ldc 229, 2), (7, .imul, 1), (8, .sipush 12345, 3), (11, .iadd, 1), (12, .putfield 226, 3), (15, .aload_n 0, 1), (16, .getfield 226, 3), (19, .bipush 8, 2), (21, .iushr, 1), (22, .bipush 12, 2), (24, .irem, 1), (25, .ireturn, 1)])
theorem zmk_m_draws : zMok zm_m_draws := ⟨by decide +kernel, rfl, List.mem_append_right _ (List.mem_of_getElem? (i := 1226) (by decide +kernel)), plainFor_of_name zcp_12⟩
theorem zok_m_draws : zVok zm_m_draws 0 := ⟨(List.mem_of_getElem? (i := 1225) (by decide +kernel)), (List.mem_append_left _ (List.mem_map.mpr ⟨(⟨"LemonGateModel", "draws", "()I"⟩, 51), List.mem_of_getElem? (i := 50) (by decide +kernel), rfl⟩)), zci_12, zcn_12.1, zcn_12.2, by decide +kernel⟩
noncomputable def zm_m_makesOne : zM := (12, ⟨"LemonGateModel", "makesOne", "()V"⟩, prog_14_method_37_code, 1, none, [(0, .aload_n 0, 1), (1, .getfield 230, 3), (4, .ifCond .ne 42, 3), (7, .aload_n 0, 1), (8, .getfield 233, 3), (11, .aload_n 0, 1), (12, .getfield 7, 3), (15, .bipush 7, 2), (17, .iaload, 1), (18, .if_icmp .ge 28, 3), (21, .aload_n 0, 1), (22, .dup, 1), (23, .getfield 233, 3), (26, .iconst 1, 1), (27, .iadd, 1), (28, .putfield 233, 3), (31, .aload_n 0, 1), (32, .aload_n 0, 1), (33, .getfield 7, 3), (36, .iconst 2, 1), (37, .iaload, 1), (38, .putfield 230, 3), (41, .aload_n 0, 1), (42, .iconst 0, 1), (43, .putfield 236, 3), (46, .return_, 1)])
theorem zmk_m_makesOne : zMok zm_m_makesOne := ⟨by decide +kernel, rfl, List.mem_append_right _ (List.mem_of_getElem? (i := 1214) (by decide +kernel)), plainFor_of_name zcp_12⟩
theorem zok_m_makesOne : zVok zm_m_makesOne 0 := ⟨(List.mem_of_getElem? (i := 1213) (by decide +kernel)), (List.mem_append_left _ (List.mem_map.mpr ⟨(⟨"LemonGateModel", "makesOne", "()V"⟩, 51), List.mem_of_getElem? (i := 47) (by decide +kernel), rfl⟩)), zci_12, zcn_12.1, zcn_12.2, by decide +kernel⟩
noncomputable def zm_m_passersIn : zM := (12, ⟨"LemonGateModel", "passersIn", "(I)I"⟩, prog_14_method_38_code, 2, some .int, [(0, .aload_n 0, 1), (1, .aload_n 0, 1), (2, .getfield 25, 3), (5, .iload_n 1, 1), (6, .iaload, 1), (7, .invokevirtual 125, 3), (10, .ifCond .eq 22, 3), (13, .aload_n 0, 1), (14, .getfield 28, 3), (17, .bipush 32, 2), (19, .aload_n 0, 1), (20, .getfield 25, 3), (23, .iload_n 1, 1), (24, .iaload, 1), (25, .imul, 1), (26, .iload_n 1, 1), (27, .iadd, 1), (28, .iaload, 1), (29, .goto 4, 3), (32, .iconst 0, 1), (33, .ireturn, 1)])
theorem zmk_m_passersIn : zMok zm_m_passersIn := ⟨by decide +kernel, rfl, List.mem_append_right _ (List.mem_of_getElem? (i := 1222) (by decide +kernel)), plainFor_of_name zcp_12⟩
theorem zok_m_passersIn : zVok zm_m_passersIn 1 := ⟨(List.mem_of_getElem? (i := 1221) (by decide +kernel)), (List.mem_append_left _ (List.mem_map.mpr ⟨(⟨"LemonGateModel", "passersIn", "(I)I"⟩, 51), List.mem_of_getElem? (i := 49) (by decide +kernel), rfl⟩)), zci_12, zcn_12.1, zcn_12.2, by decide +kernel⟩
noncomputable def zm_m_quarterGoes : zM := (12, ⟨"LemonGateModel", "quarterGoes", "(I)V"⟩, prog_14_method_39_code, 5, none, [(0, .aload_n 0, 1), (1, .getfield 43, 3), (4, .iload_n 1, 1), (5, .iconst 0, 1), (6, .iastore, 1), (7, .aload_n 0, 1), (8, .iload_n 1, 1), (9, .invokevirtual 239, 3), (12, .istore_n 2, 1), (13, .iconst 0, 1), (14, .istore_n 3, 1), (15, .iload_n 3, 1), (16, .iload_n 2, 1), (17, .if_icmp .ge 60, 3), (20, .aload_n 0, 1), (21, .invokevirtual 242, 3), (24, .istore 4, 2), (26, .aload_n 0, 1), (27, .getfield 230, 3), (30, .ifCond .le 41, 3), (33, .iload 4, 2), (35, .aload_n 0, 1), (36, .iload_n 1, 1), (37, .aload_n 0, 1), (38, .getfield 236, 3), (41, .invokevirtual 223, 3), (44, .if_icmp .ge 27, 3), (47, .aload_n 0, 1), (48, .dup, 1), (49, .getfield 230, 3), (52, .iconst 1, 1), (53, .isub, 1), (54, .putfield 230, 3), (57, .aload_n 0, 1), (58, .getfield 43, 3), (61, .iload_n 1, 1), (62, .dup2, 1), (63, .iaload, 1), (64, .iconst 1, 1), (65, .iadd, 1), (66, .iastore, 1), (67, .aload_n 0, 1), (68, .invokevirtual 245, 3), (71, .iinc 3 1, 3), (74, .goto (-59), 3), (77, .aload_n 0, 1), (78, .invokevirtual 242, 3), (81, .aload_n 0, 1), (82, .getfield 7, 3), (85, .bipush 6, 2), (87, .iaload, 1), (88, .if_icmp .ge 34, 3), (91, .aload_n 0, 1), (92, .getfield 230, 3), (95, .ifCond .le 27, 3), (98, .aload_n 0, 1), (99, .dup, 1), (100, .getfield 230, 3), (103, .iconst 1, 1), (104, .isub, 1), (105, .putfield 230, 3), (108, .aload_n 0, 1), (109, .dup, 1), (110, .getfield 248, 3), (113, .iconst 1, 1), (114, .iadd, 1), (115, .putfield 248, 3), (118, .aload_n 0, 1), (119, .invokevirtual 245, 3), (122, .aload_n 0, 1), (123, .getfield 230, 3), (126, .ifCond .le 53, 3), (129, .aload_n 0, 1), (130, .getfield 236, 3), (133, .iconst 1, 1), (134, .iadd, 1), (135, .aload_n 0, 1), (136, .getfield 7, 3), (139, .iconst 5, 1), (140, .iaload, 1), (141, .if_icmp .lt 28, 3), (144, .aload_n 0, 1), (145, .dup, 1), (146, .getfield 251, 3), (149, .aload_n 0, 1), (150, .getfield 230, 3), (153, .iadd, 1), (154, .putfield 251, 3), (157, .aload_n 0, 1), (158, .iconst 0, 1), (159, .putfield 230, 3), (162, .aload_n 0, 1), (163, .invokevirtual 245, 3), (166, .goto 13, 3), (169, .aload_n 0, 1), (170, .dup, 1), (171, .getfield 236, 3), (174, .iconst 1, 1), (175, .iadd, 1), (176, .putfield 236, 3), (179, .return_, 1)])
theorem zmk_m_quarterGoes : zMok zm_m_quarterGoes := ⟨by decide +kernel, rfl, List.mem_append_right _ (List.mem_of_getElem? (i := 1218) (by decide +kernel)), plainFor_of_name zcp_12⟩
theorem zok_m_quarterGoes : zVok zm_m_quarterGoes 1 := ⟨(List.mem_of_getElem? (i := 1217) (by decide +kernel)), (List.mem_append_left _ (List.mem_map.mpr ⟨(⟨"LemonGateModel", "quarterGoes", "(I)V"⟩, 51), List.mem_of_getElem? (i := 48) (by decide +kernel), rfl⟩)), zci_12, zcn_12.1, zcn_12.2, by decide +kernel⟩
noncomputable def zm_m_dayGoes : zM := (12, ⟨"LemonGateModel", "dayGoes", "(I)I"⟩, prog_14_method_40_code, 4, some .int, [(0, .aload_n 0, 1), (1, .iload_n 1, 1), (2, .putfield 226, 3), (5, .aload_n 0, 1), (6, .iconst 0, 1), (7, .putfield 230, 3), (10, .aload_n 0, 1), (11, .iconst 0, 1), (12, .putfield 233, 3), (15, .aload_n 0, 1), (16, .iconst 0, 1), (17, .putfield 248, 3), (20, .aload_n 0, 1), (21, .iconst 0, 1), (22, .putfield 251, 3), (25, .aload_n 0, 1), (26, .invokevirtual 245, 3), (29, .iconst 0, 1), (30, .istore_n 2, 1), (31, .iconst 0, 1), (32, .istore_n 3, 1), (33, .iload_n 3, 1), (34, .bipush 32, 2), (36, .if_icmp .ge 23, 3), (39, .aload_n 0, 1), (40, .iload_n 3, 1), (41, .invokevirtual 254, 3), (44, .iload_n 2, 1), (45, .aload_n 0, 1), (46, .getfield 43, 3), (49, .iload_n 3, 1), (50, .iaload, 1), (51, .iadd, 1), (52, .istore_n 2, 1), (53, .iinc 3 1, 3), (56, .goto (-23), 3), (59, .iload_n 2, 1), (60, .ireturn, 1)])
theorem zmk_m_dayGoes : zMok zm_m_dayGoes := ⟨by decide +kernel, rfl, List.mem_append_right _ (List.mem_of_getElem? (i := 1210) (by decide +kernel)), plainFor_of_name zcp_12⟩
theorem zok_m_dayGoes : zVok zm_m_dayGoes 1 := ⟨(List.mem_of_getElem? (i := 1209) (by decide +kernel)), (List.mem_append_left _ (List.mem_map.mpr ⟨(⟨"LemonGateModel", "dayGoes", "(I)I"⟩, 51), List.mem_of_getElem? (i := 46) (by decide +kernel), rfl⟩)), zci_12, zcn_12.1, zcn_12.2, by decide +kernel⟩
noncomputable def zm_m_gainOf : zM := (12, ⟨"LemonGateModel", "gainOf", "(I)I"⟩, prog_14_method_41_code, 3, some .int, [(0, .aload_n 0, 1), (1, .iload_n 1, 1), (2, .invokevirtual 258, 3), (5, .istore_n 2, 1), (6, .iload_n 2, 1), (7, .aload_n 0, 1), (8, .getfield 7, 3), (11, .iconst 3, 1), (12, .iaload, 1), (13, .imul, 1), (14, .aload_n 0, 1), (15, .getfield 233, 3), (18, .aload_n 0, 1), (19, .invokevirtual 151, 3), (22, .imul, 1), (23, .isub, 1), (24, .ireturn, 1)])
theorem zmk_m_gainOf : zMok zm_m_gainOf := ⟨by decide +kernel, rfl, List.mem_append_right _ (List.mem_of_getElem? (i := 1239) (by decide +kernel)), plainFor_of_name zcp_12⟩
theorem zok_m_gainOf : zVok zm_m_gainOf 1 := ⟨(List.mem_of_getElem? (i := 1238) (by decide +kernel)), (List.mem_append_left _ (List.mem_map.mpr ⟨(⟨"LemonGateModel", "gainOf", "(I)I"⟩, 51), List.mem_of_getElem? (i := 51) (by decide +kernel), rfl⟩)), zci_12, zcn_12.1, zcn_12.2, by decide +kernel⟩
noncomputable def zm_m_day : zM := (12, ⟨"LemonGateModel", "day", "(I)I"⟩, prog_14_method_42_code, 4, some .int, [(0, .aload_n 0, 1), (1, .iload_n 1, 1), (2, .invokevirtual 258, 3), (5, .istore_n 2, 1), (6, .aload_n 0, 1), (7, .iconst 1, 1), (8, .putfield 261, 3), (11, .aload_n 0, 1), (12, .aload_n 0, 1), (13, .getfield 7, 3), (16, .iconst 3, 1), (17, .iaload, 1), (18, .putfield 265, 3), (21, .aload_n 0, 1), (22, .getfield 46, 3), (25, .iconst 0, 1), (26, .iload_n 2, 1), (27, .iastore, 1), (28, .aload_n 0, 1), (29, .getfield 46, 3), (32, .iconst 1, 1), (33, .iload_n 2, 1), (34, .aload_n 0, 1), (35, .getfield 265, 3), (38, .imul, 1), (39, .iastore, 1), (40, .aload_n 0, 1), (41, .getfield 46, 3), (44, .iconst 2, 1), (45, .aload_n 0, 1), (46, .getfield 248, 3), (49, .iastore, 1), (50, .aload_n 0, 1), (51, .getfield 46, 3), (54, .iconst 3, 1), (55, .aload_n 0, 1), (56, .getfield 251, 3), (59, .iastore, 1), (60, .aload_n 0, 1), (61, .getfield 46, 3), (64, .iconst 4, 1), (65, .aload_n 0, 1), (66, .getfield 230, 3), (69, .iastore, 1), (70, .aload_n 0, 1), (71, .getfield 46, 3), (74, .iconst 5, 1), (75, .aload_n 0, 1), (76, .getfield 233, 3), (79, .iastore, 1), (80, .aload_n 0, 1), (81, .getfield 46, 3), (84, .bipush 6, 2), (86, .aload_n 0, 1), (87, .getfield 233, 3), (90, .aload_n 0, 1), (91, .invokevirtual 151, 3), (94, .imul, 1), (95, .iastore, 1), (96, .aload_n 0, 1), (97, .getfield 46, 3), (100, .bipush 7, 2), (102, .aload_n 0, 1), (103, .getfield 46, 3), (106, .iconst 1, 1), (107, .iaload, 1), (108, .aload_n 0, 1), (109, .getfield 46, 3), (112, .bipush 6, 2), (114, .iaload, 1), (115, .isub, 1), (116, .iastore, 1), (117, .iconst 0, 1), (118, .istore_n 3, 1), (119, .iload_n 3, 1), (120, .bipush 32, 2), (122, .if_icmp .ge 21, 3), (125, .aload_n 0, 1), (126, .getfield 49, 3), (129, .iload_n 3, 1), (130, .aload_n 0, 1), (131, .getfield 43, 3), (134, .iload_n 3, 1), (135, .iaload, 1), (136, .iastore, 1), (137, .iinc 3 1, 3), (140, .goto (-21), 3), (143, .iload_n 2, 1), (144, .ireturn, 1)])
theorem zmk_m_day : zMok zm_m_day := ⟨by decide +kernel, rfl, List.mem_append_right _ (List.mem_of_getElem? (i := 1206) (by decide +kernel)), plainFor_of_name zcp_12⟩
theorem zok_m_day : zVok zm_m_day 1 := ⟨(List.mem_of_getElem? (i := 1204) (by decide +kernel)), (List.mem_append_right _ (List.mem_of_getElem? (i := 1205) (by decide +kernel))), zci_12, zcn_12.1, zcn_12.2, by decide +kernel⟩
noncomputable def zm_m_told : zM := (12, ⟨"LemonGateModel", "told", "(I)I"⟩, prog_14_method_43_code, 3, some .int, [(0, .iload_n 1, 1), (1, .i2l, 1), (2, .ldc2_w 156, 3), (5, .ldc2_w 158, 3), (8, .invokestatic 107, 3), (11, .ifCond .eq 17, 3), (14, .iload_n 1, 1), (15, .bipush 100, 2), (17, .irem, 1), (18, .invokestatic 114, 3), (21, .ifCond .eq 7, 3), (24, .iconst 1, 1), (25, .goto 4, 3), (28, .iconst 0, 1), (29, .istore_n 2, 1), (30, .iload_n 1, 1), (31, .i2l, 1), (32, .lconst 0, 1), (33, .ldc2_w 147, 3), (36, .invokestatic 107, 3), (39, .ifCond .ne 10, 3), (42, .iload_n 2, 1), (43, .ifCond .ne 6, 3), (46, .ldc 155, 2), (48, .ireturn, 1), (49, .aload_n 0, 1), (50, .getfield 261, 3), (53, .ifCond .ne 6, 3), (56, .bipush (-5), 2), (58, .ireturn, 1), (59, .iload_n 1, 1), (60, .bipush 8, 2), (62, .if_icmp .ge 12, 3), (65, .aload_n 0, 1), (66, .getfield 46, 3), (69, .iload_n 1, 1), (70, .iaload, 1), (71, .goto 37, 3), (74, .iload_n 1, 1), (75, .sipush 200, 3), (78, .if_icmp .ge 15, 3), (81, .aload_n 0, 1), (82, .getfield 49, 3), (85, .iload_n 1, 1), (86, .bipush 100, 2), (88, .isub, 1), (89, .iaload, 1), (90, .goto 18, 3), (93, .aload_n 0, 1), (94, .getfield 49, 3), (97, .iload_n 1, 1), (98, .sipush 200, 3), (101, .isub, 1), (102, .iaload, 1), (103, .aload_n 0, 1), (104, .getfield 265, 3), (107, .imul, 1), (108, .ireturn, 1)])
theorem zmk_m_told : zMok zm_m_told := ⟨by decide +kernel, rfl, List.mem_append_right _ (List.mem_of_getElem? (i := 1231) (by decide +kernel)), plainFor_of_name zcp_12⟩
theorem zok_m_told : zVok zm_m_told 1 := ⟨(List.mem_of_getElem? (i := 1229) (by decide +kernel)), (List.mem_append_right _ (List.mem_of_getElem? (i := 1230) (by decide +kernel))), zci_12, zcn_12.1, zcn_12.2, by decide +kernel⟩
noncomputable def zm_m_best : zM := (12, ⟨"LemonGateModel", "best", "(II)I"⟩, prog_14_method_44_code, 9, some .int, [(0, .iload_n 2, 1), (1, .i2l, 1), (2, .lconst 0, 1), (3, .lconst 1, 1), (4, .invokestatic 107, 3), (7, .ifCond .ne 5, 3), (10, .iconst (-1), 1), (11, .ireturn, 1), (12, .iload_n 2, 1), (13, .ifCond .ne 7, 3), (16, .iconst 3, 1), (17, .goto 5, 3), (20, .bipush 7, 2), (22, .istore_n 3, 1), (23, .aload_n 0, 1), (24, .getfield 7, 3), (27, .iload_n 3, 1), (28, .iaload, 1), (29, .istore 4, 2), (31, .iconst (-1), 1), (32, .istore 5, 2), (34, .iconst 0, 1), (35, .istore 6, 2), (37, .iconst 0, 1), (38, .istore 7, 2), (40, .iload 7, 2), (42, .iload_n 2, 1), (43, .ifCond .ne 8, 3), (46, .bipush 50, 2), (48, .goto 5, 3), (51, .bipush 9, 2), (53, .if_icmp .gt 44, 3), (56, .aload_n 0, 1), (57, .getfield 7, 3), (60, .iload_n 3, 1), (61, .iload 7, 2), (63, .iastore, 1), (64, .aload_n 0, 1), (65, .iload_n 1, 1), (66, .invokevirtual 268, 3), (69, .istore 8, 2), (71, .iload 5, 2), (73, .ifCond .lt 10, 3), (76, .iload 8, 2), (78, .iload 6, 2), (80, .if_icmp .le 11, 3), (83, .iload 7, 2), (85, .istore 5, 2), (87, .iload 8, 2), (89, .istore 6, 2), (91, .iinc 7 1, 3), (94, .goto (-54), 3), (97, .aload_n 0, 1), (98, .getfield 7, 3), (101, .iload_n 3, 1), (102, .iload 4, 2), (104, .iastore, 1), (105, .iload 5, 2), (107, .ireturn, 1)])
theorem zmk_m_best : zMok zm_m_best := ⟨by decide +kernel, rfl, List.mem_append_right _ (List.mem_of_getElem? (i := 1235) (by decide +kernel)), plainFor_of_name zcp_12⟩
theorem zok_m_best : zVok zm_m_best 2 := ⟨(List.mem_of_getElem? (i := 1233) (by decide +kernel)), (List.mem_append_right _ (List.mem_of_getElem? (i := 1234) (by decide +kernel))), zci_12, zcn_12.1, zcn_12.2, by decide +kernel⟩
noncomputable def zm_m_passesAt : zM := (12, ⟨"LemonGateModel", "passesAt", "(II)I"⟩, prog_14_method_45_code, 3, some .int, [(0, .iload_n 2, 1), (1, .ifCond .ge 7, 3), (4, .iconst 0, 1), (5, .goto 14, 3), (8, .aload_n 0, 1), (9, .getfield 28, 3), (12, .bipush 32, 2), (14, .iload_n 2, 1), (15, .imul, 1), (16, .iload_n 1, 1), (17, .iadd, 1), (18, .iaload, 1), (19, .ireturn, 1)])
theorem zmk_m_passesAt : zMok zm_m_passesAt := ⟨by decide +kernel, rfl, List.mem_append_right _ (List.mem_of_getElem? (i := 1254) (by decide +kernel)), plainFor_of_name zcp_12⟩
theorem zok_m_passesAt : zVok zm_m_passesAt 2 := ⟨(List.mem_of_getElem? (i := 1253) (by decide +kernel)), (List.mem_append_left _ (List.mem_map.mpr ⟨(⟨"LemonGateModel", "passesAt", "(II)I"⟩, 51), List.mem_of_getElem? (i := 53) (by decide +kernel), rfl⟩)), zci_12, zcn_12.1, zcn_12.2, by decide +kernel⟩
noncomputable def zm_m_mayFollow : zM := (12, ⟨"LemonGateModel", "mayFollow", "(II)Z"⟩, prog_14_method_46_code, 2, some .boolean, [(0, .iload_n 0, 1), (1, .ifCond .lt 12, 3), (4, .iload_n 1, 1), (5, .ifCond .lt 8, 3), (8, .iload_n 0, 1), (9, .iload_n 1, 1), (10, .if_icmp .ne 7, 3), (13, .iconst 1, 1), (14, .goto 4, 3), (17, .iconst 0, 1), (18, .ireturn, 1)])
theorem zmk_m_mayFollow : zMok zm_m_mayFollow := ⟨by decide +kernel, rfl, List.mem_append_right _ (List.mem_of_getElem? (i := 1246) (by decide +kernel)), plainFor_of_name zcp_12⟩
theorem zok_m_mayFollow : zSok zm_m_mayFollow 2 := ⟨(List.mem_of_getElem? (i := 1245) (by decide +kernel)), zci_12, zcn_12.1, zcn_12.2, by decide +kernel⟩
noncomputable def zm_m_passesBy : zM := (12, ⟨"LemonGateModel", "passesBy", "(II)I"⟩, prog_14_method_47_code, 3, some .int, [(0, .aload_n 0, 1), (1, .iload_n 1, 1), (2, .iload_n 2, 1), (3, .invokevirtual 271, 3), (6, .aload_n 0, 1), (7, .getfield 52, 3), (10, .iconst 5, 1), (11, .iload_n 1, 1), (12, .iconst 1, 1), (13, .iadd, 1), (14, .imul, 1), (15, .iload_n 2, 1), (16, .iadd, 1), (17, .iconst 1, 1), (18, .iadd, 1), (19, .iaload, 1), (20, .iadd, 1), (21, .ireturn, 1)])
theorem zmk_m_passesBy : zMok zm_m_passesBy := ⟨by decide +kernel, rfl, List.mem_append_right _ (List.mem_of_getElem? (i := 1250) (by decide +kernel)), plainFor_of_name zcp_12⟩
theorem zok_m_passesBy : zVok zm_m_passesBy 2 := ⟨(List.mem_of_getElem? (i := 1249) (by decide +kernel)), (List.mem_append_left _ (List.mem_map.mpr ⟨(⟨"LemonGateModel", "passesBy", "(II)I"⟩, 51), List.mem_of_getElem? (i := 52) (by decide +kernel), rfl⟩)), zci_12, zcn_12.1, zcn_12.2, by decide +kernel⟩
noncomputable def zm_m_where : zM := (12, ⟨"LemonGateModel", "where", "(II)I"⟩, prog_14_method_48_code, 9, some .int, [(0, .iload_n 1, 1), (1, .invokestatic 128, 3), (4, .ifCond .eq 26, 3), (7, .iload_n 2, 1), (8, .iconst (-1), 1), (9, .if_icmp .eq 24, 3), (12, .iload_n 2, 1), (13, .i2l, 1), (14, .iload_n 1, 1), (15, .bipush 100, 2), (17, .idiv, 1), (18, .i2l, 1), (19, .iload_n 1, 1), (20, .bipush 100, 2), (22, .irem, 1), (23, .i2l, 1), (24, .invokestatic 107, 3), (27, .ifCond .ne 6, 3), (30, .ldc 155, 2), (32, .ireturn, 1), (33, .aload_n 0, 1), (34, .getfield 111, 3), (37, .ifCond .ne 6, 3), (40, .bipush (-5), 2), (42, .ireturn, 1), (43, .iload_n 1, 1), (44, .bipush 100, 2), (46, .irem, 1), (47, .istore_n 3, 1), (48, .iconst (-1), 1), (49, .istore 4, 2), (51, .iload 4, 2), (53, .aload_n 0, 1), (54, .getfield 111, 3), (57, .if_icmp .ge 25, 3), (60, .aload_n 0, 1), (61, .getfield 52, 3), (64, .iconst 5, 1), (65, .iload_n 3, 1), (66, .iconst 1, 1), (67, .iadd, 1), (68, .imul, 1), (69, .iload 4, 2), (71, .iadd, 1), (72, .iconst 1, 1), (73, .iadd, 1), (74, .iconst 0, 1), (75, .iastore, 1), (76, .iinc 4 1, 3), (79, .goto (-28), 3), (82, .iload_n 3, 1), (83, .istore 4, 2), (85, .iload 4, 2), (87, .iload_n 1, 1), (88, .bipush 100, 2), (90, .idiv, 1), (91, .if_icmp .lt 104, 3), (94, .iconst (-1), 1), (95, .istore 5, 2), (97, .iload 5, 2), (99, .aload_n 0, 1), (100, .getfield 111, 3), (103, .if_icmp .ge 86, 3), (106, .iconst 0, 1), (107, .istore 6, 2), (109, .iconst (-1), 1), (110, .istore 7, 2), (112, .iload 7, 2), (114, .aload_n 0, 1), (115, .getfield 111, 3), (118, .if_icmp .ge 49, 3), (121, .iload 5, 2), (123, .iload 7, 2), (125, .invokestatic 274, 3), (128, .ifCond .eq 14, 3), (131, .aload_n 0, 1), (132, .iload 4, 2), (134, .iload 7, 2), (136, .invokevirtual 277, 3), (139, .goto 4, 3), (142, .iconst 0, 1), (143, .istore 8, 2), (145, .iload 8, 2), (147, .iload 6, 2), (149, .if_icmp .le 8, 3), (152, .iload 8, 2), (154, .goto 5, 3), (157, .iload 6, 2), (159, .istore 6, 2), (161, .iinc 7 1, 3), (164, .goto (-52), 3), (167, .aload_n 0, 1), (168, .getfield 52, 3), (171, .iconst 5, 1), (172, .iload 4, 2), (174, .imul, 1), (175, .iload 5, 2), (177, .iadd, 1), (178, .iconst 1, 1), (179, .iadd, 1), (180, .iload 6, 2), (182, .iastore, 1), (183, .iinc 5 1, 3), (186, .goto (-89), 3), (189, .iinc 4 (-1), 3), (192, .goto (-107), 3), (195, .iload_n 2, 1), (196, .iconst (-1), 1), (197, .if_icmp .ne 15, 3), (200, .aload_n 0, 1), (201, .getfield 52, 3), (204, .iconst 5, 1), (205, .iload_n 1, 1), (206, .bipush 100, 2), (208, .idiv, 1), (209, .imul, 1), (210, .iaload, 1), (211, .ireturn, 1), (212, .iconst (-1), 1), (213, .istore 4, 2), (215, .iload_n 1, 1), (216, .bipush 100, 2), (218, .idiv, 1), (219, .istore 5, 2), (221, .iload 5, 2), (223, .iload_n 2, 1), (224, .if_icmp .gt 57, 3), (227, .iconst (-1), 1), (228, .istore 6, 2), (230, .iload 4, 2), (232, .iload 6, 2), (234, .invokestatic 274, 3), (237, .ifCond .eq 28, 3), (240, .aload_n 0, 1), (241, .iload 5, 2), (243, .iload 6, 2), (245, .invokevirtual 277, 3), (248, .aload_n 0, 1), (249, .getfield 52, 3), (252, .iconst 5, 1), (253, .iload 5, 2), (255, .imul, 1), (256, .iload 4, 2), (258, .iadd, 1), (259, .iconst 1, 1), (260, .iadd, 1), (261, .iaload, 1), (262, .if_icmp .eq 9, 3), (265, .iinc 6 1, 3), (268, .goto (-38), 3), (271, .iload 6, 2), (273, .istore 4, 2), (275, .iinc 5 1, 3), (278, .goto (-57), 3), (281, .iload 4, 2), (283, .ireturn, 1)])
theorem zmk_m_where : zMok zm_m_where := ⟨by decide +kernel, rfl, List.mem_append_right _ (List.mem_of_getElem? (i := 1243) (by decide +kernel)), plainFor_of_name zcp_12⟩
theorem zok_m_where : zVok zm_m_where 2 := ⟨(List.mem_of_getElem? (i := 1241) (by decide +kernel)), (List.mem_append_right _ (List.mem_of_getElem? (i := 1242) (by decide +kernel))), zci_12, zcn_12.1, zcn_12.2, by decide +kernel⟩
noncomputable def zm_m_dayIs : zM := (12, ⟨"LemonGateModel", "dayIs", "(I)I"⟩, prog_14_method_49_code, 2, some .int, [(0, .iload_n 1, 1), (1, .invokestatic 120, 3), (4, .ifCond .ne 7, 3), (7, .iconst (-1), 1), (8, .goto 34, 3), (11, .aload_n 0, 1), (12, .getfield 86, 3), (15, .iload_n 1, 1), (16, .iaload, 1), (17, .ifCond .ge 8, 3), (20, .bipush (-11), 2), (22, .goto 20, 3), (25, .aload_n 0, 1), (26, .getfield 86, 3), (29, .iload_n 1, 1), (30, .iaload, 1), (31, .bipush 51, 2), (33, .if_icmp .ne 7, 3), (36, .iconst 1, 1), (37, .goto 5, 3), (40, .bipush (-12), 2), (42, .ireturn, 1)])
theorem zmk_m_dayIs : zMok zm_m_dayIs := ⟨by decide +kernel, rfl, List.mem_append_right _ (List.mem_of_getElem? (i := 1262) (by decide +kernel)), plainFor_of_name zcp_12⟩
theorem zok_m_dayIs : zVok zm_m_dayIs 1 := ⟨(List.mem_of_getElem? (i := 1261) (by decide +kernel)), (List.mem_append_left _ (List.mem_map.mpr ⟨(⟨"LemonGateModel", "dayIs", "(I)I"⟩, 51), List.mem_of_getElem? (i := 54) (by decide +kernel), rfl⟩)), zci_12, zcn_12.1, zcn_12.2, by decide +kernel⟩
noncomputable def zm_m_firstFalse : zM := (12, ⟨"LemonGateModel", "firstFalse", "(II)I"⟩, prog_14_method_50_code, 4, some .int, [(0, .aload_n 0, 1), (1, .iload_n 2, 1), (2, .invokevirtual 258, 3), (5, .pop, 1), (6, .iconst 0, 1), (7, .istore_n 3, 1), (8, .iload_n 3, 1), (9, .aload_n 0, 1), (10, .getfield 89, 3), (13, .iload_n 1, 1), (14, .iaload, 1), (15, .if_icmp .ge 39, 3), (18, .iload_n 3, 1), (19, .bipush 32, 2), (21, .if_icmp .ge 33, 3), (24, .aload_n 0, 1), (25, .getfield 92, 3), (28, .bipush 60, 2), (30, .iload_n 1, 1), (31, .imul, 1), (32, .iload_n 3, 1), (33, .iadd, 1), (34, .laload, 1), (35, .aload_n 0, 1), (36, .getfield 43, 3), (39, .iload_n 3, 1), (40, .iaload, 1), (41, .i2l, 1), (42, .lcmp, 1), (43, .ifCond .eq 5, 3), (46, .iload_n 3, 1), (47, .ireturn, 1), (48, .iinc 3 1, 3), (51, .goto (-43), 3), (54, .bipush (-2), 2), (56, .ireturn, 1)])
theorem zmk_m_firstFalse : zMok zm_m_firstFalse := ⟨by decide +kernel, rfl, List.mem_append_right _ (List.mem_of_getElem? (i := 1266) (by decide +kernel)), plainFor_of_name zcp_12⟩
theorem zok_m_firstFalse : zVok zm_m_firstFalse 2 := ⟨(List.mem_of_getElem? (i := 1265) (by decide +kernel)), (List.mem_append_left _ (List.mem_map.mpr ⟨(⟨"LemonGateModel", "firstFalse", "(II)I"⟩, 51), List.mem_of_getElem? (i := 55) (by decide +kernel), rfl⟩)), zci_12, zcn_12.1, zcn_12.2, by decide +kernel⟩
noncomputable def zm_m_judge : zM := (12, ⟨"LemonGateModel", "judge", "(II)I"⟩, prog_14_method_51_code, 3, some .int, [(0, .aload_n 0, 1), (1, .iload_n 1, 1), (2, .invokevirtual 280, 3), (5, .ifCond .ge 11, 3), (8, .aload_n 0, 1), (9, .iload_n 1, 1), (10, .invokevirtual 280, 3), (13, .goto 9, 3), (16, .aload_n 0, 1), (17, .iload_n 1, 1), (18, .iload_n 2, 1), (19, .invokevirtual 283, 3), (22, .ireturn, 1)])
theorem zmk_m_judge : zMok zm_m_judge := ⟨by decide +kernel, rfl, List.mem_append_right _ (List.mem_of_getElem? (i := 1258) (by decide +kernel)), plainFor_of_name zcp_12⟩
theorem zok_m_judge : zVok zm_m_judge 2 := ⟨(List.mem_of_getElem? (i := 1256) (by decide +kernel)), (List.mem_append_right _ (List.mem_of_getElem? (i := 1257) (by decide +kernel))), zci_12, zcn_12.1, zcn_12.2, by decide +kernel⟩
noncomputable def zm_m_seeded : zM := (12, ⟨"LemonGateModel", "seeded", "(I)I"⟩, prog_14_method_52_code, 3, some .int, [(0, .aload_n 0, 1), (1, .iload_n 1, 1), (2, .invokevirtual 280, 3), (5, .ifCond .ge 9, 3), (8, .aload_n 0, 1), (9, .iload_n 1, 1), (10, .invokevirtual 280, 3), (13, .ireturn, 1), (14, .iconst 0, 1), (15, .istore_n 2, 1), (16, .iload_n 2, 1), (17, .bipush 100, 2), (19, .if_icmp .ge 22, 3), (22, .aload_n 0, 1), (23, .iload_n 1, 1), (24, .iload_n 2, 1), (25, .invokevirtual 283, 3), (28, .bipush (-2), 2), (30, .if_icmp .ne 5, 3), (33, .iload_n 2, 1), (34, .ireturn, 1), (35, .iinc 2 1, 3), (38, .goto (-22), 3), (41, .bipush (-2), 2), (43, .ireturn, 1)])
theorem zmk_m_seeded : zMok zm_m_seeded := ⟨by decide +kernel, rfl, List.mem_append_right _ (List.mem_of_getElem? (i := 1270) (by decide +kernel)), plainFor_of_name zcp_12⟩
theorem zok_m_seeded : zVok zm_m_seeded 1 := ⟨(List.mem_of_getElem? (i := 1268) (by decide +kernel)), (List.mem_append_right _ (List.mem_of_getElem? (i := 1269) (by decide +kernel))), zci_12, zcn_12.1, zcn_12.2, by decide +kernel⟩
noncomputable def zm_m_common : zM := (12, ⟨"LemonGateModel", "common", "(JJ)J"⟩, prog_14_method_53_code, 10, some .long, [(0, .lload_n 0, 1), (1, .lconst 0, 1), (2, .lcmp, 1), (3, .ifCond .ge 8, 3), (6, .lload_n 0, 1), (7, .lneg, 1), (8, .goto 4, 3), (11, .lload_n 0, 1), (12, .lstore 4, 2), (14, .lload_n 2, 1), (15, .lstore 6, 2), (17, .lload 6, 2), (19, .lconst 0, 1), (20, .lcmp, 1), (21, .ifCond .eq 21, 3), (24, .lload 4, 2), (26, .lload 6, 2), (28, .lrem, 1), (29, .lstore 8, 2), (31, .lload 6, 2), (33, .lstore 4, 2), (35, .lload 8, 2), (37, .lstore 6, 2), (39, .goto (-22), 3), (42, .lload 4, 2), (44, .lreturn, 1)])
theorem zmk_m_common : zMok zm_m_common := ⟨by decide +kernel, rfl, List.mem_append_right _ (List.mem_of_getElem? (i := 1283) (by decide +kernel)), plainFor_of_name zcp_12⟩
theorem zok_m_common : zSok zm_m_common 2 := ⟨(List.mem_of_getElem? (i := 1282) (by decide +kernel)), zci_12, zcn_12.1, zcn_12.2, by decide +kernel⟩
noncomputable def zm_m_partOf : zM := (12, ⟨"LemonGateModel", "partOf", "(JJI)J"⟩, prog_14_method_54_code, 7, some .long, [(0, .lload_n 0, 1), (1, .lconst 0, 1), (2, .lcmp, 1), (3, .ifCond .ne 7, 3), (6, .iload 4, 2), (8, .i2l, 1), (9, .lreturn, 1), (10, .lload_n 0, 1), (11, .lload_n 2, 1), (12, .invokestatic 286, 3), (15, .lstore 5, 2), (17, .iload 4, 2), (19, .ifCond .ne 10, 3), (22, .lload_n 0, 1), (23, .lload 5, 2), (25, .ldiv, 1), (26, .goto 7, 3), (29, .lload_n 2, 1), (30, .lload 5, 2), (32, .ldiv, 1), (33, .lreturn, 1)])
theorem zmk_m_partOf : zMok zm_m_partOf := ⟨by decide +kernel, rfl, List.mem_append_right _ (List.mem_of_getElem? (i := 1280) (by decide +kernel)), plainFor_of_name zcp_12⟩
theorem zok_m_partOf : zSok zm_m_partOf 3 := ⟨(List.mem_of_getElem? (i := 1279) (by decide +kernel)), zci_12, zcn_12.1, zcn_12.2, by decide +kernel⟩
noncomputable def zm_m_make : zM := (12, ⟨"LemonGateModel", "make", "(III)J"⟩, prog_14_method_55_code, 15, some .long, [(0, .iload_n 1, 1), (1, .ifCond .lt 45, 3), (4, .iload_n 1, 1), (5, .bipush 100, 2), (7, .idiv, 1), (8, .bipush 8, 2), (10, .if_icmp .gt 36, 3), (13, .iload_n 1, 1), (14, .bipush 100, 2), (16, .irem, 1), (17, .bipush 12, 2), (19, .if_icmp .gt 27, 3), (22, .iload_n 2, 1), (23, .i2l, 1), (24, .lconst 0, 1), (25, .ldc2_w 290, 3), (28, .invokestatic 107, 3), (31, .ifCond .eq 15, 3), (34, .iload_n 3, 1), (35, .i2l, 1), (36, .lconst 0, 1), (37, .ldc2_w 292, 3), (40, .invokestatic 107, 3), (43, .ifCond .ne 7, 3), (46, .ldc2_w 296, 3), (49, .lreturn, 1), (50, .iload_n 1, 1), (51, .bipush 100, 2), (53, .idiv, 1), (54, .istore 4, 2), (56, .iload_n 1, 1), (57, .bipush 100, 2), (59, .irem, 1), (60, .istore 5, 2), (62, .lconst 1, 1), (63, .lstore 6, 2), (65, .iconst 0, 1), (66, .istore 8, 2), (68, .iload 8, 2), (70, .bipush 10, 2), (72, .if_icmp .ge 17, 3), (75, .aload_n 0, 1), (76, .getfield 55, 3), (79, .iload 8, 2), (81, .lconst 0, 1), (82, .lastore, 1), (83, .iinc 8 1, 3), (86, .goto (-18), 3), (89, .aload_n 0, 1), (90, .getfield 55, 3), (93, .iconst 0, 1), (94, .lconst 1, 1), (95, .lastore, 1), (96, .iconst 0, 1), (97, .istore 8, 2), (99, .iload 8, 2), (101, .iload 4, 2), (103, .if_icmp .ge 78, 3), (106, .lload 6, 2), (108, .ldc2_w 137, 3), (111, .lmul, 1), (112, .lstore 6, 2), (114, .iload 8, 2), (116, .iconst 1, 1), (117, .iadd, 1), (118, .istore 9, 2), (120, .iload 9, 2), (122, .ifCond .lt 53, 3), (125, .aload_n 0, 1), (126, .getfield 55, 3), (129, .iload 9, 2), (131, .aload_n 0, 1), (132, .getfield 55, 3), (135, .iload 9, 2), (137, .laload, 1), (138, .bipush 12, 2), (140, .iload 5, 2), (142, .isub, 1), (143, .i2l, 1), (144, .lmul, 1), (145, .iload 9, 2), (147, .ifCond .le 19, 3), (150, .aload_n 0, 1), (151, .getfield 55, 3), (154, .iload 9, 2), (156, .iconst 1, 1), (157, .isub, 1), (158, .laload, 1), (159, .iload 5, 2), (161, .i2l, 1), (162, .lmul, 1), (163, .goto 4, 3), (166, .lconst 0, 1), (167, .ladd, 1), (168, .lastore, 1), (169, .iinc 9 (-1), 3), (172, .goto (-52), 3), (175, .iinc 8 1, 3), (178, .goto (-79), 3), (181, .iconst 0, 1), (182, .istore 8, 2), (184, .lconst 0, 1), (185, .lstore 9, 2), (187, .iconst 0, 1), (188, .istore 11, 2), (190, .iload 11, 2), (192, .iload 4, 2), (194, .if_icmp .gt 93, 3), (197, .iload_n 2, 1), (198, .ineg, 1), (199, .iload 11, 2), (201, .imul, 1), (202, .i2l, 1), (203, .lload 6, 2), (205, .lmul, 1), (206, .lstore 12, 2), (208, .iconst 0, 1), (209, .istore 14, 2), (211, .iload 14, 2), (213, .iload 4, 2), (215, .if_icmp .gt 45, 3), (218, .lload 12, 2), (220, .aload_n 0, 1), (221, .getfield 55, 3), (224, .iload 14, 2), (226, .laload, 1), (227, .aload_n 0, 1), (228, .getfield 7, 3), (231, .iconst 3, 1), (232, .iaload, 1), (233, .i2l, 1), (234, .lmul, 1), (235, .iload 14, 2), (237, .iload 11, 2), (239, .if_icmp .ge 8, 3), (242, .iload 14, 2), (244, .goto 5, 3), (247, .iload 11, 2), (249, .i2l, 1), (250, .lmul, 1), (251, .ladd, 1), (252, .lstore 12, 2), (254, .iinc 14 1, 3), (257, .goto (-46), 3), (260, .iload 11, 2), (262, .ifCond .eq 11, 3), (265, .lload 12, 2), (267, .lload 9, 2), (269, .lcmp, 1), (270, .ifCond .le 11, 3), (273, .iload 11, 2), (275, .istore 8, 2), (277, .lload 12, 2), (279, .lstore 9, 2), (281, .iinc 11 1, 3), (284, .goto (-94), 3), (287, .iload_n 3, 1), (288, .ifCond .ne 9, 3), (291, .iload 8, 2), (293, .i2l, 1), (294, .goto 13, 3), (297, .lload 9, 2), (299, .lload 6, 2), (301, .iload_n 3, 1), (302, .iconst 1, 1), (303, .isub, 1), (304, .invokestatic 298, 3), (307, .lreturn, 1)])
theorem zmk_m_make : zMok zm_m_make := ⟨by decide +kernel, rfl, List.mem_append_right _ (List.mem_of_getElem? (i := 1274) (by decide +kernel)), plainFor_of_name zcp_12⟩
theorem zok_m_make : zVok zm_m_make 3 := ⟨(List.mem_of_getElem? (i := 1272) (by decide +kernel)), (List.mem_append_right _ (List.mem_of_getElem? (i := 1273) (by decide +kernel))), zci_12, zcn_12.1, zcn_12.2, by decide +kernel⟩
noncomputable def zm_m_undercut : zM := (12, ⟨"LemonGateModel", "undercut", "(II)I"⟩, prog_14_method_56_code, 9, some .int, [(0, .iload_n 1, 1), (1, .i2l, 1), (2, .lconst 0, 1), (3, .ldc2_w 135, 3), (6, .invokestatic 107, 3), (9, .ifCond .eq 15, 3), (12, .iload_n 2, 1), (13, .i2l, 1), (14, .lconst 0, 1), (15, .ldc2_w 292, 3), (18, .invokestatic 107, 3), (21, .ifCond .ne 5, 3), (24, .iconst (-1), 1), (25, .ireturn, 1), (26, .aload_n 0, 1), (27, .getfield 7, 3), (30, .iconst 4, 1), (31, .iaload, 1), (32, .ifCond .ne 6, 3), (35, .bipush (-5), 2), (37, .ireturn, 1), (38, .aload_n 0, 1), (39, .invokevirtual 151, 3), (42, .aload_n 0, 1), (43, .getfield 7, 3), (46, .iconst 2, 1), (47, .iaload, 1), (48, .idiv, 1), (49, .istore_n 3, 1), (50, .aload_n 0, 1), (51, .getfield 7, 3), (54, .iconst 3, 1), (55, .iaload, 1), (56, .istore 4, 2), (58, .aload_n 0, 1), (59, .getfield 7, 3), (62, .iconst 4, 1), (63, .iaload, 1), (64, .istore 5, 2), (66, .iconst 0, 1), (67, .istore 6, 2), (69, .iconst 1, 1), (70, .istore 7, 2), (72, .iload 7, 2), (74, .ifCond .eq 90, 3), (77, .iload 6, 2), (79, .iconst 2, 1), (80, .irem, 1), (81, .ifCond .ne 10, 3), (84, .iload 4, 2), (86, .iconst 1, 1), (87, .isub, 1), (88, .goto 7, 3), (91, .iload 5, 2), (93, .iconst 1, 1), (94, .isub, 1), (95, .istore 8, 2), (97, .iload 8, 2), (99, .iload 6, 2), (101, .iconst 2, 1), (102, .irem, 1), (103, .ifCond .ne 7, 3), (106, .iload_n 1, 1), (107, .goto 4, 3), (110, .iload_n 3, 1), (111, .if_icmp .lt 7, 3), (114, .iconst 1, 1), (115, .goto 4, 3), (118, .iconst 0, 1), (119, .istore 7, 2), (121, .iload 7, 2), (123, .ifCond .eq 38, 3), (126, .iload 6, 2), (128, .iconst 2, 1), (129, .irem, 1), (130, .ifCond .ne 8, 3), (133, .iload 8, 2), (135, .goto 5, 3), (138, .iload 5, 2), (140, .istore 5, 2), (142, .iload 6, 2), (144, .iconst 2, 1), (145, .irem, 1), (146, .ifCond .ne 8, 3), (149, .iload 4, 2), (151, .goto 5, 3), (154, .iload 8, 2), (156, .istore 4, 2), (158, .iinc 6 1, 3), (161, .goto (-89), 3), (164, .iload_n 2, 1), (165, .ifCond .ne 8, 3), (168, .iload 6, 2), (170, .goto 15, 3), (173, .iload_n 2, 1), (174, .iconst 1, 1), (175, .if_icmp .ne 8, 3), (178, .iload 4, 2), (180, .goto 5, 3), (183, .iload 5, 2), (185, .ireturn, 1)])
theorem zmk_m_undercut : zMok zm_m_undercut := ⟨by decide +kernel, rfl, List.mem_append_right _ (List.mem_of_getElem? (i := 1287) (by decide +kernel)), plainFor_of_name zcp_12⟩
theorem zok_m_undercut : zVok zm_m_undercut 2 := ⟨(List.mem_of_getElem? (i := 1285) (by decide +kernel)), (List.mem_append_right _ (List.mem_of_getElem? (i := 1286) (by decide +kernel))), zci_12, zcn_12.1, zcn_12.2, by decide +kernel⟩
noncomputable def zm_m_brings : zM := (12, ⟨"LemonGateModel", "brings", "(II)I"⟩, prog_14_method_57_code, 4, some .int, [(0, .iload_n 1, 1), (1, .i2l, 1), (2, .lconst 1, 1), (3, .ldc2_w 147, 3), (6, .invokestatic 107, 3), (9, .ifCond .eq 15, 3), (12, .iload_n 2, 1), (13, .i2l, 1), (14, .lconst 0, 1), (15, .ldc2_w 302, 3), (18, .invokestatic 107, 3), (21, .ifCond .ne 5, 3), (24, .iconst (-1), 1), (25, .ireturn, 1), (26, .aload_n 0, 1), (27, .getfield 59, 3), (30, .iload_n 1, 1), (31, .iaload, 1), (32, .istore_n 3, 1), (33, .aload_n 0, 1), (34, .getfield 59, 3), (37, .iload_n 1, 1), (38, .iload_n 2, 1), (39, .iastore, 1), (40, .iload_n 3, 1), (41, .ireturn, 1)])
theorem zmk_m_brings : zMok zm_m_brings := ⟨by decide +kernel, rfl, List.mem_append_right _ (List.mem_of_getElem? (i := 1291) (by decide +kernel)), plainFor_of_name zcp_12⟩
theorem zok_m_brings : zVok zm_m_brings 2 := ⟨(List.mem_of_getElem? (i := 1289) (by decide +kernel)), (List.mem_append_right _ (List.mem_of_getElem? (i := 1290) (by decide +kernel))), zci_12, zcn_12.1, zcn_12.2, by decide +kernel⟩
noncomputable def zm_m_minutes : zM := (12, ⟨"LemonGateModel", "minutes", "(II)I"⟩, prog_14_method_58_code, 4, some .int, [(0, .iload_n 1, 1), (1, .i2l, 1), (2, .lconst 0, 1), (3, .ldc2_w 292, 3), (6, .invokestatic 107, 3), (9, .ifCond .eq 15, 3), (12, .iload_n 2, 1), (13, .i2l, 1), (14, .lconst 0, 1), (15, .ldc2_w 304, 3), (18, .invokestatic 107, 3), (21, .ifCond .ne 5, 3), (24, .iconst (-1), 1), (25, .ireturn, 1), (26, .aload_n 0, 1), (27, .getfield 62, 3), (30, .iload_n 1, 1), (31, .iaload, 1), (32, .istore_n 3, 1), (33, .aload_n 0, 1), (34, .getfield 62, 3), (37, .iload_n 1, 1), (38, .iload_n 2, 1), (39, .iastore, 1), (40, .iload_n 3, 1), (41, .ireturn, 1)])
theorem zmk_m_minutes : zMok zm_m_minutes := ⟨by decide +kernel, rfl, List.mem_append_right _ (List.mem_of_getElem? (i := 1296) (by decide +kernel)), plainFor_of_name zcp_12⟩
theorem zok_m_minutes : zVok zm_m_minutes 2 := ⟨(List.mem_of_getElem? (i := 1294) (by decide +kernel)), (List.mem_append_right _ (List.mem_of_getElem? (i := 1295) (by decide +kernel))), zci_12, zcn_12.1, zcn_12.2, by decide +kernel⟩
noncomputable def zm_m_addsOf : zM := (12, ⟨"LemonGateModel", "addsOf", "(I)I"⟩, prog_14_method_59_code, 7, some .int, [(0, .iconst 1, 1), (1, .iload_n 1, 1), (2, .iconst 1, 1), (3, .iadd, 1), (4, .iconst 3, 1), (5, .irem, 1), (6, .ishl, 1), (7, .istore_n 2, 1), (8, .iconst 1, 1), (9, .iload_n 1, 1), (10, .iconst 2, 1), (11, .iadd, 1), (12, .iconst 3, 1), (13, .irem, 1), (14, .ishl, 1), (15, .istore_n 3, 1), (16, .iconst 1, 1), (17, .iload_n 1, 1), (18, .ishl, 1), (19, .istore 4, 2), (21, .aload_n 0, 1), (22, .getfield 59, 3), (25, .iload 4, 2), (27, .iaload, 1), (28, .istore 5, 2), (30, .aload_n 0, 1), (31, .getfield 59, 3), (34, .iload 4, 2), (36, .iload_n 2, 1), (37, .ior, 1), (38, .iaload, 1), (39, .aload_n 0, 1), (40, .getfield 59, 3), (43, .iload_n 2, 1), (44, .iaload, 1), (45, .isub, 1), (46, .aload_n 0, 1), (47, .getfield 59, 3), (50, .iload 4, 2), (52, .iload_n 3, 1), (53, .ior, 1), (54, .iaload, 1), (55, .iadd, 1), (56, .aload_n 0, 1), (57, .getfield 59, 3), (60, .iload_n 3, 1), (61, .iaload, 1), (62, .isub, 1), (63, .istore 6, 2), (65, .iconst 2, 1), (66, .iload 5, 2), (68, .imul, 1), (69, .iload 6, 2), (71, .iadd, 1), (72, .iconst 2, 1), (73, .aload_n 0, 1), (74, .getfield 59, 3), (77, .bipush 7, 2), (79, .iaload, 1), (80, .aload_n 0, 1), (81, .getfield 59, 3), (84, .iload_n 2, 1), (85, .iload_n 3, 1), (86, .ior, 1), (87, .iaload, 1), (88, .isub, 1), (89, .imul, 1), (90, .iadd, 1), (91, .ireturn, 1)])
theorem zmk_m_addsOf : zMok zm_m_addsOf := ⟨by decide +kernel, rfl, List.mem_append_right _ (List.mem_of_getElem? (i := 1306) (by decide +kernel)), plainFor_of_name zcp_12⟩
theorem zok_m_addsOf : zVok zm_m_addsOf 1 := ⟨(List.mem_of_getElem? (i := 1305) (by decide +kernel)), (List.mem_append_left _ (List.mem_map.mpr ⟨(⟨"LemonGateModel", "addsOf", "(I)I"⟩, 51), List.mem_of_getElem? (i := 56) (by decide +kernel), rfl⟩)), zci_12, zcn_12.1, zcn_12.2, by decide +kernel⟩
noncomputable def zm_m_share : zM := (12, ⟨"LemonGateModel", "share", "(III)I"⟩, prog_14_method_60_code, 5, some .int, [(0, .iload_n 1, 1), (1, .i2l, 1), (2, .lconst 0, 1), (3, .ldc2_w 292, 3), (6, .invokestatic 107, 3), (9, .ifCond .eq 25, 3), (12, .iload_n 2, 1), (13, .i2l, 1), (14, .lconst 0, 1), (15, .ldc2_w 292, 3), (18, .invokestatic 107, 3), (21, .ifCond .eq 13, 3), (24, .iload_n 3, 1), (25, .i2l, 1), (26, .lconst 0, 1), (27, .lconst 1, 1), (28, .invokestatic 107, 3), (31, .ifCond .ne 6, 3), (34, .ldc 155, 2), (36, .ireturn, 1), (37, .iload_n 2, 1), (38, .ifCond .ne 20, 3), (41, .aload_n 0, 1), (42, .getfield 59, 3), (45, .bipush 7, 2), (47, .iaload, 1), (48, .i2l, 1), (49, .ldc2_w 306, 3), (52, .iload_n 3, 1), (53, .invokestatic 298, 3), (56, .l2i, 1), (57, .ireturn, 1), (58, .iload_n 2, 1), (59, .iconst 2, 1), (60, .if_icmp .ne 18, 3), (63, .aload_n 0, 1), (64, .iload_n 1, 1), (65, .invokevirtual 308, 3), (68, .i2l, 1), (69, .ldc2_w 311, 3), (72, .iload_n 3, 1), (73, .invokestatic 298, 3), (76, .l2i, 1), (77, .ireturn, 1), (78, .aload_n 0, 1), (79, .getfield 62, 3), (82, .iconst 0, 1), (83, .iaload, 1), (84, .aload_n 0, 1), (85, .getfield 62, 3), (88, .iconst 1, 1), (89, .iaload, 1), (90, .iadd, 1), (91, .aload_n 0, 1), (92, .getfield 62, 3), (95, .iconst 2, 1), (96, .iaload, 1), (97, .iadd, 1), (98, .istore 4, 2), (100, .iload 4, 2), (102, .ifCond .ne 8, 3), (105, .iload_n 3, 1), (106, .i2l, 1), (107, .goto 26, 3), (110, .aload_n 0, 1), (111, .getfield 59, 3), (114, .bipush 7, 2), (116, .iaload, 1), (117, .i2l, 1), (118, .aload_n 0, 1), (119, .getfield 62, 3), (122, .iload_n 1, 1), (123, .iaload, 1), (124, .i2l, 1), (125, .lmul, 1), (126, .iload 4, 2), (128, .i2l, 1), (129, .iload_n 3, 1), (130, .invokestatic 298, 3), (133, .l2i, 1), (134, .ireturn, 1)])
theorem zmk_m_share : zMok zm_m_share := ⟨by decide +kernel, rfl, List.mem_append_right _ (List.mem_of_getElem? (i := 1301) (by decide +kernel)), plainFor_of_name zcp_12⟩
theorem zok_m_share : zVok zm_m_share 3 := ⟨(List.mem_of_getElem? (i := 1299) (by decide +kernel)), (List.mem_append_right _ (List.mem_of_getElem? (i := 1300) (by decide +kernel))), zci_12, zcn_12.1, zcn_12.2, by decide +kernel⟩
noncomputable def zm_m_slate : zM := (12, ⟨"LemonGateModel", "slate", "(II)I"⟩, prog_14_method_61_code, 4, some .int, [(0, .iload_n 1, 1), (1, .ifCond .lt 44, 3), (4, .iload_n 1, 1), (5, .bipush 10, 2), (7, .idiv, 1), (8, .bipush 6, 2), (10, .if_icmp .ge 35, 3), (13, .iload_n 1, 1), (14, .bipush 10, 2), (16, .irem, 1), (17, .bipush 6, 2), (19, .if_icmp .ge 26, 3), (22, .iload_n 1, 1), (23, .bipush 10, 2), (25, .idiv, 1), (26, .iload_n 1, 1), (27, .bipush 10, 2), (29, .irem, 1), (30, .if_icmp .eq 15, 3), (33, .iload_n 2, 1), (34, .i2l, 1), (35, .lconst 0, 1), (36, .ldc2_w 302, 3), (39, .invokestatic 107, 3), (42, .ifCond .ne 5, 3), (45, .iconst (-1), 1), (46, .ireturn, 1), (47, .aload_n 0, 1), (48, .getfield 65, 3), (51, .bipush 6, 2), (53, .iload_n 1, 1), (54, .bipush 10, 2), (56, .idiv, 1), (57, .imul, 1), (58, .iload_n 1, 1), (59, .bipush 10, 2), (61, .irem, 1), (62, .iadd, 1), (63, .iaload, 1), (64, .istore_n 3, 1), (65, .aload_n 0, 1), (66, .getfield 65, 3), (69, .bipush 6, 2), (71, .iload_n 1, 1), (72, .bipush 10, 2), (74, .idiv, 1), (75, .imul, 1), (76, .iload_n 1, 1), (77, .bipush 10, 2), (79, .irem, 1), (80, .iadd, 1), (81, .iload_n 2, 1), (82, .iastore, 1), (83, .iload_n 3, 1), (84, .ireturn, 1)])
theorem zmk_m_slate : zMok zm_m_slate := ⟨by decide +kernel, rfl, List.mem_append_right _ (List.mem_of_getElem? (i := 1311) (by decide +kernel)), plainFor_of_name zcp_12⟩
theorem zok_m_slate : zVok zm_m_slate 2 := ⟨(List.mem_of_getElem? (i := 1309) (by decide +kernel)), (List.mem_append_right _ (List.mem_of_getElem? (i := 1310) (by decide +kernel))), zci_12, zcn_12.1, zcn_12.2, by decide +kernel⟩
noncomputable def zm_m_owesOf : zM := (12, ⟨"LemonGateModel", "owesOf", "(I)I"⟩, prog_14_method_62_code, 4, some .int, [(0, .iconst 0, 1), (1, .istore_n 2, 1), (2, .iconst 0, 1), (3, .istore_n 3, 1), (4, .iload_n 3, 1), (5, .bipush 6, 2), (7, .if_icmp .ge 35, 3), (10, .iload_n 2, 1), (11, .aload_n 0, 1), (12, .getfield 65, 3), (15, .bipush 6, 2), (17, .iload_n 1, 1), (18, .imul, 1), (19, .iload_n 3, 1), (20, .iadd, 1), (21, .iaload, 1), (22, .aload_n 0, 1), (23, .getfield 65, 3), (26, .bipush 6, 2), (28, .iload_n 3, 1), (29, .imul, 1), (30, .iload_n 1, 1), (31, .iadd, 1), (32, .iaload, 1), (33, .isub, 1), (34, .iadd, 1), (35, .istore_n 2, 1), (36, .iinc 3 1, 3), (39, .goto (-35), 3), (42, .iload_n 2, 1), (43, .ireturn, 1)])
theorem zmk_m_owesOf : zMok zm_m_owesOf := ⟨by decide +kernel, rfl, List.mem_append_right _ (List.mem_of_getElem? (i := 1319) (by decide +kernel)), plainFor_of_name zcp_12⟩
theorem zok_m_owesOf : zVok zm_m_owesOf 1 := ⟨(List.mem_of_getElem? (i := 1318) (by decide +kernel)), (List.mem_append_left _ (List.mem_map.mpr ⟨(⟨"LemonGateModel", "owesOf", "(I)I"⟩, 51), List.mem_of_getElem? (i := 57) (by decide +kernel), rfl⟩)), zci_12, zcn_12.1, zcn_12.2, by decide +kernel⟩
noncomputable def zm_m_owes : zM := (12, ⟨"LemonGateModel", "owes", "(I)I"⟩, prog_14_method_63_code, 2, some .int, [(0, .iload_n 1, 1), (1, .i2l, 1), (2, .lconst 0, 1), (3, .ldc2_w 313, 3), (6, .invokestatic 107, 3), (9, .ifCond .eq 11, 3), (12, .aload_n 0, 1), (13, .iload_n 1, 1), (14, .invokevirtual 315, 3), (17, .goto 5, 3), (20, .ldc 155, 2), (22, .ireturn, 1)])
theorem zmk_m_owes : zMok zm_m_owes := ⟨by decide +kernel, rfl, List.mem_append_right _ (List.mem_of_getElem? (i := 1315) (by decide +kernel)), plainFor_of_name zcp_12⟩
theorem zok_m_owes : zVok zm_m_owes 1 := ⟨(List.mem_of_getElem? (i := 1313) (by decide +kernel)), (List.mem_append_right _ (List.mem_of_getElem? (i := 1314) (by decide +kernel))), zci_12, zcn_12.1, zcn_12.2, by decide +kernel⟩
noncomputable def zm_m_wiped : zM := (12, ⟨"LemonGateModel", "wiped", "()I"⟩, prog_14_method_64_code, 5, some .int, [(0, .iconst 0, 1), (1, .istore_n 1, 1), (2, .iload_n 1, 1), (3, .bipush 64, 2), (5, .if_icmp .ge 57, 3), (8, .aload_n 0, 1), (9, .getfield 68, 3), (12, .iload_n 1, 1), (13, .iconst 0, 1), (14, .iastore, 1), (15, .iconst 0, 1), (16, .istore_n 2, 1), (17, .iload_n 2, 1), (18, .bipush 6, 2), (20, .if_icmp .ge 36, 3), (23, .aload_n 0, 1), (24, .getfield 68, 3), (27, .iload_n 1, 1), (28, .dup2, 1), (29, .iaload, 1), (30, .iload_n 1, 1), (31, .iload_n 2, 1), (32, .ishr, 1), (33, .iconst 1, 1), (34, .iand, 1), (35, .iconst 1, 1), (36, .if_icmp .ne 11, 3), (39, .aload_n 0, 1), (40, .iload_n 2, 1), (41, .invokevirtual 315, 3), (44, .goto 4, 3), (47, .iconst 0, 1), (48, .iadd, 1), (49, .iastore, 1), (50, .iinc 2 1, 3), (53, .goto (-36), 3), (56, .iinc 1 1, 3), (59, .goto (-57), 3), (62, .iconst 0, 1), (63, .istore_n 1, 1), (64, .iload_n 1, 1), (65, .bipush 64, 2), (67, .if_icmp .ge 91, 3), (70, .iconst 0, 1), (71, .istore_n 2, 1), (72, .iconst 0, 1), (73, .istore_n 3, 1), (74, .iload_n 3, 1), (75, .bipush 6, 2), (77, .if_icmp .ge 49, 3), (80, .iload_n 1, 1), (81, .iload_n 3, 1), (82, .ishr, 1), (83, .iconst 1, 1), (84, .iand, 1), (85, .iconst 1, 1), (86, .if_icmp .ne 18, 3), (89, .aload_n 0, 1), (90, .getfield 71, 3), (93, .iload_n 1, 1), (94, .iconst 1, 1), (95, .iload_n 3, 1), (96, .ishl, 1), (97, .iconst (-1), 1), (98, .ixor, 1), (99, .iand, 1), (100, .iaload, 1), (101, .goto 4, 3), (104, .iconst 0, 1), (105, .istore 4, 2), (107, .iload 4, 2), (109, .iload_n 2, 1), (110, .if_icmp .le 8, 3), (113, .iload 4, 2), (115, .goto 4, 3), (118, .iload_n 2, 1), (119, .istore_n 2, 1), (120, .iinc 3 1, 3), (123, .goto (-49), 3), (126, .aload_n 0, 1), (127, .getfield 71, 3), (130, .iload_n 1, 1), (131, .iload_n 2, 1), (132, .iload_n 1, 1), (133, .ifCond .le 16, 3), (136, .aload_n 0, 1), (137, .getfield 68, 3), (140, .iload_n 1, 1), (141, .iaload, 1), (142, .ifCond .ne 7, 3), (145, .iconst 1, 1), (146, .goto 4, 3), (149, .iconst 0, 1), (150, .iadd, 1), (151, .iastore, 1), (152, .iinc 1 1, 3), (155, .goto (-91), 3), (158, .bipush 6, 2), (160, .aload_n 0, 1), (161, .getfield 71, 3), (164, .bipush 63, 2), (166, .iaload, 1), (167, .isub, 1), (168, .ireturn, 1)])
theorem zmk_m_wiped : zMok zm_m_wiped := ⟨by decide +kernel, rfl, List.mem_append_right _ (List.mem_of_getElem? (i := 1323) (by decide +kernel)), plainFor_of_name zcp_12⟩
theorem zok_m_wiped : zVok zm_m_wiped 0 := ⟨(List.mem_of_getElem? (i := 1321) (by decide +kernel)), (List.mem_append_right _ (List.mem_of_getElem? (i := 1322) (by decide +kernel))), zci_12, zcn_12.1, zcn_12.2, by decide +kernel⟩
noncomputable def zm_m_allHeats : zM := (12, ⟨"LemonGateModel", "allHeats", "()I"⟩, prog_14_method_65_code, 3, some .int, [(0, .iconst 0, 1), (1, .istore_n 1, 1), (2, .iconst 0, 1), (3, .istore_n 2, 1), (4, .iload_n 2, 1), (5, .bipush 32, 2), (7, .if_icmp .ge 18, 3), (10, .iload_n 1, 1), (11, .aload_n 0, 1), (12, .getfield 22, 3), (15, .iload_n 2, 1), (16, .iaload, 1), (17, .iadd, 1), (18, .istore_n 1, 1), (19, .iinc 2 1, 3), (22, .goto (-18), 3), (25, .iload_n 1, 1), (26, .ireturn, 1)])
theorem zmk_m_allHeats : zMok zm_m_allHeats := ⟨by decide +kernel, rfl, List.mem_append_right _ (List.mem_of_getElem? (i := 1331) (by decide +kernel)), plainFor_of_name zcp_12⟩
theorem zok_m_allHeats : zVok zm_m_allHeats 0 := ⟨(List.mem_of_getElem? (i := 1330) (by decide +kernel)), (List.mem_append_left _ (List.mem_map.mpr ⟨(⟨"LemonGateModel", "allHeats", "()I"⟩, 51), List.mem_of_getElem? (i := 58) (by decide +kernel), rfl⟩)), zci_12, zcn_12.1, zcn_12.2, by decide +kernel⟩
noncomputable def zm_m_image : zM := (12, ⟨"LemonGateModel", "image", "()I"⟩, prog_14_method_66_code, 2, some .int, [(0, .aload_n 0, 1), (1, .iconst 1, 1), (2, .putfield 318, 3), (5, .iconst 0, 1), (6, .istore_n 1, 1), (7, .iload_n 1, 1), (8, .bipush 32, 2), (10, .if_icmp .ge 33, 3), (13, .aload_n 0, 1), (14, .getfield 74, 3), (17, .iload_n 1, 1), (18, .aload_n 0, 1), (19, .getfield 22, 3), (22, .iload_n 1, 1), (23, .iaload, 1), (24, .iastore, 1), (25, .aload_n 0, 1), (26, .getfield 77, 3), (29, .iload_n 1, 1), (30, .aload_n 0, 1), (31, .getfield 25, 3), (34, .iload_n 1, 1), (35, .iaload, 1), (36, .iastore, 1), (37, .iinc 1 1, 3), (40, .goto (-33), 3), (43, .aload_n 0, 1), (44, .invokevirtual 321, 3), (47, .ireturn, 1)])
theorem zmk_m_image : zMok zm_m_image := ⟨by decide +kernel, rfl, List.mem_append_right _ (List.mem_of_getElem? (i := 1327) (by decide +kernel)), plainFor_of_name zcp_12⟩
theorem zok_m_image : zVok zm_m_image 0 := ⟨(List.mem_of_getElem? (i := 1325) (by decide +kernel)), (List.mem_append_right _ (List.mem_of_getElem? (i := 1326) (by decide +kernel))), zci_12, zcn_12.1, zcn_12.2, by decide +kernel⟩
noncomputable def zm_m_back : zM := (12, ⟨"LemonGateModel", "back", "()I"⟩, prog_14_method_67_code, 2, some .int, [(0, .aload_n 0, 1), (1, .getfield 318, 3), (4, .ifCond .ne 6, 3), (7, .bipush (-5), 2), (9, .ireturn, 1), (10, .iconst 0, 1), (11, .istore_n 1, 1), (12, .iload_n 1, 1), (13, .bipush 32, 2), (15, .if_icmp .ge 33, 3), (18, .aload_n 0, 1), (19, .getfield 22, 3), (22, .iload_n 1, 1), (23, .aload_n 0, 1), (24, .getfield 74, 3), (27, .iload_n 1, 1), (28, .iaload, 1), (29, .iastore, 1), (30, .aload_n 0, 1), (31, .getfield 25, 3), (34, .iload_n 1, 1), (35, .aload_n 0, 1), (36, .getfield 77, 3), (39, .iload_n 1, 1), (40, .iaload, 1), (41, .iastore, 1), (42, .iinc 1 1, 3), (45, .goto (-33), 3), (48, .aload_n 0, 1), (49, .invokevirtual 321, 3), (52, .ireturn, 1)])
theorem zmk_m_back : zMok zm_m_back := ⟨by decide +kernel, rfl, List.mem_append_right _ (List.mem_of_getElem? (i := 1335) (by decide +kernel)), plainFor_of_name zcp_12⟩
theorem zok_m_back : zVok zm_m_back 0 := ⟨(List.mem_of_getElem? (i := 1333) (by decide +kernel)), (List.mem_append_right _ (List.mem_of_getElem? (i := 1334) (by decide +kernel))), zci_12, zcn_12.1, zcn_12.2, by decide +kernel⟩
noncomputable def zm_m_isBody : zM := (12, ⟨"LemonGateModel", "isBody", "(I)Z"⟩, prog_14_method_68_code, 2, some .boolean, [(0, .iload_n 1, 1), (1, .i2l, 1), (2, .lconst 0, 1), (3, .aload_n 0, 1), (4, .getfield 324, 3), (7, .iconst 1, 1), (8, .isub, 1), (9, .i2l, 1), (10, .invokestatic 107, 3), (13, .ireturn, 1)])
theorem zmk_m_isBody : zMok zm_m_isBody := ⟨by decide +kernel, rfl, List.mem_append_right _ (List.mem_of_getElem? (i := 1347) (by decide +kernel)), plainFor_of_name zcp_12⟩
theorem zok_m_isBody : zVok zm_m_isBody 1 := ⟨(List.mem_of_getElem? (i := 1346) (by decide +kernel)), (List.mem_append_left _ (List.mem_map.mpr ⟨(⟨"LemonGateModel", "isBody", "(I)Z"⟩, 51), List.mem_of_getElem? (i := 59) (by decide +kernel), rfl⟩)), zci_12, zcn_12.1, zcn_12.2, by decide +kernel⟩
noncomputable def zm_m_kindOf : zM := (12, ⟨"LemonGateModel", "kindOf", "(I)I"⟩, prog_14_method_69_code, 2, some .int, [(0, .aload_n 0, 1), (1, .getfield 80, 3), (4, .iload_n 1, 1), (5, .iaload, 1), (6, .ireturn, 1)])
theorem zmk_m_kindOf : zMok zm_m_kindOf := ⟨by decide +kernel, rfl, List.mem_append_right _ (List.mem_of_getElem? (i := 1407) (by decide +kernel)), plainFor_of_name zcp_12⟩
theorem zok_m_kindOf : zVok zm_m_kindOf 1 := ⟨(List.mem_of_getElem? (i := 1406) (by decide +kernel)), (List.mem_append_left _ (List.mem_map.mpr ⟨(⟨"LemonGateModel", "kindOf", "(I)I"⟩, 51), List.mem_of_getElem? (i := 66) (by decide +kernel), rfl⟩)), zci_12, zcn_12.1, zcn_12.2, by decide +kernel⟩
noncomputable def zm_m_body : zM := (12, ⟨"LemonGateModel", "body", "(I)I"⟩, prog_14_method_70_code, 2, some .int, [(0, .iload_n 1, 1), (1, .i2l, 1), (2, .lconst 0, 1), (3, .ldc2_w 147, 3), (6, .invokestatic 107, 3), (9, .ifCond .ne 5, 3), (12, .iconst (-1), 1), (13, .ireturn, 1), (14, .aload_n 0, 1), (15, .getfield 324, 3), (18, .bipush 50, 2), (20, .if_icmp .ne 6, 3), (23, .bipush (-3), 2), (25, .ireturn, 1), (26, .aload_n 0, 1), (27, .getfield 80, 3), (30, .aload_n 0, 1), (31, .getfield 324, 3), (34, .iload_n 1, 1), (35, .iastore, 1), (36, .aload_n 0, 1), (37, .dup, 1), (38, .getfield 324, 3), (41, .iconst 1, 1), (42, .iadd, 1), (43, .putfield 324, 3), (46, .aload_n 0, 1), (47, .getfield 324, 3), (50, .iconst 1, 1), (51, .isub, 1), (52, .ireturn, 1)])
theorem zmk_m_body : zMok zm_m_body := ⟨by decide +kernel, rfl, List.mem_append_right _ (List.mem_of_getElem? (i := 1339) (by decide +kernel)), plainFor_of_name zcp_12⟩
theorem zok_m_body : zVok zm_m_body 1 := ⟨(List.mem_of_getElem? (i := 1337) (by decide +kernel)), (List.mem_append_right _ (List.mem_of_getElem? (i := 1338) (by decide +kernel))), zci_12, zcn_12.1, zcn_12.2, by decide +kernel⟩
noncomputable def zm_m_above : zM := (12, ⟨"LemonGateModel", "above", "(I)I"⟩, prog_14_method_71_code, 1, some .int, [(0, .iload_n 0, 1), (1, .iconst 3, 1), (2, .if_icmp .ne 7, 3), (5, .iconst 2, 1), (6, .goto 32, 3), (9, .iload_n 0, 1), (10, .iconst 4, 1), (11, .if_icmp .ne 7, 3), (14, .iconst 1, 1), (15, .goto 23, 3), (18, .iload_n 0, 1), (19, .iconst 5, 1), (20, .if_icmp .ne 7, 3), (23, .iconst 3, 1), (24, .goto 14, 3), (27, .iload_n 0, 1), (28, .bipush 7, 2), (30, .if_icmp .ne 7, 3), (33, .iconst 4, 1), (34, .goto 4, 3), (37, .iconst 0, 1), (38, .ireturn, 1)])
theorem zmk_m_above : zMok zm_m_above := ⟨by decide +kernel, rfl, List.mem_append_right _ (List.mem_of_getElem? (i := 1410) (by decide +kernel)), plainFor_of_name zcp_12⟩
theorem zok_m_above : zSok zm_m_above 1 := ⟨(List.mem_of_getElem? (i := 1409) (by decide +kernel)), zci_12, zcn_12.1, zcn_12.2, by decide +kernel⟩
noncomputable def zm_m_begins : zM := (12, ⟨"LemonGateModel", "begins", "(I)V"⟩, prog_14_method_72_code, 2, none, [(0, .aload_n 0, 1), (1, .getfield 327, 3), (4, .bipush 24, 2), (6, .if_icmp .ge 13, 3), (9, .aload_n 0, 1), (10, .getfield 83, 3), (13, .aload_n 0, 1), (14, .getfield 327, 3), (17, .iload_n 1, 1), (18, .iastore, 1), (19, .aload_n 0, 1), (20, .dup, 1), (21, .getfield 327, 3), (24, .iconst 1, 1), (25, .iadd, 1), (26, .putfield 327, 3), (29, .return_, 1)])
theorem zmk_m_begins : zMok zm_m_begins := ⟨by decide +kernel, rfl, List.mem_append_right _ (List.mem_of_getElem? (i := 1355) (by decide +kernel)), plainFor_of_name zcp_12⟩
theorem zok_m_begins : zVok zm_m_begins 1 := ⟨(List.mem_of_getElem? (i := 1354) (by decide +kernel)), (List.mem_append_left _ (List.mem_map.mpr ⟨(⟨"LemonGateModel", "begins", "(I)V"⟩, 51), List.mem_of_getElem? (i := 61) (by decide +kernel), rfl⟩)), zci_12, zcn_12.1, zcn_12.2, by decide +kernel⟩
noncomputable def zm_m_makesAs : zM := (12, ⟨"LemonGateModel", "makesAs", "(II)I"⟩, prog_14_method_73_code, 3, some .int, [(0, .iload_n 1, 1), (1, .iconst 1, 1), (2, .if_icmp .eq 14, 3), (5, .iload_n 1, 1), (6, .iconst 4, 1), (7, .if_icmp .eq 9, 3), (10, .iload_n 1, 1), (11, .bipush 7, 2), (13, .if_icmp .ne 18, 3), (16, .aload_n 0, 1), (17, .bipush 20, 2), (19, .invokevirtual 330, 3), (22, .aload_n 0, 1), (23, .iconst 0, 1), (24, .iload_n 2, 1), (25, .invokevirtual 333, 3), (28, .iconst 3, 1), (29, .iadd, 1), (30, .ireturn, 1), (31, .iload_n 1, 1), (32, .bipush 6, 2), (34, .if_icmp .ne 18, 3), (37, .aload_n 0, 1), (38, .bipush 70, 2), (40, .invokevirtual 330, 3), (43, .aload_n 0, 1), (44, .iconst 0, 1), (45, .iload_n 2, 1), (46, .invokevirtual 333, 3), (49, .iconst 2, 1), (50, .imul, 1), (51, .ireturn, 1), (52, .aload_n 0, 1), (53, .iconst 1, 1), (54, .invokevirtual 330, 3), (57, .iload_n 2, 1), (58, .aload_n 0, 1), (59, .getfield 336, 3), (62, .iadd, 1), (63, .ireturn, 1)])
theorem zmk_m_makesAs : zMok zm_m_makesAs := ⟨by decide +kernel, rfl, List.mem_append_right _ (List.mem_of_getElem? (i := 1351) (by decide +kernel)), plainFor_of_name zcp_12⟩
theorem zok_m_makesAs : zVok zm_m_makesAs 2 := ⟨(List.mem_of_getElem? (i := 1350) (by decide +kernel)), (List.mem_append_left _ (List.mem_map.mpr ⟨(⟨"LemonGateModel", "makesAs", "(II)I"⟩, 51), List.mem_of_getElem? (i := 60) (by decide +kernel), rfl⟩)), zci_12, zcn_12.1, zcn_12.2, by decide +kernel⟩
noncomputable def zm_m_sellsAs : zM := (12, ⟨"LemonGateModel", "sellsAs", "(II)I"⟩, prog_14_method_74_code, 4, some .int, [(0, .iload_n 1, 1), (1, .iconst 3, 1), (2, .if_icmp .eq 8, 3), (5, .iload_n 1, 1), (6, .iconst 5, 1), (7, .if_icmp .ne 18, 3), (10, .aload_n 0, 1), (11, .bipush 41, 2), (13, .invokevirtual 330, 3), (16, .aload_n 0, 1), (17, .iconst 2, 1), (18, .iload_n 2, 1), (19, .iconst 1, 1), (20, .iadd, 1), (21, .invokevirtual 339, 3), (24, .ireturn, 1), (25, .iload_n 1, 1), (26, .iconst 2, 1), (27, .if_icmp .ne 17, 3), (30, .aload_n 0, 1), (31, .bipush 30, 2), (33, .invokevirtual 330, 3), (36, .aload_n 0, 1), (37, .iconst 0, 1), (38, .iload_n 2, 1), (39, .invokevirtual 339, 3), (42, .ineg, 1), (43, .ireturn, 1), (44, .iload_n 1, 1), (45, .bipush 7, 2), (47, .if_icmp .ne 28, 3), (50, .aload_n 0, 1), (51, .bipush 80, 2), (53, .invokevirtual 330, 3), (56, .aload_n 0, 1), (57, .iconst 4, 1), (58, .iload_n 2, 1), (59, .invokevirtual 339, 3), (62, .istore_n 3, 1), (63, .iload_n 3, 1), (64, .aload_n 0, 1), (65, .aload_n 0, 1), (66, .getfield 342, 3), (69, .iconst 2, 1), (70, .invokevirtual 345, 3), (73, .iadd, 1), (74, .ireturn, 1), (75, .aload_n 0, 1), (76, .bipush 10, 2), (78, .invokevirtual 330, 3), (81, .aload_n 0, 1), (82, .aload_n 0, 1), (83, .getfield 342, 3), (86, .iload_n 2, 1), (87, .invokevirtual 333, 3), (90, .iconst 2, 1), (91, .imul, 1), (92, .ireturn, 1)])
theorem zmk_m_sellsAs : zMok zm_m_sellsAs := ⟨by decide +kernel, rfl, List.mem_append_right _ (List.mem_of_getElem? (i := 1359) (by decide +kernel)), plainFor_of_name zcp_12⟩
theorem zok_m_sellsAs : zVok zm_m_sellsAs 2 := ⟨(List.mem_of_getElem? (i := 1358) (by decide +kernel)), (List.mem_append_left _ (List.mem_map.mpr ⟨(⟨"LemonGateModel", "sellsAs", "(II)I"⟩, 51), List.mem_of_getElem? (i := 62) (by decide +kernel), rfl⟩)), zci_12, zcn_12.1, zcn_12.2, by decide +kernel⟩
noncomputable def zm_m_sharesAs : zM := (12, ⟨"LemonGateModel", "sharesAs", "(II)I"⟩, prog_14_method_75_code, 4, some .int, [(0, .iload_n 1, 1), (1, .iconst 3, 1), (2, .if_icmp .eq 8, 3), (5, .iload_n 1, 1), (6, .iconst 5, 1), (7, .if_icmp .ne 18, 3), (10, .aload_n 0, 1), (11, .bipush 40, 2), (13, .invokevirtual 330, 3), (16, .aload_n 0, 1), (17, .iconst 2, 1), (18, .iload_n 2, 1), (19, .invokevirtual 345, 3), (22, .iconst 3, 1), (23, .imul, 1), (24, .ireturn, 1), (25, .iload_n 1, 1), (26, .iconst 4, 1), (27, .if_icmp .eq 9, 3), (30, .iload_n 1, 1), (31, .bipush 7, 2), (33, .if_icmp .ne 28, 3), (36, .aload_n 0, 1), (37, .bipush 50, 2), (39, .invokevirtual 330, 3), (42, .aload_n 0, 1), (43, .iconst 1, 1), (44, .iload_n 2, 1), (45, .invokevirtual 345, 3), (48, .istore_n 3, 1), (49, .iload_n 3, 1), (50, .aload_n 0, 1), (51, .aload_n 0, 1), (52, .getfield 342, 3), (55, .iconst 2, 1), (56, .invokevirtual 333, 3), (59, .isub, 1), (60, .ireturn, 1), (61, .aload_n 0, 1), (62, .bipush 11, 2), (64, .invokevirtual 330, 3), (67, .iload_n 2, 1), (68, .aload_n 0, 1), (69, .getfield 336, 3), (72, .ixor, 1), (73, .ireturn, 1)])
theorem zmk_m_sharesAs : zMok zm_m_sharesAs := ⟨by decide +kernel, rfl, List.mem_append_right _ (List.mem_of_getElem? (i := 1363) (by decide +kernel)), plainFor_of_name zcp_12⟩
theorem zok_m_sharesAs : zVok zm_m_sharesAs 2 := ⟨(List.mem_of_getElem? (i := 1362) (by decide +kernel)), (List.mem_append_left _ (List.mem_map.mpr ⟨(⟨"LemonGateModel", "sharesAs", "(II)I"⟩, 51), List.mem_of_getElem? (i := 63) (by decide +kernel), rfl⟩)), zci_12, zcn_12.1, zcn_12.2, by decide +kernel⟩
noncomputable def zm_m_tellsAs : zM := (12, ⟨"LemonGateModel", "tellsAs", "(II)I"⟩, prog_14_method_76_code, 4, some .int, [(0, .iload_n 1, 1), (1, .iconst 5, 1), (2, .if_icmp .ne 18, 3), (5, .aload_n 0, 1), (6, .bipush 60, 2), (8, .invokevirtual 330, 3), (11, .aload_n 0, 1), (12, .iconst 3, 1), (13, .iload_n 2, 1), (14, .invokevirtual 348, 3), (17, .iconst 5, 1), (18, .ixor, 1), (19, .ireturn, 1), (20, .iload_n 1, 1), (21, .bipush 7, 2), (23, .if_icmp .ne 18, 3), (26, .aload_n 0, 1), (27, .bipush 81, 2), (29, .invokevirtual 330, 3), (32, .aload_n 0, 1), (33, .iconst 4, 1), (34, .iload_n 2, 1), (35, .invokevirtual 348, 3), (38, .iconst 1, 1), (39, .isub, 1), (40, .ireturn, 1), (41, .aload_n 0, 1), (42, .iconst 2, 1), (43, .invokevirtual 330, 3), (46, .aload_n 0, 1), (47, .aload_n 0, 1), (48, .getfield 342, 3), (51, .iload_n 2, 1), (52, .invokevirtual 339, 3), (55, .istore_n 3, 1), (56, .iload_n 3, 1), (57, .aload_n 0, 1), (58, .aload_n 0, 1), (59, .getfield 342, 3), (62, .iconst 1, 1), (63, .invokevirtual 345, 3), (66, .isub, 1), (67, .ireturn, 1)])
theorem zmk_m_tellsAs : zMok zm_m_tellsAs := ⟨by decide +kernel, rfl, List.mem_append_right _ (List.mem_of_getElem? (i := 1367) (by decide +kernel)), plainFor_of_name zcp_12⟩
theorem zok_m_tellsAs : zVok zm_m_tellsAs 2 := ⟨(List.mem_of_getElem? (i := 1366) (by decide +kernel)), (List.mem_append_left _ (List.mem_map.mpr ⟨(⟨"LemonGateModel", "tellsAs", "(II)I"⟩, 51), List.mem_of_getElem? (i := 64) (by decide +kernel), rfl⟩)), zci_12, zcn_12.1, zcn_12.2, by decide +kernel⟩
noncomputable def zm_m_act : zM := (12, ⟨"LemonGateModel", "act", "(III)I"⟩, prog_14_method_77_code, 4, some .int, [(0, .aload_n 0, 1), (1, .iconst 0, 1), (2, .putfield 327, 3), (5, .aload_n 0, 1), (6, .iload_n 1, 1), (7, .invokevirtual 351, 3), (10, .ifCond .ne 5, 3), (13, .iconst 0, 1), (14, .ireturn, 1), (15, .aload_n 0, 1), (16, .aload_n 0, 1), (17, .getfield 80, 3), (20, .iload_n 1, 1), (21, .iaload, 1), (22, .putfield 342, 3), (25, .aload_n 0, 1), (26, .iload_n 1, 1), (27, .putfield 336, 3), (30, .iload_n 2, 1), (31, .tableswitch 69 0 3 #[29, 39, 49, 59], 29), (60, .aload_n 0, 1), (61, .aload_n 0, 1), (62, .getfield 342, 3), (65, .iload_n 3, 1), (66, .invokevirtual 333, 3), (69, .ireturn, 1), (70, .aload_n 0, 1), (71, .aload_n 0, 1), (72, .getfield 342, 3), (75, .iload_n 3, 1), (76, .invokevirtual 339, 3), (79, .ireturn, 1), (80, .aload_n 0, 1), (81, .aload_n 0, 1), (82, .getfield 342, 3), (85, .iload_n 3, 1), (86, .invokevirtual 345, 3), (89, .ireturn, 1), (90, .aload_n 0, 1), (91, .aload_n 0, 1), (92, .getfield 342, 3), (95, .iload_n 3, 1), (96, .invokevirtual 348, 3), (99, .ireturn, 1), (100, .iconst 0, 1), (101, .ireturn, 1)])
theorem zmk_m_act : zMok zm_m_act := ⟨by decide +kernel, rfl, List.mem_append_right _ (List.mem_of_getElem? (i := 1343) (by decide +kernel)), plainFor_of_name zcp_12⟩
theorem zok_m_act : zVok zm_m_act 3 := ⟨(List.mem_of_getElem? (i := 1341) (by decide +kernel)), (List.mem_append_right _ (List.mem_of_getElem? (i := 1342) (by decide +kernel))), zci_12, zcn_12.1, zcn_12.2, by decide +kernel⟩
noncomputable def zm_m_trace : zM := (12, ⟨"LemonGateModel", "trace", "(I)I"⟩, prog_14_method_78_code, 2, some .int, [(0, .iload_n 1, 1), (1, .ifCond .lt 26, 3), (4, .iload_n 1, 1), (5, .aload_n 0, 1), (6, .getfield 327, 3), (9, .if_icmp .ge 18, 3), (12, .iload_n 1, 1), (13, .bipush 24, 2), (15, .if_icmp .ge 12, 3), (18, .aload_n 0, 1), (19, .getfield 83, 3), (22, .iload_n 1, 1), (23, .iaload, 1), (24, .goto 4, 3), (27, .iconst (-1), 1), (28, .ireturn, 1)])
theorem zmk_m_trace : zMok zm_m_trace := ⟨by decide +kernel, rfl, List.mem_append_right _ (List.mem_of_getElem? (i := 1371) (by decide +kernel)), plainFor_of_name zcp_12⟩
theorem zok_m_trace : zVok zm_m_trace 1 := ⟨(List.mem_of_getElem? (i := 1369) (by decide +kernel)), (List.mem_append_right _ (List.mem_of_getElem? (i := 1370) (by decide +kernel))), zci_12, zcn_12.1, zcn_12.2, by decide +kernel⟩
noncomputable def zm_m_isShelf : zM := (12, ⟨"LemonGateModel", "isShelf", "(I)Z"⟩, prog_14_method_79_code, 1, some .boolean, [(0, .iload_n 0, 1), (1, .i2l, 1), (2, .lconst 0, 1), (3, .ldc2_w 313, 3), (6, .invokestatic 107, 3), (9, .ireturn, 1)])
theorem zmk_m_isShelf : zMok zm_m_isShelf := ⟨by decide +kernel, rfl, List.mem_append_right _ (List.mem_of_getElem? (i := 1082) (by decide +kernel)), plainFor_of_name zcp_12⟩
theorem zok_m_isShelf : zSok zm_m_isShelf 1 := ⟨(List.mem_of_getElem? (i := 1081) (by decide +kernel)), zci_12, zcn_12.1, zcn_12.2, by decide +kernel⟩
noncomputable def zm_m_keep : zM := (12, ⟨"LemonGateModel", "keep", "(II)I"⟩, prog_14_method_80_code, 3, some .int, [(0, .iload_n 1, 1), (1, .invokestatic 120, 3), (4, .ifCond .eq 16, 3), (7, .iload_n 2, 1), (8, .iconst (-1), 1), (9, .if_icmp .eq 13, 3), (12, .aload_n 0, 1), (13, .iload_n 2, 1), (14, .invokevirtual 351, 3), (17, .ifCond .ne 5, 3), (20, .iconst (-1), 1), (21, .ireturn, 1), (22, .aload_n 0, 1), (23, .getfield 86, 3), (26, .iload_n 1, 1), (27, .iload_n 2, 1), (28, .iastore, 1), (29, .aload_n 0, 1), (30, .getfield 89, 3), (33, .iload_n 1, 1), (34, .iconst 0, 1), (35, .iastore, 1), (36, .iconst 1, 1), (37, .ireturn, 1)])
theorem zmk_m_keep : zMok zm_m_keep := ⟨by decide +kernel, rfl, List.mem_append_right _ (List.mem_of_getElem? (i := 1375) (by decide +kernel)), plainFor_of_name zcp_12⟩
theorem zok_m_keep : zVok zm_m_keep 2 := ⟨(List.mem_of_getElem? (i := 1373) (by decide +kernel)), (List.mem_append_right _ (List.mem_of_getElem? (i := 1374) (by decide +kernel))), zci_12, zcn_12.1, zcn_12.2, by decide +kernel⟩
noncomputable def zm_m_row : zM := (12, ⟨"LemonGateModel", "row", "(III)I"⟩, prog_14_method_81_code, 5, some .int, [(0, .iload_n 1, 1), (1, .invokestatic 120, 3), (4, .ifCond .eq 21, 3), (7, .iload_n 2, 1), (8, .i2l, 1), (9, .lconst 0, 1), (10, .ldc2_w 354, 3), (13, .invokestatic 107, 3), (16, .ifCond .eq 9, 3), (19, .iload_n 3, 1), (20, .bipush 60, 2), (22, .if_icmp .le 5, 3), (25, .iconst (-1), 1), (26, .ireturn, 1), (27, .iload_n 3, 1), (28, .ifCond .ge 6, 3), (31, .bipush (-14), 2), (33, .ireturn, 1), (34, .aload_n 0, 1), (35, .getfield 86, 3), (38, .iload_n 1, 1), (39, .bipush 50, 2), (41, .iload_n 2, 1), (42, .iadd, 1), (43, .iastore, 1), (44, .aload_n 0, 1), (45, .getfield 89, 3), (48, .iload_n 1, 1), (49, .iload_n 3, 1), (50, .iastore, 1), (51, .bipush 60, 2), (53, .iload_n 1, 1), (54, .imul, 1), (55, .istore 4, 2), (57, .iload 4, 2), (59, .bipush 60, 2), (61, .iload_n 1, 1), (62, .imul, 1), (63, .bipush 60, 2), (65, .iadd, 1), (66, .if_icmp .ge 17, 3), (69, .aload_n 0, 1), (70, .getfield 92, 3), (73, .iload 4, 2), (75, .lconst 0, 1), (76, .lastore, 1), (77, .iinc 4 1, 3), (80, .goto (-23), 3), (83, .iconst 1, 1), (84, .ireturn, 1)])
theorem zmk_m_row : zMok zm_m_row := ⟨by decide +kernel, rfl, List.mem_append_right _ (List.mem_of_getElem? (i := 1379) (by decide +kernel)), plainFor_of_name zcp_12⟩
theorem zok_m_row : zVok zm_m_row 3 := ⟨(List.mem_of_getElem? (i := 1377) (by decide +kernel)), (List.mem_append_right _ (List.mem_of_getElem? (i := 1378) (by decide +kernel))), zci_12, zcn_12.1, zcn_12.2, by decide +kernel⟩
noncomputable def zm_m_refusal : zM := (12, ⟨"LemonGateModel", "refusal", "(II)I"⟩, prog_14_method_82_code, 3, some .int, [(0, .iload_n 1, 1), (1, .invokestatic 120, 3), (4, .ifCond .ne 5, 3), (7, .iconst (-1), 1), (8, .ireturn, 1), (9, .aload_n 0, 1), (10, .getfield 86, 3), (13, .iload_n 1, 1), (14, .iaload, 1), (15, .ifCond .ge 6, 3), (18, .bipush (-11), 2), (20, .ireturn, 1), (21, .aload_n 0, 1), (22, .getfield 86, 3), (25, .iload_n 1, 1), (26, .iaload, 1), (27, .bipush 50, 2), (29, .if_icmp .ge 6, 3), (32, .bipush (-12), 2), (34, .ireturn, 1), (35, .iload_n 2, 1), (36, .ifCond .lt 17, 3), (39, .iload_n 2, 1), (40, .aload_n 0, 1), (41, .getfield 89, 3), (44, .iload_n 1, 1), (45, .iaload, 1), (46, .if_icmp .ge 7, 3), (49, .iconst 0, 1), (50, .goto 5, 3), (53, .bipush (-13), 2), (55, .ireturn, 1)])
theorem zmk_m_refusal : zMok zm_m_refusal := ⟨by decide +kernel, rfl, List.mem_append_right _ (List.mem_of_getElem? (i := 1388) (by decide +kernel)), plainFor_of_name zcp_12⟩
theorem zok_m_refusal : zVok zm_m_refusal 2 := ⟨(List.mem_of_getElem? (i := 1387) (by decide +kernel)), (List.mem_append_left _ (List.mem_map.mpr ⟨(⟨"LemonGateModel", "refusal", "(II)I"⟩, 51), List.mem_of_getElem? (i := 65) (by decide +kernel), rfl⟩)), zci_12, zcn_12.1, zcn_12.2, by decide +kernel⟩
noncomputable def zm_m_asSort : zM := (12, ⟨"LemonGateModel", "asSort", "(IJ)J"⟩, prog_14_method_83_code, 3, some .long, [(0, .iload_n 0, 1), (1, .ifCond .ne 10, 3), (4, .lload_n 1, 1), (5, .l2i, 1), (6, .i2b, 1), (7, .i2l, 1), (8, .goto 46, 3), (11, .iload_n 0, 1), (12, .iconst 1, 1), (13, .if_icmp .ne 10, 3), (16, .lload_n 1, 1), (17, .l2i, 1), (18, .i2s, 1), (19, .i2l, 1), (20, .goto 34, 3), (23, .iload_n 0, 1), (24, .iconst 2, 1), (25, .if_icmp .ne 9, 3), (28, .lload_n 1, 1), (29, .l2i, 1), (30, .i2l, 1), (31, .goto 23, 3), (34, .iload_n 0, 1), (35, .iconst 4, 1), (36, .if_icmp .ne 17, 3), (39, .lload_n 1, 1), (40, .lconst 0, 1), (41, .lcmp, 1), (42, .ifCond .eq 7, 3), (45, .lconst 1, 1), (46, .goto 8, 3), (49, .lconst 0, 1), (50, .goto 4, 3), (53, .lload_n 1, 1), (54, .lreturn, 1)])
theorem zmk_m_asSort : zMok zm_m_asSort := ⟨by decide +kernel, rfl, List.mem_append_right _ (List.mem_of_getElem? (i := 1391) (by decide +kernel)), plainFor_of_name zcp_12⟩
theorem zok_m_asSort : zSok zm_m_asSort 2 := ⟨(List.mem_of_getElem? (i := 1390) (by decide +kernel)), zci_12, zcn_12.1, zcn_12.2, by decide +kernel⟩
noncomputable def zm_m_put : zM := (12, ⟨"LemonGateModel", "put", "(IIJ)I"⟩, prog_14_method_84_code, 6, some .int, [(0, .aload_n 0, 1), (1, .iload_n 1, 1), (2, .iload_n 2, 1), (3, .invokevirtual 356, 3), (6, .istore 5, 2), (8, .iload 5, 2), (10, .ifCond .ne 27, 3), (13, .aload_n 0, 1), (14, .getfield 92, 3), (17, .bipush 60, 2), (19, .iload_n 1, 1), (20, .imul, 1), (21, .iload_n 2, 1), (22, .iadd, 1), (23, .aload_n 0, 1), (24, .getfield 86, 3), (27, .iload_n 1, 1), (28, .iaload, 1), (29, .bipush 50, 2), (31, .isub, 1), (32, .lload_n 3, 1), (33, .invokestatic 359, 3), (36, .lastore, 1), (37, .iload 5, 2), (39, .ifCond .ne 7, 3), (42, .iconst 1, 1), (43, .goto 5, 3), (46, .iload 5, 2), (48, .ireturn, 1)])
theorem zmk_m_put : zMok zm_m_put := ⟨by decide +kernel, rfl, List.mem_append_right _ (List.mem_of_getElem? (i := 1384) (by decide +kernel)), plainFor_of_name zcp_12⟩
theorem zok_m_put : zVok zm_m_put 3 := ⟨(List.mem_of_getElem? (i := 1382) (by decide +kernel)), (List.mem_append_right _ (List.mem_of_getElem? (i := 1383) (by decide +kernel))), zci_12, zcn_12.1, zcn_12.2, by decide +kernel⟩
noncomputable def zm_m_element : zM := (12, ⟨"LemonGateModel", "element", "(II)J"⟩, prog_14_method_85_code, 3, some .long, [(0, .aload_n 0, 1), (1, .iload_n 1, 1), (2, .iload_n 2, 1), (3, .invokevirtual 356, 3), (6, .ifCond .eq 9, 3), (9, .ldc2_w 296, 3), (12, .goto 14, 3), (15, .aload_n 0, 1), (16, .getfield 92, 3), (19, .bipush 60, 2), (21, .iload_n 1, 1), (22, .imul, 1), (23, .iload_n 2, 1), (24, .iadd, 1), (25, .laload, 1), (26, .lreturn, 1)])
theorem zmk_m_element : zMok zm_m_element := ⟨by decide +kernel, rfl, List.mem_append_right _ (List.mem_of_getElem? (i := 1395) (by decide +kernel)), plainFor_of_name zcp_12⟩
theorem zok_m_element : zVok zm_m_element 2 := ⟨(List.mem_of_getElem? (i := 1393) (by decide +kernel)), (List.mem_append_right _ (List.mem_of_getElem? (i := 1394) (by decide +kernel))), zci_12, zcn_12.1, zcn_12.2, by decide +kernel⟩
noncomputable def zm_m_shift : zM := (12, ⟨"LemonGateModel", "shift", "(IIIII)I"⟩, prog_14_method_86_code, 7, some .int, [(0, .iload_n 1, 1), (1, .invokestatic 120, 3), (4, .ifCond .eq 10, 3), (7, .iload_n 3, 1), (8, .invokestatic 120, 3), (11, .ifCond .ne 5, 3), (14, .iconst (-1), 1), (15, .ireturn, 1), (16, .aload_n 0, 1), (17, .getfield 86, 3), (20, .iload_n 1, 1), (21, .iaload, 1), (22, .ifCond .lt 12, 3), (25, .aload_n 0, 1), (26, .getfield 86, 3), (29, .iload_n 3, 1), (30, .iaload, 1), (31, .ifCond .ge 6, 3), (34, .bipush (-11), 2), (36, .ireturn, 1), (37, .aload_n 0, 1), (38, .getfield 86, 3), (41, .iload_n 1, 1), (42, .iaload, 1), (43, .bipush 50, 2), (45, .if_icmp .lt 18, 3), (48, .aload_n 0, 1), (49, .getfield 86, 3), (52, .iload_n 1, 1), (53, .iaload, 1), (54, .aload_n 0, 1), (55, .getfield 86, 3), (58, .iload_n 3, 1), (59, .iaload, 1), (60, .if_icmp .eq 6, 3), (63, .bipush (-12), 2), (65, .ireturn, 1), (66, .iload 5, 2), (68, .ifCond .lt 39, 3), (71, .iload_n 2, 1), (72, .ifCond .lt 35, 3), (75, .iload 4, 2), (77, .ifCond .lt 30, 3), (80, .iload_n 2, 1), (81, .aload_n 0, 1), (82, .getfield 89, 3), (85, .iload_n 1, 1), (86, .iaload, 1), (87, .iload 5, 2), (89, .isub, 1), (90, .if_icmp .gt 17, 3), (93, .iload 4, 2), (95, .aload_n 0, 1), (96, .getfield 89, 3), (99, .iload_n 3, 1), (100, .iaload, 1), (101, .iload 5, 2), (103, .isub, 1), (104, .if_icmp .le 6, 3), (107, .bipush (-13), 2), (109, .ireturn, 1), (110, .iconst 0, 1), (111, .istore 6, 2), (113, .iload 6, 2), (115, .iload 5, 2), (117, .if_icmp .ge 30, 3), (120, .aload_n 0, 1), (121, .getfield 95, 3), (124, .iload 6, 2), (126, .aload_n 0, 1), (127, .getfield 92, 3), (130, .bipush 60, 2), (132, .iload_n 1, 1), (133, .imul, 1), (134, .iload_n 2, 1), (135, .iadd, 1), (136, .iload 6, 2), (138, .iadd, 1), (139, .laload, 1), (140, .lastore, 1), (141, .iinc 6 1, 3), (144, .goto (-31), 3), (147, .iconst 0, 1), (148, .istore 6, 2), (150, .iload 6, 2), (152, .iload 5, 2), (154, .if_icmp .ge 31, 3), (157, .aload_n 0, 1), (158, .getfield 92, 3), (161, .bipush 60, 2), (163, .iload_n 3, 1), (164, .imul, 1), (165, .iload 4, 2), (167, .iadd, 1), (168, .iload 6, 2), (170, .iadd, 1), (171, .aload_n 0, 1), (172, .getfield 95, 3), (175, .iload 6, 2), (177, .laload, 1), (178, .lastore, 1), (179, .iinc 6 1, 3), (182, .goto (-32), 3), (185, .iload 5, 2), (187, .ireturn, 1)])
theorem zmk_m_shift : zMok zm_m_shift := ⟨by decide +kernel, rfl, List.mem_append_right _ (List.mem_of_getElem? (i := 1399) (by decide +kernel)), plainFor_of_name zcp_12⟩
theorem zok_m_shift : zVok zm_m_shift 5 := ⟨(List.mem_of_getElem? (i := 1397) (by decide +kernel)), (List.mem_append_right _ (List.mem_of_getElem? (i := 1398) (by decide +kernel))), zci_12, zcn_12.1, zcn_12.2, by decide +kernel⟩
noncomputable def zm_m_taken : zM := (12, ⟨"LemonGateModel", "taken", "(II)I"⟩, prog_14_method_87_code, 4, some .int, [(0, .iload_n 1, 1), (1, .invokestatic 120, 3), (4, .ifCond .eq 15, 3), (7, .iload_n 2, 1), (8, .i2l, 1), (9, .lconst 0, 1), (10, .ldc2_w 147, 3), (13, .invokestatic 107, 3), (16, .ifCond .ne 5, 3), (19, .iconst (-1), 1), (20, .ireturn, 1), (21, .aload_n 0, 1), (22, .getfield 86, 3), (25, .iload_n 1, 1), (26, .iaload, 1), (27, .ifCond .ge 6, 3), (30, .bipush (-11), 2), (32, .ireturn, 1), (33, .aload_n 0, 1), (34, .getfield 86, 3), (37, .iload_n 1, 1), (38, .iaload, 1), (39, .bipush 50, 2), (41, .if_icmp .lt 6, 3), (44, .bipush (-12), 2), (46, .ireturn, 1), (47, .aload_n 0, 1), (48, .aload_n 0, 1), (49, .getfield 86, 3), (52, .iload_n 1, 1), (53, .iaload, 1), (54, .invokevirtual 363, 3), (57, .istore_n 3, 1), (58, .iload_n 3, 1), (59, .iload_n 2, 1), (60, .if_icmp .eq 15, 3), (63, .iload_n 3, 1), (64, .ifCond .le 11, 3), (67, .iload_n 3, 1), (68, .invokestatic 366, 3), (71, .istore_n 3, 1), (72, .goto (-14), 3), (75, .iload_n 3, 1), (76, .iload_n 2, 1), (77, .if_icmp .ne 16, 3), (80, .aload_n 0, 1), (81, .aload_n 0, 1), (82, .getfield 86, 3), (85, .iload_n 1, 1), (86, .iaload, 1), (87, .invokevirtual 363, 3), (90, .goto 5, 3), (93, .bipush (-12), 2), (95, .ireturn, 1)])
theorem zmk_m_taken : zMok zm_m_taken := ⟨by decide +kernel, rfl, List.mem_append_right _ (List.mem_of_getElem? (i := 1403) (by decide +kernel)), plainFor_of_name zcp_12⟩
theorem zok_m_taken : zVok zm_m_taken 2 := ⟨(List.mem_of_getElem? (i := 1401) (by decide +kernel)), (List.mem_append_right _ (List.mem_of_getElem? (i := 1402) (by decide +kernel))), zci_12, zcn_12.1, zcn_12.2, by decide +kernel⟩
noncomputable def zm_m_count : zM := (12, ⟨"LemonGateModel", "count", "(I)I"⟩, prog_14_method_88_code, 2, some .int, [(0, .iload_n 1, 1), (1, .tableswitch 60 0 4 #[35, 40, 45, 50, 55], 35), (36, .aload_n 0, 1), (37, .getfield 111, 3), (40, .ireturn, 1), (41, .aload_n 0, 1), (42, .getfield 162, 3), (45, .ireturn, 1), (46, .aload_n 0, 1), (47, .getfield 98, 3), (50, .ireturn, 1), (51, .aload_n 0, 1), (52, .getfield 324, 3), (55, .ireturn, 1), (56, .aload_n 0, 1), (57, .getfield 327, 3), (60, .ireturn, 1), (61, .iconst (-1), 1), (62, .ireturn, 1)])
theorem zmk_m_count : zMok zm_m_count := ⟨by decide +kernel, rfl, List.mem_append_right _ (List.mem_of_getElem? (i := 1414) (by decide +kernel)), plainFor_of_name zcp_12⟩
theorem zok_m_count : zVok zm_m_count 1 := ⟨(List.mem_of_getElem? (i := 1412) (by decide +kernel)), (List.mem_append_right _ (List.mem_of_getElem? (i := 1413) (by decide +kernel))), zci_12, zcn_12.1, zcn_12.2, by decide +kernel⟩
theorem zl_62 : Cond.methodLink "LemonGate$Street" 30 ⟨"java/util/Arrays", "fill", "([II)V"⟩ ∈ tables_1 := List.mem_of_getElem? (i := 62) (by decide +kernel)
theorem zl_337 : Cond.methodLink "LemonGate" 75 ⟨"LemonGate", "isQuarter", "(I)Z"⟩ ∈ tables_1 := List.mem_of_getElem? (i := 337) (by decide +kernel)
theorem zl_340 : Cond.methodLink "LemonGate" 79 ⟨"LemonGate", "isWithin", "(III)Z"⟩ ∈ tables_1 := List.mem_of_getElem? (i := 340) (by decide +kernel)
theorem zl_347 : Cond.methodLink "LemonGate" 87 ⟨"LemonGate", "shelfAt", "(I)LLemonGate$Shelf;"⟩ ∈ tables_1 := List.mem_of_getElem? (i := 347) (by decide +kernel)
theorem zl_351 : Cond.methodLink "LemonGate" 91 ⟨"LemonGate$Shelf", "isEmpty", "()Z"⟩ ∈ tables_1 := List.mem_of_getElem? (i := 351) (by decide +kernel)
theorem zl_355 : Cond.methodLink "LemonGate" 95 ⟨"LemonGate$Shelf", "isRowOf", "(I)Z"⟩ ∈ tables_1 := List.mem_of_getElem? (i := 355) (by decide +kernel)
theorem zl_359 : Cond.methodLink "LemonGate" 98 ⟨"LemonGate", "heatsCome", "(LLemonGate$Shelf;III)I"⟩ ∈ tables_1 := List.mem_of_getElem? (i := 359) (by decide +kernel)
theorem zl_363 : Cond.methodLink "LemonGate" 312 ⟨"LemonGate$Shelf", "hasPlaces", "(II)Z"⟩ ∈ tables_1 := List.mem_of_getElem? (i := 363) (by decide +kernel)
theorem zl_375 : Cond.methodLink "LemonGate" 106 ⟨"LemonGate$Street", "isPlace", "(I)Z"⟩ ∈ tables_1 := List.mem_of_getElem? (i := 375) (by decide +kernel)
theorem zl_379 : Cond.methodLinkNest "LemonGate$Street" 40 ⟨"LemonGate", "isWithin", "(III)Z"⟩ "LemonGate" ∈ tables_1 := List.mem_of_getElem? (i := 379) (by decide +kernel)
theorem zl_380 : Cond.methodLink "LemonGate" 109 ⟨"LemonGate", "isSpan", "(I)Z"⟩ ∈ tables_1 := List.mem_of_getElem? (i := 380) (by decide +kernel)
theorem zl_391 : Cond.methodLink "LemonGate" 118 ⟨"LemonGate$Recipe", "allows", "(II)Z"⟩ ∈ tables_1 := List.mem_of_getElem? (i := 391) (by decide +kernel)
theorem zl_395 : Cond.methodLinkNest "LemonGate$Recipe" 24 ⟨"LemonGate", "isWithin", "(III)Z"⟩ "LemonGate" ∈ tables_1 := List.mem_of_getElem? (i := 395) (by decide +kernel)
theorem zl_400 : Cond.methodLink "LemonGate" 122 ⟨"LemonGate$Recipe", "change", "(II)I"⟩ ∈ tables_1 := List.mem_of_getElem? (i := 400) (by decide +kernel)
theorem zl_404 : Cond.methodLink "LemonGate$Recipe" 34 ⟨"LemonGate$Recipe", "remember", "(III)V"⟩ ∈ tables_1 := List.mem_of_getElem? (i := 404) (by decide +kernel)
theorem zl_408 : Cond.methodLink "LemonGate$Recipe" 42 ⟨"LemonGate$Recipe", "forgetOldest", "()V"⟩ ∈ tables_1 := List.mem_of_getElem? (i := 408) (by decide +kernel)
theorem zl_412 : Cond.methodLink "LemonGate$Recipe" 48 ⟨"java/lang/System", "arraycopy", "(Ljava/lang/Object;ILjava/lang/Object;II)V"⟩ ∈ tables_1 := List.mem_of_getElem? (i := 412) (by decide +kernel)
theorem zl_419 : Cond.methodLink "LemonGate" 129 ⟨"LemonGate$Recipe", "jugCost", "()I"⟩ ∈ tables_1 := List.mem_of_getElem? (i := 419) (by decide +kernel)
theorem zl_423 : Cond.methodLink "LemonGate" 133 ⟨"LemonGate$Recipe", "glassCost", "()I"⟩ ∈ tables_1 := List.mem_of_getElem? (i := 423) (by decide +kernel)
theorem zl_427 : Cond.methodLink "LemonGate$Recipe" 54 ⟨"LemonGate$Recipe", "jugCost", "()I"⟩ ∈ tables_1 := List.mem_of_getElem? (i := 427) (by decide +kernel)
theorem zl_428 : Cond.methodLink "LemonGate" 136 ⟨"LemonGate$Street", "flowAt", "(II)I"⟩ ∈ tables_1 := List.mem_of_getElem? (i := 428) (by decide +kernel)
theorem zl_432 : Cond.methodLink "LemonGate$Street" 44 ⟨"LemonGate$Street", "isPlace", "(I)Z"⟩ ∈ tables_1 := List.mem_of_getElem? (i := 432) (by decide +kernel)
theorem zl_433 : Cond.methodLinkNest "LemonGate$Street" 48 ⟨"LemonGate", "isQuarter", "(I)Z"⟩ "LemonGate" ∈ tables_1 := List.mem_of_getElem? (i := 433) (by decide +kernel)
theorem zl_439 : Cond.methodLink "LemonGate" 140 ⟨"LemonGate$Tape", "add", "(I)Z"⟩ ∈ tables_1 := List.mem_of_getElem? (i := 439) (by decide +kernel)
theorem zl_447 : Cond.methodLink "LemonGate" 146 ⟨"LemonGate$Tape", "read", "()I"⟩ ∈ tables_1 := List.mem_of_getElem? (i := 447) (by decide +kernel)
theorem zl_451 : Cond.methodLink "LemonGate$Tape" 28 ⟨"LemonGate$Tape", "readLine", "()Z"⟩ ∈ tables_1 := List.mem_of_getElem? (i := 451) (by decide +kernel)
theorem zl_455 : Cond.methodLink "LemonGate$Tape" 36 ⟨"LemonGate$Tape", "readEither", "(I)Z"⟩ ∈ tables_1 := List.mem_of_getElem? (i := 455) (by decide +kernel)
theorem zl_459 : Cond.methodLink "LemonGate$Tape" 42 ⟨"LemonGate$Tape", "readBoth", "(I)Z"⟩ ∈ tables_1 := List.mem_of_getElem? (i := 459) (by decide +kernel)
theorem zl_463 : Cond.methodLink "LemonGate$Tape" 45 ⟨"LemonGate$Tape", "readCompared", "(I)Z"⟩ ∈ tables_1 := List.mem_of_getElem? (i := 463) (by decide +kernel)
theorem zl_467 : Cond.methodLink "LemonGate$Tape" 48 ⟨"LemonGate$Tape", "readSum", "(I)Z"⟩ ∈ tables_1 := List.mem_of_getElem? (i := 467) (by decide +kernel)
theorem zl_471 : Cond.methodLink "LemonGate$Tape" 55 ⟨"LemonGate$Tape", "readProduct", "(I)Z"⟩ ∈ tables_1 := List.mem_of_getElem? (i := 471) (by decide +kernel)
theorem zl_475 : Cond.methodLink "LemonGate$Tape" 58 ⟨"LemonGate$Tape", "readOperand", "(I)Z"⟩ ∈ tables_1 := List.mem_of_getElem? (i := 475) (by decide +kernel)
theorem zl_479 : Cond.methodLink "LemonGate$Tape" 51 ⟨"LemonGate$Tape", "next", "()I"⟩ ∈ tables_1 := List.mem_of_getElem? (i := 479) (by decide +kernel)
theorem zl_483 : Cond.methodLink "LemonGate$Tape" 61 ⟨"LemonGate$Tape", "isDigit", "(I)Z"⟩ ∈ tables_1 := List.mem_of_getElem? (i := 483) (by decide +kernel)
theorem zl_486 : Cond.methodLink "LemonGate$Tape" 64 ⟨"LemonGate$Tape", "readNumber", "()Z"⟩ ∈ tables_1 := List.mem_of_getElem? (i := 486) (by decide +kernel)
theorem zl_490 : Cond.methodLink "LemonGate$Tape" 39 ⟨"LemonGate$Tape", "step", "(I)Z"⟩ ∈ tables_1 := List.mem_of_getElem? (i := 490) (by decide +kernel)
theorem zl_494 : Cond.methodLink "LemonGate$Tape" 67 ⟨"LemonGate$Tape", "readName", "(I)Z"⟩ ∈ tables_1 := List.mem_of_getElem? (i := 494) (by decide +kernel)
theorem zl_499 : Cond.methodLink "LemonGate$Tape" 32 ⟨"LemonGate$Tape", "took", "(I)Z"⟩ ∈ tables_1 := List.mem_of_getElem? (i := 499) (by decide +kernel)
theorem zl_503 : Cond.methodLink "LemonGate" 149 ⟨"LemonGate$Laws", "become", "(ILLemonGate$Tape;)V"⟩ ∈ tables_1 := List.mem_of_getElem? (i := 503) (by decide +kernel)
theorem zl_507 : Cond.methodLink "LemonGate$Laws" 34 ⟨"LemonGate$Law", "become", "(LLemonGate$Tape;)V"⟩ ∈ tables_1 := List.mem_of_getElem? (i := 507) (by decide +kernel)
theorem zl_511 : Cond.methodLink "LemonGate$Law" 22 ⟨"java/lang/Math", "min", "(II)I"⟩ ∈ tables_1 := List.mem_of_getElem? (i := 511) (by decide +kernel)
theorem zl_514 : Cond.methodLink "LemonGate$Law" 32 ⟨"java/lang/System", "arraycopy", "(Ljava/lang/Object;ILjava/lang/Object;II)V"⟩ ∈ tables_1 := List.mem_of_getElem? (i := 514) (by decide +kernel)
theorem zl_515 : Cond.methodLink "LemonGate" 153 ⟨"LemonGate$Tape", "clear", "()V"⟩ ∈ tables_1 := List.mem_of_getElem? (i := 515) (by decide +kernel)
theorem zl_523 : Cond.methodLink "LemonGate" 156 ⟨"LemonGate$Laws", "begin", "(LLemonGate$Recipe;I)V"⟩ ∈ tables_1 := List.mem_of_getElem? (i := 523) (by decide +kernel)
theorem zl_527 : Cond.methodLink "LemonGate$Laws" 43 ⟨"java/lang/System", "arraycopy", "(Ljava/lang/Object;ILjava/lang/Object;II)V"⟩ ∈ tables_1 := List.mem_of_getElem? (i := 527) (by decide +kernel)
theorem zl_528 : Cond.methodLink "LemonGate$Laws" 53 ⟨"java/util/Arrays", "fill", "([II)V"⟩ ∈ tables_1 := List.mem_of_getElem? (i := 528) (by decide +kernel)
theorem zl_529 : Cond.methodLink "LemonGate" 160 ⟨"LemonGate$Laws", "tasteOf", "(III)I"⟩ ∈ tables_1 := List.mem_of_getElem? (i := 529) (by decide +kernel)
theorem zl_533 : Cond.methodLink "LemonGate$Laws" 59 ⟨"LemonGate$Laws", "look", "(IIII)V"⟩ ∈ tables_1 := List.mem_of_getElem? (i := 533) (by decide +kernel)
theorem zl_537 : Cond.methodLink "LemonGate$Laws" 67 ⟨"LemonGate$Law", "worth", "([I)I"⟩ ∈ tables_1 := List.mem_of_getElem? (i := 537) (by decide +kernel)
theorem zl_541 : Cond.methodLink "LemonGate$Law" 42 ⟨"LemonGate$Law", "isLineThatCounts", "(II)Z"⟩ ∈ tables_1 := List.mem_of_getElem? (i := 541) (by decide +kernel)
theorem zl_545 : Cond.methodLink "LemonGate$Law" 46 ⟨"LemonGate$Law", "joined", "(III)I"⟩ ∈ tables_1 := List.mem_of_getElem? (i := 545) (by decide +kernel)
theorem zl_548 : Cond.methodLink "LemonGate$Laws" 71 ⟨"LemonGate$Laws", "held", "(II)I"⟩ ∈ tables_1 := List.mem_of_getElem? (i := 548) (by decide +kernel)
theorem zl_551 : Cond.methodLink "LemonGate$Laws" 87 ⟨"java/lang/Math", "min", "(II)I"⟩ ∈ tables_1 := List.mem_of_getElem? (i := 551) (by decide +kernel)
theorem zl_552 : Cond.methodLink "LemonGate$Laws" 92 ⟨"java/lang/Math", "max", "(II)I"⟩ ∈ tables_1 := List.mem_of_getElem? (i := 552) (by decide +kernel)
theorem zl_555 : Cond.methodLink "LemonGate" 164 ⟨"LemonGate$Laws", "buysOf", "(III)I"⟩ ∈ tables_1 := List.mem_of_getElem? (i := 555) (by decide +kernel)
theorem zl_559 : Cond.methodLinkNest "LemonGate$Laws" 75 ⟨"LemonGate", "isQuarter", "(I)Z"⟩ "LemonGate" ∈ tables_1 := List.mem_of_getElem? (i := 559) (by decide +kernel)
theorem zl_560 : Cond.methodLinkNest "LemonGate$Laws" 79 ⟨"LemonGate", "isWithin", "(III)Z"⟩ "LemonGate" ∈ tables_1 := List.mem_of_getElem? (i := 560) (by decide +kernel)
theorem zl_561 : Cond.methodLink "LemonGate$Laws" 83 ⟨"LemonGate$Laws", "tasteOf", "(III)I"⟩ ∈ tables_1 := List.mem_of_getElem? (i := 561) (by decide +kernel)
theorem zl_566 : Cond.methodLink "LemonGate" 167 ⟨"LemonGate", "spend", "(LLemonGate$Day;III)V"⟩ ∈ tables_1 := List.mem_of_getElem? (i := 566) (by decide +kernel)
theorem zl_570 : Cond.methodLink "LemonGate" 333 ⟨"LemonGate$Day", "begin", "(ILLemonGate$Recipe;II)V"⟩ ∈ tables_1 := List.mem_of_getElem? (i := 570) (by decide +kernel)
theorem zl_574 : Cond.methodLink "LemonGate$Day" 15 ⟨"java/util/Arrays", "fill", "([II)V"⟩ ∈ tables_1 := List.mem_of_getElem? (i := 574) (by decide +kernel)
theorem zl_575 : Cond.methodLink "LemonGate$Day" 46 ⟨"LemonGate$Recipe", "jugCost", "()I"⟩ ∈ tables_1 := List.mem_of_getElem? (i := 575) (by decide +kernel)
theorem zl_576 : Cond.methodLink "LemonGate$Day" 66 ⟨"LemonGate$Day", "refill", "()V"⟩ ∈ tables_1 := List.mem_of_getElem? (i := 576) (by decide +kernel)
theorem zl_580 : Cond.methodLink "LemonGate" 336 ⟨"LemonGate$Day", "pass", "(ILLemonGate$Street;LLemonGate$Laws;)V"⟩ ∈ tables_1 := List.mem_of_getElem? (i := 580) (by decide +kernel)
theorem zl_584 : Cond.methodLinkNest "LemonGate$Day" 69 ⟨"LemonGate", "isQuarter", "(I)Z"⟩ "LemonGate" ∈ tables_1 := List.mem_of_getElem? (i := 584) (by decide +kernel)
theorem zl_585 : Cond.methodLink "LemonGate$Day" 78 ⟨"LemonGate$Street", "passers", "(I)I"⟩ ∈ tables_1 := List.mem_of_getElem? (i := 585) (by decide +kernel)
theorem zl_589 : Cond.methodLink "LemonGate$Street" 51 ⟨"LemonGate$Street", "flowAt", "(II)I"⟩ ∈ tables_1 := List.mem_of_getElem? (i := 589) (by decide +kernel)
theorem zl_590 : Cond.methodLink "LemonGate$Day" 82 ⟨"LemonGate$Day", "draw", "()I"⟩ ∈ tables_1 := List.mem_of_getElem? (i := 590) (by decide +kernel)
theorem zl_595 : Cond.methodLink "LemonGate$Day" 88 ⟨"LemonGate$Laws", "buysOf", "(III)I"⟩ ∈ tables_1 := List.mem_of_getElem? (i := 595) (by decide +kernel)
theorem zl_596 : Cond.methodLink "LemonGate$Day" 94 ⟨"LemonGate$Day", "emptyGlass", "()V"⟩ ∈ tables_1 := List.mem_of_getElem? (i := 596) (by decide +kernel)
theorem zl_600 : Cond.methodLink "LemonGate$Day" 97 ⟨"LemonGate$Day", "grow", "()V"⟩ ∈ tables_1 := List.mem_of_getElem? (i := 600) (by decide +kernel)
theorem zl_608 : Cond.methodLink "LemonGate" 184 ⟨"LemonGate$Day", "total", "(I)I"⟩ ∈ tables_1 := List.mem_of_getElem? (i := 608) (by decide +kernel)
theorem zl_612 : Cond.methodLink "LemonGate$Day" 101 ⟨"LemonGate$Day", "gain", "()I"⟩ ∈ tables_1 := List.mem_of_getElem? (i := 612) (by decide +kernel)
theorem zl_620 : Cond.methodLink "LemonGate" 188 ⟨"LemonGate$Day", "gain", "()I"⟩ ∈ tables_1 := List.mem_of_getElem? (i := 620) (by decide +kernel)
theorem zl_625 : Cond.methodLink "LemonGate" 191 ⟨"LemonGate$Street", "lookAhead", "(II)V"⟩ ∈ tables_1 := List.mem_of_getElem? (i := 625) (by decide +kernel)
theorem zl_629 : Cond.methodLink "LemonGate$Street" 65 ⟨"LemonGate$Street", "mostFrom", "(II)I"⟩ ∈ tables_1 := List.mem_of_getElem? (i := 629) (by decide +kernel)
theorem zl_633 : Cond.methodLink "LemonGate$Street" 68 ⟨"LemonGate$Street", "isNext", "(II)Z"⟩ ∈ tables_1 := List.mem_of_getElem? (i := 633) (by decide +kernel)
theorem zl_636 : Cond.methodLink "LemonGate$Street" 72 ⟨"java/lang/Math", "max", "(II)I"⟩ ∈ tables_1 := List.mem_of_getElem? (i := 636) (by decide +kernel)
theorem zl_637 : Cond.methodLink "LemonGate" 195 ⟨"LemonGate$Street", "mostFrom", "(II)I"⟩ ∈ tables_1 := List.mem_of_getElem? (i := 637) (by decide +kernel)
theorem zl_638 : Cond.methodLink "LemonGate" 198 ⟨"LemonGate$Street", "placeIn", "(II)I"⟩ ∈ tables_1 := List.mem_of_getElem? (i := 638) (by decide +kernel)
theorem zl_642 : Cond.methodLink "LemonGate$Street" 77 ⟨"LemonGate$Street", "firstOfMost", "(II)I"⟩ ∈ tables_1 := List.mem_of_getElem? (i := 642) (by decide +kernel)
theorem zl_650 : Cond.methodLink "LemonGate" 201 ⟨"LemonGate$Shelf", "refusalOfSort", "(I)I"⟩ ∈ tables_1 := List.mem_of_getElem? (i := 650) (by decide +kernel)
theorem zl_654 : Cond.methodLink "LemonGate$Shelf" 37 ⟨"LemonGate$Shelf", "isEmpty", "()Z"⟩ ∈ tables_1 := List.mem_of_getElem? (i := 654) (by decide +kernel)
theorem zl_655 : Cond.methodLink "LemonGate$Shelf" 41 ⟨"LemonGate$Shelf", "isRowOf", "(I)Z"⟩ ∈ tables_1 := List.mem_of_getElem? (i := 655) (by decide +kernel)
theorem zl_656 : Cond.methodLink "LemonGate" 204 ⟨"LemonGate", "firstWrong", "(LLemonGate$Shelf;I)I"⟩ ∈ tables_1 := List.mem_of_getElem? (i := 656) (by decide +kernel)
theorem zl_669 : Cond.methodLink "LemonGate" 212 ⟨"LemonGate", "meanGain", "(IIII)J"⟩ ∈ tables_1 := List.mem_of_getElem? (i := 669) (by decide +kernel)
theorem zl_673 : Cond.methodLink "LemonGate" 341 ⟨"LemonGate$Sums", "meanSold", "(III)J"⟩ ∈ tables_1 := List.mem_of_getElem? (i := 673) (by decide +kernel)
theorem zl_676 : Cond.methodLink "LemonGate$Sums" 9 ⟨"LemonGate$Sums", "ways", "(II)J"⟩ ∈ tables_1 := List.mem_of_getElem? (i := 676) (by decide +kernel)
theorem zl_679 : Cond.methodLink "LemonGate$Sums" 15 ⟨"LemonGate$Sums", "power", "(JI)J"⟩ ∈ tables_1 := List.mem_of_getElem? (i := 679) (by decide +kernel)
theorem zl_682 : Cond.methodLink "LemonGate$Sums" 19 ⟨"java/lang/Math", "min", "(II)I"⟩ ∈ tables_1 := List.mem_of_getElem? (i := 682) (by decide +kernel)
theorem zl_684 : Cond.methodLink "LemonGate" 218 ⟨"LemonGate$Sums", "power", "(JI)J"⟩ ∈ tables_1 := List.mem_of_getElem? (i := 684) (by decide +kernel)
theorem zl_685 : Cond.methodLink "LemonGate" 224 ⟨"LemonGate$Sums", "divisor", "(JJ)J"⟩ ∈ tables_1 := List.mem_of_getElem? (i := 685) (by decide +kernel)
theorem zl_688 : Cond.methodLink "LemonGate$Sums" 25 ⟨"java/lang/Math", "abs", "(J)J"⟩ ∈ tables_1 := List.mem_of_getElem? (i := 688) (by decide +kernel)
theorem zl_691 : Cond.methodLink "LemonGate$Sums" 29 ⟨"java/lang/Math", "max", "(JJ)J"⟩ ∈ tables_1 := List.mem_of_getElem? (i := 691) (by decide +kernel)
theorem zl_710 : Cond.methodLink "LemonGate" 234 ⟨"LemonGate$Three", "above", "(II)I"⟩ ∈ tables_1 := List.mem_of_getElem? (i := 710) (by decide +kernel)
theorem zl_714 : Cond.methodLink "LemonGate$Three" 16 ⟨"LemonGate$Three", "addedInAllOrders", "(I)I"⟩ ∈ tables_1 := List.mem_of_getElem? (i := 714) (by decide +kernel)
theorem zl_718 : Cond.methodLink "LemonGate" 237 ⟨"LemonGate$Three", "below", "(I)I"⟩ ∈ tables_1 := List.mem_of_getElem? (i := 718) (by decide +kernel)
theorem zl_722 : Cond.methodLink "LemonGate$Three" 20 ⟨"java/lang/Math", "max", "(II)I"⟩ ∈ tables_1 := List.mem_of_getElem? (i := 722) (by decide +kernel)
theorem zl_727 : Cond.methodLink "LemonGate" 240 ⟨"LemonGate$Slates", "isName", "(I)Z"⟩ ∈ tables_1 := List.mem_of_getElem? (i := 727) (by decide +kernel)
theorem zl_730 : Cond.methodLinkNest "LemonGate$Slates" 19 ⟨"LemonGate", "isWithin", "(III)Z"⟩ "LemonGate" ∈ tables_1 := List.mem_of_getElem? (i := 730) (by decide +kernel)
theorem zl_731 : Cond.methodLink "LemonGate" 243 ⟨"LemonGate$Slates", "write", "(III)I"⟩ ∈ tables_1 := List.mem_of_getElem? (i := 731) (by decide +kernel)
theorem zl_739 : Cond.methodLink "LemonGate" 246 ⟨"LemonGate$Slates", "balance", "(I)I"⟩ ∈ tables_1 := List.mem_of_getElem? (i := 739) (by decide +kernel)
theorem zl_747 : Cond.methodLink "LemonGate" 249 ⟨"LemonGate$Slates", "fewestPayments", "()I"⟩ ∈ tables_1 := List.mem_of_getElem? (i := 747) (by decide +kernel)
theorem zl_751 : Cond.methodLink "LemonGate$Slates" 25 ⟨"LemonGate$Slates", "balance", "(I)I"⟩ ∈ tables_1 := List.mem_of_getElem? (i := 751) (by decide +kernel)
theorem zl_752 : Cond.methodLink "LemonGate$Slates" 29 ⟨"LemonGate$Slates", "mostGroups", "(I)I"⟩ ∈ tables_1 := List.mem_of_getElem? (i := 752) (by decide +kernel)
theorem zl_756 : Cond.methodLink "LemonGate$Slates" 32 ⟨"java/lang/Math", "max", "(II)I"⟩ ∈ tables_1 := List.mem_of_getElem? (i := 756) (by decide +kernel)
theorem zl_761 : Cond.methodLink "LemonGate" 252 ⟨"LemonGate$Street", "keepImage", "()V"⟩ ∈ tables_1 := List.mem_of_getElem? (i := 761) (by decide +kernel)
theorem zl_765 : Cond.methodLink "LemonGate$Street" 55 ⟨"java/lang/System", "arraycopy", "(Ljava/lang/Object;ILjava/lang/Object;II)V"⟩ ∈ tables_1 := List.mem_of_getElem? (i := 765) (by decide +kernel)
theorem zl_766 : Cond.methodLink "LemonGate" 255 ⟨"LemonGate$Street", "sumOfHeats", "()I"⟩ ∈ tables_1 := List.mem_of_getElem? (i := 766) (by decide +kernel)
theorem zl_774 : Cond.methodLink "LemonGate" 261 ⟨"LemonGate$Street", "takeImage", "()V"⟩ ∈ tables_1 := List.mem_of_getElem? (i := 774) (by decide +kernel)
theorem zl_782 : Cond.methodLink "LemonGate" 264 ⟨"LemonGate$Recipe", "takeBack", "()Z"⟩ ∈ tables_1 := List.mem_of_getElem? (i := 782) (by decide +kernel)
theorem zl_790 : Cond.methodLink "LemonGate" 270 ⟨"LemonGate$Recipe", "doAgain", "()Z"⟩ ∈ tables_1 := List.mem_of_getElem? (i := 790) (by decide +kernel)
theorem zl_798 : Cond.methodLink "LemonGate" 276 ⟨"LemonGate$Glasses", "add", "(I)Z"⟩ ∈ tables_1 := List.mem_of_getElem? (i := 798) (by decide +kernel)
theorem zl_806 : Cond.methodLink "LemonGate" 280 ⟨"LemonGate$Glasses", "enact", "(III)I"⟩ ∈ tables_1 := List.mem_of_getElem? (i := 806) (by decide +kernel)
theorem zl_810 : Cond.methodLink "LemonGate$Glasses" 38 ⟨"LemonGate$Glasses", "has", "(I)Z"⟩ ∈ tables_1 := List.mem_of_getElem? (i := 810) (by decide +kernel)
theorem zl_814 : Cond.methodLinkNest "LemonGate$Glasses" 20 ⟨"LemonGate", "isWithin", "(III)Z"⟩ "LemonGate" ∈ tables_1 := List.mem_of_getElem? (i := 814) (by decide +kernel)
theorem zl_815 : Cond.methodLink "LemonGate$Glasses" 45 ⟨"LemonGate$Glasses", "run", "(IIII)I"⟩ ∈ tables_1 := List.mem_of_getElem? (i := 815) (by decide +kernel)
theorem zl_819 : Cond.methodLink "LemonGate$Glasses" 55 ⟨"LemonGate$Glasses", "kindWithBody", "(II)I"⟩ ∈ tables_1 := List.mem_of_getElem? (i := 819) (by decide +kernel)
theorem zl_826 : Cond.methodLink "LemonGate$Glasses" 52 ⟨"java/lang/Math", "max", "(II)I"⟩ ∈ tables_1 := List.mem_of_getElem? (i := 826) (by decide +kernel)
theorem zl_827 : Cond.methodLink "LemonGate$Glasses" 58 ⟨"LemonGate$Glasses", "note", "(I)V"⟩ ∈ tables_1 := List.mem_of_getElem? (i := 827) (by decide +kernel)
theorem zl_835 : Cond.methodLink "LemonGate" 283 ⟨"LemonGate$Glasses", "begunKept", "()I"⟩ ∈ tables_1 := List.mem_of_getElem? (i := 835) (by decide +kernel)
theorem zl_839 : Cond.methodLink "LemonGate$Glasses" 32 ⟨"java/lang/Math", "min", "(II)I"⟩ ∈ tables_1 := List.mem_of_getElem? (i := 839) (by decide +kernel)
theorem zl_844 : Cond.methodLink "LemonGate" 289 ⟨"LemonGate$Glasses", "has", "(I)Z"⟩ ∈ tables_1 := List.mem_of_getElem? (i := 844) (by decide +kernel)
theorem zl_845 : Cond.methodLink "LemonGate" 292 ⟨"LemonGate$Shelf", "holdGlass", "(I)V"⟩ ∈ tables_1 := List.mem_of_getElem? (i := 845) (by decide +kernel)
theorem zl_853 : Cond.methodLink "LemonGate" 296 ⟨"LemonGate$Shelf", "holdRow", "(II)V"⟩ ∈ tables_1 := List.mem_of_getElem? (i := 853) (by decide +kernel)
theorem zl_857 : Cond.methodLink "LemonGate$Shelf" 25 ⟨"java/lang/Math", "min", "(II)I"⟩ ∈ tables_1 := List.mem_of_getElem? (i := 857) (by decide +kernel)
theorem zl_858 : Cond.methodLink "LemonGate$Shelf" 31 ⟨"java/util/Arrays", "fill", "([JJ)V"⟩ ∈ tables_1 := List.mem_of_getElem? (i := 858) (by decide +kernel)
theorem zl_865 : Cond.methodLink "LemonGate" 299 ⟨"LemonGate$Shelf", "refusalOfPlaces", "(II)I"⟩ ∈ tables_1 := List.mem_of_getElem? (i := 865) (by decide +kernel)
theorem zl_869 : Cond.methodLink "LemonGate$Shelf" 45 ⟨"LemonGate$Shelf", "refusalOfSort", "(I)I"⟩ ∈ tables_1 := List.mem_of_getElem? (i := 869) (by decide +kernel)
theorem zl_870 : Cond.methodLink "LemonGate$Shelf" 49 ⟨"LemonGate$Shelf", "hasPlaces", "(II)Z"⟩ ∈ tables_1 := List.mem_of_getElem? (i := 870) (by decide +kernel)
theorem zl_871 : Cond.methodLink "LemonGate" 302 ⟨"LemonGate$Shelf", "write", "(IJ)V"⟩ ∈ tables_1 := List.mem_of_getElem? (i := 871) (by decide +kernel)
theorem zl_883 : Cond.methodLink "LemonGate" 315 ⟨"java/lang/System", "arraycopy", "(Ljava/lang/Object;ILjava/lang/Object;II)V"⟩ ∈ tables_1 := List.mem_of_getElem? (i := 883) (by decide +kernel)
theorem zl_888 : Cond.methodLink "LemonGate" 324 ⟨"LemonGate$Glasses", "isUnder", "(II)Z"⟩ ∈ tables_1 := List.mem_of_getElem? (i := 888) (by decide +kernel)
theorem zl_1068 : Cond.methodLink "LemonGateModel" 114 ⟨"LemonGateModel", "isQuarter", "(I)Z"⟩ ∈ tables_1 := List.mem_of_getElem? (i := 1068) (by decide +kernel)
theorem zl_1072 : Cond.methodLink "LemonGateModel" 107 ⟨"LemonGateModel", "within", "(JJJ)Z"⟩ ∈ tables_1 := List.mem_of_getElem? (i := 1072) (by decide +kernel)
theorem zl_1080 : Cond.methodLink "LemonGateModel" 120 ⟨"LemonGateModel", "isShelf", "(I)Z"⟩ ∈ tables_1 := List.mem_of_getElem? (i := 1080) (by decide +kernel)
theorem zl_1093 : Cond.methodLink "LemonGateModel" 125 ⟨"LemonGateModel", "isPlace", "(I)Z"⟩ ∈ tables_1 := List.mem_of_getElem? (i := 1093) (by decide +kernel)
theorem zl_1097 : Cond.methodLink "LemonGateModel" 128 ⟨"LemonGateModel", "isFt", "(I)Z"⟩ ∈ tables_1 := List.mem_of_getElem? (i := 1097) (by decide +kernel)
theorem zl_1109 : Cond.methodLink "LemonGateModel" 139 ⟨"LemonGateModel", "mayBe", "(II)Z"⟩ ∈ tables_1 := List.mem_of_getElem? (i := 1109) (by decide +kernel)
theorem zl_1115 : Cond.methodLink "LemonGateModel" 143 ⟨"LemonGateModel", "becomes", "(II)I"⟩ ∈ tables_1 := List.mem_of_getElem? (i := 1115) (by decide +kernel)
theorem zl_1125 : Cond.methodLink "LemonGateModel" 151 ⟨"LemonGateModel", "jugCost", "()I"⟩ ∈ tables_1 := List.mem_of_getElem? (i := 1125) (by decide +kernel)
theorem zl_1141 : Cond.methodLink "LemonGateModel" 210 ⟨"LemonGateModel", "workOut", "(II)I"⟩ ∈ tables_1 := List.mem_of_getElem? (i := 1141) (by decide +kernel)
theorem zl_1145 : Cond.methodLink "LemonGateModel" 203 ⟨"LemonGateModel", "either", "()I"⟩ ∈ tables_1 := List.mem_of_getElem? (i := 1145) (by decide +kernel)
theorem zl_1149 : Cond.methodLink "LemonGateModel" 180 ⟨"LemonGateModel", "both", "()I"⟩ ∈ tables_1 := List.mem_of_getElem? (i := 1149) (by decide +kernel)
theorem zl_1153 : Cond.methodLink "LemonGateModel" 186 ⟨"LemonGateModel", "compared", "()I"⟩ ∈ tables_1 := List.mem_of_getElem? (i := 1153) (by decide +kernel)
theorem zl_1157 : Cond.methodLink "LemonGateModel" 189 ⟨"LemonGateModel", "sums", "()I"⟩ ∈ tables_1 := List.mem_of_getElem? (i := 1157) (by decide +kernel)
theorem zl_1161 : Cond.methodLink "LemonGateModel" 191 ⟨"LemonGateModel", "product", "()I"⟩ ∈ tables_1 := List.mem_of_getElem? (i := 1161) (by decide +kernel)
theorem zl_1165 : Cond.methodLink "LemonGateModel" 194 ⟨"LemonGateModel", "one", "()I"⟩ ∈ tables_1 := List.mem_of_getElem? (i := 1165) (by decide +kernel)
theorem zl_1169 : Cond.methodLink "LemonGateModel" 177 ⟨"LemonGateModel", "byteAt", "()I"⟩ ∈ tables_1 := List.mem_of_getElem? (i := 1169) (by decide +kernel)
theorem zl_1173 : Cond.methodLink "LemonGateModel" 200 ⟨"LemonGateModel", "wrong", "()I"⟩ ∈ tables_1 := List.mem_of_getElem? (i := 1173) (by decide +kernel)
theorem zl_1177 : Cond.methodLink "LemonGateModel" 183 ⟨"LemonGateModel", "takes", "(I)Z"⟩ ∈ tables_1 := List.mem_of_getElem? (i := 1177) (by decide +kernel)
theorem zl_1181 : Cond.methodLink "LemonGateModel" 206 ⟨"LemonGateModel", "nameOf", "(I)I"⟩ ∈ tables_1 := List.mem_of_getElem? (i := 1181) (by decide +kernel)
theorem zl_1188 : Cond.methodLink "LemonGateModel" 220 ⟨"LemonGateModel", "tasteOf", "(II)I"⟩ ∈ tables_1 := List.mem_of_getElem? (i := 1188) (by decide +kernel)
theorem zl_1192 : Cond.methodLink "LemonGateModel" 213 ⟨"LemonGateModel", "namesAll", "(III)V"⟩ ∈ tables_1 := List.mem_of_getElem? (i := 1192) (by decide +kernel)
theorem zl_1196 : Cond.methodLink "LemonGateModel" 217 ⟨"LemonGateModel", "heldTo", "(II)I"⟩ ∈ tables_1 := List.mem_of_getElem? (i := 1196) (by decide +kernel)
theorem zl_1199 : Cond.methodLink "LemonGateModel" 223 ⟨"LemonGateModel", "buysOf", "(II)I"⟩ ∈ tables_1 := List.mem_of_getElem? (i := 1199) (by decide +kernel)
theorem zl_1207 : Cond.methodLink "LemonGateModel" 258 ⟨"LemonGateModel", "dayGoes", "(I)I"⟩ ∈ tables_1 := List.mem_of_getElem? (i := 1207) (by decide +kernel)
theorem zl_1211 : Cond.methodLink "LemonGateModel" 245 ⟨"LemonGateModel", "makesOne", "()V"⟩ ∈ tables_1 := List.mem_of_getElem? (i := 1211) (by decide +kernel)
theorem zl_1215 : Cond.methodLink "LemonGateModel" 254 ⟨"LemonGateModel", "quarterGoes", "(I)V"⟩ ∈ tables_1 := List.mem_of_getElem? (i := 1215) (by decide +kernel)
theorem zl_1219 : Cond.methodLink "LemonGateModel" 239 ⟨"LemonGateModel", "passersIn", "(I)I"⟩ ∈ tables_1 := List.mem_of_getElem? (i := 1219) (by decide +kernel)
theorem zl_1223 : Cond.methodLink "LemonGateModel" 242 ⟨"LemonGateModel", "draws", "()I"⟩ ∈ tables_1 := List.mem_of_getElem? (i := 1223) (by decide +kernel)
theorem zl_1236 : Cond.methodLink "LemonGateModel" 268 ⟨"LemonGateModel", "gainOf", "(I)I"⟩ ∈ tables_1 := List.mem_of_getElem? (i := 1236) (by decide +kernel)
theorem zl_1244 : Cond.methodLink "LemonGateModel" 274 ⟨"LemonGateModel", "mayFollow", "(II)Z"⟩ ∈ tables_1 := List.mem_of_getElem? (i := 1244) (by decide +kernel)
theorem zl_1247 : Cond.methodLink "LemonGateModel" 277 ⟨"LemonGateModel", "passesBy", "(II)I"⟩ ∈ tables_1 := List.mem_of_getElem? (i := 1247) (by decide +kernel)
theorem zl_1251 : Cond.methodLink "LemonGateModel" 271 ⟨"LemonGateModel", "passesAt", "(II)I"⟩ ∈ tables_1 := List.mem_of_getElem? (i := 1251) (by decide +kernel)
theorem zl_1259 : Cond.methodLink "LemonGateModel" 280 ⟨"LemonGateModel", "dayIs", "(I)I"⟩ ∈ tables_1 := List.mem_of_getElem? (i := 1259) (by decide +kernel)
theorem zl_1263 : Cond.methodLink "LemonGateModel" 283 ⟨"LemonGateModel", "firstFalse", "(II)I"⟩ ∈ tables_1 := List.mem_of_getElem? (i := 1263) (by decide +kernel)
theorem zl_1278 : Cond.methodLink "LemonGateModel" 298 ⟨"LemonGateModel", "partOf", "(JJI)J"⟩ ∈ tables_1 := List.mem_of_getElem? (i := 1278) (by decide +kernel)
theorem zl_1281 : Cond.methodLink "LemonGateModel" 286 ⟨"LemonGateModel", "common", "(JJ)J"⟩ ∈ tables_1 := List.mem_of_getElem? (i := 1281) (by decide +kernel)
theorem zl_1303 : Cond.methodLink "LemonGateModel" 308 ⟨"LemonGateModel", "addsOf", "(I)I"⟩ ∈ tables_1 := List.mem_of_getElem? (i := 1303) (by decide +kernel)
theorem zl_1316 : Cond.methodLink "LemonGateModel" 315 ⟨"LemonGateModel", "owesOf", "(I)I"⟩ ∈ tables_1 := List.mem_of_getElem? (i := 1316) (by decide +kernel)
theorem zl_1328 : Cond.methodLink "LemonGateModel" 321 ⟨"LemonGateModel", "allHeats", "()I"⟩ ∈ tables_1 := List.mem_of_getElem? (i := 1328) (by decide +kernel)
theorem zl_1344 : Cond.methodLink "LemonGateModel" 351 ⟨"LemonGateModel", "isBody", "(I)Z"⟩ ∈ tables_1 := List.mem_of_getElem? (i := 1344) (by decide +kernel)
theorem zl_1348 : Cond.methodLink "LemonGateModel" 333 ⟨"LemonGateModel", "makesAs", "(II)I"⟩ ∈ tables_1 := List.mem_of_getElem? (i := 1348) (by decide +kernel)
theorem zl_1352 : Cond.methodLink "LemonGateModel" 330 ⟨"LemonGateModel", "begins", "(I)V"⟩ ∈ tables_1 := List.mem_of_getElem? (i := 1352) (by decide +kernel)
theorem zl_1356 : Cond.methodLink "LemonGateModel" 339 ⟨"LemonGateModel", "sellsAs", "(II)I"⟩ ∈ tables_1 := List.mem_of_getElem? (i := 1356) (by decide +kernel)
theorem zl_1360 : Cond.methodLink "LemonGateModel" 345 ⟨"LemonGateModel", "sharesAs", "(II)I"⟩ ∈ tables_1 := List.mem_of_getElem? (i := 1360) (by decide +kernel)
theorem zl_1364 : Cond.methodLink "LemonGateModel" 348 ⟨"LemonGateModel", "tellsAs", "(II)I"⟩ ∈ tables_1 := List.mem_of_getElem? (i := 1364) (by decide +kernel)
theorem zl_1385 : Cond.methodLink "LemonGateModel" 356 ⟨"LemonGateModel", "refusal", "(II)I"⟩ ∈ tables_1 := List.mem_of_getElem? (i := 1385) (by decide +kernel)
theorem zl_1389 : Cond.methodLink "LemonGateModel" 359 ⟨"LemonGateModel", "asSort", "(IJ)J"⟩ ∈ tables_1 := List.mem_of_getElem? (i := 1389) (by decide +kernel)
theorem zl_1404 : Cond.methodLink "LemonGateModel" 363 ⟨"LemonGateModel", "kindOf", "(I)I"⟩ ∈ tables_1 := List.mem_of_getElem? (i := 1404) (by decide +kernel)
theorem zl_1408 : Cond.methodLink "LemonGateModel" 366 ⟨"LemonGateModel", "above", "(I)I"⟩ ∈ tables_1 := List.mem_of_getElem? (i := 1408) (by decide +kernel)
end
section
/-! Arrays.fill, shelfAt: contracts by hand, and their rows -/
noncomputable def zm_ar_fill : zM := (13, ⟨"java/util/Arrays", "fill", "([II)V"⟩, prog_17_method_103_code, 4, none, [(0, .iconst 0, 1), (1, .istore_n 2, 1), (2, .aload_n 0, 1), (3, .arraylength, 1), (4, .istore_n 3, 1), (5, .iload_n 2, 1), (6, .iload_n 3, 1), (7, .if_icmp .ge 13, 3), (10, .aload_n 0, 1), (11, .iload_n 2, 1), (12, .iload_n 1, 1), (13, .iastore, 1), (14, .iinc 2 1, 3), (17, .goto (-12), 3), (20, .return_, 1)])
noncomputable def zm_ar_fillL : zM := (13, ⟨"java/util/Arrays", "fill", "([JJ)V"⟩, prog_17_method_101_code, 5, none, [(0, .iconst 0, 1), (1, .istore_n 3, 1), (2, .aload_n 0, 1), (3, .arraylength, 1), (4, .istore 4, 2), (6, .iload_n 3, 1), (7, .iload 4, 2), (9, .if_icmp .ge 13, 3), (12, .aload_n 0, 1), (13, .iload_n 3, 1), (14, .lload_n 1, 1), (15, .lastore, 1), (16, .iinc 3 1, 3), (19, .goto (-13), 3), (22, .return_, 1)])
theorem zmk_ar_fill : zMok zm_ar_fill := ⟨by decide +kernel, rfl, List.mem_append_right _ (List.mem_of_getElem? (i := 64) (by decide +kernel)), by decide +kernel⟩
theorem zmk_ar_fillL : zMok zm_ar_fillL := ⟨by decide +kernel, rfl, List.mem_append_right _ (List.mem_of_getElem? (i := 860) (by decide +kernel)), by decide +kernel⟩
theorem zok_ar_fill : zSok zm_ar_fill 2 := ⟨List.mem_of_getElem? (i := 63) (by decide +kernel), List.mem_of_getElem? (i := 4) (by decide +kernel), by decide +kernel, by decide +kernel, by decide +kernel⟩
theorem zok_ar_fillL : zSok zm_ar_fillL 2 := ⟨List.mem_of_getElem? (i := 859) (by decide +kernel), List.mem_of_getElem? (i := 4) (by decide +kernel), by decide +kernel, by decide +kernel, by decide +kernel⟩
section ZFI
variable {M : zM} {Λ : List zD} {d : Nat} {res : Option Value × zSt} {pc : Nat} {ls : List (Nat × Value)} {st rest : List Value} {s : zSt}
theorem zLenX {k kd n b : Nat} (hL : zLok Λ = true) (h : zlk M.2.2.2.2.2 pc = some (.arraylength, 1)) (hc : Λ[k]? = some (.inr (kd, n, b))) (kk : zWA M Λ d res (pc + 1) ls (.int (nI n) :: rest) s) : zWA M Λ d res pc ls (.ref k :: rest) s :=
  fun hM => zstep_ok hL (i := .arraylength) (n := 1) (x := (ls, .ref k :: rest, s)) (y := (ls, .int (nI n) :: rest, s)) (by simp [zstep, zLen, hc, nI]) (zdec hM h) kk hM
end ZFI
theorem zfill_0 (s : zSt) (k : Nat) (v : Int32) : zfill s k 0 v = s := by
  have h : (fun a => if a = k then (fun j => if j < 0 then v else s.1 k j) else s.1 a) = s.1 := by
    funext a
    by_cases h : a = k
    · subst h; simp
    · simp [h]
  show (_, s.2) = s
  rw [h]
theorem zfillL_0 (s : zSt) (k : Nat) (v : Int64) : zfillL s k 0 v = s := by
  have h : (fun a => if a = k then (fun j => if j < 0 then v else s.2 k j) else s.2 a) = s.2 := by
    funext a
    by_cases h : a = k
    · subst h; simp
    · simp [h]
  show (s.1, _) = s
  rw [h]
theorem zfill_s (s : zSt) (k i : Nat) (v : Int32) : zw (zfill s k i v) k i v = zfill s k (i + 1) v := by
  show (_, s.2) = (_, s.2)
  congr 1
  funext a
  by_cases h : a = k
  · subst h
    funext j
    simp only [zfill, if_true, upd]
    by_cases h2 : j = i
    · subst h2; simp
    · by_cases h3 : j < i
      · simp [h2, h3, Nat.lt_succ_of_lt h3]
      · simp only [h2, h3, if_false]
        rw [if_neg (by omega)]
  · simp [zfill, h]
theorem zfillL_s (s : zSt) (k i : Nat) (v : Int64) : zwl (zfillL s k i v) k i v = zfillL s k (i + 1) v := by
  show (s.1, _) = (s.1, _)
  congr 1
  funext a
  by_cases h : a = k
  · subst h
    funext j
    simp only [zfillL, if_true, vp_updL]
    by_cases h2 : j = i
    · subst h2; simp
    · by_cases h3 : j < i
      · simp [h2, h3, Nat.lt_succ_of_lt h3]
      · simp only [h2, h3, if_false]
        rw [if_neg (by omega)]
  · simp [zfillL, h]
theorem zin_nI {i n : Nat} (h : i < n) (hn : n < 2 ^ 31) : 0 ≤ (nI i).toInt ∧ (nI i).toInt < (n : Int) := by
  rw [nI_toInt (by omega)]; omega
theorem k_ar_fill {Λ : List zD} (hL : zLok Λ = true) {k n b : Nat} (hc : Λ[k]? = some (.inr (0, n, b))) (hn : n < 2 ^ 31) (s : zSt) (v : Int32) : zKp zm_ar_fill Λ 0 [.ref k, .int v] s (none, zfill s k n v) := by
  refine zKp_of zmk_ar_fill rfl ?_
  show zWA _ _ _ _ _ [(0, .ref k), (1, .int v)] _ _
  have loop : ∀ m i : Nat, i + m = n → zWA zm_ar_fill Λ 0 (none, zfill s k n v) 5 [(2, .int (nI i)), (3, .int (nI n)), (0, .ref k), (1, .int v)] [] (zfill s k i v) := by
    intro m
    induction m with
    | zero =>
      intro i hi
      have e : i = n := by omega
      subst e
      refine zB hL 2 (pc' := 7) (ls' := [(2, .int (nI i)), (3, .int (nI i)), (0, .ref k), (1, .int v)]) (st' := [.int (nI i), .int (nI i)]) (s' := zfill s k i v) rfl ?_
      refine zCgeT (tgt := 20) (nI_le (Nat.le_refl _) hn) rfl (by decide) ?_
      exact zRetV rfl rfl rfl
    | succ m ih =>
      intro i hi
      have hlt : i < n := by omega
      refine zB hL 2 (pc' := 7) (ls' := [(2, .int (nI i)), (3, .int (nI n)), (0, .ref k), (1, .int v)]) (st' := [.int (nI n), .int (nI i)]) (s' := zfill s k i v) rfl ?_
      refine zCgeF (tgt := 20) (nI_ge hlt hn) rfl (by decide) ?_
      refine zB hL 3 (pc' := 13) (ls' := [(2, .int (nI i)), (3, .int (nI n)), (0, .ref k), (1, .int v)]) (st' := [.int v, .int (nI i), .ref k]) (s' := zfill s k i v) rfl ?_
      refine zIast (r := zfill s k (i + 1) v) (g := some) ?_ rfl hc (fun s' e => ?_)
      · rw [zst, if_pos (zin_nI hlt hn), nI_clamp (by omega), zfill_s]; rfl
      · cases e
        refine zB hL 1 (pc' := 17) (ls' := [(2, .int (nI i + Int32.ofInt 1)), (3, .int (nI n)), (0, .ref k), (1, .int v)]) (st' := []) (s' := zfill s k (i + 1) v) rfl ?_
        refine zGoto (tgt := 5) rfl (by decide) ?_
        have e1 : nI i + Int32.ofInt 1 = nI (i + 1) := nI_1 i
        rw [e1]
        exact ih (i + 1) (by omega)
  refine zB hL 3 (pc' := 3) (ls' := [(2, .int (nI 0)), (0, .ref k), (1, .int v)]) (st' := [.ref k]) (s' := s) rfl ?_
  refine zLenX hL rfl hc ?_
  refine zB hL 1 (pc' := 5) (ls' := [(3, .int (nI n)), (2, .int (nI 0)), (0, .ref k), (1, .int v)]) (st' := []) (s' := s) rfl ?_
  refine zLoc [1, 0, 2, 3] rfl ?_
  have h := loop n 0 (by omega)
  rw [zfill_0] at h
  exact h
theorem k_ar_fillL {Λ : List zD} (hL : zLok Λ = true) {k n b : Nat} (hc : Λ[k]? = some (.inr (1, n, b))) (hn : n < 2 ^ 31) (s : zSt) (v : Int64) : zKp zm_ar_fillL Λ 0 [.ref k, .long v] s (none, zfillL s k n v) := by
  refine zKp_of zmk_ar_fillL rfl ?_
  show zWA _ _ _ _ _ [(0, .ref k), (1, .long v)] _ _
  have loop : ∀ m i : Nat, i + m = n → zWA zm_ar_fillL Λ 0 (none, zfillL s k n v) 6 [(3, .int (nI i)), (4, .int (nI n)), (0, .ref k), (1, .long v)] [] (zfillL s k i v) := by
    intro m
    induction m with
    | zero =>
      intro i hi
      have e : i = n := by omega
      subst e
      refine zB hL 2 (pc' := 9) (ls' := [(3, .int (nI i)), (4, .int (nI i)), (0, .ref k), (1, .long v)]) (st' := [.int (nI i), .int (nI i)]) (s' := zfillL s k i v) rfl ?_
      refine zCgeT (tgt := 22) (nI_le (Nat.le_refl _) hn) rfl (by decide) ?_
      exact zRetV rfl rfl rfl
    | succ m ih =>
      intro i hi
      have hlt : i < n := by omega
      refine zB hL 2 (pc' := 9) (ls' := [(3, .int (nI i)), (4, .int (nI n)), (0, .ref k), (1, .long v)]) (st' := [.int (nI n), .int (nI i)]) (s' := zfillL s k i v) rfl ?_
      refine zCgeF (tgt := 22) (nI_ge hlt hn) rfl (by decide) ?_
      refine zB hL 3 (pc' := 15) (ls' := [(3, .int (nI i)), (4, .int (nI n)), (0, .ref k), (1, .long v)]) (st' := [.long v, .int (nI i), .ref k]) (s' := zfillL s k i v) rfl ?_
      refine zLast (r := zfillL s k (i + 1) v) (g := some) ?_ rfl hc (fun s' e => ?_)
      · rw [zstl, if_pos (zin_nI hlt hn), nI_clamp (by omega), zfillL_s]; rfl
      · cases e
        refine zB hL 1 (pc' := 19) (ls' := [(3, .int (nI i + Int32.ofInt 1)), (4, .int (nI n)), (0, .ref k), (1, .long v)]) (st' := []) (s' := zfillL s k (i + 1) v) rfl ?_
        refine zGoto (tgt := 6) rfl (by decide) ?_
        have e1 : nI i + Int32.ofInt 1 = nI (i + 1) := nI_1 i
        rw [e1]
        exact ih (i + 1) (by omega)
  refine zB hL 3 (pc' := 3) (ls' := [(3, .int (nI 0)), (0, .ref k), (1, .long v)]) (st' := [.ref k]) (s' := s) rfl ?_
  refine zLenX hL rfl hc ?_
  refine zB hL 1 (pc' := 6) (ls' := [(4, .int (nI n)), (3, .int (nI 0)), (0, .ref k), (1, .long v)]) (st' := []) (s' := s) rfl ?_
  refine zLoc [1, 0, 2, 3] rfl ?_
  have h := loop n 0 (by omega)
  rw [zfillL_0] at h
  exact h
section ZFR
variable {M : zM} {Λ : List zD} {d : Nat} {res : Option Value × zSt} {pc : Nat} {ls : List (Nat × Value)} {st rest : List Value} {s : zSt}
theorem zFillI {α : Type} {r : α} {g : zSt → Option α} {k n b idx : Nat} {v : Int32} (hL : zLok Λ = true) (hf : (some (zfill s k n v)).bind g = some r) (hl : Cond.methodLink M.2.1.cls idx ⟨"java/util/Arrays", "fill", "([II)V"⟩ ∈ tables_1) (h : zlk M.2.2.2.2.2 pc = some (.invokestatic idx, 3)) (hd : Nat.ble 1 d = true) (hc : Nat.ble ((rest.map fun v => v.category).sum) 8 = true) (hk : Λ[k]? = some (.inr (0, n, b))) (hn : n < 2 ^ 31) (kk : ∀ s', g s' = some r → zWA M Λ d res (pc + 3) ls rest s') : zWA M Λ d res pc ls (.int v :: .ref k :: rest) s := by
  refine zBd hf fun s' h1 h2 => ?_
  cases h1
  exact zCallS (M' := zm_ar_fill) (d' := 0) (As := [.ref k, .int v]) (res' := (none, zfill s k n v)) 2 zmk_ar_fill zok_ar_fill hl h (by rw [hd]; rfl) hc rfl rfl (k_ar_fill hL hk hn s v) (kk _ h2)
theorem zFillL {α : Type} {r : α} {g : zSt → Option α} {k n b idx : Nat} {v : Int64} (hL : zLok Λ = true) (hf : (some (zfillL s k n v)).bind g = some r) (hl : Cond.methodLink M.2.1.cls idx ⟨"java/util/Arrays", "fill", "([JJ)V"⟩ ∈ tables_1) (h : zlk M.2.2.2.2.2 pc = some (.invokestatic idx, 3)) (hd : Nat.ble 1 d = true) (hc : Nat.ble ((rest.map fun v => v.category).sum) 8 = true) (hk : Λ[k]? = some (.inr (1, n, b))) (hn : n < 2 ^ 31) (kk : ∀ s', g s' = some r → zWA M Λ d res (pc + 3) ls rest s') : zWA M Λ d res pc ls (.long v :: .ref k :: rest) s := by
  refine zBd hf fun s' h1 h2 => ?_
  cases h1
  exact zCallS (M' := zm_ar_fillL) (d' := 0) (As := [.ref k, .long v]) (res' := (none, zfillL s k n v)) 2 zmk_ar_fillL zok_ar_fillL hl h (by rw [hd]; rfl) hc rfl rfl (k_ar_fillL hL hk hn s v) (kk _ h2)
end ZFR
end
