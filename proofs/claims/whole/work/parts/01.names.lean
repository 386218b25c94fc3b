-- ===== PART A: goes FIRST, ahead of the names: the tables' words, and 'selects' of the private methods out of them =====
/-- a private method of a class that the tables say can be made, by its rows of tables_1 -/
def lw_okq (q : MethodName × Nat) : Prop := (q.1.cls ≠ "java/lang/invoke/MethodHandle" ∧ q.1.cls ≠ "java/lang/invoke/VarHandle") ∧ Cond.instantiable q.1.cls q.2 ∈ tables_1 ∧ Cond.privateMethod q.1 ∈ tables_1 ∧ Cond.instanceMethod q.1 ∈ tables_1
theorem lw_p0 : lw_okq (⟨"ShiftAdds$Text", "step", "()V"⟩, 6) := ⟨⟨by decide +kernel, by decide +kernel⟩, List.mem_of_getElem? (i := 63) (by decide +kernel), List.mem_of_getElem? (i := 263) (by decide +kernel), List.mem_of_getElem? (i := 264) (by decide +kernel)⟩
theorem lw_p1 : lw_okq (⟨"ShiftAdds$Text", "readItem", "(LShiftAdds$Graph;I)Z"⟩, 6) := ⟨⟨by decide +kernel, by decide +kernel⟩, List.mem_of_getElem? (i := 63) (by decide +kernel), List.mem_of_getElem? (i := 273) (by decide +kernel), List.mem_of_getElem? (i := 274) (by decide +kernel)⟩
theorem lw_p2 : lw_okq (⟨"ShiftAdds$Text", "readLimit", "(LShiftAdds$Graph;)Z"⟩, 6) := ⟨⟨by decide +kernel, by decide +kernel⟩, List.mem_of_getElem? (i := 63) (by decide +kernel), List.mem_of_getElem? (i := 277) (by decide +kernel), List.mem_of_getElem? (i := 278) (by decide +kernel)⟩
theorem lw_p3 : lw_okq (⟨"ShiftAdds$Text", "stepToNumber", "(II)Z"⟩, 6) := ⟨⟨by decide +kernel, by decide +kernel⟩, List.mem_of_getElem? (i := 63) (by decide +kernel), List.mem_of_getElem? (i := 281) (by decide +kernel), List.mem_of_getElem? (i := 282) (by decide +kernel)⟩
theorem lw_p4 : lw_okq (⟨"ShiftAdds$Text", "stepToSemicolon", "()Z"⟩, 6) := ⟨⟨by decide +kernel, by decide +kernel⟩, List.mem_of_getElem? (i := 63) (by decide +kernel), List.mem_of_getElem? (i := 285) (by decide +kernel), List.mem_of_getElem? (i := 286) (by decide +kernel)⟩
theorem lw_p5 : lw_okq (⟨"ShiftAdds$Text", "readWish", "(LShiftAdds$Graph;)Z"⟩, 6) := ⟨⟨by decide +kernel, by decide +kernel⟩, List.mem_of_getElem? (i := 63) (by decide +kernel), List.mem_of_getElem? (i := 289) (by decide +kernel), List.mem_of_getElem? (i := 290) (by decide +kernel)⟩
theorem lw_p6 : lw_okq (⟨"ShiftAdds$Text", "readAdder", "(LShiftAdds$Graph;)Z"⟩, 6) := ⟨⟨by decide +kernel, by decide +kernel⟩, List.mem_of_getElem? (i := 63) (by decide +kernel), List.mem_of_getElem? (i := 301) (by decide +kernel), List.mem_of_getElem? (i := 302) (by decide +kernel)⟩
theorem lw_p7 : lw_okq (⟨"ShiftAdds", "changed", "()V"⟩, 11) := ⟨⟨by decide +kernel, by decide +kernel⟩, List.mem_of_getElem? (i := 15) (by decide +kernel), List.mem_of_getElem? (i := 360) (by decide +kernel), List.mem_of_getElem? (i := 361) (by decide +kernel)⟩
theorem lw_p8 : lw_okq (⟨"ShiftAdds", "freshNear", "()LShiftAdds$Near;"⟩, 11) := ⟨⟨by decide +kernel, by decide +kernel⟩, List.mem_of_getElem? (i := 15) (by decide +kernel), List.mem_of_getElem? (i := 442) (by decide +kernel), List.mem_of_getElem? (i := 443) (by decide +kernel)⟩
theorem lw_p9 : lw_okq (⟨"ShiftAdds$Near", "offerAll", "(LShiftAdds$Graph;II)V"⟩, 2) := ⟨⟨by decide +kernel, by decide +kernel⟩, List.mem_of_getElem? (i := 147) (by decide +kernel), List.mem_of_getElem? (i := 458) (by decide +kernel), List.mem_of_getElem? (i := 459) (by decide +kernel)⟩
theorem lw_p10 : lw_okq (⟨"ShiftAdds$Near", "offer", "(III)V"⟩, 2) := ⟨⟨by decide +kernel, by decide +kernel⟩, List.mem_of_getElem? (i := 147) (by decide +kernel), List.mem_of_getElem? (i := 468) (by decide +kernel), List.mem_of_getElem? (i := 469) (by decide +kernel)⟩
theorem lw_p11 : lw_okq (⟨"ShiftAdds$Near", "bridgeAlone", "(II)I"⟩, 2) := ⟨⟨by decide +kernel, by decide +kernel⟩, List.mem_of_getElem? (i := 147) (by decide +kernel), List.mem_of_getElem? (i := 514) (by decide +kernel), List.mem_of_getElem? (i := 515) (by decide +kernel)⟩
theorem lw_p12 : lw_okq (⟨"ShiftAdds$Near", "usable", "(II)I"⟩, 2) := ⟨⟨by decide +kernel, by decide +kernel⟩, List.mem_of_getElem? (i := 147) (by decide +kernel), List.mem_of_getElem? (i := 518) (by decide +kernel), List.mem_of_getElem? (i := 519) (by decide +kernel)⟩
theorem lw_p13 : lw_okq (⟨"ShiftAdds$Near", "bridgeWith", "(III)I"⟩, 2) := ⟨⟨by decide +kernel, by decide +kernel⟩, List.mem_of_getElem? (i := 147) (by decide +kernel), List.mem_of_getElem? (i := 524) (by decide +kernel), List.mem_of_getElem? (i := 525) (by decide +kernel)⟩
theorem lw_p14 : lw_okq (⟨"ShiftAdds$Fewest", "isMadeByThree", "(I)Z"⟩, 3) := ⟨⟨by decide +kernel, by decide +kernel⟩, List.mem_of_getElem? (i := 181) (by decide +kernel), List.mem_of_getElem? (i := 542) (by decide +kernel), List.mem_of_getElem? (i := 543) (by decide +kernel)⟩
theorem lw_p15 : lw_okq (⟨"ShiftAdds$Plan", "choice", "()I"⟩, 3) := ⟨⟨by decide +kernel, by decide +kernel⟩, List.mem_of_getElem? (i := 160) (by decide +kernel), List.mem_of_getElem? (i := 577) (by decide +kernel), List.mem_of_getElem? (i := 578) (by decide +kernel)⟩
def lw_privs_1 : List (MethodName × Nat) := [(⟨"ShiftAdds$Text", "step", "()V"⟩, 6), (⟨"ShiftAdds$Text", "readItem", "(LShiftAdds$Graph;I)Z"⟩, 6), (⟨"ShiftAdds$Text", "readLimit", "(LShiftAdds$Graph;)Z"⟩, 6), (⟨"ShiftAdds$Text", "stepToNumber", "(II)Z"⟩, 6), (⟨"ShiftAdds$Text", "stepToSemicolon", "()Z"⟩, 6), (⟨"ShiftAdds$Text", "readWish", "(LShiftAdds$Graph;)Z"⟩, 6), (⟨"ShiftAdds$Text", "readAdder", "(LShiftAdds$Graph;)Z"⟩, 6), (⟨"ShiftAdds", "changed", "()V"⟩, 11), (⟨"ShiftAdds", "freshNear", "()LShiftAdds$Near;"⟩, 11), (⟨"ShiftAdds$Near", "offerAll", "(LShiftAdds$Graph;II)V"⟩, 2), (⟨"ShiftAdds$Near", "offer", "(III)V"⟩, 2), (⟨"ShiftAdds$Near", "bridgeAlone", "(II)I"⟩, 2), (⟨"ShiftAdds$Near", "usable", "(II)I"⟩, 2), (⟨"ShiftAdds$Near", "bridgeWith", "(III)I"⟩, 2), (⟨"ShiftAdds$Fewest", "isMadeByThree", "(I)Z"⟩, 3), (⟨"ShiftAdds$Plan", "choice", "()I"⟩, 3)]
theorem lw_r1 : ∀ q ∈ lw_privs_1, lw_okq q := List.forall_mem_cons.mpr ⟨lw_p0, List.forall_mem_cons.mpr ⟨lw_p1, List.forall_mem_cons.mpr ⟨lw_p2, List.forall_mem_cons.mpr ⟨lw_p3, List.forall_mem_cons.mpr ⟨lw_p4, List.forall_mem_cons.mpr ⟨lw_p5, List.forall_mem_cons.mpr ⟨lw_p6, List.forall_mem_cons.mpr ⟨lw_p7, List.forall_mem_cons.mpr ⟨lw_p8, List.forall_mem_cons.mpr ⟨lw_p9, List.forall_mem_cons.mpr ⟨lw_p10, List.forall_mem_cons.mpr ⟨lw_p11, List.forall_mem_cons.mpr ⟨lw_p12, List.forall_mem_cons.mpr ⟨lw_p13, List.forall_mem_cons.mpr ⟨lw_p14, List.forall_mem_cons.mpr ⟨lw_p15, fun _ h => absurd h List.not_mem_nil⟩⟩⟩⟩⟩⟩⟩⟩⟩⟩⟩⟩⟩⟩⟩⟩
theorem lw_p16 : lw_okq (⟨"ShiftAdds$Seen", "allows", "(LShiftAdds$Near;I)Z"⟩, 4) := ⟨⟨by decide +kernel, by decide +kernel⟩, List.mem_of_getElem? (i := 127) (by decide +kernel), List.mem_of_getElem? (i := 625) (by decide +kernel), List.mem_of_getElem? (i := 626) (by decide +kernel)⟩
theorem lw_p17 : lw_okq (⟨"ShiftAdds$Seen", "greatestLeft", "(LShiftAdds$Near;I)I"⟩, 4) := ⟨⟨by decide +kernel, by decide +kernel⟩, List.mem_of_getElem? (i := 127) (by decide +kernel), List.mem_of_getElem? (i := 643) (by decide +kernel), List.mem_of_getElem? (i := 644) (by decide +kernel)⟩
theorem lw_p18 : lw_okq (⟨"ShiftAddsModel", "begins", "()V"⟩, 26) := ⟨⟨by decide +kernel, by decide +kernel⟩, List.mem_of_getElem? (i := 665) (by decide +kernel), List.mem_of_getElem? (i := 671) (by decide +kernel), List.mem_of_getElem? (i := 672) (by decide +kernel)⟩
theorem lw_p19 : lw_okq (⟨"ShiftAddsModel", "settles", "()V"⟩, 26) := ⟨⟨by decide +kernel, by decide +kernel⟩, List.mem_of_getElem? (i := 665) (by decide +kernel), List.mem_of_getElem? (i := 675) (by decide +kernel), List.mem_of_getElem? (i := 676) (by decide +kernel)⟩
theorem lw_p20 : lw_okq (⟨"ShiftAddsModel", "advances", "()V"⟩, 26) := ⟨⟨by decide +kernel, by decide +kernel⟩, List.mem_of_getElem? (i := 665) (by decide +kernel), List.mem_of_getElem? (i := 776) (by decide +kernel), List.mem_of_getElem? (i := 777) (by decide +kernel)⟩
theorem lw_p21 : lw_okq (⟨"ShiftAddsModel", "letterAt", "(I)I"⟩, 26) := ⟨⟨by decide +kernel, by decide +kernel⟩, List.mem_of_getElem? (i := 665) (by decide +kernel), List.mem_of_getElem? (i := 780) (by decide +kernel), List.mem_of_getElem? (i := 781) (by decide +kernel)⟩
theorem lw_p22 : lw_okq (⟨"ShiftAddsModel", "isWell", "()Z"⟩, 26) := ⟨⟨by decide +kernel, by decide +kernel⟩, List.mem_of_getElem? (i := 665) (by decide +kernel), List.mem_of_getElem? (i := 784) (by decide +kernel), List.mem_of_getElem? (i := 785) (by decide +kernel)⟩
theorem lw_p23 : lw_okq (⟨"ShiftAddsModel", "mayBegin", "(I)Z"⟩, 26) := ⟨⟨by decide +kernel, by decide +kernel⟩, List.mem_of_getElem? (i := 665) (by decide +kernel), List.mem_of_getElem? (i := 788) (by decide +kernel), List.mem_of_getElem? (i := 789) (by decide +kernel)⟩
theorem lw_p24 : lw_okq (⟨"ShiftAddsModel", "takes", "(Z)I"⟩, 26) := ⟨⟨by decide +kernel, by decide +kernel⟩, List.mem_of_getElem? (i := 665) (by decide +kernel), List.mem_of_getElem? (i := 792) (by decide +kernel), List.mem_of_getElem? (i := 793) (by decide +kernel)⟩
theorem lw_p25 : lw_okq (⟨"ShiftAddsModel", "readsItem", "(I)V"⟩, 26) := ⟨⟨by decide +kernel, by decide +kernel⟩, List.mem_of_getElem? (i := 665) (by decide +kernel), List.mem_of_getElem? (i := 796) (by decide +kernel), List.mem_of_getElem? (i := 797) (by decide +kernel)⟩
theorem lw_p26 : lw_okq (⟨"ShiftAddsModel", "isNumber", "(II)Z"⟩, 26) := ⟨⟨by decide +kernel, by decide +kernel⟩, List.mem_of_getElem? (i := 665) (by decide +kernel), List.mem_of_getElem? (i := 800) (by decide +kernel), List.mem_of_getElem? (i := 801) (by decide +kernel)⟩
theorem lw_p27 : lw_okq (⟨"ShiftAddsModel", "readsAdder", "()V"⟩, 26) := ⟨⟨by decide +kernel, by decide +kernel⟩, List.mem_of_getElem? (i := 665) (by decide +kernel), List.mem_of_getElem? (i := 807) (by decide +kernel), List.mem_of_getElem? (i := 808) (by decide +kernel)⟩
theorem lw_p28 : lw_okq (⟨"ShiftAddsModel", "reckons", "([I)V"⟩, 26) := ⟨⟨by decide +kernel, by decide +kernel⟩, List.mem_of_getElem? (i := 665) (by decide +kernel), List.mem_of_getElem? (i := 811) (by decide +kernel), List.mem_of_getElem? (i := 812) (by decide +kernel)⟩
theorem lw_p29 : lw_okq (⟨"ShiftAddsModel", "deeper", "(II)I"⟩, 26) := ⟨⟨by decide +kernel, by decide +kernel⟩, List.mem_of_getElem? (i := 665) (by decide +kernel), List.mem_of_getElem? (i := 821) (by decide +kernel), List.mem_of_getElem? (i := 822) (by decide +kernel)⟩
theorem lw_p30 : lw_okq (⟨"ShiftAddsModel", "mayBe", "(IIIII)Z"⟩, 26) := ⟨⟨by decide +kernel, by decide +kernel⟩, List.mem_of_getElem? (i := 665) (by decide +kernel), List.mem_of_getElem? (i := 825) (by decide +kernel), List.mem_of_getElem? (i := 826) (by decide +kernel)⟩
theorem lw_p31 : lw_okq (⟨"ShiftAddsModel", "isOdds", "(I)Z"⟩, 26) := ⟨⟨by decide +kernel, by decide +kernel⟩, List.mem_of_getElem? (i := 665) (by decide +kernel), List.mem_of_getElem? (i := 840) (by decide +kernel), List.mem_of_getElem? (i := 841) (by decide +kernel)⟩
def lw_privs_2 : List (MethodName × Nat) := [(⟨"ShiftAdds$Seen", "allows", "(LShiftAdds$Near;I)Z"⟩, 4), (⟨"ShiftAdds$Seen", "greatestLeft", "(LShiftAdds$Near;I)I"⟩, 4), (⟨"ShiftAddsModel", "begins", "()V"⟩, 26), (⟨"ShiftAddsModel", "settles", "()V"⟩, 26), (⟨"ShiftAddsModel", "advances", "()V"⟩, 26), (⟨"ShiftAddsModel", "letterAt", "(I)I"⟩, 26), (⟨"ShiftAddsModel", "isWell", "()Z"⟩, 26), (⟨"ShiftAddsModel", "mayBegin", "(I)Z"⟩, 26), (⟨"ShiftAddsModel", "takes", "(Z)I"⟩, 26), (⟨"ShiftAddsModel", "readsItem", "(I)V"⟩, 26), (⟨"ShiftAddsModel", "isNumber", "(II)Z"⟩, 26), (⟨"ShiftAddsModel", "readsAdder", "()V"⟩, 26), (⟨"ShiftAddsModel", "reckons", "([I)V"⟩, 26), (⟨"ShiftAddsModel", "deeper", "(II)I"⟩, 26), (⟨"ShiftAddsModel", "mayBe", "(IIIII)Z"⟩, 26), (⟨"ShiftAddsModel", "isOdds", "(I)Z"⟩, 26)]
theorem lw_r2 : ∀ q ∈ lw_privs_2, lw_okq q := List.forall_mem_cons.mpr ⟨lw_p16, List.forall_mem_cons.mpr ⟨lw_p17, List.forall_mem_cons.mpr ⟨lw_p18, List.forall_mem_cons.mpr ⟨lw_p19, List.forall_mem_cons.mpr ⟨lw_p20, List.forall_mem_cons.mpr ⟨lw_p21, List.forall_mem_cons.mpr ⟨lw_p22, List.forall_mem_cons.mpr ⟨lw_p23, List.forall_mem_cons.mpr ⟨lw_p24, List.forall_mem_cons.mpr ⟨lw_p25, List.forall_mem_cons.mpr ⟨lw_p26, List.forall_mem_cons.mpr ⟨lw_p27, List.forall_mem_cons.mpr ⟨lw_p28, List.forall_mem_cons.mpr ⟨lw_p29, List.forall_mem_cons.mpr ⟨lw_p30, List.forall_mem_cons.mpr ⟨lw_p31, fun _ h => absurd h List.not_mem_nil⟩⟩⟩⟩⟩⟩⟩⟩⟩⟩⟩⟩⟩⟩⟩⟩
theorem lw_p32 : lw_okq (⟨"ShiftAddsModel", "notes", "()V"⟩, 26) := ⟨⟨by decide +kernel, by decide +kernel⟩, List.mem_of_getElem? (i := 665) (by decide +kernel), List.mem_of_getElem? (i := 848) (by decide +kernel), List.mem_of_getElem? (i := 849) (by decide +kernel)⟩
theorem lw_p33 : lw_okq (⟨"ShiftAddsModel", "deepest", "()I"⟩, 26) := ⟨⟨by decide +kernel, by decide +kernel⟩, List.mem_of_getElem? (i := 665) (by decide +kernel), List.mem_of_getElem? (i := 864) (by decide +kernel), List.mem_of_getElem? (i := 865) (by decide +kernel)⟩
theorem lw_p34 : lw_okq (⟨"ShiftAddsModel", "nearsOf", "([I)V"⟩, 26) := ⟨⟨by decide +kernel, by decide +kernel⟩, List.mem_of_getElem? (i := 665) (by decide +kernel), List.mem_of_getElem? (i := 890) (by decide +kernel), List.mem_of_getElem? (i := 891) (by decide +kernel)⟩
theorem lw_p35 : lw_okq (⟨"ShiftAddsModel", "nears", "(I)V"⟩, 26) := ⟨⟨by decide +kernel, by decide +kernel⟩, List.mem_of_getElem? (i := 665) (by decide +kernel), List.mem_of_getElem? (i := 894) (by decide +kernel), List.mem_of_getElem? (i := 895) (by decide +kernel)⟩
theorem lw_p36 : lw_okq (⟨"ShiftAddsModel", "twoOf", "(II)I"⟩, 26) := ⟨⟨by decide +kernel, by decide +kernel⟩, List.mem_of_getElem? (i := 665) (by decide +kernel), List.mem_of_getElem? (i := 912) (by decide +kernel), List.mem_of_getElem? (i := 913) (by decide +kernel)⟩
theorem lw_p37 : lw_okq (⟨"ShiftAddsModel", "isByLast", "(II)Z"⟩, 26) := ⟨⟨by decide +kernel, by decide +kernel⟩, List.mem_of_getElem? (i := 665) (by decide +kernel), List.mem_of_getElem? (i := 916) (by decide +kernel), List.mem_of_getElem? (i := 917) (by decide +kernel)⟩
theorem lw_p38 : lw_okq (⟨"ShiftAddsModel", "plans", "()V"⟩, 26) := ⟨⟨by decide +kernel, by decide +kernel⟩, List.mem_of_getElem? (i := 665) (by decide +kernel), List.mem_of_getElem? (i := 937) (by decide +kernel), List.mem_of_getElem? (i := 938) (by decide +kernel)⟩
theorem lw_p39 : lw_okq (⟨"ShiftAddsModel", "unmet", "([I)I"⟩, 26) := ⟨⟨by decide +kernel, by decide +kernel⟩, List.mem_of_getElem? (i := 665) (by decide +kernel), List.mem_of_getElem? (i := 941) (by decide +kernel), List.mem_of_getElem? (i := 942) (by decide +kernel)⟩
theorem lw_p40 : lw_okq (⟨"ShiftAddsModel", "nextOf", "([I)I"⟩, 26) := ⟨⟨by decide +kernel, by decide +kernel⟩, List.mem_of_getElem? (i := 665) (by decide +kernel), List.mem_of_getElem? (i := 945) (by decide +kernel), List.mem_of_getElem? (i := 946) (by decide +kernel)⟩
theorem lw_p41 : lw_okq (⟨"ShiftAddsModel", "canBe", "(I)Z"⟩, 26) := ⟨⟨by decide +kernel, by decide +kernel⟩, List.mem_of_getElem? (i := 665) (by decide +kernel), List.mem_of_getElem? (i := 967) (by decide +kernel), List.mem_of_getElem? (i := 968) (by decide +kernel)⟩
theorem lw_p42 : lw_okq (⟨"ShiftAddsModel", "leaving", "(II)I"⟩, 26) := ⟨⟨by decide +kernel, by decide +kernel⟩, List.mem_of_getElem? (i := 665) (by decide +kernel), List.mem_of_getElem? (i := 975) (by decide +kernel), List.mem_of_getElem? (i := 976) (by decide +kernel)⟩
def lw_privs_3 : List (MethodName × Nat) := [(⟨"ShiftAddsModel", "notes", "()V"⟩, 26), (⟨"ShiftAddsModel", "deepest", "()I"⟩, 26), (⟨"ShiftAddsModel", "nearsOf", "([I)V"⟩, 26), (⟨"ShiftAddsModel", "nears", "(I)V"⟩, 26), (⟨"ShiftAddsModel", "twoOf", "(II)I"⟩, 26), (⟨"ShiftAddsModel", "isByLast", "(II)Z"⟩, 26), (⟨"ShiftAddsModel", "plans", "()V"⟩, 26), (⟨"ShiftAddsModel", "unmet", "([I)I"⟩, 26), (⟨"ShiftAddsModel", "nextOf", "([I)I"⟩, 26), (⟨"ShiftAddsModel", "canBe", "(I)Z"⟩, 26), (⟨"ShiftAddsModel", "leaving", "(II)I"⟩, 26)]
theorem lw_r3 : ∀ q ∈ lw_privs_3, lw_okq q := List.forall_mem_cons.mpr ⟨lw_p32, List.forall_mem_cons.mpr ⟨lw_p33, List.forall_mem_cons.mpr ⟨lw_p34, List.forall_mem_cons.mpr ⟨lw_p35, List.forall_mem_cons.mpr ⟨lw_p36, List.forall_mem_cons.mpr ⟨lw_p37, List.forall_mem_cons.mpr ⟨lw_p38, List.forall_mem_cons.mpr ⟨lw_p39, List.forall_mem_cons.mpr ⟨lw_p40, List.forall_mem_cons.mpr ⟨lw_p41, List.forall_mem_cons.mpr ⟨lw_p42, fun _ h => absurd h List.not_mem_nil⟩⟩⟩⟩⟩⟩⟩⟩⟩⟩⟩
def lw_privs : List (MethodName × Nat) := lw_privs_1 ++ (lw_privs_2 ++ (lw_privs_3))
def lw_tbl : List Cond := k2_sels lw_privs ++ tables_1
theorem lw_privs_ok : ∀ q ∈ lw_privs, lw_okq q := by
  show ∀ q ∈ lw_privs_1 ++ (lw_privs_2 ++ (lw_privs_3)), lw_okq q
  exact List.forall_mem_append.mpr ⟨lw_r1, List.forall_mem_append.mpr ⟨lw_r2, lw_r3⟩⟩

/-! ===== BEGIN printed: names, fields, word lists, decode rows ===== -/
def RX0 : String := "ShiftAdds$Fewest"
def TX0 : u_T := fun k => match k with
  | 0 => ("ShiftAdds$Fewest", "graph", "LShiftAdds$Graph;", true)
  | 1 => ("ShiftAdds$Fewest", "ofOne", "LShiftAdds$Near;", true)
  | _ => ("ShiftAdds$Fewest", "ofTwo", "LShiftAdds$Near;", true)
def tyX0 : Nat → FieldType := fun k => match k with
  | 0 => .object "ShiftAdds$Graph"
  | 1 => .object "ShiftAdds$Near"
  | _ => .object "ShiftAdds$Near"
abbrev wsX00 : List Cond := u_ws RX0 TX0 3
theorem nmX0 : ∀ a, a < 3 → ∀ b, b < 3 → a ≠ b → (TX0 a).2.1 ≠ (TX0 b).2.1 := by decide +kernel
theorem tyX0_ok : ∀ k, k < 3 → parseFieldDescriptor (TX0 k).2.2.1 = some (tyX0 k) := by decide +kernel
abbrev cX0_init : ByteArray := prog_2_method_1_code
def yX0_init : MethodName := ⟨RX0, "<init>", "()V"⟩
abbrev cX0_adders : ByteArray := prog_2_method_2_code
def yX0_adders : MethodName := ⟨RX0, "adders", "(I)I"⟩
abbrev cX0_isMadeByThree : ByteArray := prog_2_method_3_code
def yX0_isMadeByThree : MethodName := ⟨RX0, "isMadeByThree", "(I)Z"⟩
def RX1 : String := "ShiftAdds$Graph"
def TX1 : u_T := fun k => match k with
  | 0 => ("ShiftAdds$Graph", "odds", "[[I", true)
  | 1 => ("ShiftAdds$Graph", "constants", "[I", true)
  | 2 => ("ShiftAdds$Graph", "adders", "I", false)
  | 3 => ("ShiftAdds$Graph", "wishes", "I", false)
  | _ => ("ShiftAdds$Graph", "limit", "I", false)
def tyX1 : Nat → FieldType := fun k => match k with
  | 0 => .array (.array .int)
  | 1 => .array .int
  | 2 => .int
  | 3 => .int
  | _ => .int
abbrev wsX10 : List Cond := u_ws RX1 TX1 5
theorem nmX1 : ∀ a, a < 5 → ∀ b, b < 5 → a ≠ b → (TX1 a).2.1 ≠ (TX1 b).2.1 := by decide +kernel
theorem tyX1_ok : ∀ k, k < 5 → parseFieldDescriptor (TX1 k).2.2.1 = some (tyX1 k) := by decide +kernel
abbrev cX1_init : ByteArray := prog_3_method_1_code
def yX1_init : MethodName := ⟨RX1, "<init>", "()V"⟩
abbrev cX1_empty : ByteArray := prog_3_method_2_code
def yX1_empty : MethodName := ⟨RX1, "empty", "()V"⟩
abbrev cX1_copy : ByteArray := prog_3_method_3_code
def yX1_copy : MethodName := ⟨RX1, "copy", "(LShiftAdds$Graph;)V"⟩
abbrev cX1_isThere : ByteArray := prog_3_method_4_code
def yX1_isThere : MethodName := ⟨RX1, "isThere", "(I)Z"⟩
abbrev cX1_value : ByteArray := prog_3_method_5_code
def yX1_value : MethodName := ⟨RX1, "value", "(I)I"⟩
abbrev cX1_depth : ByteArray := prog_3_method_6_code
def yX1_depth : MethodName := ⟨RX1, "depth", "(I)I"⟩
abbrev cX1_depthOver : ByteArray := prog_3_method_7_code
def yX1_depthOver : MethodName := ⟨RX1, "depthOver", "(II)I"⟩
abbrev cX1_mayBe : ByteArray := prog_3_method_8_code
def yX1_mayBe : MethodName := ⟨RX1, "mayBe", "(IIII)Z"⟩
abbrev cX1_append : ByteArray := prog_3_method_9_code
def yX1_append : MethodName := ⟨RX1, "append", "(IIII)V"⟩
abbrev cX1_append_ : ByteArray := prog_3_method_10_code
def yX1_append_ : MethodName := ⟨RX1, "append", "(I)V"⟩
abbrev cX1_hasValue : ByteArray := prog_3_method_11_code
def yX1_hasValue : MethodName := ⟨RX1, "hasValue", "(I)Z"⟩
abbrev cX1_greatestDepth : ByteArray := prog_3_method_12_code
def yX1_greatestDepth : MethodName := ⟨RX1, "greatestDepth", "()I"⟩
abbrev cX1_isMet : ByteArray := prog_3_method_13_code
def yX1_isMet : MethodName := ⟨RX1, "isMet", "(I)Z"⟩
abbrev cX1_notMet : ByteArray := prog_3_method_14_code
def yX1_notMet : MethodName := ⟨RX1, "notMet", "()I"⟩
abbrev cX1_placeOf : ByteArray := prog_3_method_15_code
def yX1_placeOf : MethodName := ⟨RX1, "placeOf", "(I)I"⟩
abbrev cX1_wish : ByteArray := prog_3_method_16_code
def yX1_wish : MethodName := ⟨RX1, "wish", "(I)V"⟩
abbrev cX1_dropWish : ByteArray := prog_3_method_17_code
def yX1_dropWish : MethodName := ⟨RX1, "dropWish", "(I)V"⟩
def RX2 : String := "ShiftAdds$History"
def TX2 : u_T := fun k => match k with
  | 0 => ("ShiftAdds$History", "before", "[LShiftAdds$Graph;", true)
  | 1 => ("ShiftAdds$History", "latest", "I", false)
  | _ => ("ShiftAdds$History", "known", "I", false)
def tyX2 : Nat → FieldType := fun k => match k with
  | 0 => .array (.object "ShiftAdds$Graph")
  | 1 => .int
  | _ => .int
abbrev wsX20 : List Cond := u_ws RX2 TX2 3
theorem nmX2 : ∀ a, a < 3 → ∀ b, b < 3 → a ≠ b → (TX2 a).2.1 ≠ (TX2 b).2.1 := by decide +kernel
theorem tyX2_ok : ∀ k, k < 3 → parseFieldDescriptor (TX2 k).2.2.1 = some (tyX2 k) := by decide +kernel
abbrev cX2_init : ByteArray := prog_4_method_1_code
def yX2_init : MethodName := ⟨RX2, "<init>", "()V"⟩
abbrev cX2_remember : ByteArray := prog_4_method_2_code
def yX2_remember : MethodName := ⟨RX2, "remember", "(LShiftAdds$Graph;)V"⟩
abbrev cX2_restore : ByteArray := prog_4_method_3_code
def yX2_restore : MethodName := ⟨RX2, "restore", "(LShiftAdds$Graph;)V"⟩
abbrev cX2_lose : ByteArray := prog_4_method_4_code
def yX2_lose : MethodName := ⟨RX2, "lose", "()V"⟩
def RX3 : String := "ShiftAdds$Images"
def TX3 : u_T := fun k => match k with
  | 0 => ("ShiftAdds$Images", "graphs", "[LShiftAdds$Graph;", true)
  | _ => ("ShiftAdds$Images", "kept", "[Z", true)
def tyX3 : Nat → FieldType := fun k => match k with
  | 0 => .array (.object "ShiftAdds$Graph")
  | _ => .array .boolean
abbrev wsX30 : List Cond := u_ws RX3 TX3 2
theorem nmX3 : ∀ a, a < 2 → ∀ b, b < 2 → a ≠ b → (TX3 a).2.1 ≠ (TX3 b).2.1 := by decide +kernel
theorem tyX3_ok : ∀ k, k < 2 → parseFieldDescriptor (TX3 k).2.2.1 = some (tyX3 k) := by decide +kernel
abbrev cX3_init : ByteArray := prog_5_method_1_code
def yX3_init : MethodName := ⟨RX3, "<init>", "()V"⟩
abbrev cX3_put : ByteArray := prog_5_method_2_code
def yX3_put : MethodName := ⟨RX3, "put", "(ILShiftAdds$Graph;)V"⟩
abbrev cX3_lose : ByteArray := prog_5_method_3_code
def yX3_lose : MethodName := ⟨RX3, "lose", "()V"⟩
def RX4 : String := "ShiftAdds$Near"
def TX4 : u_T := fun k => match k with
  | 0 => ("ShiftAdds$Near", "ways", "[I", true)
  | _ => ("ShiftAdds$Near", "depths", "[I", true)
def tyX4 : Nat → FieldType := fun k => match k with
  | 0 => .array .int
  | _ => .array .int
abbrev wsX40 : List Cond := u_ws RX4 TX4 2
theorem nmX4 : ∀ a, a < 2 → ∀ b, b < 2 → a ≠ b → (TX4 a).2.1 ≠ (TX4 b).2.1 := by decide +kernel
theorem tyX4_ok : ∀ k, k < 2 → parseFieldDescriptor (TX4 k).2.2.1 = some (tyX4 k) := by decide +kernel
abbrev cX4_init : ByteArray := prog_6_method_1_code
def yX4_init : MethodName := ⟨RX4, "<init>", "()V"⟩
abbrev cX4_build : ByteArray := prog_6_method_2_code
def yX4_build : MethodName := ⟨RX4, "build", "(LShiftAdds$Graph;)V"⟩
abbrev cX4_copy : ByteArray := prog_6_method_3_code
def yX4_copy : MethodName := ⟨RX4, "copy", "(LShiftAdds$Near;)V"⟩
abbrev cX4_widen : ByteArray := prog_6_method_4_code
def yX4_widen : MethodName := ⟨RX4, "widen", "(LShiftAdds$Graph;I)V"⟩
abbrev cX4_offerAll : ByteArray := prog_6_method_5_code
def yX4_offerAll : MethodName := ⟨RX4, "offerAll", "(LShiftAdds$Graph;II)V"⟩
abbrev cX4_offer : ByteArray := prog_6_method_6_code
def yX4_offer : MethodName := ⟨RX4, "offer", "(III)V"⟩
abbrev cX4_way : ByteArray := prog_6_method_7_code
def yX4_way : MethodName := ⟨RX4, "way", "(I)I"⟩
abbrev cX4_has : ByteArray := prog_6_method_8_code
def yX4_has : MethodName := ⟨RX4, "has", "(I)Z"⟩
abbrev cX4_howManyAbove : ByteArray := prog_6_method_9_code
def yX4_howManyAbove : MethodName := ⟨RX4, "howManyAbove", "(I)I"⟩
abbrev cX4_leastAbove : ByteArray := prog_6_method_10_code
def yX4_leastAbove : MethodName := ⟨RX4, "leastAbove", "(I)I"⟩
abbrev cX4_bridge : ByteArray := prog_6_method_11_code
def yX4_bridge : MethodName := ⟨RX4, "bridge", "(LShiftAdds$Graph;I)I"⟩
abbrev cX4_bridgeAlone : ByteArray := prog_6_method_12_code
def yX4_bridgeAlone : MethodName := ⟨RX4, "bridgeAlone", "(II)I"⟩
abbrev cX4_bridgeWith : ByteArray := prog_6_method_13_code
def yX4_bridgeWith : MethodName := ⟨RX4, "bridgeWith", "(III)I"⟩
abbrev cX4_usable : ByteArray := prog_6_method_14_code
def yX4_usable : MethodName := ⟨RX4, "usable", "(II)I"⟩
def RX5 : String := "ShiftAdds$Plan"
def TX5 : u_T := fun k => match k with
  | 0 => ("ShiftAdds$Plan", "graph", "LShiftAdds$Graph;", true)
  | 1 => ("ShiftAdds$Plan", "near", "LShiftAdds$Near;", true)
  | _ => ("ShiftAdds$Plan", "addersAhead", "I", false)
def tyX5 : Nat → FieldType := fun k => match k with
  | 0 => .object "ShiftAdds$Graph"
  | 1 => .object "ShiftAdds$Near"
  | _ => .int
abbrev wsX50 : List Cond := u_ws RX5 TX5 3
theorem nmX5 : ∀ a, a < 3 → ∀ b, b < 3 → a ≠ b → (TX5 a).2.1 ≠ (TX5 b).2.1 := by decide +kernel
theorem tyX5_ok : ∀ k, k < 3 → parseFieldDescriptor (TX5 k).2.2.1 = some (tyX5 k) := by decide +kernel
abbrev cX5_init : ByteArray := prog_7_method_1_code
def yX5_init : MethodName := ⟨RX5, "<init>", "()V"⟩
abbrev cX5_make : ByteArray := prog_7_method_2_code
def yX5_make : MethodName := ⟨RX5, "make", "(LShiftAdds$Graph;LShiftAdds$Near;)V"⟩
abbrev cX5_made : ByteArray := prog_7_method_3_code
def yX5_made : MethodName := ⟨RX5, "made", "()I"⟩
abbrev cX5_value : ByteArray := prog_7_method_4_code
def yX5_value : MethodName := ⟨RX5, "value", "(I)I"⟩
abbrev cX5_choice : ByteArray := prog_7_method_5_code
def yX5_choice : MethodName := ⟨RX5, "choice", "()I"⟩
def RX6 : String := "ShiftAdds$Seen"
def TX6 : u_T := fun k => match k with
  | 0 => ("ShiftAdds$Seen", "divisors", "[I", true)
  | 1 => ("ShiftAdds$Seen", "rests", "[I", true)
  | 2 => ("ShiftAdds$Seen", "tally", "[I", true)
  | _ => ("ShiftAdds$Seen", "size", "I", false)
def tyX6 : Nat → FieldType := fun k => match k with
  | 0 => .array .int
  | 1 => .array .int
  | 2 => .array .int
  | _ => .int
abbrev wsX60 : List Cond := u_ws RX6 TX6 4
theorem nmX6 : ∀ a, a < 4 → ∀ b, b < 4 → a ≠ b → (TX6 a).2.1 ≠ (TX6 b).2.1 := by decide +kernel
theorem tyX6_ok : ∀ k, k < 4 → parseFieldDescriptor (TX6 k).2.2.1 = some (tyX6 k) := by decide +kernel
abbrev cX6_init : ByteArray := prog_8_method_1_code
def yX6_init : MethodName := ⟨RX6, "<init>", "()V"⟩
abbrev cX6_append : ByteArray := prog_8_method_2_code
def yX6_append : MethodName := ⟨RX6, "append", "(II)I"⟩
abbrev cX6_lose : ByteArray := prog_8_method_3_code
def yX6_lose : MethodName := ⟨RX6, "lose", "()I"⟩
abbrev cX6_allows : ByteArray := prog_8_method_4_code
def yX6_allows : MethodName := ⟨RX6, "allows", "(LShiftAdds$Near;I)Z"⟩
abbrev cX6_howMany : ByteArray := prog_8_method_5_code
def yX6_howMany : MethodName := ⟨RX6, "howMany", "(LShiftAdds$Near;)I"⟩
abbrev cX6_lowest : ByteArray := prog_8_method_6_code
def yX6_lowest : MethodName := ⟨RX6, "lowest", "(LShiftAdds$Near;)I"⟩
abbrev cX6_ask : ByteArray := prog_8_method_7_code
def yX6_ask : MethodName := ⟨RX6, "ask", "(LShiftAdds$Near;)I"⟩
abbrev cX6_greatestLeft : ByteArray := prog_8_method_8_code
def yX6_greatestLeft : MethodName := ⟨RX6, "greatestLeft", "(LShiftAdds$Near;I)I"⟩
def RX7 : String := "ShiftAdds$Text"
def TX7 : u_T := fun k => match k with
  | 0 => ("ShiftAdds$Text", "letters", "[I", true)
  | 1 => ("ShiftAdds$Text", "length", "I", false)
  | 2 => ("ShiftAdds$Text", "start", "I", false)
  | 3 => ("ShiftAdds$Text", "behind", "I", false)
  | 4 => ("ShiftAdds$Text", "kind", "I", false)
  | _ => ("ShiftAdds$Text", "number", "I", false)
def tyX7 : Nat → FieldType := fun k => match k with
  | 0 => .array .int
  | 1 => .int
  | 2 => .int
  | 3 => .int
  | 4 => .int
  | _ => .int
abbrev wsX70 : List Cond := u_ws RX7 TX7 6
theorem nmX7 : ∀ a, a < 6 → ∀ b, b < 6 → a ≠ b → (TX7 a).2.1 ≠ (TX7 b).2.1 := by decide +kernel
theorem tyX7_ok : ∀ k, k < 6 → parseFieldDescriptor (TX7 k).2.2.1 = some (tyX7 k) := by decide +kernel
abbrev cX7_init : ByteArray := prog_9_method_1_code
def yX7_init : MethodName := ⟨RX7, "<init>", "()V"⟩
abbrev cX7_append : ByteArray := prog_9_method_2_code
def yX7_append : MethodName := ⟨RX7, "append", "(I)I"⟩
abbrev cX7_empty : ByteArray := prog_9_method_3_code
def yX7_empty : MethodName := ⟨RX7, "empty", "()I"⟩
abbrev cX7_read : ByteArray := prog_9_method_4_code
def yX7_read : MethodName := ⟨RX7, "read", "(LShiftAdds$Graph;)I"⟩
abbrev cX7_readItem : ByteArray := prog_9_method_5_code
def yX7_readItem : MethodName := ⟨RX7, "readItem", "(LShiftAdds$Graph;I)Z"⟩
abbrev cX7_readLimit : ByteArray := prog_9_method_6_code
def yX7_readLimit : MethodName := ⟨RX7, "readLimit", "(LShiftAdds$Graph;)Z"⟩
abbrev cX7_readWish : ByteArray := prog_9_method_7_code
def yX7_readWish : MethodName := ⟨RX7, "readWish", "(LShiftAdds$Graph;)Z"⟩
abbrev cX7_readAdder : ByteArray := prog_9_method_8_code
def yX7_readAdder : MethodName := ⟨RX7, "readAdder", "(LShiftAdds$Graph;)Z"⟩
abbrev cX7_stepToNumber : ByteArray := prog_9_method_9_code
def yX7_stepToNumber : MethodName := ⟨RX7, "stepToNumber", "(II)Z"⟩
abbrev cX7_stepToSemicolon : ByteArray := prog_9_method_10_code
def yX7_stepToSemicolon : MethodName := ⟨RX7, "stepToSemicolon", "()Z"⟩
abbrev cX7_step : ByteArray := prog_9_method_11_code
def yX7_step : MethodName := ⟨RX7, "step", "()V"⟩
abbrev cX7_isDigit : ByteArray := prog_9_method_12_code
def yX7_isDigit : MethodName := ⟨RX7, "isDigit", "(I)Z"⟩
def RX8 : String := "ShiftAdds$Way"
def TX8 : u_T := fun k => match k with
  | _ => ("", "", "", false)
def tyX8 : Nat → FieldType := fun k => match k with
  | _ => .int
abbrev wsX80 : List Cond := u_ws RX8 TX8 0
theorem nmX8 : ∀ a, a < 0 → ∀ b, b < 0 → a ≠ b → (TX8 a).2.1 ≠ (TX8 b).2.1 := by decide +kernel
theorem tyX8_ok : ∀ k, k < 0 → parseFieldDescriptor (TX8 k).2.2.1 = some (tyX8 k) := by decide +kernel
abbrev cX8_of : ByteArray := prog_10_method_2_code
def yX8_of : MethodName := ⟨RX8, "of", "(IIII)I"⟩
abbrev cX8_p : ByteArray := prog_10_method_3_code
def yX8_p : MethodName := ⟨RX8, "p", "(I)I"⟩
abbrev cX8_q : ByteArray := prog_10_method_4_code
def yX8_q : MethodName := ⟨RX8, "q", "(I)I"⟩
abbrev cX8_shift : ByteArray := prog_10_method_5_code
def yX8_shift : MethodName := ⟨RX8, "shift", "(I)I"⟩
abbrev cX8_form : ByteArray := prog_10_method_6_code
def yX8_form : MethodName := ⟨RX8, "form", "(I)I"⟩
def RX9 : String := "ShiftAdds"
def TX9 : u_T := fun k => match k with
  | 0 => ("ShiftAdds", "now", "LShiftAdds$Graph;", true)
  | 1 => ("ShiftAdds", "told", "LShiftAdds$Graph;", true)
  | 2 => ("ShiftAdds", "text", "LShiftAdds$Text;", true)
  | 3 => ("ShiftAdds", "history", "LShiftAdds$History;", true)
  | 4 => ("ShiftAdds", "images", "LShiftAdds$Images;", true)
  | 5 => ("ShiftAdds", "seen", "LShiftAdds$Seen;", true)
  | 6 => ("ShiftAdds", "nearNow", "LShiftAdds$Near;", true)
  | 7 => ("ShiftAdds", "planNow", "LShiftAdds$Plan;", true)
  | 8 => ("ShiftAdds", "fewest", "LShiftAdds$Fewest;", true)
  | 9 => ("ShiftAdds", "nearIsOld", "Z", false)
  | _ => ("ShiftAdds", "planIsOld", "Z", false)
def tyX9 : Nat → FieldType := fun k => match k with
  | 0 => .object "ShiftAdds$Graph"
  | 1 => .object "ShiftAdds$Graph"
  | 2 => .object "ShiftAdds$Text"
  | 3 => .object "ShiftAdds$History"
  | 4 => .object "ShiftAdds$Images"
  | 5 => .object "ShiftAdds$Seen"
  | 6 => .object "ShiftAdds$Near"
  | 7 => .object "ShiftAdds$Plan"
  | 8 => .object "ShiftAdds$Fewest"
  | 9 => .boolean
  | _ => .boolean
abbrev wsX90 : List Cond := u_ws RX9 TX9 11
theorem nmX9 : ∀ a, a < 11 → ∀ b, b < 11 → a ≠ b → (TX9 a).2.1 ≠ (TX9 b).2.1 := by decide +kernel
theorem tyX9_ok : ∀ k, k < 11 → parseFieldDescriptor (TX9 k).2.2.1 = some (tyX9 k) := by decide +kernel
abbrev cX9_init : ByteArray := prog_1_method_1_code
def yX9_init : MethodName := ⟨RX9, "<init>", "()V"⟩
abbrev cX9_type : ByteArray := prog_1_method_2_code
def yX9_type : MethodName := ⟨RX9, "type", "(I)I"⟩
abbrev cX9_clear : ByteArray := prog_1_method_3_code
def yX9_clear : MethodName := ⟨RX9, "clear", "()I"⟩
abbrev cX9_graph : ByteArray := prog_1_method_4_code
def yX9_graph : MethodName := ⟨RX9, "graph", "()I"⟩
abbrev cX9_odd : ByteArray := prog_1_method_5_code
def yX9_odd : MethodName := ⟨RX9, "odd", "(II)I"⟩
abbrev cX9_wanted : ByteArray := prog_1_method_6_code
def yX9_wanted : MethodName := ⟨RX9, "wanted", "(II)I"⟩
abbrev cX9_adds : ByteArray := prog_1_method_7_code
def yX9_adds : MethodName := ⟨RX9, "adds", "(IIII)I"⟩
abbrev cX9_takes : ByteArray := prog_1_method_8_code
def yX9_takes : MethodName := ⟨RX9, "takes", "()I"⟩
abbrev cX9_wishes : ByteArray := prog_1_method_9_code
def yX9_wishes : MethodName := ⟨RX9, "wishes", "(I)I"⟩
abbrev cX9_limits : ByteArray := prog_1_method_10_code
def yX9_limits : MethodName := ⟨RX9, "limits", "(I)I"⟩
abbrev cX9_undo : ByteArray := prog_1_method_11_code
def yX9_undo : MethodName := ⟨RX9, "undo", "()I"⟩
abbrev cX9_digits : ByteArray := prog_1_method_12_code
def yX9_digits : MethodName := ⟨RX9, "digits", "(I)I"⟩
abbrev cX9_digit : ByteArray := prog_1_method_13_code
def yX9_digit : MethodName := ⟨RX9, "digit", "(II)I"⟩
abbrev cX9_near : ByteArray := prog_1_method_14_code
def yX9_near : MethodName := ⟨RX9, "near", "(II)I"⟩
abbrev cX9_by : ByteArray := prog_1_method_15_code
def yX9_by : MethodName := ⟨RX9, "by", "(II)I"⟩
abbrev cX9_two : ByteArray := prog_1_method_16_code
def yX9_two : MethodName := ⟨RX9, "two", "(I)I"⟩
abbrev cX9_least : ByteArray := prog_1_method_17_code
def yX9_least : MethodName := ⟨RX9, "least", "(I)I"⟩
abbrev cX9_plan : ByteArray := prog_1_method_18_code
def yX9_plan : MethodName := ⟨RX9, "plan", "(I)I"⟩
abbrev cX9_product : ByteArray := prog_1_method_19_code
def yX9_product : MethodName := ⟨RX9, "product", "(II)J"⟩
abbrev cX9_sees : ByteArray := prog_1_method_20_code
def yX9_sees : MethodName := ⟨RX9, "sees", "(II)I"⟩
abbrev cX9_forget : ByteArray := prog_1_method_21_code
def yX9_forget : MethodName := ⟨RX9, "forget", "()I"⟩
abbrev cX9_unseen : ByteArray := prog_1_method_22_code
def yX9_unseen : MethodName := ⟨RX9, "unseen", "(I)I"⟩
abbrev cX9_next : ByteArray := prog_1_method_23_code
def yX9_next : MethodName := ⟨RX9, "next", "()I"⟩
abbrev cX9_keep : ByteArray := prog_1_method_24_code
def yX9_keep : MethodName := ⟨RX9, "keep", "(I)I"⟩
abbrev cX9_back : ByteArray := prog_1_method_25_code
def yX9_back : MethodName := ⟨RX9, "back", "(I)I"⟩
abbrev cX9_count : ByteArray := prog_1_method_26_code
def yX9_count : MethodName := ⟨RX9, "count", "(I)I"⟩
abbrev cX9_changed : ByteArray := prog_1_method_27_code
def yX9_changed : MethodName := ⟨RX9, "changed", "()V"⟩
abbrev cX9_freshNear : ByteArray := prog_1_method_28_code
def yX9_freshNear : MethodName := ⟨RX9, "freshNear", "()LShiftAdds$Near;"⟩
abbrev cX9_isOddNumber : ByteArray := prog_1_method_29_code
def yX9_isOddNumber : MethodName := ⟨RX9, "isOddNumber", "(I)Z"⟩
abbrev cX9_halvings : ByteArray := prog_1_method_30_code
def yX9_halvings : MethodName := ⟨RX9, "halvings", "(I)I"⟩
abbrev cX9_oddPart : ByteArray := prog_1_method_31_code
def yX9_oddPart : MethodName := ⟨RX9, "oddPart", "(I)I"⟩
abbrev cX9_comes : ByteArray := prog_1_method_32_code
def yX9_comes : MethodName := ⟨RX9, "comes", "(IIII)I"⟩
abbrev cX9_signedDigit : ByteArray := prog_1_method_33_code
def yX9_signedDigit : MethodName := ⟨RX9, "signedDigit", "(II)I"⟩
def RX10 : String := "ShiftAddsModel"
def TX10 : u_T := fun k => match k with
  | 0 => ("ShiftAddsModel", "thrown", "I", false)
  | 1 => ("ShiftAddsModel", "text", "[I", true)
  | 2 => ("ShiftAddsModel", "typed", "I", false)
  | 3 => ("ShiftAddsModel", "at", "I", false)
  | 4 => ("ShiftAddsModel", "token", "I", false)
  | 5 => ("ShiftAddsModel", "place", "I", false)
  | 6 => ("ShiftAddsModel", "value", "I", false)
  | 7 => ("ShiftAddsModel", "fault", "I", false)
  | 8 => ("ShiftAddsModel", "draft", "[I", true)
  | 9 => ("ShiftAddsModel", "s", "[I", true)
  | 10 => ("ShiftAddsModel", "w", "[I", true)
  | 11 => ("ShiftAddsModel", "kept", "[I", true)
  | 12 => ("ShiftAddsModel", "isKept", "[Z", true)
  | 13 => ("ShiftAddsModel", "undos", "[I", true)
  | 14 => ("ShiftAddsModel", "undoMany", "I", false)
  | 15 => ("ShiftAddsModel", "seenBy", "[I", true)
  | 16 => ("ShiftAddsModel", "seenLeft", "[I", true)
  | 17 => ("ShiftAddsModel", "seenMany", "I", false)
  | 18 => ("ShiftAddsModel", "odds", "[I", true)
  | 19 => ("ShiftAddsModel", "depths", "[I", true)
  | 20 => ("ShiftAddsModel", "oddMany", "I", false)
  | 21 => ("ShiftAddsModel", "firstBy", "[I", true)
  | 22 => ("ShiftAddsModel", "planned", "[I", true)
  | 23 => ("ShiftAddsModel", "plannedMany", "I", false)
  | 24 => ("ShiftAddsModel", "first", "[I", true)
  | _ => ("ShiftAddsModel", "second", "[I", true)
def tyX10 : Nat → FieldType := fun k => match k with
  | 0 => .int
  | 1 => .array .int
  | 2 => .int
  | 3 => .int
  | 4 => .int
  | 5 => .int
  | 6 => .int
  | 7 => .int
  | 8 => .array .int
  | 9 => .array .int
  | 10 => .array .int
  | 11 => .array .int
  | 12 => .array .boolean
  | 13 => .array .int
  | 14 => .int
  | 15 => .array .int
  | 16 => .array .int
  | 17 => .int
  | 18 => .array .int
  | 19 => .array .int
  | 20 => .int
  | 21 => .array .int
  | 22 => .array .int
  | 23 => .int
  | 24 => .array .int
  | _ => .array .int
abbrev wsX100 : List Cond := u_ws RX10 TX10 26
theorem nmX10 : ∀ a, a < 26 → ∀ b, b < 26 → a ≠ b → (TX10 a).2.1 ≠ (TX10 b).2.1 := by decide +kernel
theorem tyX10_ok : ∀ k, k < 26 → parseFieldDescriptor (TX10 k).2.2.1 = some (tyX10 k) := by decide +kernel
abbrev cX10_init : ByteArray := prog_12_method_1_code
def yX10_init : MethodName := ⟨RX10, "<init>", "()V"⟩
abbrev cX10_in : ByteArray := prog_12_method_3_code
def yX10_in : MethodName := ⟨RX10, "in", "(III)Z"⟩
abbrev cX10_type : ByteArray := prog_12_method_4_code
def yX10_type : MethodName := ⟨RX10, "type", "(I)I"⟩
abbrev cX10_clear : ByteArray := prog_12_method_5_code
def yX10_clear : MethodName := ⟨RX10, "clear", "()I"⟩
abbrev cX10_letterAt : ByteArray := prog_12_method_6_code
def yX10_letterAt : MethodName := ⟨RX10, "letterAt", "(I)I"⟩
abbrev cX10_advances : ByteArray := prog_12_method_7_code
def yX10_advances : MethodName := ⟨RX10, "advances", "()V"⟩
abbrev cX10_isWell : ByteArray := prog_12_method_8_code
def yX10_isWell : MethodName := ⟨RX10, "isWell", "()Z"⟩
abbrev cX10_takes : ByteArray := prog_12_method_9_code
def yX10_takes : MethodName := ⟨RX10, "takes", "(Z)I"⟩
abbrev cX10_isNumber : ByteArray := prog_12_method_10_code
def yX10_isNumber : MethodName := ⟨RX10, "isNumber", "(II)Z"⟩
abbrev cX10_begins : ByteArray := prog_12_method_11_code
def yX10_begins : MethodName := ⟨RX10, "begins", "()V"⟩
abbrev cX10_mayBegin : ByteArray := prog_12_method_12_code
def yX10_mayBegin : MethodName := ⟨RX10, "mayBegin", "(I)Z"⟩
abbrev cX10_wantedAt : ByteArray := prog_12_method_13_code
def yX10_wantedAt : MethodName := ⟨RX10, "wantedAt", "([II)I"⟩
abbrev cX10_readsAdder : ByteArray := prog_12_method_14_code
def yX10_readsAdder : MethodName := ⟨RX10, "readsAdder", "()V"⟩
abbrev cX10_readsItem : ByteArray := prog_12_method_15_code
def yX10_readsItem : MethodName := ⟨RX10, "readsItem", "(I)V"⟩
abbrev cX10_graph : ByteArray := prog_12_method_16_code
def yX10_graph : MethodName := ⟨RX10, "graph", "()I"⟩
abbrev cX10_settles : ByteArray := prog_12_method_17_code
def yX10_settles : MethodName := ⟨RX10, "settles", "()V"⟩
abbrev cX10_copies : ByteArray := prog_12_method_18_code
def yX10_copies : MethodName := ⟨RX10, "copies", "([I[I)V"⟩
abbrev cX10_comes : ByteArray := prog_12_method_19_code
def yX10_comes : MethodName := ⟨RX10, "comes", "(IIII)I"⟩
abbrev cX10_oddPart : ByteArray := prog_12_method_20_code
def yX10_oddPart : MethodName := ⟨RX10, "oddPart", "(I)I"⟩
abbrev cX10_deeper : ByteArray := prog_12_method_21_code
def yX10_deeper : MethodName := ⟨RX10, "deeper", "(II)I"⟩
abbrev cX10_reckons : ByteArray := prog_12_method_22_code
def yX10_reckons : MethodName := ⟨RX10, "reckons", "([I)V"⟩
abbrev cX10_mayBe : ByteArray := prog_12_method_23_code
def yX10_mayBe : MethodName := ⟨RX10, "mayBe", "(IIIII)Z"⟩
abbrev cX10_makes : ByteArray := prog_12_method_24_code
def yX10_makes : MethodName := ⟨RX10, "makes", "([IIIII)V"⟩
abbrev cX10_isOdds : ByteArray := prog_12_method_25_code
def yX10_isOdds : MethodName := ⟨RX10, "isOdds", "(I)Z"⟩
abbrev cX10_nears : ByteArray := prog_12_method_26_code
def yX10_nears : MethodName := ⟨RX10, "nears", "(I)V"⟩
abbrev cX10_nearsOf : ByteArray := prog_12_method_27_code
def yX10_nearsOf : MethodName := ⟨RX10, "nearsOf", "([I)V"⟩
abbrev cX10_odd : ByteArray := prog_12_method_28_code
def yX10_odd : MethodName := ⟨RX10, "odd", "(II)I"⟩
abbrev cX10_wanted : ByteArray := prog_12_method_29_code
def yX10_wanted : MethodName := ⟨RX10, "wanted", "(II)I"⟩
abbrev cX10_notes : ByteArray := prog_12_method_30_code
def yX10_notes : MethodName := ⟨RX10, "notes", "()V"⟩
abbrev cX10_adds : ByteArray := prog_12_method_31_code
def yX10_adds : MethodName := ⟨RX10, "adds", "(IIII)I"⟩
abbrev cX10_takes_ : ByteArray := prog_12_method_32_code
def yX10_takes_ : MethodName := ⟨RX10, "takes", "()I"⟩
abbrev cX10_wishes : ByteArray := prog_12_method_33_code
def yX10_wishes : MethodName := ⟨RX10, "wishes", "(I)I"⟩
abbrev cX10_deepest : ByteArray := prog_12_method_34_code
def yX10_deepest : MethodName := ⟨RX10, "deepest", "()I"⟩
abbrev cX10_limits : ByteArray := prog_12_method_35_code
def yX10_limits : MethodName := ⟨RX10, "limits", "(I)I"⟩
abbrev cX10_undo : ByteArray := prog_12_method_36_code
def yX10_undo : MethodName := ⟨RX10, "undo", "()I"⟩
abbrev cX10_isConstant : ByteArray := prog_12_method_37_code
def yX10_isConstant : MethodName := ⟨RX10, "isConstant", "(I)Z"⟩
abbrev cX10_digitOf : ByteArray := prog_12_method_38_code
def yX10_digitOf : MethodName := ⟨RX10, "digitOf", "(II)I"⟩
abbrev cX10_digits : ByteArray := prog_12_method_39_code
def yX10_digits : MethodName := ⟨RX10, "digits", "(I)I"⟩
abbrev cX10_digit : ByteArray := prog_12_method_40_code
def yX10_digit : MethodName := ⟨RX10, "digit", "(II)I"⟩
abbrev cX10_near : ByteArray := prog_12_method_41_code
def yX10_near : MethodName := ⟨RX10, "near", "(II)I"⟩
abbrev cX10_isOddNumber : ByteArray := prog_12_method_42_code
def yX10_isOddNumber : MethodName := ⟨RX10, "isOddNumber", "(I)Z"⟩
abbrev cX10_partOf : ByteArray := prog_12_method_43_code
def yX10_partOf : MethodName := ⟨RX10, "partOf", "(II)I"⟩
abbrev cX10_by : ByteArray := prog_12_method_44_code
def yX10_by : MethodName := ⟨RX10, "by", "(II)I"⟩
abbrev cX10_isByLast : ByteArray := prog_12_method_45_code
def yX10_isByLast : MethodName := ⟨RX10, "isByLast", "(II)Z"⟩
abbrev cX10_twoOf : ByteArray := prog_12_method_46_code
def yX10_twoOf : MethodName := ⟨RX10, "twoOf", "(II)I"⟩
abbrev cX10_two : ByteArray := prog_12_method_47_code
def yX10_two : MethodName := ⟨RX10, "two", "(I)I"⟩
abbrev cX10_marks : ByteArray := prog_12_method_48_code
def yX10_marks : MethodName := ⟨RX10, "marks", "([IIII)V"⟩
abbrev cX10_isMade : ByteArray := prog_12_method_49_code
def yX10_isMade : MethodName := ⟨RX10, "isMade", "(III)Z"⟩
abbrev cX10_marksAll : ByteArray := prog_12_method_50_code
def yX10_marksAll : MethodName := ⟨RX10, "marksAll", "([IIII)V"⟩
abbrev cX10_least : ByteArray := prog_12_method_51_code
def yX10_least : MethodName := ⟨RX10, "least", "(I)I"⟩
abbrev cX10_unmet : ByteArray := prog_12_method_52_code
def yX10_unmet : MethodName := ⟨RX10, "unmet", "([I)I"⟩
abbrev cX10_nextOf : ByteArray := prog_12_method_53_code
def yX10_nextOf : MethodName := ⟨RX10, "nextOf", "([I)I"⟩
abbrev cX10_plans : ByteArray := prog_12_method_54_code
def yX10_plans : MethodName := ⟨RX10, "plans", "()V"⟩
abbrev cX10_plan : ByteArray := prog_12_method_55_code
def yX10_plan : MethodName := ⟨RX10, "plan", "(I)I"⟩
abbrev cX10_product : ByteArray := prog_12_method_56_code
def yX10_product : MethodName := ⟨RX10, "product", "(II)J"⟩
abbrev cX10_sees : ByteArray := prog_12_method_57_code
def yX10_sees : MethodName := ⟨RX10, "sees", "(II)I"⟩
abbrev cX10_forget : ByteArray := prog_12_method_58_code
def yX10_forget : MethodName := ⟨RX10, "forget", "()I"⟩
abbrev cX10_canBe : ByteArray := prog_12_method_59_code
def yX10_canBe : MethodName := ⟨RX10, "canBe", "(I)Z"⟩
abbrev cX10_unseen : ByteArray := prog_12_method_60_code
def yX10_unseen : MethodName := ⟨RX10, "unseen", "(I)I"⟩
abbrev cX10_leaving : ByteArray := prog_12_method_61_code
def yX10_leaving : MethodName := ⟨RX10, "leaving", "(II)I"⟩
abbrev cX10_next : ByteArray := prog_12_method_62_code
def yX10_next : MethodName := ⟨RX10, "next", "()I"⟩
abbrev cX10_keep : ByteArray := prog_12_method_63_code
def yX10_keep : MethodName := ⟨RX10, "keep", "(I)I"⟩
abbrev cX10_back : ByteArray := prog_12_method_64_code
def yX10_back : MethodName := ⟨RX10, "back", "(I)I"⟩
abbrev cX10_count : ByteArray := prog_12_method_65_code
def yX10_count : MethodName := ⟨RX10, "count", "(I)I"⟩
def RL : String := "ShiftAddsLaw"
abbrev cL_law : ByteArray := code
def yL_law : MethodName := ⟨RL, "law", "([I)Z"⟩

abbrev vwCl : List vw_C := [(RX0, TX0, 3), (RX1, TX1, 5), (RX2, TX2, 3), (RX3, TX3, 2), (RX4, TX4, 2), (RX5, TX5, 3), (RX6, TX6, 4), (RX7, TX7, 6), (RX9, TX9, 11), (RX10, TX10, 26)]
