section
-- ===== PART A: goes FIRST, ahead of the names: the tables' words, and 'selects' of the private methods out of them =====
/-- a private method of a class that the tables say can be made, by its rows of tables_1 -/
def lw_okq (q : MethodName × Nat) : Prop := (q.1.cls ≠ "java/lang/invoke/MethodHandle" ∧ q.1.cls ≠ "java/lang/invoke/VarHandle") ∧ Cond.instantiable q.1.cls q.2 ∈ tables_1 ∧ Cond.privateMethod q.1 ∈ tables_1 ∧ Cond.instanceMethod q.1 ∈ tables_1
theorem lw_p0 : lw_okq (⟨"ShiftAdds$Text", "step", "()V"⟩, 6) := ⟨⟨by decide +kernel, by decide +kernel⟩, List.mem_of_getElem? (i := 63) (by decide +kernel), List.mem_of_getElem? (i := 263) (by decide +kernel), List.mem_of_getElem? (i := 264) (by decide +kernel)⟩
theorem lw_p1 : lw_okq (⟨"ShiftAdds$Text", "readItem", "(LShiftAdds$Graph;I)Z"⟩, 6) := ⟨⟨by decide +kernel, by decide +kernel⟩, List.mem_of_getElem? (i := 63) (by decide +kernel), List.mem_of_getElem? (i := 273) (by decide +kernel), List.mem_of_getElem? (i := 274) (by decide +kernel)⟩
theorem lw_p2 : lw_okq (⟨"ShiftAdds$Text", "readLimit", "(LShiftAdds$Graph;)Z"⟩, 6) := ⟨⟨by decide +kernel, by decide +kernel⟩, List.mem_of_getElem? (i := 63) (by decide +kernel), List.mem_of_getElem? (i := 277) (by decide +kernel), List.mem_of_getElem? (i := 278) (by decide +kernel)⟩
theorem lw_p3 : lw_okq (⟨"ShiftAdds$Text", "stepToNumber", "(II)Z"⟩, 6) := ⟨⟨by decide +kernel, by decide +kernel⟩, List.mem_of_getElem? (i := 63) (by decide +kernel), List.mem_of_getElem? (i := 281) (by decide +kernel), List.mem_of_getElem? (i := 282) (by decide +kernel)⟩
theorem lw_p4 : lw_okq (⟨"ShiftAdds$Text", "stepToSemicolon", "()Z"⟩, 6) := ⟨⟨by decide +kernel, by decide +kernel⟩, List.mem_of_getElem? (i := 63) (by decide +kernel), List.mem_of_getElem? (i := 285) (by decide +kernel), List.mem_of_getElem? (i := 286) (by decide +kernel)⟩
theorem lw_p5 : lw_okq (⟨"ShiftAdds$Text", "readWish", "(LShiftAdds$Graph;)Z"⟩, 6) := ⟨⟨by decide +kernel, by decide +kernel⟩, List.mem_of_getElem? (i := 63) (by decide +kernel), List.mem_of_getElem? (i := 289) (by decide +kernel), List.mem_of_getElem? (i := 290) (by decide +kernel)⟩
theorem lw_p6 : lw_okq (⟨"ShiftAdds$Text", "readAdder", "(LShiftAdds$Graph;)Z"⟩, 6) := ⟨⟨by decide +kernel, by decide +kernel⟩, List.mem_of_getElem? (i := 63) (by decide +kernel), List.mem_of_getElem? (i := 301) (by decide +kernel), List.mem_of_getElem? (i := 302) (by decide +kernel)⟩
theorem lw_p7 : lw_okq (⟨"ShiftAdds", "changed", "()V"⟩, 11) := ⟨⟨by decide +kernel, by decide +kernel⟩, List.mem_of_getElem? (i := 15) (by decide +kernel), List.mem_of_getElem? (i := 360) (by decide +kernel), List.mem_of_getElem? (i := 361) (by decide +kernel)⟩
theorem lw_p8 : lw_okq (⟨"ShiftAdds", "freshNear", "()LShiftAdds$Near;"⟩, 11) := ⟨⟨by decide +kernel, by decide +kernel⟩, List.mem_of_getElem? (i := 15) (by decide +kernel), List.mem_of_getElem? (i := 442) (by decide +kernel), List.mem_of_getElem? (i := 443) (by decide +kernel)⟩
theorem lw_p9 : lw_okq (⟨"ShiftAdds$Near", "offerAll", "(LShiftAdds$Graph;II)V"⟩, 2) := ⟨⟨by decide +kernel, by decide +kernel⟩, List.mem_of_getElem? (i := 147) (by decide +kernel), List.mem_of_getElem? (i := 458) (by decide +kernel), List.mem_of_getElem? (i := 459) (by decide +kernel)⟩
theorem lw_p10 : lw_okq (⟨"ShiftAdds$Near", "offer", "(III)V"⟩, 2) := ⟨⟨by decide +kernel, by decide +kernel⟩, List.mem_of_getElem? (i := 147) (by decide +kernel), List.mem_of_getElem? (i := 468) (by decide +kernel), List.mem_of_getElem? (i := 469) (by decide +kernel)⟩
theorem lw_p11 : lw_okq (⟨"ShiftAdds$Near", "bridgeAlone", "(II)I"⟩, 2) := ⟨⟨by decide +kernel, by decide +kernel⟩, List.mem_of_getElem? (i := 147) (by decide +kernel), List.mem_of_getElem? (i := 514) (by decide +kernel), List.mem_of_getElem? (i := 515) (by decide +kernel)⟩
theorem lw_p12 : lw_okq (⟨"ShiftAdds$Near", "usable", "(II)I"⟩, 2) := ⟨⟨by decide +kernel, by decide +kernel⟩, List.mem_of_getElem? (i := 147) (by decide +kernel), List.mem_of_getElem? (i := 518) (by decide +kernel), List.mem_of_getElem? (i := 519) (by decide +kernel)⟩
theorem lw_p13 : lw_okq (⟨"ShiftAdds$Near", "bridgeWith", "(III)I"⟩, 2) := ⟨⟨by decide +kernel, by decide +kernel⟩, List.mem_of_getElem? (i := 147) (by decide +kernel), List.mem_of_getElem? (i := 524) (by decide +kernel), List.mem_of_getElem? (i := 525) (by decide +kernel)⟩
theorem lw_p14 : lw_okq (⟨"ShiftAdds$Fewest", "isMadeByThree", "(I)Z"⟩, 3) := ⟨⟨by decide +kernel, by decide +kernel⟩, List.mem_of_getElem? (i := 181) (by decide +kernel), List.mem_of_getElem? (i := 542) (by decide +kernel), List.mem_of_getElem? (i := 543) (by decide +kernel)⟩
theorem lw_p15 : lw_okq (⟨"ShiftAdds$Plan", "choice", "()I"⟩, 3) := ⟨⟨by decide +kernel, by decide +kernel⟩, List.mem_of_getElem? (i := 160) (by decide +kernel), List.mem_of_getElem? (i := 577) (by decide +kernel), List.mem_of_getElem? (i := 578) (by decide +kernel)⟩
def lw_privs_1 : List (MethodName × Nat) := [(⟨"ShiftAdds$Text", "step", "()V"⟩, 6), (⟨"ShiftAdds$Text", "readItem", "(LShiftAdds$Graph;I)Z"⟩, 6), (⟨"ShiftAdds$Text", "readLimit", "(LShiftAdds$Graph;)Z"⟩, 6), (⟨"ShiftAdds$Text", "stepToNumber", "(II)Z"⟩, 6), (⟨"ShiftAdds$Text", "stepToSemicolon", "()Z"⟩, 6), (⟨"ShiftAdds$Text", "readWish", "(LShiftAdds$Graph;)Z"⟩, 6), (⟨"ShiftAdds$Text", "readAdder", "(LShiftAdds$Graph;)Z"⟩, 6), (⟨"ShiftAdds", "changed", "()V"⟩, 11), (⟨"ShiftAdds", "freshNear", "()LShiftAdds$Near;"⟩, 11), (⟨"ShiftAdds$Near", "offerAll", "(LShiftAdds$Graph;II)V"⟩, 2), (⟨"ShiftAdds$Near", "offer", "(III)V"⟩, 2), (⟨"ShiftAdds$Near", "bridgeAlone", "(II)I"⟩, 2), (⟨"ShiftAdds$Near", "usable", "(II)I"⟩, 2), (⟨"ShiftAdds$Near", "bridgeWith", "(III)I"⟩, 2), (⟨"ShiftAdds$Fewest", "isMadeByThree", "(I)Z"⟩, 3), (⟨"ShiftAdds$Plan", "choice", "()I"⟩, 3)]
theorem lw_r1 : ∀ q ∈ lw_privs_1, lw_okq q := List.forall_mem_cons.mpr ⟨lw_p0, List.forall_mem_cons.mpr ⟨lw_p1, List.forall_mem_cons.mpr ⟨lw_p2, List.forall_mem_cons.mpr ⟨lw_p3, List.forall_mem_cons.mpr ⟨lw_p4, List.forall_mem_cons.mpr ⟨lw_p5, List.forall_mem_cons.mpr ⟨lw_p6, List.forall_mem_cons.mpr ⟨lw_p7, List.forall_mem_cons.mpr ⟨lw_p8, List.forall_mem_cons.mpr ⟨lw_p9, List.forall_mem_cons.mpr ⟨lw_p10, List.forall_mem_cons.mpr ⟨lw_p11, List.forall_mem_cons.mpr ⟨lw_p12, List.forall_mem_cons.mpr ⟨lw_p13, List.forall_mem_cons.mpr ⟨lw_p14, List.forall_mem_cons.mpr ⟨lw_p15, fun _ h => absurd h List.not_mem_nil⟩⟩⟩⟩⟩⟩⟩⟩⟩⟩⟩⟩⟩⟩⟩⟩
theorem lw_p16 : lw_okq (⟨"ShiftAdds$Seen", "allows", "(LShiftAdds$Near;I)Z"⟩, 4) := ⟨⟨by decide +kernel, by decide +kernel⟩, List.mem_of_getElem? (i := 127) (by decide +kernel), List.mem_of_getElem? (i := 625) (by decide +kernel), List.mem_of_getElem? (i := 626) (by decide +kernel)⟩
theorem lw_p17 : lw_okq (⟨"ShiftAdds$Seen", "greatestLeft", "(LShiftAdds$Near;I)I"⟩, 4) := ⟨⟨by decide +kernel, by decide +kernel⟩, List.mem_of_getElem? (i := 127) (by decide +kernel), List.mem_of_getElem? (i := 643) (by decide +kernel), List.mem_of_getElem? (i := 644) (by decide +kernel)⟩
theorem lw_p18 : lw_okq (⟨"ShiftAddsModel", "begins", "()V"⟩, 26) := ⟨⟨by decide +kernel, by decide +kernel⟩, List.mem_of_getElem? (i := 665) (by decide +kernel), List.mem_of_getElem? (i := 671) (by decide +kernel), List.mem_of_getElem? (i := 672) (by decide +kernel)⟩
theorem lw_p19 : lw_okq (⟨"ShiftAddsModel", "settles", "()V"⟩, 26) := ⟨⟨by decide +kernel, by decide +kernel⟩, List.mem_of_getElem? (i := 665) (by decide +kernel), List.mem_of_getElem? (i := 675) (by decide +kernel), List.mem_of_getElem? (i := 676) (by decide +kernel)⟩
theorem lw_p20 : lw_okq (⟨"ShiftAddsModel", "advances", "()V"⟩, 26) := ⟨⟨by decide +kernel, by decide +kernel⟩, List.mem_of_getElem? (i := 665) (by decide +kernel), List.mem_of_getElem? (i := 776) (by decide +kernel), List.mem_of_getElem? (i := 777) (by decide +kernel)⟩
theorem lw_p21 : lw_okq (⟨"ShiftAddsModel", "letterAt", "(I)I"⟩, 26) := ⟨⟨by decide +kernel, by decide +kernel⟩, List.mem_of_getElem? (i := 665) (by decide +kernel), List.mem_of_getElem? (i := 780) (by decide +kernel), List.mem_of_getElem? (i := 781) (by decide +kernel)⟩
theorem lw_p22 : lw_okq (⟨"ShiftAddsModel", "isWell", "()Z"⟩, 26) := ⟨⟨by decide +kernel, by decide +kernel⟩, List.mem_of_getElem? (i := 665) (by decide +kernel), List.mem_of_getElem? (i := 784) (by decide +kernel), List.mem_of_getElem? (i := 785) (by decide +kernel)⟩
theorem lw_p23 : lw_okq (⟨"ShiftAddsModel", "mayBegin", "(I)Z"⟩, 26) := ⟨⟨by decide +kernel, by decide +kernel⟩, List.mem_of_getElem? (i := 665) (by decide +kernel), List.mem_of_getElem? (i := 788) (by decide +kernel), List.mem_of_getElem? (i := 789) (by decide +kernel)⟩
theorem lw_p24 : lw_okq (⟨"ShiftAddsModel", "takes", "(Z)I"⟩, 26) := ⟨⟨by decide +kernel, by decide +kernel⟩, List.mem_of_getElem? (i := 665) (by decide +kernel), List.mem_of_getElem? (i := 792) (by decide +kernel), List.mem_of_getElem? (i := 793) (by decide +kernel)⟩
theorem lw_p25 : lw_okq (⟨"ShiftAddsModel", "readsItem", "(I)V"⟩, 26) := ⟨⟨by decide +kernel, by decide +kernel⟩, List.mem_of_getElem? (i := 665) (by decide +kernel), List.mem_of_getElem? (i := 796) (by decide +kernel), List.mem_of_getElem? (i := 797) (by decide +kernel)⟩
theorem lw_p26 : lw_okq (⟨"ShiftAddsModel", "isNumber", "(II)Z"⟩, 26) := ⟨⟨by decide +kernel, by decide +kernel⟩, List.mem_of_getElem? (i := 665) (by decide +kernel), List.mem_of_getElem? (i := 800) (by decide +kernel), List.mem_of_getElem? (i := 801) (by decide +kernel)⟩
theorem lw_p27 : lw_okq (⟨"ShiftAddsModel", "readsAdder", "()V"⟩, 26) := ⟨⟨by decide +kernel, by decide +kernel⟩, List.mem_of_getElem? (i := 665) (by decide +kernel), List.mem_of_getElem? (i := 807) (by decide +kernel), List.mem_of_getElem? (i := 808) (by decide +kernel)⟩
theorem lw_p28 : lw_okq (⟨"ShiftAddsModel", "reckons", "([I)V"⟩, 26) := ⟨⟨by decide +kernel, by decide +kernel⟩, List.mem_of_getElem? (i := 665) (by decide +kernel), List.mem_of_getElem? (i := 811) (by decide +kernel), List.mem_of_getElem? (i := 812) (by decide +kernel)⟩
theorem lw_p29 : lw_okq (⟨"ShiftAddsModel", "deeper", "(II)I"⟩, 26) := ⟨⟨by decide +kernel, by decide +kernel⟩, List.mem_of_getElem? (i := 665) (by decide +kernel), List.mem_of_getElem? (i := 821) (by decide +kernel), List.mem_of_getElem? (i := 822) (by decide +kernel)⟩
theorem lw_p30 : lw_okq (⟨"ShiftAddsModel", "mayBe", "(IIIII)Z"⟩, 26) := ⟨⟨by decide +kernel, by decide +kernel⟩, List.mem_of_getElem? (i := 665) (by decide +kernel), List.mem_of_getElem? (i := 825) (by decide +kernel), List.mem_of_getElem? (i := 826) (by decide +kernel)⟩
theorem lw_p31 : lw_okq (⟨"ShiftAddsModel", "isOdds", "(I)Z"⟩, 26) := ⟨⟨by decide +kernel, by decide +kernel⟩, List.mem_of_getElem? (i := 665) (by decide +kernel), List.mem_of_getElem? (i := 840) (by decide +kernel), List.mem_of_getElem? (i := 841) (by decide +kernel)⟩
def lw_privs_2 : List (MethodName × Nat) := [(⟨"ShiftAdds$Seen", "allows", "(LShiftAdds$Near;I)Z"⟩, 4), (⟨"ShiftAdds$Seen", "greatestLeft", "(LShiftAdds$Near;I)I"⟩, 4), (⟨"ShiftAddsModel", "begins", "()V"⟩, 26), (⟨"ShiftAddsModel", "settles", "()V"⟩, 26), (⟨"ShiftAddsModel", "advances", "()V"⟩, 26), (⟨"ShiftAddsModel", "letterAt", "(I)I"⟩, 26), (⟨"ShiftAddsModel", "isWell", "()Z"⟩, 26), (⟨"ShiftAddsModel", "mayBegin", "(I)Z"⟩, 26), (⟨"ShiftAddsModel", "takes", "(Z)I"⟩, 26), (⟨"ShiftAddsModel", "readsItem", "(I)V"⟩, 26), (⟨"ShiftAddsModel", "isNumber", "(II)Z"⟩, 26), (⟨"ShiftAddsModel", "readsAdder", "()V"⟩, 26), (⟨"ShiftAddsModel", "reckons", "([I)V"⟩, 26), (⟨"ShiftAddsModel", "deeper", "(II)I"⟩, 26), (⟨"ShiftAddsModel", "mayBe", "(IIIII)Z"⟩, 26), (⟨"ShiftAddsModel", "isOdds", "(I)Z"⟩, 26)]
theorem lw_r2 : ∀ q ∈ lw_privs_2, lw_okq q := List.forall_mem_cons.mpr ⟨lw_p16, List.forall_mem_cons.mpr ⟨lw_p17, List.forall_mem_cons.mpr ⟨lw_p18, List.forall_mem_cons.mpr ⟨lw_p19, List.forall_mem_cons.mpr ⟨lw_p20, List.forall_mem_cons.mpr ⟨lw_p21, List.forall_mem_cons.mpr ⟨lw_p22, List.forall_mem_cons.mpr ⟨lw_p23, List.forall_mem_cons.mpr ⟨lw_p24, List.forall_mem_cons.mpr ⟨lw_p25, List.forall_mem_cons.mpr ⟨lw_p26, List.forall_mem_cons.mpr ⟨lw_p27, List.forall_mem_cons.mpr ⟨lw_p28, List.forall_mem_cons.mpr ⟨lw_p29, List.forall_mem_cons.mpr ⟨lw_p30, List.forall_mem_cons.mpr ⟨lw_p31, fun _ h => absurd h List.not_mem_nil⟩⟩⟩⟩⟩⟩⟩⟩⟩⟩⟩⟩⟩⟩⟩⟩
theorem lw_p32 : lw_okq (⟨"ShiftAddsModel", "notes", "()V"⟩, 26) := ⟨⟨by decide +kernel, by decide +kernel⟩, List.mem_of_getElem? (i := 665) (by decide +kernel), List.mem_of_getElem? (i := 848) (by decide +kernel), List.mem_of_getElem? (i := 849) (by decide +kernel)⟩
theorem lw_p33 : lw_okq (⟨"ShiftAddsModel", "deepest", "()I"⟩, 26) := ⟨⟨by decide +kernel, by decide +kernel⟩, List.mem_of_getElem? (i := 665) (by decide +kernel), List.mem_of_getElem? (i := 864) (by decide +kernel), List.mem_of_getElem? (i := 865) (by decide +kernel)⟩
theorem lw_p34 : lw_okq (⟨"ShiftAddsModel", "nearsOf", "([I)V"⟩, 26) := ⟨⟨by decide +kernel, by decide +kernel⟩, List.mem_of_getElem? (i := 665) (by decide +kernel), List.mem_of_getElem? (i := 890) (by decide +kernel), List.mem_of_getElem? (i := 891) (by decide +kernel)⟩
theorem lw_p35 : lw_okq (⟨"ShiftAddsModel", "nears", "(I)V"⟩, 26) := ⟨⟨by decide +kernel, by decide +kernel⟩, List.mem_of_getElem? (i := 665) (by decide +kernel), List.mem_of_getElem? (i := 894) (by decide +kernel), List.mem_of_getElem? (i := 895) (by decide +kernel)⟩
theorem lw_p36 : lw_okq (⟨"ShiftAddsModel", "twoOf", "(II)I"⟩, 26) := ⟨⟨by decide +kernel, by decide +kernel⟩, List.mem_of_getElem? (i := 665) (by decide +kernel), List.mem_of_getElem? (i := 912) (by decide +kernel), List.mem_of_getElem? (i := 913) (by decide +kernel)⟩
theorem lw_p37 : lw_okq (⟨"ShiftAddsModel", "isByLast", "(II)Z"⟩, 26) := ⟨⟨by decide +kernel, by decide +kernel⟩, List.mem_of_getElem? (i := 665) (by decide +kernel), List.mem_of_getElem? (i := 916) (by decide +kernel), List.mem_of_getElem? (i := 917) (by decide +kernel)⟩
theorem lw_p38 : lw_okq (⟨"ShiftAddsModel", "plans", "()V"⟩, 26) := ⟨⟨by decide +kernel, by decide +kernel⟩, List.mem_of_getElem? (i := 665) (by decide +kernel), List.mem_of_getElem? (i := 937) (by decide +kernel), List.mem_of_getElem? (i := 938) (by decide +kernel)⟩
theorem lw_p39 : lw_okq (⟨"ShiftAddsModel", "unmet", "([I)I"⟩, 26) := ⟨⟨by decide +kernel, by decide +kernel⟩, List.mem_of_getElem? (i := 665) (by decide +kernel), List.mem_of_getElem? (i := 941) (by decide +kernel), List.mem_of_getElem? (i := 942) (by decide +kernel)⟩
theorem lw_p40 : lw_okq (⟨"ShiftAddsModel", "nextOf", "([I)I"⟩, 26) := ⟨⟨by decide +kernel, by decide +kernel⟩, List.mem_of_getElem? (i := 665) (by decide +kernel), List.mem_of_getElem? (i := 945) (by decide +kernel), List.mem_of_getElem? (i := 946) (by decide +kernel)⟩
theorem lw_p41 : lw_okq (⟨"ShiftAddsModel", "canBe", "(I)Z"⟩, 26) := ⟨⟨by decide +kernel, by decide +kernel⟩, List.mem_of_getElem? (i := 665) (by decide +kernel), List.mem_of_getElem? (i := 967) (by decide +kernel), List.mem_of_getElem? (i := 968) (by decide +kernel)⟩
theorem lw_p42 : lw_okq (⟨"ShiftAddsModel", "leaving", "(II)I"⟩, 26) := ⟨⟨by decide +kernel, by decide +kernel⟩, List.mem_of_getElem? (i := 665) (by decide +kernel), List.mem_of_getElem? (i := 975) (by decide +kernel), List.mem_of_getElem? (i := 976) (by decide +kernel)⟩
def lw_privs_3 : List (MethodName × Nat) := [(⟨"ShiftAddsModel", "notes", "()V"⟩, 26), (⟨"ShiftAddsModel", "deepest", "()I"⟩, 26), (⟨"ShiftAddsModel", "nearsOf", "([I)V"⟩, 26), (⟨"ShiftAddsModel", "nears", "(I)V"⟩, 26), (⟨"ShiftAddsModel", "twoOf", "(II)I"⟩, 26), (⟨"ShiftAddsModel", "isByLast", "(II)Z"⟩, 26), (⟨"ShiftAddsModel", "plans", "()V"⟩, 26), (⟨"ShiftAddsModel", "unmet", "([I)I"⟩, 26), (⟨"ShiftAddsModel", "nextOf", "([I)I"⟩, 26), (⟨"ShiftAddsModel", "canBe", "(I)Z"⟩, 26), (⟨"ShiftAddsModel", "leaving", "(II)I"⟩, 26)]
theorem lw_r3 : ∀ q ∈ lw_privs_3, lw_okq q := List.forall_mem_cons.mpr ⟨lw_p32, List.forall_mem_cons.mpr ⟨lw_p33, List.forall_mem_cons.mpr ⟨lw_p34, List.forall_mem_cons.mpr ⟨lw_p35, List.forall_mem_cons.mpr ⟨lw_p36, List.forall_mem_cons.mpr ⟨lw_p37, List.forall_mem_cons.mpr ⟨lw_p38, List.forall_mem_cons.mpr ⟨lw_p39, List.forall_mem_cons.mpr ⟨lw_p40, List.forall_mem_cons.mpr ⟨lw_p41, List.forall_mem_cons.mpr ⟨lw_p42, fun _ h => absurd h List.not_mem_nil⟩⟩⟩⟩⟩⟩⟩⟩⟩⟩⟩
def lw_privs : List (MethodName × Nat) := lw_privs_1 ++ (lw_privs_2 ++ (lw_privs_3))
def lw_tbl : List Cond := k2_sels lw_privs ++ tables_1
theorem lw_privs_ok : ∀ q ∈ lw_privs, lw_okq q := by
  show ∀ q ∈ lw_privs_1 ++ (lw_privs_2 ++ (lw_privs_3)), lw_okq q
  exact List.forall_mem_append.mpr ⟨lw_r1, List.forall_mem_append.mpr ⟨lw_r2, lw_r3⟩⟩

/-! ===== BEGIN printed: names, fields, word lists, decode rows ===== -/
def RX0 : String := "ShiftAdds$Fewest"
def TX0 : u_T := fun k => match k with
  | 0 => ("ShiftAdds$Fewest", "graph", "LShiftAdds$Graph;", true)
  | 1 => ("ShiftAdds$Fewest", "ofOne", "LShiftAdds$Near;", true)
  | _ => ("ShiftAdds$Fewest", "ofTwo", "LShiftAdds$Near;", true)
def tyX0 : Nat → FieldType := fun k => match k with
  | 0 => .object "ShiftAdds$Graph"
  | 1 => .object "ShiftAdds$Near"
  | _ => .object "ShiftAdds$Near"
abbrev wsX00 : List Cond := u_ws RX0 TX0 3
theorem nmX0 : ∀ a, a < 3 → ∀ b, b < 3 → a ≠ b → (TX0 a).2.1 ≠ (TX0 b).2.1 := by decide +kernel
theorem tyX0_ok : ∀ k, k < 3 → parseFieldDescriptor (TX0 k).2.2.1 = some (tyX0 k) := by decide +kernel
abbrev cX0_init : ByteArray := prog_2_method_1_code
def yX0_init : MethodName := ⟨RX0, "<init>", "()V"⟩
abbrev cX0_adders : ByteArray := prog_2_method_2_code
def yX0_adders : MethodName := ⟨RX0, "adders", "(I)I"⟩
abbrev cX0_isMadeByThree : ByteArray := prog_2_method_3_code
def yX0_isMadeByThree : MethodName := ⟨RX0, "isMadeByThree", "(I)Z"⟩
def RX1 : String := "ShiftAdds$Graph"
def TX1 : u_T := fun k => match k with
  | 0 => ("ShiftAdds$Graph", "odds", "[[I", true)
  | 1 => ("ShiftAdds$Graph", "constants", "[I", true)
  | 2 => ("ShiftAdds$Graph", "adders", "I", false)
  | 3 => ("ShiftAdds$Graph", "wishes", "I", false)
  | _ => ("ShiftAdds$Graph", "limit", "I", false)
def tyX1 : Nat → FieldType := fun k => match k with
  | 0 => .array (.array .int)
  | 1 => .array .int
  | 2 => .int
  | 3 => .int
  | _ => .int
abbrev wsX10 : List Cond := u_ws RX1 TX1 5
theorem nmX1 : ∀ a, a < 5 → ∀ b, b < 5 → a ≠ b → (TX1 a).2.1 ≠ (TX1 b).2.1 := by decide +kernel
theorem tyX1_ok : ∀ k, k < 5 → parseFieldDescriptor (TX1 k).2.2.1 = some (tyX1 k) := by decide +kernel
abbrev cX1_init : ByteArray := prog_3_method_1_code
def yX1_init : MethodName := ⟨RX1, "<init>", "()V"⟩
abbrev cX1_empty : ByteArray := prog_3_method_2_code
def yX1_empty : MethodName := ⟨RX1, "empty", "()V"⟩
abbrev cX1_copy : ByteArray := prog_3_method_3_code
def yX1_copy : MethodName := ⟨RX1, "copy", "(LShiftAdds$Graph;)V"⟩
abbrev cX1_isThere : ByteArray := prog_3_method_4_code
def yX1_isThere : MethodName := ⟨RX1, "isThere", "(I)Z"⟩
abbrev cX1_value : ByteArray := prog_3_method_5_code
def yX1_value : MethodName := ⟨RX1, "value", "(I)I"⟩
abbrev cX1_depth : ByteArray := prog_3_method_6_code
def yX1_depth : MethodName := ⟨RX1, "depth", "(I)I"⟩
abbrev cX1_depthOver : ByteArray := prog_3_method_7_code
def yX1_depthOver : MethodName := ⟨RX1, "depthOver", "(II)I"⟩
abbrev cX1_mayBe : ByteArray := prog_3_method_8_code
def yX1_mayBe : MethodName := ⟨RX1, "mayBe", "(IIII)Z"⟩
abbrev cX1_append : ByteArray := prog_3_method_9_code
def yX1_append : MethodName := ⟨RX1, "append", "(IIII)V"⟩
abbrev cX1_append_ : ByteArray := prog_3_method_10_code
def yX1_append_ : MethodName := ⟨RX1, "append", "(I)V"⟩
abbrev cX1_hasValue : ByteArray := prog_3_method_11_code
def yX1_hasValue : MethodName := ⟨RX1, "hasValue", "(I)Z"⟩
abbrev cX1_greatestDepth : ByteArray := prog_3_method_12_code
def yX1_greatestDepth : MethodName := ⟨RX1, "greatestDepth", "()I"⟩
abbrev cX1_isMet : ByteArray := prog_3_method_13_code
def yX1_isMet : MethodName := ⟨RX1, "isMet", "(I)Z"⟩
abbrev cX1_notMet : ByteArray := prog_3_method_14_code
def yX1_notMet : MethodName := ⟨RX1, "notMet", "()I"⟩
abbrev cX1_placeOf : ByteArray := prog_3_method_15_code
def yX1_placeOf : MethodName := ⟨RX1, "placeOf", "(I)I"⟩
abbrev cX1_wish : ByteArray := prog_3_method_16_code
def yX1_wish : MethodName := ⟨RX1, "wish", "(I)V"⟩
abbrev cX1_dropWish : ByteArray := prog_3_method_17_code
def yX1_dropWish : MethodName := ⟨RX1, "dropWish", "(I)V"⟩
def RX2 : String := "ShiftAdds$History"
def TX2 : u_T := fun k => match k with
  | 0 => ("ShiftAdds$History", "before", "[LShiftAdds$Graph;", true)
  | 1 => ("ShiftAdds$History", "latest", "I", false)
  | _ => ("ShiftAdds$History", "known", "I", false)
def tyX2 : Nat → FieldType := fun k => match k with
  | 0 => .array (.object "ShiftAdds$Graph")
  | 1 => .int
  | _ => .int
abbrev wsX20 : List Cond := u_ws RX2 TX2 3
theorem nmX2 : ∀ a, a < 3 → ∀ b, b < 3 → a ≠ b → (TX2 a).2.1 ≠ (TX2 b).2.1 := by decide +kernel
theorem tyX2_ok : ∀ k, k < 3 → parseFieldDescriptor (TX2 k).2.2.1 = some (tyX2 k) := by decide +kernel
abbrev cX2_init : ByteArray := prog_4_method_1_code
def yX2_init : MethodName := ⟨RX2, "<init>", "()V"⟩
abbrev cX2_remember : ByteArray := prog_4_method_2_code
def yX2_remember : MethodName := ⟨RX2, "remember", "(LShiftAdds$Graph;)V"⟩
abbrev cX2_restore : ByteArray := prog_4_method_3_code
def yX2_restore : MethodName := ⟨RX2, "restore", "(LShiftAdds$Graph;)V"⟩
abbrev cX2_lose : ByteArray := prog_4_method_4_code
def yX2_lose : MethodName := ⟨RX2, "lose", "()V"⟩
def RX3 : String := "ShiftAdds$Images"
def TX3 : u_T := fun k => match k with
  | 0 => ("ShiftAdds$Images", "graphs", "[LShiftAdds$Graph;", true)
  | _ => ("ShiftAdds$Images", "kept", "[Z", true)
def tyX3 : Nat → FieldType := fun k => match k with
  | 0 => .array (.object "ShiftAdds$Graph")
  | _ => .array .boolean
abbrev wsX30 : List Cond := u_ws RX3 TX3 2
theorem nmX3 : ∀ a, a < 2 → ∀ b, b < 2 → a ≠ b → (TX3 a).2.1 ≠ (TX3 b).2.1 := by decide +kernel
theorem tyX3_ok : ∀ k, k < 2 → parseFieldDescriptor (TX3 k).2.2.1 = some (tyX3 k) := by decide +kernel
abbrev cX3_init : ByteArray := prog_5_method_1_code
def yX3_init : MethodName := ⟨RX3, "<init>", "()V"⟩
abbrev cX3_put : ByteArray := prog_5_method_2_code
def yX3_put : MethodName := ⟨RX3, "put", "(ILShiftAdds$Graph;)V"⟩
abbrev cX3_lose : ByteArray := prog_5_method_3_code
def yX3_lose : MethodName := ⟨RX3, "lose", "()V"⟩
def RX4 : String := "ShiftAdds$Near"
def TX4 : u_T := fun k => match k with
  | 0 => ("ShiftAdds$Near", "ways", "[I", true)
  | _ => ("ShiftAdds$Near", "depths", "[I", true)
def tyX4 : Nat → FieldType := fun k => match k with
  | 0 => .array .int
  | _ => .array .int
abbrev wsX40 : List Cond := u_ws RX4 TX4 2
theorem nmX4 : ∀ a, a < 2 → ∀ b, b < 2 → a ≠ b → (TX4 a).2.1 ≠ (TX4 b).2.1 := by decide +kernel
theorem tyX4_ok : ∀ k, k < 2 → parseFieldDescriptor (TX4 k).2.2.1 = some (tyX4 k) := by decide +kernel
abbrev cX4_init : ByteArray := prog_6_method_1_code
def yX4_init : MethodName := ⟨RX4, "<init>", "()V"⟩
abbrev cX4_build : ByteArray := prog_6_method_2_code
def yX4_build : MethodName := ⟨RX4, "build", "(LShiftAdds$Graph;)V"⟩
abbrev cX4_copy : ByteArray := prog_6_method_3_code
def yX4_copy : MethodName := ⟨RX4, "copy", "(LShiftAdds$Near;)V"⟩
abbrev cX4_widen : ByteArray := prog_6_method_4_code
def yX4_widen : MethodName := ⟨RX4, "widen", "(LShiftAdds$Graph;I)V"⟩
abbrev cX4_offerAll : ByteArray := prog_6_method_5_code
def yX4_offerAll : MethodName := ⟨RX4, "offerAll", "(LShiftAdds$Graph;II)V"⟩
abbrev cX4_offer : ByteArray := prog_6_method_6_code
def yX4_offer : MethodName := ⟨RX4, "offer", "(III)V"⟩
abbrev cX4_way : ByteArray := prog_6_method_7_code
def yX4_way : MethodName := ⟨RX4, "way", "(I)I"⟩
abbrev cX4_has : ByteArray := prog_6_method_8_code
def yX4_has : MethodName := ⟨RX4, "has", "(I)Z"⟩
abbrev cX4_howManyAbove : ByteArray := prog_6_method_9_code
def yX4_howManyAbove : MethodName := ⟨RX4, "howManyAbove", "(I)I"⟩
abbrev cX4_leastAbove : ByteArray := prog_6_method_10_code
def yX4_leastAbove : MethodName := ⟨RX4, "leastAbove", "(I)I"⟩
abbrev cX4_bridge : ByteArray := prog_6_method_11_code
def yX4_bridge : MethodName := ⟨RX4, "bridge", "(LShiftAdds$Graph;I)I"⟩
abbrev cX4_bridgeAlone : ByteArray := prog_6_method_12_code
def yX4_bridgeAlone : MethodName := ⟨RX4, "bridgeAlone", "(II)I"⟩
abbrev cX4_bridgeWith : ByteArray := prog_6_method_13_code
def yX4_bridgeWith : MethodName := ⟨RX4, "bridgeWith", "(III)I"⟩
abbrev cX4_usable : ByteArray := prog_6_method_14_code
def yX4_usable : MethodName := ⟨RX4, "usable", "(II)I"⟩
def RX5 : String := "ShiftAdds$Plan"
def TX5 : u_T := fun k => match k with
  | 0 => ("ShiftAdds$Plan", "graph", "LShiftAdds$Graph;", true)
  | 1 => ("ShiftAdds$Plan", "near", "LShiftAdds$Near;", true)
  | _ => ("ShiftAdds$Plan", "addersAhead", "I", false)
def tyX5 : Nat → FieldType := fun k => match k with
  | 0 => .object "ShiftAdds$Graph"
  | 1 => .object "ShiftAdds$Near"
  | _ => .int
abbrev wsX50 : List Cond := u_ws RX5 TX5 3
theorem nmX5 : ∀ a, a < 3 → ∀ b, b < 3 → a ≠ b → (TX5 a).2.1 ≠ (TX5 b).2.1 := by decide +kernel
theorem tyX5_ok : ∀ k, k < 3 → parseFieldDescriptor (TX5 k).2.2.1 = some (tyX5 k) := by decide +kernel
abbrev cX5_init : ByteArray := prog_7_method_1_code
def yX5_init : MethodName := ⟨RX5, "<init>", "()V"⟩
abbrev cX5_make : ByteArray := prog_7_method_2_code
def yX5_make : MethodName := ⟨RX5, "make", "(LShiftAdds$Graph;LShiftAdds$Near;)V"⟩
abbrev cX5_made : ByteArray := prog_7_method_3_code
def yX5_made : MethodName := ⟨RX5, "made", "()I"⟩
abbrev cX5_value : ByteArray := prog_7_method_4_code
def yX5_value : MethodName := ⟨RX5, "value", "(I)I"⟩
abbrev cX5_choice : ByteArray := prog_7_method_5_code
def yX5_choice : MethodName := ⟨RX5, "choice", "()I"⟩
def RX6 : String := "ShiftAdds$Seen"
def TX6 : u_T := fun k => match k with
  | 0 => ("ShiftAdds$Seen", "divisors", "[I", true)
  | 1 => ("ShiftAdds$Seen", "rests", "[I", true)
  | 2 => ("ShiftAdds$Seen", "tally", "[I", true)
  | _ => ("ShiftAdds$Seen", "size", "I", false)
def tyX6 : Nat → FieldType := fun k => match k with
  | 0 => .array .int
  | 1 => .array .int
  | 2 => .array .int
  | _ => .int
abbrev wsX60 : List Cond := u_ws RX6 TX6 4
theorem nmX6 : ∀ a, a < 4 → ∀ b, b < 4 → a ≠ b → (TX6 a).2.1 ≠ (TX6 b).2.1 := by decide +kernel
theorem tyX6_ok : ∀ k, k < 4 → parseFieldDescriptor (TX6 k).2.2.1 = some (tyX6 k) := by decide +kernel
abbrev cX6_init : ByteArray := prog_8_method_1_code
def yX6_init : MethodName := ⟨RX6, "<init>", "()V"⟩
abbrev cX6_append : ByteArray := prog_8_method_2_code
def yX6_append : MethodName := ⟨RX6, "append", "(II)I"⟩
abbrev cX6_lose : ByteArray := prog_8_method_3_code
def yX6_lose : MethodName := ⟨RX6, "lose", "()I"⟩
abbrev cX6_allows : ByteArray := prog_8_method_4_code
def yX6_allows : MethodName := ⟨RX6, "allows", "(LShiftAdds$Near;I)Z"⟩
abbrev cX6_howMany : ByteArray := prog_8_method_5_code
def yX6_howMany : MethodName := ⟨RX6, "howMany", "(LShiftAdds$Near;)I"⟩
abbrev cX6_lowest : ByteArray := prog_8_method_6_code
def yX6_lowest : MethodName := ⟨RX6, "lowest", "(LShiftAdds$Near;)I"⟩
abbrev cX6_ask : ByteArray := prog_8_method_7_code
def yX6_ask : MethodName := ⟨RX6, "ask", "(LShiftAdds$Near;)I"⟩
abbrev cX6_greatestLeft : ByteArray := prog_8_method_8_code
def yX6_greatestLeft : MethodName := ⟨RX6, "greatestLeft", "(LShiftAdds$Near;I)I"⟩
def RX7 : String := "ShiftAdds$Text"
def TX7 : u_T := fun k => match k with
  | 0 => ("ShiftAdds$Text", "letters", "[I", true)
  | 1 => ("ShiftAdds$Text", "length", "I", false)
  | 2 => ("ShiftAdds$Text", "start", "I", false)
  | 3 => ("ShiftAdds$Text", "behind", "I", false)
  | 4 => ("ShiftAdds$Text", "kind", "I", false)
  | _ => ("ShiftAdds$Text", "number", "I", false)
def tyX7 : Nat → FieldType := fun k => match k with
  | 0 => .array .int
  | 1 => .int
  | 2 => .int
  | 3 => .int
  | 4 => .int
  | _ => .int
abbrev wsX70 : List Cond := u_ws RX7 TX7 6
theorem nmX7 : ∀ a, a < 6 → ∀ b, b < 6 → a ≠ b → (TX7 a).2.1 ≠ (TX7 b).2.1 := by decide +kernel
theorem tyX7_ok : ∀ k, k < 6 → parseFieldDescriptor (TX7 k).2.2.1 = some (tyX7 k) := by decide +kernel
abbrev cX7_init : ByteArray := prog_9_method_1_code
def yX7_init : MethodName := ⟨RX7, "<init>", "()V"⟩
abbrev cX7_append : ByteArray := prog_9_method_2_code
def yX7_append : MethodName := ⟨RX7, "append", "(I)I"⟩
abbrev cX7_empty : ByteArray := prog_9_method_3_code
def yX7_empty : MethodName := ⟨RX7, "empty", "()I"⟩
abbrev cX7_read : ByteArray := prog_9_method_4_code
def yX7_read : MethodName := ⟨RX7, "read", "(LShiftAdds$Graph;)I"⟩
abbrev cX7_readItem : ByteArray := prog_9_method_5_code
def yX7_readItem : MethodName := ⟨RX7, "readItem", "(LShiftAdds$Graph;I)Z"⟩
abbrev cX7_readLimit : ByteArray := prog_9_method_6_code
def yX7_readLimit : MethodName := ⟨RX7, "readLimit", "(LShiftAdds$Graph;)Z"⟩
abbrev cX7_readWish : ByteArray := prog_9_method_7_code
def yX7_readWish : MethodName := ⟨RX7, "readWish", "(LShiftAdds$Graph;)Z"⟩
abbrev cX7_readAdder : ByteArray := prog_9_method_8_code
def yX7_readAdder : MethodName := ⟨RX7, "readAdder", "(LShiftAdds$Graph;)Z"⟩
abbrev cX7_stepToNumber : ByteArray := prog_9_method_9_code
def yX7_stepToNumber : MethodName := ⟨RX7, "stepToNumber", "(II)Z"⟩
abbrev cX7_stepToSemicolon : ByteArray := prog_9_method_10_code
def yX7_stepToSemicolon : MethodName := ⟨RX7, "stepToSemicolon", "()Z"⟩
abbrev cX7_step : ByteArray := prog_9_method_11_code
def yX7_step : MethodName := ⟨RX7, "step", "()V"⟩
abbrev cX7_isDigit : ByteArray := prog_9_method_12_code
def yX7_isDigit : MethodName := ⟨RX7, "isDigit", "(I)Z"⟩
def RX8 : String := "ShiftAdds$Way"
def TX8 : u_T := fun k => match k with
  | _ => ("", "", "", false)
def tyX8 : Nat → FieldType := fun k => match k with
  | _ => .int
abbrev wsX80 : List Cond := u_ws RX8 TX8 0
theorem nmX8 : ∀ a, a < 0 → ∀ b, b < 0 → a ≠ b → (TX8 a).2.1 ≠ (TX8 b).2.1 := by decide +kernel
theorem tyX8_ok : ∀ k, k < 0 → parseFieldDescriptor (TX8 k).2.2.1 = some (tyX8 k) := by decide +kernel
abbrev cX8_of : ByteArray := prog_10_method_2_code
def yX8_of : MethodName := ⟨RX8, "of", "(IIII)I"⟩
abbrev cX8_p : ByteArray := prog_10_method_3_code
def yX8_p : MethodName := ⟨RX8, "p", "(I)I"⟩
abbrev cX8_q : ByteArray := prog_10_method_4_code
def yX8_q : MethodName := ⟨RX8, "q", "(I)I"⟩
abbrev cX8_shift : ByteArray := prog_10_method_5_code
def yX8_shift : MethodName := ⟨RX8, "shift", "(I)I"⟩
abbrev cX8_form : ByteArray := prog_10_method_6_code
def yX8_form : MethodName := ⟨RX8, "form", "(I)I"⟩
def RX9 : String := "ShiftAdds"
def TX9 : u_T := fun k => match k with
  | 0 => ("ShiftAdds", "now", "LShiftAdds$Graph;", true)
  | 1 => ("ShiftAdds", "told", "LShiftAdds$Graph;", true)
  | 2 => ("ShiftAdds", "text", "LShiftAdds$Text;", true)
  | 3 => ("ShiftAdds", "history", "LShiftAdds$History;", true)
  | 4 => ("ShiftAdds", "images", "LShiftAdds$Images;", true)
  | 5 => ("ShiftAdds", "seen", "LShiftAdds$Seen;", true)
  | 6 => ("ShiftAdds", "nearNow", "LShiftAdds$Near;", true)
  | 7 => ("ShiftAdds", "planNow", "LShiftAdds$Plan;", true)
  | 8 => ("ShiftAdds", "fewest", "LShiftAdds$Fewest;", true)
  | 9 => ("ShiftAdds", "nearIsOld", "Z", false)
  | _ => ("ShiftAdds", "planIsOld", "Z", false)
def tyX9 : Nat → FieldType := fun k => match k with
  | 0 => .object "ShiftAdds$Graph"
  | 1 => .object "ShiftAdds$Graph"
  | 2 => .object "ShiftAdds$Text"
  | 3 => .object "ShiftAdds$History"
  | 4 => .object "ShiftAdds$Images"
  | 5 => .object "ShiftAdds$Seen"
  | 6 => .object "ShiftAdds$Near"
  | 7 => .object "ShiftAdds$Plan"
  | 8 => .object "ShiftAdds$Fewest"
  | 9 => .boolean
  | _ => .boolean
abbrev wsX90 : List Cond := u_ws RX9 TX9 11
theorem nmX9 : ∀ a, a < 11 → ∀ b, b < 11 → a ≠ b → (TX9 a).2.1 ≠ (TX9 b).2.1 := by decide +kernel
theorem tyX9_ok : ∀ k, k < 11 → parseFieldDescriptor (TX9 k).2.2.1 = some (tyX9 k) := by decide +kernel
abbrev cX9_init : ByteArray := prog_1_method_1_code
def yX9_init : MethodName := ⟨RX9, "<init>", "()V"⟩
abbrev cX9_type : ByteArray := prog_1_method_2_code
def yX9_type : MethodName := ⟨RX9, "type", "(I)I"⟩
abbrev cX9_clear : ByteArray := prog_1_method_3_code
def yX9_clear : MethodName := ⟨RX9, "clear", "()I"⟩
abbrev cX9_graph : ByteArray := prog_1_method_4_code
def yX9_graph : MethodName := ⟨RX9, "graph", "()I"⟩
abbrev cX9_odd : ByteArray := prog_1_method_5_code
def yX9_odd : MethodName := ⟨RX9, "odd", "(II)I"⟩
abbrev cX9_wanted : ByteArray := prog_1_method_6_code
def yX9_wanted : MethodName := ⟨RX9, "wanted", "(II)I"⟩
abbrev cX9_adds : ByteArray := prog_1_method_7_code
def yX9_adds : MethodName := ⟨RX9, "adds", "(IIII)I"⟩
abbrev cX9_takes : ByteArray := prog_1_method_8_code
def yX9_takes : MethodName := ⟨RX9, "takes", "()I"⟩
abbrev cX9_wishes : ByteArray := prog_1_method_9_code
def yX9_wishes : MethodName := ⟨RX9, "wishes", "(I)I"⟩
abbrev cX9_limits : ByteArray := prog_1_method_10_code
def yX9_limits : MethodName := ⟨RX9, "limits", "(I)I"⟩
abbrev cX9_undo : ByteArray := prog_1_method_11_code
def yX9_undo : MethodName := ⟨RX9, "undo", "()I"⟩
abbrev cX9_digits : ByteArray := prog_1_method_12_code
def yX9_digits : MethodName := ⟨RX9, "digits", "(I)I"⟩
abbrev cX9_digit : ByteArray := prog_1_method_13_code
def yX9_digit : MethodName := ⟨RX9, "digit", "(II)I"⟩
abbrev cX9_near : ByteArray := prog_1_method_14_code
def yX9_near : MethodName := ⟨RX9, "near", "(II)I"⟩
abbrev cX9_by : ByteArray := prog_1_method_15_code
def yX9_by : MethodName := ⟨RX9, "by", "(II)I"⟩
abbrev cX9_two : ByteArray := prog_1_method_16_code
def yX9_two : MethodName := ⟨RX9, "two", "(I)I"⟩
abbrev cX9_least : ByteArray := prog_1_method_17_code
def yX9_least : MethodName := ⟨RX9, "least", "(I)I"⟩
abbrev cX9_plan : ByteArray := prog_1_method_18_code
def yX9_plan : MethodName := ⟨RX9, "plan", "(I)I"⟩
abbrev cX9_product : ByteArray := prog_1_method_19_code
def yX9_product : MethodName := ⟨RX9, "product", "(II)J"⟩
abbrev cX9_sees : ByteArray := prog_1_method_20_code
def yX9_sees : MethodName := ⟨RX9, "sees", "(II)I"⟩
abbrev cX9_forget : ByteArray := prog_1_method_21_code
def yX9_forget : MethodName := ⟨RX9, "forget", "()I"⟩
abbrev cX9_unseen : ByteArray := prog_1_method_22_code
def yX9_unseen : MethodName := ⟨RX9, "unseen", "(I)I"⟩
abbrev cX9_next : ByteArray := prog_1_method_23_code
def yX9_next : MethodName := ⟨RX9, "next", "()I"⟩
abbrev cX9_keep : ByteArray := prog_1_method_24_code
def yX9_keep : MethodName := ⟨RX9, "keep", "(I)I"⟩
abbrev cX9_back : ByteArray := prog_1_method_25_code
def yX9_back : MethodName := ⟨RX9, "back", "(I)I"⟩
abbrev cX9_count : ByteArray := prog_1_method_26_code
def yX9_count : MethodName := ⟨RX9, "count", "(I)I"⟩
abbrev cX9_changed : ByteArray := prog_1_method_27_code
def yX9_changed : MethodName := ⟨RX9, "changed", "()V"⟩
abbrev cX9_freshNear : ByteArray := prog_1_method_28_code
def yX9_freshNear : MethodName := ⟨RX9, "freshNear", "()LShiftAdds$Near;"⟩
abbrev cX9_isOddNumber : ByteArray := prog_1_method_29_code
def yX9_isOddNumber : MethodName := ⟨RX9, "isOddNumber", "(I)Z"⟩
abbrev cX9_halvings : ByteArray := prog_1_method_30_code
def yX9_halvings : MethodName := ⟨RX9, "halvings", "(I)I"⟩
abbrev cX9_oddPart : ByteArray := prog_1_method_31_code
def yX9_oddPart : MethodName := ⟨RX9, "oddPart", "(I)I"⟩
abbrev cX9_comes : ByteArray := prog_1_method_32_code
def yX9_comes : MethodName := ⟨RX9, "comes", "(IIII)I"⟩
abbrev cX9_signedDigit : ByteArray := prog_1_method_33_code
def yX9_signedDigit : MethodName := ⟨RX9, "signedDigit", "(II)I"⟩
def RX10 : String := "ShiftAddsModel"
def TX10 : u_T := fun k => match k with
  | 0 => ("ShiftAddsModel", "thrown", "I", false)
  | 1 => ("ShiftAddsModel", "text", "[I", true)
  | 2 => ("ShiftAddsModel", "typed", "I", false)
  | 3 => ("ShiftAddsModel", "at", "I", false)
  | 4 => ("ShiftAddsModel", "token", "I", false)
  | 5 => ("ShiftAddsModel", "place", "I", false)
  | 6 => ("ShiftAddsModel", "value", "I", false)
  | 7 => ("ShiftAddsModel", "fault", "I", false)
  | 8 => ("ShiftAddsModel", "draft", "[I", true)
  | 9 => ("ShiftAddsModel", "s", "[I", true)
  | 10 => ("ShiftAddsModel", "w", "[I", true)
  | 11 => ("ShiftAddsModel", "kept", "[I", true)
  | 12 => ("ShiftAddsModel", "isKept", "[Z", true)
  | 13 => ("ShiftAddsModel", "undos", "[I", true)
  | 14 => ("ShiftAddsModel", "undoMany", "I", false)
  | 15 => ("ShiftAddsModel", "seenBy", "[I", true)
  | 16 => ("ShiftAddsModel", "seenLeft", "[I", true)
  | 17 => ("ShiftAddsModel", "seenMany", "I", false)
  | 18 => ("ShiftAddsModel", "odds", "[I", true)
  | 19 => ("ShiftAddsModel", "depths", "[I", true)
  | 20 => ("ShiftAddsModel", "oddMany", "I", false)
  | 21 => ("ShiftAddsModel", "firstBy", "[I", true)
  | 22 => ("ShiftAddsModel", "planned", "[I", true)
  | 23 => ("ShiftAddsModel", "plannedMany", "I", false)
  | 24 => ("ShiftAddsModel", "first", "[I", true)
  | _ => ("ShiftAddsModel", "second", "[I", true)
def tyX10 : Nat → FieldType := fun k => match k with
  | 0 => .int
  | 1 => .array .int
  | 2 => .int
  | 3 => .int
  | 4 => .int
  | 5 => .int
  | 6 => .int
  | 7 => .int
  | 8 => .array .int
  | 9 => .array .int
  | 10 => .array .int
  | 11 => .array .int
  | 12 => .array .boolean
  | 13 => .array .int
  | 14 => .int
  | 15 => .array .int
  | 16 => .array .int
  | 17 => .int
  | 18 => .array .int
  | 19 => .array .int
  | 20 => .int
  | 21 => .array .int
  | 22 => .array .int
  | 23 => .int
  | 24 => .array .int
  | _ => .array .int
abbrev wsX100 : List Cond := u_ws RX10 TX10 26
theorem nmX10 : ∀ a, a < 26 → ∀ b, b < 26 → a ≠ b → (TX10 a).2.1 ≠ (TX10 b).2.1 := by decide +kernel
theorem tyX10_ok : ∀ k, k < 26 → parseFieldDescriptor (TX10 k).2.2.1 = some (tyX10 k) := by decide +kernel
abbrev cX10_init : ByteArray := prog_12_method_1_code
def yX10_init : MethodName := ⟨RX10, "<init>", "()V"⟩
abbrev cX10_in : ByteArray := prog_12_method_3_code
def yX10_in : MethodName := ⟨RX10, "in", "(III)Z"⟩
abbrev cX10_type : ByteArray := prog_12_method_4_code
def yX10_type : MethodName := ⟨RX10, "type", "(I)I"⟩
abbrev cX10_clear : ByteArray := prog_12_method_5_code
def yX10_clear : MethodName := ⟨RX10, "clear", "()I"⟩
abbrev cX10_letterAt : ByteArray := prog_12_method_6_code
def yX10_letterAt : MethodName := ⟨RX10, "letterAt", "(I)I"⟩
abbrev cX10_advances : ByteArray := prog_12_method_7_code
def yX10_advances : MethodName := ⟨RX10, "advances", "()V"⟩
abbrev cX10_isWell : ByteArray := prog_12_method_8_code
def yX10_isWell : MethodName := ⟨RX10, "isWell", "()Z"⟩
abbrev cX10_takes : ByteArray := prog_12_method_9_code
def yX10_takes : MethodName := ⟨RX10, "takes", "(Z)I"⟩
abbrev cX10_isNumber : ByteArray := prog_12_method_10_code
def yX10_isNumber : MethodName := ⟨RX10, "isNumber", "(II)Z"⟩
abbrev cX10_begins : ByteArray := prog_12_method_11_code
def yX10_begins : MethodName := ⟨RX10, "begins", "()V"⟩
abbrev cX10_mayBegin : ByteArray := prog_12_method_12_code
def yX10_mayBegin : MethodName := ⟨RX10, "mayBegin", "(I)Z"⟩
abbrev cX10_wantedAt : ByteArray := prog_12_method_13_code
def yX10_wantedAt : MethodName := ⟨RX10, "wantedAt", "([II)I"⟩
abbrev cX10_readsAdder : ByteArray := prog_12_method_14_code
def yX10_readsAdder : MethodName := ⟨RX10, "readsAdder", "()V"⟩
abbrev cX10_readsItem : ByteArray := prog_12_method_15_code
def yX10_readsItem : MethodName := ⟨RX10, "readsItem", "(I)V"⟩
abbrev cX10_graph : ByteArray := prog_12_method_16_code
def yX10_graph : MethodName := ⟨RX10, "graph", "()I"⟩
abbrev cX10_settles : ByteArray := prog_12_method_17_code
def yX10_settles : MethodName := ⟨RX10, "settles", "()V"⟩
abbrev cX10_copies : ByteArray := prog_12_method_18_code
def yX10_copies : MethodName := ⟨RX10, "copies", "([I[I)V"⟩
abbrev cX10_comes : ByteArray := prog_12_method_19_code
def yX10_comes : MethodName := ⟨RX10, "comes", "(IIII)I"⟩
abbrev cX10_oddPart : ByteArray := prog_12_method_20_code
def yX10_oddPart : MethodName := ⟨RX10, "oddPart", "(I)I"⟩
abbrev cX10_deeper : ByteArray := prog_12_method_21_code
def yX10_deeper : MethodName := ⟨RX10, "deeper", "(II)I"⟩
abbrev cX10_reckons : ByteArray := prog_12_method_22_code
def yX10_reckons : MethodName := ⟨RX10, "reckons", "([I)V"⟩
abbrev cX10_mayBe : ByteArray := prog_12_method_23_code
def yX10_mayBe : MethodName := ⟨RX10, "mayBe", "(IIIII)Z"⟩
abbrev cX10_makes : ByteArray := prog_12_method_24_code
def yX10_makes : MethodName := ⟨RX10, "makes", "([IIIII)V"⟩
abbrev cX10_isOdds : ByteArray := prog_12_method_25_code
def yX10_isOdds : MethodName := ⟨RX10, "isOdds", "(I)Z"⟩
abbrev cX10_nears : ByteArray := prog_12_method_26_code
def yX10_nears : MethodName := ⟨RX10, "nears", "(I)V"⟩
abbrev cX10_nearsOf : ByteArray := prog_12_method_27_code
def yX10_nearsOf : MethodName := ⟨RX10, "nearsOf", "([I)V"⟩
abbrev cX10_odd : ByteArray := prog_12_method_28_code
def yX10_odd : MethodName := ⟨RX10, "odd", "(II)I"⟩
abbrev cX10_wanted : ByteArray := prog_12_method_29_code
def yX10_wanted : MethodName := ⟨RX10, "wanted", "(II)I"⟩
abbrev cX10_notes : ByteArray := prog_12_method_30_code
def yX10_notes : MethodName := ⟨RX10, "notes", "()V"⟩
abbrev cX10_adds : ByteArray := prog_12_method_31_code
def yX10_adds : MethodName := ⟨RX10, "adds", "(IIII)I"⟩
abbrev cX10_takes_ : ByteArray := prog_12_method_32_code
def yX10_takes_ : MethodName := ⟨RX10, "takes", "()I"⟩
abbrev cX10_wishes : ByteArray := prog_12_method_33_code
def yX10_wishes : MethodName := ⟨RX10, "wishes", "(I)I"⟩
abbrev cX10_deepest : ByteArray := prog_12_method_34_code
def yX10_deepest : MethodName := ⟨RX10, "deepest", "()I"⟩
abbrev cX10_limits : ByteArray := prog_12_method_35_code
def yX10_limits : MethodName := ⟨RX10, "limits", "(I)I"⟩
abbrev cX10_undo : ByteArray := prog_12_method_36_code
def yX10_undo : MethodName := ⟨RX10, "undo", "()I"⟩
abbrev cX10_isConstant : ByteArray := prog_12_method_37_code
def yX10_isConstant : MethodName := ⟨RX10, "isConstant", "(I)Z"⟩
abbrev cX10_digitOf : ByteArray := prog_12_method_38_code
def yX10_digitOf : MethodName := ⟨RX10, "digitOf", "(II)I"⟩
abbrev cX10_digits : ByteArray := prog_12_method_39_code
def yX10_digits : MethodName := ⟨RX10, "digits", "(I)I"⟩
abbrev cX10_digit : ByteArray := prog_12_method_40_code
def yX10_digit : MethodName := ⟨RX10, "digit", "(II)I"⟩
abbrev cX10_near : ByteArray := prog_12_method_41_code
def yX10_near : MethodName := ⟨RX10, "near", "(II)I"⟩
abbrev cX10_isOddNumber : ByteArray := prog_12_method_42_code
def yX10_isOddNumber : MethodName := ⟨RX10, "isOddNumber", "(I)Z"⟩
abbrev cX10_partOf : ByteArray := prog_12_method_43_code
def yX10_partOf : MethodName := ⟨RX10, "partOf", "(II)I"⟩
abbrev cX10_by : ByteArray := prog_12_method_44_code
def yX10_by : MethodName := ⟨RX10, "by", "(II)I"⟩
abbrev cX10_isByLast : ByteArray := prog_12_method_45_code
def yX10_isByLast : MethodName := ⟨RX10, "isByLast", "(II)Z"⟩
abbrev cX10_twoOf : ByteArray := prog_12_method_46_code
def yX10_twoOf : MethodName := ⟨RX10, "twoOf", "(II)I"⟩
abbrev cX10_two : ByteArray := prog_12_method_47_code
def yX10_two : MethodName := ⟨RX10, "two", "(I)I"⟩
abbrev cX10_marks : ByteArray := prog_12_method_48_code
def yX10_marks : MethodName := ⟨RX10, "marks", "([IIII)V"⟩
abbrev cX10_isMade : ByteArray := prog_12_method_49_code
def yX10_isMade : MethodName := ⟨RX10, "isMade", "(III)Z"⟩
abbrev cX10_marksAll : ByteArray := prog_12_method_50_code
def yX10_marksAll : MethodName := ⟨RX10, "marksAll", "([IIII)V"⟩
abbrev cX10_least : ByteArray := prog_12_method_51_code
def yX10_least : MethodName := ⟨RX10, "least", "(I)I"⟩
abbrev cX10_unmet : ByteArray := prog_12_method_52_code
def yX10_unmet : MethodName := ⟨RX10, "unmet", "([I)I"⟩
abbrev cX10_nextOf : ByteArray := prog_12_method_53_code
def yX10_nextOf : MethodName := ⟨RX10, "nextOf", "([I)I"⟩
abbrev cX10_plans : ByteArray := prog_12_method_54_code
def yX10_plans : MethodName := ⟨RX10, "plans", "()V"⟩
abbrev cX10_plan : ByteArray := prog_12_method_55_code
def yX10_plan : MethodName := ⟨RX10, "plan", "(I)I"⟩
abbrev cX10_product : ByteArray := prog_12_method_56_code
def yX10_product : MethodName := ⟨RX10, "product", "(II)J"⟩
abbrev cX10_sees : ByteArray := prog_12_method_57_code
def yX10_sees : MethodName := ⟨RX10, "sees", "(II)I"⟩
abbrev cX10_forget : ByteArray := prog_12_method_58_code
def yX10_forget : MethodName := ⟨RX10, "forget", "()I"⟩
abbrev cX10_canBe : ByteArray := prog_12_method_59_code
def yX10_canBe : MethodName := ⟨RX10, "canBe", "(I)Z"⟩
abbrev cX10_unseen : ByteArray := prog_12_method_60_code
def yX10_unseen : MethodName := ⟨RX10, "unseen", "(I)I"⟩
abbrev cX10_leaving : ByteArray := prog_12_method_61_code
def yX10_leaving : MethodName := ⟨RX10, "leaving", "(II)I"⟩
abbrev cX10_next : ByteArray := prog_12_method_62_code
def yX10_next : MethodName := ⟨RX10, "next", "()I"⟩
abbrev cX10_keep : ByteArray := prog_12_method_63_code
def yX10_keep : MethodName := ⟨RX10, "keep", "(I)I"⟩
abbrev cX10_back : ByteArray := prog_12_method_64_code
def yX10_back : MethodName := ⟨RX10, "back", "(I)I"⟩
abbrev cX10_count : ByteArray := prog_12_method_65_code
def yX10_count : MethodName := ⟨RX10, "count", "(I)I"⟩
def RL : String := "ShiftAddsLaw"
abbrev cL_law : ByteArray := code
def yL_law : MethodName := ⟨RL, "law", "([I)Z"⟩

abbrev vwCl : List vw_C := [(RX0, TX0, 3), (RX1, TX1, 5), (RX2, TX2, 3), (RX3, TX3, 2), (RX4, TX4, 2), (RX5, TX5, 3), (RX6, TX6, 4), (RX7, TX7, 6), (RX9, TX9, 11), (RX10, TX10, 26)]
end
section
abbrev AI : Type := Instr × Nat × Bool × Int × List Nat
abbrev MI : Type := MethodName × ByteArray × Nat × Option FieldType × Nat × Nat × Nat × Nat × Nat
abbrev BK : Type := List (Nat × List (Nat × AI))
abbrev MT : Type := MI × BK
def bX0_init : BK := [
  (23, [(0, .aload_n 0, 1, false, 0, []), (1, .invokespecial 3, 3, false, 0, [9, 0, 0, 228, 63, 64]), (4, .aload_n 0, 1, false, 0, []), (5, .new 9, 3, false, 0, [1, 5, 229, 66, 45]), (8, .dup, 1, false, 0, []), (9, .invokespecial 11, 3, false, 0, [3, 3, 0, 230, 68]), (12, .putfield 12, 3, false, 0, [0, 0, 2, 233]), (15, .aload_n 0, 1, false, 0, []), (16, .new 18, 3, false, 0, [4, 2, 231, 190, 50]), (19, .dup, 1, false, 0, []), (20, .invokespecial 20, 3, false, 0, [4, 27, 0, 232, 192]), (23, .putfield 21, 3, false, 0, [0, 1, 2, 234])]),
  (37, [(26, .aload_n 0, 1, false, 0, []), (27, .new 18, 3, false, 0, [4, 2, 231, 190, 50]), (30, .dup, 1, false, 0, []), (31, .invokespecial 20, 3, false, 0, [4, 27, 0, 232, 192]), (34, .putfield 25, 3, false, 0, [0, 2, 2, 235]), (37, .return_, 1, false, 0, [])])]
def iX0_init : MI := (yX0_init, cX0_init, 1, none, 16, 2161, 2, 227, 52)
abbrev mX0_init : Nat := 0
def bX0_adders : BK := [
  (24, [(0, .aload_n 0, 1, false, 0, []), (1, .getfield 12, 3, false, 0, [0, 0, 2, 233]), (4, .invokevirtual 28, 3, false, 0, [0, 4, 0, 580, 302, 303, 1]), (7, .aload_n 0, 1, false, 0, []), (8, .getfield 12, 3, false, 0, [0, 0, 2, 233]), (11, .bipush 9, 2, false, 0, []), (13, .putfield 31, 3, false, 0, [1, 4, 0, 89]), (16, .aload_n 0, 1, false, 0, []), (17, .getfield 21, 3, false, 0, [0, 1, 2, 234]), (20, .aload_n 0, 1, false, 0, []), (21, .getfield 12, 3, false, 0, [0, 0, 2, 233]), (24, .invokevirtual 35, 3, false, 0, [0, 28, 1, 581, 489, 490, 4])]),
  (46, [(27, .iload_n 1, 1, false, 0, []), (28, .iconst 1, 1, false, 0, []), (29, .if_icmp .ne 5, 3, false, 0, [34]), (32, .iconst 0, 1, false, 0, []), (33, .ireturn, 1, false, 0, []), (34, .aload_n 0, 1, false, 0, []), (35, .getfield 21, 3, false, 0, [0, 1, 2, 234]), (38, .iload_n 1, 1, false, 0, []), (39, .invokevirtual 39, 3, false, 0, [0, 34, 1, 582, 519, 520, 4]), (42, .ifCond .eq 5, 3, false, 0, [47]), (45, .iconst 1, 1, false, 0, []), (46, .ireturn, 1, false, 0, [])]),
  (67, [(47, .aload_n 0, 1, false, 0, []), (48, .getfield 21, 3, false, 0, [0, 1, 2, 234]), (51, .aload_n 0, 1, false, 0, []), (52, .getfield 12, 3, false, 0, [0, 0, 2, 233]), (55, .iload_n 1, 1, false, 0, []), (56, .invokevirtual 43, 3, false, 0, [0, 37, 2, 583, 552, 553, 4]), (59, .bipush (-9), 2, false, 0, []), (61, .if_icmp .eq 5, 3, false, 0, [66]), (64, .iconst 2, 1, false, 0, []), (65, .ireturn, 1, false, 0, []), (66, .aload_n 0, 1, false, 0, []), (67, .iload_n 1, 1, false, 0, [])]),
  (80, [(68, .invokevirtual 47, 3, false, 0, [0, 2, 1, 584, 586, 14, 0]), (71, .ifCond .eq 7, 3, false, 0, [78]), (74, .iconst 3, 1, false, 0, []), (75, .goto 5, 3, false, 0, [80]), (78, .bipush (-9), 2, false, 0, []), (80, .ireturn, 1, false, 0, [])])]
def iX0_adders : MI := (yX0_adders, cX0_adders, 2, (some .int), 0, 0, 5, 579, 52)
abbrev mX0_adders : Nat := 1
def bX0_isMadeByThree : BK := [
  (21, [(0, .iconst 3, 1, false, 0, []), (1, .istore_n 2, 1, false, 0, []), (2, .iload_n 2, 1, true, 0, []), (3, .sipush 1023, 3, false, 0, []), (6, .if_icmp .gt 85, 3, false, 0, [91]), (9, .aload_n 0, 1, false, 0, []), (10, .getfield 21, 3, false, 0, [0, 1, 2, 234]), (13, .iload_n 2, 1, false, 0, []), (14, .invokevirtual 39, 3, false, 0, [0, 34, 1, 582, 519, 520, 4]), (17, .ifCond .eq 68, 3, false, 0, [85]), (20, .aload_n 0, 1, false, 0, []), (21, .getfield 12, 3, false, 0, [0, 0, 2, 233])]),
  (47, [(24, .iconst 0, 1, false, 0, []), (25, .putfield 50, 3, false, 0, [1, 2, 0, 81]), (28, .aload_n 0, 1, false, 0, []), (29, .getfield 12, 3, false, 0, [0, 0, 2, 233]), (32, .aload_n 0, 1, false, 0, []), (33, .getfield 21, 3, false, 0, [0, 1, 2, 234]), (36, .iload_n 2, 1, false, 0, []), (37, .invokevirtual 53, 3, false, 0, [0, 33, 1, 588, 532, 533, 4]), (40, .invokevirtual 57, 3, false, 0, [0, 12, 1, 589, 590, 591, 1]), (43, .aload_n 0, 1, false, 0, []), (44, .getfield 25, 3, false, 0, [0, 2, 2, 235]), (47, .aload_n 0, 1, false, 0, [])]),
  (71, [(48, .getfield 21, 3, false, 0, [0, 1, 2, 234]), (51, .invokevirtual 61, 3, false, 0, [0, 29, 1, 598, 599, 600, 4]), (54, .aload_n 0, 1, false, 0, []), (55, .getfield 25, 3, false, 0, [0, 2, 2, 235]), (58, .aload_n 0, 1, false, 0, []), (59, .getfield 12, 3, false, 0, [0, 0, 2, 233]), (62, .iconst 1, 1, false, 0, []), (63, .invokevirtual 65, 3, false, 0, [0, 30, 2, 603, 493, 494, 4]), (66, .aload_n 0, 1, false, 0, []), (67, .getfield 25, 3, false, 0, [0, 2, 2, 235]), (70, .aload_n 0, 1, false, 0, []), (71, .getfield 12, 3, false, 0, [0, 0, 2, 233])]),
  (92, [(74, .iload_n 1, 1, false, 0, []), (75, .invokevirtual 43, 3, false, 0, [0, 37, 2, 583, 552, 553, 4]), (78, .bipush (-9), 2, false, 0, []), (80, .if_icmp .eq 5, 3, false, 0, [85]), (83, .iconst 1, 1, false, 0, []), (84, .ireturn, 1, false, 0, []), (85, .iinc 2 2, 3, false, 0, []), (88, .goto (-86), 3, false, 0, [2]), (91, .iconst 0, 1, false, 0, []), (92, .ireturn, 1, false, 0, [])])]
def iX0_isMadeByThree : MI := (yX0_isMadeByThree, cX0_isMadeByThree, 3, (some .boolean), 0, 0, 4, 587, 52)
abbrev mX0_isMadeByThree : Nat := 2
def bX1_init : BK := [
  (24, [(0, .aload_n 0, 1, false, 0, []), (1, .invokespecial 3, 3, false, 0, [9, 0, 0, 70, 63, 64]), (4, .aload_n 0, 1, false, 0, []), (5, .bipush 7, 2, false, 0, []), (7, .bipush 13, 2, false, 0, []), (9, .multianewarray 11 2, 4, false, 0, [71, 72, 104]), (13, .putfield 13, 3, false, 0, [1, 0, 2, 73]), (16, .aload_n 0, 1, false, 0, []), (17, .bipush 6, 2, false, 0, []), (19, .newarray .int, 2, false, 0, [104]), (21, .putfield 16, 3, false, 0, [1, 1, 2, 75]), (24, .aload_n 0, 1, false, 0, [])]),
  (43, [(25, .bipush 6, 2, false, 0, []), (27, .putfield 20, 3, false, 0, [1, 4, 0, 88]), (30, .aload_n 0, 1, false, 0, []), (31, .getfield 13, 3, false, 0, [1, 0, 2, 73]), (34, .iconst 0, 1, false, 0, []), (35, .aaload, 1, false, 0, []), (36, .iconst 0, 1, false, 0, []), (37, .iconst 1, 1, false, 0, []), (38, .iastore, 1, false, 0, []), (39, .aload_n 0, 1, false, 0, []), (40, .getfield 13, 3, false, 0, [1, 0, 2, 73]), (43, .iconst 2, 1, false, 0, [])]),
  (59, [(44, .aaload, 1, false, 0, []), (45, .iconst 0, 1, false, 0, []), (46, .bipush (-9), 2, false, 0, []), (48, .iastore, 1, false, 0, []), (49, .aload_n 0, 1, false, 0, []), (50, .getfield 13, 3, false, 0, [1, 0, 2, 73]), (53, .iconst 3, 1, false, 0, []), (54, .aaload, 1, false, 0, []), (55, .iconst 0, 1, false, 0, []), (56, .bipush (-9), 2, false, 0, []), (58, .iastore, 1, false, 0, []), (59, .aload_n 0, 1, false, 0, [])]),
  (76, [(60, .getfield 13, 3, false, 0, [1, 0, 2, 73]), (63, .iconst 4, 1, false, 0, []), (64, .aaload, 1, false, 0, []), (65, .iconst 0, 1, false, 0, []), (66, .bipush (-9), 2, false, 0, []), (68, .iastore, 1, false, 0, []), (69, .aload_n 0, 1, false, 0, []), (70, .getfield 13, 3, false, 0, [1, 0, 2, 73]), (73, .iconst 5, 1, false, 0, []), (74, .aaload, 1, false, 0, []), (75, .iconst 0, 1, false, 0, []), (76, .bipush (-9), 2, false, 0, [])]),
  (79, [(78, .iastore, 1, false, 0, []), (79, .return_, 1, false, 0, [])])]
def iX1_init : MI := (yX1_init, cX1_init, 1, none, 9, 104, 1, 69, 45)
abbrev mX1_init : Nat := 3
def bX1_empty : BK := [
  (16, [(0, .aload_n 0, 1, false, 0, []), (1, .iconst 0, 1, false, 0, []), (2, .putfield 24, 3, false, 0, [1, 2, 0, 78]), (5, .aload_n 0, 1, false, 0, []), (6, .iconst 0, 1, false, 0, []), (7, .putfield 27, 3, false, 0, [1, 3, 0, 84]), (10, .aload_n 0, 1, false, 0, []), (11, .bipush 6, 2, false, 0, []), (13, .putfield 20, 3, false, 0, [1, 4, 0, 88]), (16, .return_, 1, false, 0, [])])]
def iX1_empty : MI := (yX1_empty, cX1_empty, 1, none, 0, 0, 0, 304, 45)
abbrev mX1_empty : Nat := 4
def bX1_copy : BK := [
  (16, [(0, .iconst 0, 1, false, 0, []), (1, .istore_n 2, 1, false, 0, []), (2, .iload_n 2, 1, true, 0, []), (3, .bipush 7, 2, false, 0, []), (5, .if_icmp .ge 28, 3, false, 0, [33]), (8, .aload_n 1, 1, false, 0, []), (9, .getfield 13, 3, false, 0, [1, 0, 2, 73]), (12, .iload_n 2, 1, false, 0, []), (13, .aaload, 1, false, 0, []), (14, .iconst 0, 1, false, 0, []), (15, .aload_n 0, 1, false, 0, []), (16, .getfield 13, 3, false, 0, [1, 0, 2, 73])]),
  (39, [(19, .iload_n 2, 1, false, 0, []), (20, .aaload, 1, false, 0, []), (21, .iconst 0, 1, false, 0, []), (22, .bipush 13, 2, false, 0, []), (24, .invokestatic 30, 3, false, 0, [8, 0, 5, 387, 388, 389, 55]), (27, .iinc 2 1, 3, false, 0, []), (30, .goto (-28), 3, false, 0, [2]), (33, .aload_n 1, 1, false, 0, []), (34, .getfield 16, 3, false, 0, [1, 1, 2, 75]), (37, .iconst 0, 1, false, 0, []), (38, .aload_n 0, 1, false, 0, []), (39, .getfield 16, 3, false, 0, [1, 1, 2, 75])]),
  (64, [(42, .iconst 0, 1, false, 0, []), (43, .bipush 6, 2, false, 0, []), (45, .invokestatic 30, 3, false, 0, [8, 0, 5, 387, 388, 389, 55]), (48, .aload_n 0, 1, false, 0, []), (49, .aload_n 1, 1, false, 0, []), (50, .getfield 24, 3, false, 0, [1, 2, 0, 78]), (53, .putfield 24, 3, false, 0, [1, 2, 0, 78]), (56, .aload_n 0, 1, false, 0, []), (57, .aload_n 1, 1, false, 0, []), (58, .getfield 27, 3, false, 0, [1, 3, 0, 84]), (61, .putfield 27, 3, false, 0, [1, 3, 0, 84]), (64, .aload_n 0, 1, false, 0, [])]),
  (72, [(65, .aload_n 1, 1, false, 0, []), (66, .getfield 20, 3, false, 0, [1, 4, 0, 88]), (69, .putfield 20, 3, false, 0, [1, 4, 0, 88]), (72, .return_, 1, false, 0, [])])]
def iX1_copy : MI := (yX1_copy, cX1_copy, 3, none, 0, 0, 1, 386, 45)
abbrev mX1_copy : Nat := 5
def bX1_isThere : BK := [
  (17, [(0, .iload_n 1, 1, false, 0, []), (1, .ifCond .lt 15, 3, false, 0, [16]), (4, .iload_n 1, 1, false, 0, []), (5, .aload_n 0, 1, false, 0, []), (6, .getfield 24, 3, false, 0, [1, 2, 0, 78]), (9, .if_icmp .gt 7, 3, false, 0, [16]), (12, .iconst 1, 1, false, 0, []), (13, .goto 4, 3, false, 0, [17]), (16, .iconst 0, 1, false, 0, []), (17, .ireturn, 1, false, 0, [])])]
def iX1_isThere : MI := (yX1_isThere, cX1_isThere, 2, (some .boolean), 0, 0, 0, 413, 45)
abbrev mX1_isThere : Nat := 6
def bX1_value : BK := [
  (19, [(0, .iload_n 1, 1, false, 0, []), (1, .ifCond .lt 22, 3, false, 0, [23]), (4, .iload_n 1, 1, false, 0, []), (5, .aload_n 0, 1, false, 0, []), (6, .getfield 24, 3, false, 0, [1, 2, 0, 78]), (9, .if_icmp .gt 14, 3, false, 0, [23]), (12, .aload_n 0, 1, false, 0, []), (13, .getfield 13, 3, false, 0, [1, 0, 2, 73]), (16, .iconst 0, 1, false, 0, []), (17, .aaload, 1, false, 0, []), (18, .iload_n 1, 1, false, 0, []), (19, .iaload, 1, false, 0, [])]),
  (24, [(20, .goto 4, 3, false, 0, [24]), (23, .iconst (-1), 1, false, 0, []), (24, .ireturn, 1, false, 0, [])])]
def iX1_value : MI := (yX1_value, cX1_value, 2, (some .int), 0, 0, 0, 354, 45)
abbrev mX1_value : Nat := 7
def bX1_depth : BK := [
  (19, [(0, .iload_n 1, 1, false, 0, []), (1, .ifCond .lt 22, 3, false, 0, [23]), (4, .iload_n 1, 1, false, 0, []), (5, .aload_n 0, 1, false, 0, []), (6, .getfield 24, 3, false, 0, [1, 2, 0, 78]), (9, .if_icmp .gt 14, 3, false, 0, [23]), (12, .aload_n 0, 1, false, 0, []), (13, .getfield 13, 3, false, 0, [1, 0, 2, 73]), (16, .iconst 1, 1, false, 0, []), (17, .aaload, 1, false, 0, []), (18, .iload_n 1, 1, false, 0, []), (19, .iaload, 1, false, 0, [])]),
  (24, [(20, .goto 4, 3, false, 0, [24]), (23, .iconst (-1), 1, false, 0, []), (24, .ireturn, 1, false, 0, [])])]
def iX1_depth : MI := (yX1_depth, cX1_depth, 2, (some .int), 0, 0, 0, 368, 45)
abbrev mX1_depth : Nat := 8
def bX1_depthOver : BK := [
  (15, [(0, .aload_n 0, 1, false, 0, []), (1, .iload_n 1, 1, false, 0, []), (2, .invokevirtual 36, 3, false, 0, [0, 8, 1, 365, 366, 367, 1]), (5, .aload_n 0, 1, false, 0, []), (6, .iload_n 2, 1, false, 0, []), (7, .invokevirtual 36, 3, false, 0, [0, 8, 1, 365, 366, 367, 1]), (10, .invokestatic 40, 3, false, 0, [5, 0, 2, 369, 370, 371, 54]), (13, .iconst 1, 1, false, 0, []), (14, .iadd, 1, false, 0, []), (15, .ireturn, 1, false, 0, [])])]
def iX1_depthOver : MI := (yX1_depthOver, cX1_depthOver, 3, (some .int), 0, 0, 1, 364, 45)
abbrev mX1_depthOver : Nat := 9
def bX1_mayBe : BK := [
  (20, [(0, .aload_n 0, 1, false, 0, []), (1, .iload_n 1, 1, false, 0, []), (2, .invokevirtual 46, 3, false, 0, [0, 7, 1, 351, 352, 353, 1]), (5, .iload_n 2, 1, false, 0, []), (6, .aload_n 0, 1, false, 0, []), (7, .iload_n 3, 1, false, 0, []), (8, .invokevirtual 46, 3, false, 0, [0, 7, 1, 351, 352, 353, 1]), (11, .iload 4, 2, false, 0, []), (13, .invokestatic 49, 3, false, 0, [2, 102, 4, 355, 356]), (16, .istore 5, 2, false, 0, []), (18, .iload 5, 2, false, 0, []), (20, .ifCond .eq 28, 3, false, 0, [48])]),
  (45, [(23, .iload 5, 2, false, 0, []), (25, .sipush 1023, 3, false, 0, []), (28, .if_icmp .gt 20, 3, false, 0, [48]), (31, .aload_n 0, 1, false, 0, []), (32, .iload_n 1, 1, false, 0, []), (33, .iload_n 3, 1, false, 0, []), (34, .invokevirtual 53, 3, false, 0, [0, 9, 2, 361, 362, 363, 1]), (37, .aload_n 0, 1, false, 0, []), (38, .getfield 20, 3, false, 0, [1, 4, 0, 88]), (41, .if_icmp .gt 7, 3, false, 0, [48]), (44, .iconst 1, 1, false, 0, []), (45, .goto 4, 3, false, 0, [49])]),
  (49, [(48, .iconst 0, 1, false, 0, []), (49, .ireturn, 1, false, 0, [])])]
def iX1_mayBe : MI := (yX1_mayBe, cX1_mayBe, 6, (some .boolean), 0, 0, 2, 350, 45)
abbrev mX1_mayBe : Nat := 10
def bX1_append : BK := [
  (18, [(0, .aload_n 0, 1, false, 0, []), (1, .getfield 24, 3, false, 0, [1, 2, 0, 78]), (4, .bipush 12, 2, false, 0, []), (6, .if_icmp .lt 4, 3, false, 0, [10]), (9, .return_, 1, false, 0, []), (10, .aload_n 0, 1, false, 0, []), (11, .iload_n 1, 1, false, 0, []), (12, .invokevirtual 46, 3, false, 0, [0, 7, 1, 351, 352, 353, 1]), (15, .iload_n 2, 1, false, 0, []), (16, .aload_n 0, 1, false, 0, []), (17, .iload_n 3, 1, false, 0, []), (18, .invokevirtual 46, 3, false, 0, [0, 7, 1, 351, 352, 353, 1])]),
  (41, [(21, .iload 4, 2, false, 0, []), (23, .invokestatic 49, 3, false, 0, [2, 102, 4, 355, 356]), (26, .istore 5, 2, false, 0, []), (28, .aload_n 0, 1, false, 0, []), (29, .iload_n 1, 1, false, 0, []), (30, .iload_n 3, 1, false, 0, []), (31, .invokevirtual 53, 3, false, 0, [0, 9, 2, 361, 362, 363, 1]), (34, .istore 6, 2, false, 0, []), (36, .aload_n 0, 1, false, 0, []), (37, .dup, 1, false, 0, []), (38, .getfield 24, 3, false, 0, [1, 2, 0, 78]), (41, .iconst 1, 1, false, 0, [])]),
  (62, [(42, .iadd, 1, false, 0, []), (43, .putfield 24, 3, false, 0, [1, 2, 0, 78]), (46, .aload_n 0, 1, false, 0, []), (47, .getfield 13, 3, false, 0, [1, 0, 2, 73]), (50, .iconst 0, 1, false, 0, []), (51, .aaload, 1, false, 0, []), (52, .aload_n 0, 1, false, 0, []), (53, .getfield 24, 3, false, 0, [1, 2, 0, 78]), (56, .iload 5, 2, false, 0, []), (58, .invokestatic 56, 3, false, 0, [2, 101, 1, 376, 377]), (61, .iastore, 1, false, 0, []), (62, .aload_n 0, 1, false, 0, [])]),
  (81, [(63, .getfield 13, 3, false, 0, [1, 0, 2, 73]), (66, .iconst 1, 1, false, 0, []), (67, .aaload, 1, false, 0, []), (68, .aload_n 0, 1, false, 0, []), (69, .getfield 24, 3, false, 0, [1, 2, 0, 78]), (72, .iload 6, 2, false, 0, []), (74, .iastore, 1, false, 0, []), (75, .aload_n 0, 1, false, 0, []), (76, .getfield 13, 3, false, 0, [1, 0, 2, 73]), (79, .iconst 2, 1, false, 0, []), (80, .aaload, 1, false, 0, []), (81, .aload_n 0, 1, false, 0, [])]),
  (99, [(82, .getfield 24, 3, false, 0, [1, 2, 0, 78]), (85, .iload_n 1, 1, false, 0, []), (86, .iastore, 1, false, 0, []), (87, .aload_n 0, 1, false, 0, []), (88, .getfield 13, 3, false, 0, [1, 0, 2, 73]), (91, .iconst 3, 1, false, 0, []), (92, .aaload, 1, false, 0, []), (93, .aload_n 0, 1, false, 0, []), (94, .getfield 24, 3, false, 0, [1, 2, 0, 78]), (97, .iload_n 3, 1, false, 0, []), (98, .iastore, 1, false, 0, []), (99, .aload_n 0, 1, false, 0, [])]),
  (117, [(100, .getfield 13, 3, false, 0, [1, 0, 2, 73]), (103, .iconst 4, 1, false, 0, []), (104, .aaload, 1, false, 0, []), (105, .aload_n 0, 1, false, 0, []), (106, .getfield 24, 3, false, 0, [1, 2, 0, 78]), (109, .iload_n 2, 1, false, 0, []), (110, .iastore, 1, false, 0, []), (111, .aload_n 0, 1, false, 0, []), (112, .getfield 13, 3, false, 0, [1, 0, 2, 73]), (115, .iconst 5, 1, false, 0, []), (116, .aaload, 1, false, 0, []), (117, .aload_n 0, 1, false, 0, [])]),
  (140, [(118, .getfield 24, 3, false, 0, [1, 2, 0, 78]), (121, .iload 4, 2, false, 0, []), (123, .iastore, 1, false, 0, []), (124, .aload_n 0, 1, false, 0, []), (125, .getfield 13, 3, false, 0, [1, 0, 2, 73]), (128, .bipush 6, 2, false, 0, []), (130, .aaload, 1, false, 0, []), (131, .aload_n 0, 1, false, 0, []), (132, .getfield 24, 3, false, 0, [1, 2, 0, 78]), (135, .iload 5, 2, false, 0, []), (137, .invokestatic 59, 3, false, 0, [2, 100, 1, 382, 380]), (140, .iastore, 1, false, 0, [])]),
  (141, [(141, .return_, 1, false, 0, [])])]
def iX1_append : MI := (yX1_append, cX1_append, 7, none, 0, 0, 2, 375, 45)
abbrev mX1_append : Nat := 11
def bX1_append_ : BK := [
  (20, [(0, .aload_n 0, 1, false, 0, []), (1, .iload_n 1, 1, false, 0, []), (2, .invokestatic 62, 3, false, 0, [1, 67, 1, 593, 536]), (5, .iload_n 1, 1, false, 0, []), (6, .invokestatic 67, 3, false, 0, [1, 69, 1, 594, 542]), (9, .iload_n 1, 1, false, 0, []), (10, .invokestatic 70, 3, false, 0, [1, 68, 1, 595, 539]), (13, .iload_n 1, 1, false, 0, []), (14, .invokestatic 73, 3, false, 0, [1, 70, 1, 596, 545]), (17, .invokevirtual 76, 3, false, 0, [0, 11, 4, 597, 373, 374, 1]), (20, .return_, 1, false, 0, [])])]
def iX1_append_ : MI := (yX1_append_, cX1_append_, 2, none, 0, 0, 3, 592, 45)
abbrev mX1_append_ : Nat := 12
def bX1_hasValue : BK := [
  (17, [(0, .iconst 0, 1, false, 0, []), (1, .istore_n 2, 1, false, 0, []), (2, .iload_n 2, 1, true, 0, []), (3, .aload_n 0, 1, false, 0, []), (4, .getfield 24, 3, false, 0, [1, 2, 0, 78]), (7, .if_icmp .gt 23, 3, false, 0, [30]), (10, .aload_n 0, 1, false, 0, []), (11, .getfield 13, 3, false, 0, [1, 0, 2, 73]), (14, .iconst 0, 1, false, 0, []), (15, .aaload, 1, false, 0, []), (16, .iload_n 2, 1, false, 0, []), (17, .iaload, 1, false, 0, [])]),
  (31, [(18, .iload_n 1, 1, false, 0, []), (19, .if_icmp .ne 5, 3, false, 0, [24]), (22, .iconst 1, 1, false, 0, []), (23, .ireturn, 1, false, 0, []), (24, .iinc 2 1, 3, false, 0, []), (27, .goto (-25), 3, false, 0, [2]), (30, .iconst 0, 1, false, 0, []), (31, .ireturn, 1, false, 0, [])])]
def iX1_hasValue : MI := (yX1_hasValue, cX1_hasValue, 3, (some .boolean), 0, 0, 0, 425, 45)
abbrev mX1_hasValue : Nat := 13
def bX1_greatestDepth : BK := [
  (17, [(0, .iconst 0, 1, false, 0, []), (1, .istore_n 1, 1, false, 0, []), (2, .iconst 0, 1, false, 0, []), (3, .istore_n 2, 1, false, 0, []), (4, .iload_n 2, 1, true, 0, []), (5, .aload_n 0, 1, false, 0, []), (6, .getfield 24, 3, false, 0, [1, 2, 0, 78]), (9, .if_icmp .gt 22, 3, false, 0, [31]), (12, .iload_n 1, 1, false, 0, []), (13, .aload_n 0, 1, false, 0, []), (14, .getfield 13, 3, false, 0, [1, 0, 2, 73]), (17, .iconst 1, 1, false, 0, [])]),
  (32, [(18, .aaload, 1, false, 0, []), (19, .iload_n 2, 1, false, 0, []), (20, .iaload, 1, false, 0, []), (21, .invokestatic 40, 3, false, 0, [5, 0, 2, 369, 370, 371, 54]), (24, .istore_n 1, 1, false, 0, []), (25, .iinc 2 1, 3, false, 0, []), (28, .goto (-24), 3, false, 0, [4]), (31, .iload_n 1, 1, false, 0, []), (32, .ireturn, 1, false, 0, [])])]
def iX1_greatestDepth : MI := (yX1_greatestDepth, cX1_greatestDepth, 3, (some .int), 0, 0, 1, 460, 45)
abbrev mX1_greatestDepth : Nat := 14
def bX1_isMet : BK := [
  (8, [(0, .aload_n 0, 1, false, 0, []), (1, .iload_n 1, 1, false, 0, []), (2, .invokestatic 56, 3, false, 0, [2, 101, 1, 376, 377]), (5, .invokevirtual 80, 3, false, 0, [0, 13, 1, 422, 423, 424, 1]), (8, .ireturn, 1, false, 0, [])])]
def iX1_isMet : MI := (yX1_isMet, cX1_isMet, 2, (some .boolean), 0, 0, 2, 421, 45)
abbrev mX1_isMet : Nat := 15
def bX1_notMet : BK := [
  (17, [(0, .iconst 0, 1, false, 0, []), (1, .istore_n 1, 1, false, 0, []), (2, .iconst 0, 1, false, 0, []), (3, .istore_n 2, 1, false, 0, []), (4, .iload_n 2, 1, true, 0, []), (5, .aload_n 0, 1, false, 0, []), (6, .getfield 27, 3, false, 0, [1, 3, 0, 84]), (9, .if_icmp .ge 25, 3, false, 0, [34]), (12, .aload_n 0, 1, false, 0, []), (13, .aload_n 0, 1, false, 0, []), (14, .getfield 16, 3, false, 0, [1, 1, 2, 75]), (17, .iload_n 2, 1, false, 0, [])]),
  (35, [(18, .iaload, 1, false, 0, []), (19, .invokevirtual 84, 3, false, 0, [0, 15, 1, 618, 419, 420, 1]), (22, .ifCond .ne 6, 3, false, 0, [28]), (25, .iinc 1 1, 3, false, 0, []), (28, .iinc 2 1, 3, false, 0, []), (31, .goto (-27), 3, false, 0, [4]), (34, .iload_n 1, 1, false, 0, []), (35, .ireturn, 1, false, 0, [])])]
def iX1_notMet : MI := (yX1_notMet, cX1_notMet, 3, (some .int), 0, 0, 3, 617, 45)
abbrev mX1_notMet : Nat := 16
def bX1_placeOf : BK := [
  (17, [(0, .iconst 0, 1, false, 0, []), (1, .istore_n 2, 1, false, 0, []), (2, .iload_n 2, 1, true, 0, []), (3, .aload_n 0, 1, false, 0, []), (4, .getfield 27, 3, false, 0, [1, 3, 0, 84]), (7, .if_icmp .ge 21, 3, false, 0, [28]), (10, .aload_n 0, 1, false, 0, []), (11, .getfield 16, 3, false, 0, [1, 1, 2, 75]), (14, .iload_n 2, 1, false, 0, []), (15, .iaload, 1, false, 0, []), (16, .iload_n 1, 1, false, 0, []), (17, .if_icmp .ne 5, 3, false, 0, [22])]),
  (29, [(20, .iload_n 2, 1, false, 0, []), (21, .ireturn, 1, false, 0, []), (22, .iinc 2 1, 3, false, 0, []), (25, .goto (-23), 3, false, 0, [2]), (28, .iconst (-1), 1, false, 0, []), (29, .ireturn, 1, false, 0, [])])]
def iX1_placeOf : MI := (yX1_placeOf, cX1_placeOf, 3, (some .int), 0, 0, 0, 338, 45)
abbrev mX1_placeOf : Nat := 17
def bX1_wish : BK := [
  (20, [(0, .aload_n 0, 1, false, 0, []), (1, .getfield 27, 3, false, 0, [1, 3, 0, 84]), (4, .bipush 6, 2, false, 0, []), (6, .if_icmp .ge 23, 3, false, 0, [29]), (9, .aload_n 0, 1, false, 0, []), (10, .getfield 16, 3, false, 0, [1, 1, 2, 75]), (13, .aload_n 0, 1, false, 0, []), (14, .getfield 27, 3, false, 0, [1, 3, 0, 84]), (17, .iload_n 1, 1, false, 0, []), (18, .iastore, 1, false, 0, []), (19, .aload_n 0, 1, false, 0, []), (20, .dup, 1, false, 0, [])]),
  (29, [(21, .getfield 27, 3, false, 0, [1, 3, 0, 84]), (24, .iconst 1, 1, false, 0, []), (25, .iadd, 1, false, 0, []), (26, .putfield 27, 3, false, 0, [1, 3, 0, 84]), (29, .return_, 1, false, 0, [])])]
def iX1_wish : MI := (yX1_wish, cX1_wish, 2, none, 0, 0, 0, 342, 45)
abbrev mX1_wish : Nat := 18
def bX1_dropWish : BK := [
  (17, [(0, .aload_n 0, 1, false, 0, []), (1, .dup, 1, false, 0, []), (2, .getfield 27, 3, false, 0, [1, 3, 0, 84]), (5, .iconst 1, 1, false, 0, []), (6, .isub, 1, false, 0, []), (7, .putfield 27, 3, false, 0, [1, 3, 0, 84]), (10, .iload_n 1, 1, false, 0, []), (11, .istore_n 2, 1, false, 0, []), (12, .iload_n 2, 1, true, 0, []), (13, .aload_n 0, 1, false, 0, []), (14, .getfield 27, 3, false, 0, [1, 3, 0, 84]), (17, .if_icmp .ge 23, 3, false, 0, [40])]),
  (37, [(20, .aload_n 0, 1, false, 0, []), (21, .getfield 16, 3, false, 0, [1, 1, 2, 75]), (24, .iload_n 2, 1, false, 0, []), (25, .aload_n 0, 1, false, 0, []), (26, .getfield 16, 3, false, 0, [1, 1, 2, 75]), (29, .iload_n 2, 1, false, 0, []), (30, .iconst 1, 1, false, 0, []), (31, .iadd, 1, false, 0, []), (32, .iaload, 1, false, 0, []), (33, .iastore, 1, false, 0, []), (34, .iinc 2 1, 3, false, 0, []), (37, .goto (-25), 3, false, 0, [12])]),
  (40, [(40, .return_, 1, false, 0, [])])]
def iX1_dropWish : MI := (yX1_dropWish, cX1_dropWish, 3, none, 0, 0, 0, 452, 45)
abbrev mX1_dropWish : Nat := 19
def bX2_init : BK := [
  (21, [(0, .aload_n 0, 1, false, 0, []), (1, .invokespecial 3, 3, false, 0, [9, 0, 0, 136, 63, 64]), (4, .aload_n 0, 1, false, 0, []), (5, .bipush 10, 2, false, 0, []), (7, .anewarray 9, 3, false, 0, [137, 138]), (10, .putfield 11, 3, false, 0, [2, 0, 2, 140]), (13, .aload_n 0, 1, false, 0, []), (14, .bipush 9, 2, false, 0, []), (16, .putfield 17, 3, false, 0, [2, 1, 0, 141]), (19, .iconst 0, 1, false, 0, []), (20, .istore_n 1, 1, false, 0, []), (21, .iload_n 1, 1, true, 0, [])]),
  (46, [(22, .bipush 10, 2, false, 0, []), (24, .if_icmp .ge 22, 3, false, 0, [46]), (27, .aload_n 0, 1, false, 0, []), (28, .getfield 11, 3, false, 0, [2, 0, 2, 140]), (31, .iload_n 1, 1, false, 0, []), (32, .new 9, 3, false, 0, [1, 5, 137, 66, 45]), (35, .dup, 1, false, 0, []), (36, .invokespecial 21, 3, false, 0, [3, 3, 0, 139, 68]), (39, .aastore, 1, false, 0, []), (40, .iinc 1 1, 3, false, 0, []), (43, .goto (-22), 3, false, 0, [21]), (46, .return_, 1, false, 0, [])])]
def iX2_init : MI := (yX2_init, cX2_init, 2, none, 101, 1100, 2, 135, 47)
abbrev mX2_init : Nat := 20
def bX2_remember : BK := [
  (18, [(0, .aload_n 0, 1, false, 0, []), (1, .aload_n 0, 1, false, 0, []), (2, .getfield 17, 3, false, 0, [2, 1, 0, 141]), (5, .iconst 1, 1, false, 0, []), (6, .iadd, 1, false, 0, []), (7, .bipush 10, 2, false, 0, []), (9, .if_icmp .ge 12, 3, false, 0, [21]), (12, .aload_n 0, 1, false, 0, []), (13, .getfield 17, 3, false, 0, [2, 1, 0, 141]), (16, .iconst 1, 1, false, 0, []), (17, .iadd, 1, false, 0, []), (18, .goto 4, 3, false, 0, [22])]),
  (40, [(21, .iconst 0, 1, false, 0, []), (22, .putfield 17, 3, false, 0, [2, 1, 0, 141]), (25, .aload_n 0, 1, false, 0, []), (26, .getfield 11, 3, false, 0, [2, 0, 2, 140]), (29, .aload_n 0, 1, false, 0, []), (30, .getfield 17, 3, false, 0, [2, 1, 0, 141]), (33, .aaload, 1, false, 0, []), (34, .aload_n 1, 1, false, 0, []), (35, .invokevirtual 22, 3, false, 0, [0, 5, 1, 435, 384, 385, 1]), (38, .aload_n 0, 1, false, 0, []), (39, .aload_n 0, 1, false, 0, []), (40, .getfield 26, 3, false, 0, [2, 2, 0, 142])]),
  (53, [(43, .iconst 1, 1, false, 0, []), (44, .iadd, 1, false, 0, []), (45, .bipush 10, 2, false, 0, []), (47, .invokestatic 29, 3, false, 0, [6, 0, 2, 436, 313, 314, 54]), (50, .putfield 26, 3, false, 0, [2, 2, 0, 142]), (53, .return_, 1, false, 0, [])])]
def iX2_remember : MI := (yX2_remember, cX2_remember, 2, none, 0, 0, 2, 434, 47)
abbrev mX2_remember : Nat := 21
def bX2_restore : BK := [
  (21, [(0, .aload_n 0, 1, false, 0, []), (1, .getfield 26, 3, false, 0, [2, 2, 0, 142]), (4, .ifCond .le 48, 3, false, 0, [52]), (7, .aload_n 1, 1, false, 0, []), (8, .aload_n 0, 1, false, 0, []), (9, .getfield 11, 3, false, 0, [2, 0, 2, 140]), (12, .aload_n 0, 1, false, 0, []), (13, .getfield 17, 3, false, 0, [2, 1, 0, 141]), (16, .aaload, 1, false, 0, []), (17, .invokevirtual 22, 3, false, 0, [0, 5, 1, 435, 384, 385, 1]), (20, .aload_n 0, 1, false, 0, []), (21, .aload_n 0, 1, false, 0, [])]),
  (44, [(22, .getfield 17, 3, false, 0, [2, 1, 0, 141]), (25, .ifCond .le 12, 3, false, 0, [37]), (28, .aload_n 0, 1, false, 0, []), (29, .getfield 17, 3, false, 0, [2, 1, 0, 141]), (32, .iconst 1, 1, false, 0, []), (33, .isub, 1, false, 0, []), (34, .goto 5, 3, false, 0, [39]), (37, .bipush 9, 2, false, 0, []), (39, .putfield 17, 3, false, 0, [2, 1, 0, 141]), (42, .aload_n 0, 1, false, 0, []), (43, .dup, 1, false, 0, []), (44, .getfield 26, 3, false, 0, [2, 2, 0, 142])]),
  (52, [(47, .iconst 1, 1, false, 0, []), (48, .isub, 1, false, 0, []), (49, .putfield 26, 3, false, 0, [2, 2, 0, 142]), (52, .return_, 1, false, 0, [])])]
def iX2_restore : MI := (yX2_restore, cX2_restore, 2, none, 0, 0, 2, 468, 47)
abbrev mX2_restore : Nat := 22
def bX2_lose : BK := [
  (5, [(0, .aload_n 0, 1, false, 0, []), (1, .iconst 0, 1, false, 0, []), (2, .putfield 26, 3, false, 0, [2, 2, 0, 142]), (5, .return_, 1, false, 0, [])])]
def iX2_lose : MI := (yX2_lose, cX2_lose, 1, none, 0, 0, 0, 393, 47)
abbrev mX2_lose : Nat := 23
def bX3_init : BK := [
  (20, [(0, .aload_n 0, 1, false, 0, []), (1, .invokespecial 3, 3, false, 0, [9, 0, 0, 156, 63, 64]), (4, .aload_n 0, 1, false, 0, []), (5, .iconst 2, 1, false, 0, []), (6, .anewarray 9, 3, false, 0, [157, 138]), (9, .putfield 11, 3, false, 0, [3, 0, 2, 159]), (12, .aload_n 0, 1, false, 0, []), (13, .iconst 2, 1, false, 0, []), (14, .newarray .boolean, 2, false, 0, [168]), (16, .putfield 17, 3, false, 0, [3, 1, 2, 161]), (19, .iconst 0, 1, false, 0, []), (20, .istore_n 1, 1, false, 0, [])]),
  (42, [(21, .iload_n 1, 1, true, 0, []), (22, .iconst 2, 1, false, 0, []), (23, .if_icmp .ge 22, 3, false, 0, [45]), (26, .aload_n 0, 1, false, 0, []), (27, .getfield 11, 3, false, 0, [3, 0, 2, 159]), (30, .iload_n 1, 1, false, 0, []), (31, .new 9, 3, false, 0, [1, 5, 157, 66, 45]), (34, .dup, 1, false, 0, []), (35, .invokespecial 21, 3, false, 0, [3, 3, 0, 158, 68]), (38, .aastore, 1, false, 0, []), (39, .iinc 1 1, 3, false, 0, []), (42, .goto (-21), 3, false, 0, [21])]),
  (45, [(45, .return_, 1, false, 0, [])])]
def iX3_init : MI := (yX3_init, cX3_init, 2, none, 22, 222, 2, 155, 48)
abbrev mX3_init : Nat := 24
def bX3_put : BK := [
  (17, [(0, .aload_n 0, 1, false, 0, []), (1, .getfield 11, 3, false, 0, [3, 0, 2, 159]), (4, .iload_n 1, 1, false, 0, []), (5, .aaload, 1, false, 0, []), (6, .aload_n 2, 1, false, 0, []), (7, .invokevirtual 22, 3, false, 0, [0, 5, 1, 698, 384, 385, 1]), (10, .aload_n 0, 1, false, 0, []), (11, .getfield 17, 3, false, 0, [3, 1, 2, 161]), (14, .iload_n 1, 1, false, 0, []), (15, .iconst 1, 1, false, 0, []), (16, .bastore, 1, false, 0, []), (17, .return_, 1, false, 0, [])])]
def iX3_put : MI := (yX3_put, cX3_put, 3, none, 0, 0, 2, 697, 48)
abbrev mX3_put : Nat := 25
def bX3_lose : BK := [
  (17, [(0, .iconst 0, 1, false, 0, []), (1, .istore_n 1, 1, false, 0, []), (2, .iload_n 1, 1, true, 0, []), (3, .iconst 2, 1, false, 0, []), (4, .if_icmp .ge 16, 3, false, 0, [20]), (7, .aload_n 0, 1, false, 0, []), (8, .getfield 17, 3, false, 0, [3, 1, 2, 161]), (11, .iload_n 1, 1, false, 0, []), (12, .iconst 0, 1, false, 0, []), (13, .bastore, 1, false, 0, []), (14, .iinc 1 1, 3, false, 0, []), (17, .goto (-15), 3, false, 0, [2])]),
  (20, [(20, .return_, 1, false, 0, [])])]
def iX3_lose : MI := (yX3_lose, cX3_lose, 2, none, 0, 0, 0, 397, 48)
abbrev mX3_lose : Nat := 26
def bX4_init : BK := [
  (22, [(0, .aload_n 0, 1, false, 0, []), (1, .invokespecial 3, 3, false, 0, [9, 0, 0, 194, 63, 64]), (4, .aload_n 0, 1, false, 0, []), (5, .sipush 512, 3, false, 0, []), (8, .newarray .int, 2, false, 0, [104]), (10, .putfield 9, 3, false, 0, [4, 0, 2, 195]), (13, .aload_n 0, 1, false, 0, []), (14, .sipush 512, 3, false, 0, []), (17, .newarray .int, 2, false, 0, [104]), (19, .putfield 15, 3, false, 0, [4, 1, 2, 196]), (22, .return_, 1, false, 0, [])])]
def iX4_init : MI := (yX4_init, cX4_init, 1, none, 2, 1024, 1, 193, 50)
abbrev mX4_init : Nat := 27
def bX4_build : BK := [
  (19, [(0, .iconst 0, 1, false, 0, []), (1, .istore_n 2, 1, false, 0, []), (2, .iload_n 2, 1, true, 0, []), (3, .sipush 512, 3, false, 0, []), (6, .if_icmp .ge 16, 3, false, 0, [22]), (9, .aload_n 0, 1, false, 0, []), (10, .getfield 9, 3, false, 0, [4, 0, 2, 195]), (13, .iload_n 2, 1, false, 0, []), (14, .iconst (-1), 1, false, 0, []), (15, .iastore, 1, false, 0, []), (16, .iinc 2 1, 3, false, 0, []), (19, .goto (-17), 3, false, 0, [2])]),
  (41, [(22, .iconst 0, 1, false, 0, []), (23, .istore_n 2, 1, false, 0, []), (24, .iload_n 2, 1, true, 0, []), (25, .aload_n 1, 1, false, 0, []), (26, .getfield 18, 3, false, 0, [1, 2, 0, 80]), (29, .if_icmp .gt 15, 3, false, 0, [44]), (32, .aload_n 0, 1, false, 0, []), (33, .aload_n 1, 1, false, 0, []), (34, .iload_n 2, 1, false, 0, []), (35, .invokevirtual 24, 3, false, 0, [0, 30, 2, 492, 493, 494, 4]), (38, .iinc 2 1, 3, false, 0, []), (41, .goto (-17), 3, false, 0, [24])]),
  (44, [(44, .return_, 1, false, 0, [])])]
def iX4_build : MI := (yX4_build, cX4_build, 3, none, 0, 0, 4, 491, 50)
abbrev mX4_build : Nat := 28
def bX4_copy : BK := [
  (21, [(0, .aload_n 1, 1, false, 0, []), (1, .getfield 9, 3, false, 0, [4, 0, 2, 195]), (4, .iconst 0, 1, false, 0, []), (5, .aload_n 0, 1, false, 0, []), (6, .getfield 9, 3, false, 0, [4, 0, 2, 195]), (9, .iconst 0, 1, false, 0, []), (10, .sipush 512, 3, false, 0, []), (13, .invokestatic 28, 3, false, 0, [8, 0, 5, 602, 388, 389, 55]), (16, .aload_n 1, 1, false, 0, []), (17, .getfield 15, 3, false, 0, [4, 1, 2, 196]), (20, .iconst 0, 1, false, 0, []), (21, .aload_n 0, 1, false, 0, [])]),
  (32, [(22, .getfield 15, 3, false, 0, [4, 1, 2, 196]), (25, .iconst 0, 1, false, 0, []), (26, .sipush 512, 3, false, 0, []), (29, .invokestatic 28, 3, false, 0, [8, 0, 5, 602, 388, 389, 55]), (32, .return_, 1, false, 0, [])])]
def iX4_copy : MI := (yX4_copy, cX4_copy, 2, none, 0, 0, 1, 601, 50)
abbrev mX4_copy : Nat := 29
def bX4_widen : BK := [
  (19, [(0, .aload_n 1, 1, false, 0, []), (1, .iload_n 2, 1, false, 0, []), (2, .invokevirtual 34, 3, false, 0, [0, 7, 1, 496, 352, 353, 1]), (5, .istore_n 3, 1, false, 0, []), (6, .iload_n 3, 1, false, 0, []), (7, .invokestatic 38, 3, false, 0, [2, 99, 1, 497, 498]), (10, .ifCond .ne 4, 3, false, 0, [14]), (13, .return_, 1, false, 0, []), (14, .aload_n 0, 1, false, 0, []), (15, .getfield 9, 3, false, 0, [4, 0, 2, 195]), (18, .iload_n 3, 1, false, 0, []), (19, .iconst 1, 1, false, 0, [])]),
  (37, [(20, .ishr, 1, false, 0, []), (21, .bipush (-2), 2, false, 0, []), (23, .iastore, 1, false, 0, []), (24, .iconst 0, 1, false, 0, []), (25, .istore 4, 2, false, 0, []), (27, .iload 4, 2, true, 0, []), (29, .iload_n 2, 1, false, 0, []), (30, .if_icmp .gt 17, 3, false, 0, [47]), (33, .aload_n 0, 1, false, 0, []), (34, .aload_n 1, 1, false, 0, []), (35, .iload 4, 2, false, 0, []), (37, .iload_n 2, 1, false, 0, [])]),
  (47, [(38, .invokevirtual 42, 3, false, 0, [0, 31, 3, 500, 502, 9, 4]), (41, .iinc 4 1, 3, false, 0, []), (44, .goto (-17), 3, false, 0, [27]), (47, .return_, 1, false, 0, [])])]
def iX4_widen : MI := (yX4_widen, cX4_widen, 5, none, 0, 0, 3, 495, 50)
abbrev mX4_widen : Nat := 30
def bX4_offerAll : BK := [
  (19, [(0, .aload_n 1, 1, false, 0, []), (1, .iload_n 2, 1, false, 0, []), (2, .iload_n 3, 1, false, 0, []), (3, .invokevirtual 46, 3, false, 0, [0, 9, 2, 504, 362, 363, 1]), (6, .istore 4, 2, false, 0, []), (8, .iload 4, 2, false, 0, []), (10, .aload_n 1, 1, false, 0, []), (11, .getfield 50, 3, false, 0, [1, 4, 0, 90]), (14, .if_icmp .le 4, 3, false, 0, [18]), (17, .return_, 1, false, 0, []), (18, .aload_n 1, 1, false, 0, []), (19, .iload_n 2, 1, false, 0, [])]),
  (42, [(20, .invokevirtual 34, 3, false, 0, [0, 7, 1, 496, 352, 353, 1]), (23, .istore 5, 2, false, 0, []), (25, .aload_n 1, 1, false, 0, []), (26, .iload_n 3, 1, false, 0, []), (27, .invokevirtual 34, 3, false, 0, [0, 7, 1, 496, 352, 353, 1]), (30, .istore 6, 2, false, 0, []), (32, .iconst 0, 1, false, 0, []), (33, .istore 7, 2, false, 0, []), (35, .iload 7, 2, true, 0, []), (37, .bipush 9, 2, false, 0, []), (39, .if_icmp .gt 70, 3, false, 0, [109]), (42, .iconst 0, 1, false, 0, [])]),
  (66, [(43, .istore 8, 2, false, 0, []), (45, .iload 8, 2, true, 0, []), (47, .iconst 4, 1, false, 0, []), (48, .if_icmp .ge 55, 3, false, 0, [103]), (51, .iload 5, 2, false, 0, []), (53, .iload 7, 2, false, 0, []), (55, .iload 6, 2, false, 0, []), (57, .iload 8, 2, false, 0, []), (59, .invokestatic 53, 3, false, 0, [2, 102, 4, 505, 356]), (62, .istore 9, 2, false, 0, []), (64, .iload 9, 2, false, 0, []), (66, .ifCond .eq 31, 3, false, 0, [97])]),
  (92, [(69, .iload 9, 2, false, 0, []), (71, .sipush 1023, 3, false, 0, []), (74, .if_icmp .gt 23, 3, false, 0, [97]), (77, .aload_n 0, 1, false, 0, []), (78, .iload 9, 2, false, 0, []), (80, .invokestatic 57, 3, false, 0, [2, 101, 1, 506, 377]), (83, .iload_n 2, 1, false, 0, []), (84, .iload_n 3, 1, false, 0, []), (85, .iload 7, 2, false, 0, []), (87, .iload 8, 2, false, 0, []), (89, .invokestatic 60, 3, false, 0, [1, 66, 4, 507, 508]), (92, .iload 4, 2, false, 0, [])]),
  (109, [(94, .invokevirtual 65, 3, false, 0, [0, 32, 3, 510, 512, 10, 4]), (97, .iinc 8 1, 3, false, 0, []), (100, .goto (-55), 3, false, 0, [45]), (103, .iinc 7 1, 3, false, 0, []), (106, .goto (-71), 3, false, 0, [35]), (109, .return_, 1, false, 0, [])])]
def iX4_offerAll : MI := (yX4_offerAll, cX4_offerAll, 10, none, 0, 0, 2, 503, 50)
abbrev mX4_offerAll : Nat := 31
def bX4_offer : BK := [
  (17, [(0, .iload_n 1, 1, false, 0, []), (1, .iconst 1, 1, false, 0, []), (2, .ishr, 1, false, 0, []), (3, .istore 4, 2, false, 0, []), (5, .aload_n 0, 1, false, 0, []), (6, .getfield 9, 3, false, 0, [4, 0, 2, 195]), (9, .iload 4, 2, false, 0, []), (11, .iaload, 1, false, 0, []), (12, .iconst (-1), 1, false, 0, []), (13, .if_icmp .eq 14, 3, false, 0, [27]), (16, .aload_n 0, 1, false, 0, []), (17, .getfield 9, 3, false, 0, [4, 0, 2, 195])]),
  (39, [(20, .iload 4, 2, false, 0, []), (22, .iaload, 1, false, 0, []), (23, .iload_n 2, 1, false, 0, []), (24, .if_icmp .le 19, 3, false, 0, [43]), (27, .aload_n 0, 1, false, 0, []), (28, .getfield 9, 3, false, 0, [4, 0, 2, 195]), (31, .iload 4, 2, false, 0, []), (33, .iload_n 2, 1, false, 0, []), (34, .iastore, 1, false, 0, []), (35, .aload_n 0, 1, false, 0, []), (36, .getfield 15, 3, false, 0, [4, 1, 2, 196]), (39, .iload 4, 2, false, 0, [])]),
  (43, [(41, .iload_n 3, 1, false, 0, []), (42, .iastore, 1, false, 0, []), (43, .return_, 1, false, 0, [])])]
def iX4_offer : MI := (yX4_offer, cX4_offer, 5, none, 0, 0, 0, 513, 50)
abbrev mX4_offer : Nat := 32
def bX4_way : BK := [
  (19, [(0, .iload_n 1, 1, false, 0, []), (1, .invokestatic 38, 3, false, 0, [2, 99, 1, 497, 498]), (4, .ifCond .eq 14, 3, false, 0, [18]), (7, .aload_n 0, 1, false, 0, []), (8, .getfield 9, 3, false, 0, [4, 0, 2, 195]), (11, .iload_n 1, 1, false, 0, []), (12, .iconst 1, 1, false, 0, []), (13, .ishr, 1, false, 0, []), (14, .iaload, 1, false, 0, []), (15, .goto 4, 3, false, 0, [19]), (18, .iconst (-1), 1, false, 0, []), (19, .ireturn, 1, false, 0, [])])]
def iX4_way : MI := (yX4_way, cX4_way, 2, (some .int), 0, 0, 1, 534, 50)
abbrev mX4_way : Nat := 33
def bX4_has : BK := [
  (19, [(0, .iload_n 1, 1, false, 0, []), (1, .invokestatic 38, 3, false, 0, [2, 99, 1, 497, 498]), (4, .ifCond .eq 18, 3, false, 0, [22]), (7, .aload_n 0, 1, false, 0, []), (8, .getfield 9, 3, false, 0, [4, 0, 2, 195]), (11, .iload_n 1, 1, false, 0, []), (12, .iconst 1, 1, false, 0, []), (13, .ishr, 1, false, 0, []), (14, .iaload, 1, false, 0, []), (15, .ifCond .lt 7, 3, false, 0, [22]), (18, .iconst 1, 1, false, 0, []), (19, .goto 4, 3, false, 0, [23])]),
  (23, [(22, .iconst 0, 1, false, 0, []), (23, .ireturn, 1, false, 0, [])])]
def iX4_has : MI := (yX4_has, cX4_has, 2, (some .boolean), 0, 0, 1, 521, 50)
abbrev mX4_has : Nat := 34
def bX4_howManyAbove : BK := [
  (17, [(0, .iconst 0, 1, false, 0, []), (1, .istore_n 2, 1, false, 0, []), (2, .iconst 1, 1, false, 0, []), (3, .istore_n 3, 1, false, 0, []), (4, .iload_n 3, 1, true, 0, []), (5, .sipush 1023, 3, false, 0, []), (8, .if_icmp .gt 25, 3, false, 0, [33]), (11, .iload_n 3, 1, false, 0, []), (12, .iload_n 1, 1, false, 0, []), (13, .if_icmp .le 14, 3, false, 0, [27]), (16, .aload_n 0, 1, false, 0, []), (17, .iload_n 3, 1, false, 0, [])]),
  (34, [(18, .invokevirtual 69, 3, false, 0, [0, 34, 1, 518, 519, 520, 4]), (21, .ifCond .eq 6, 3, false, 0, [27]), (24, .iinc 2 1, 3, false, 0, []), (27, .iinc 3 2, 3, false, 0, []), (30, .goto (-26), 3, false, 0, [4]), (33, .iload_n 2, 1, false, 0, []), (34, .ireturn, 1, false, 0, [])])]
def iX4_howManyAbove : MI := (yX4_howManyAbove, cX4_howManyAbove, 4, (some .int), 0, 0, 2, 517, 50)
abbrev mX4_howManyAbove : Nat := 35
def bX4_leastAbove : BK := [
  (19, [(0, .iconst 1, 1, false, 0, []), (1, .istore_n 2, 1, false, 0, []), (2, .iload_n 2, 1, true, 0, []), (3, .sipush 1023, 3, false, 0, []), (6, .if_icmp .gt 24, 3, false, 0, [30]), (9, .iload_n 2, 1, false, 0, []), (10, .iload_n 1, 1, false, 0, []), (11, .if_icmp .le 13, 3, false, 0, [24]), (14, .aload_n 0, 1, false, 0, []), (15, .iload_n 2, 1, false, 0, []), (16, .invokevirtual 69, 3, false, 0, [0, 34, 1, 518, 519, 520, 4]), (19, .ifCond .eq 5, 3, false, 0, [24])]),
  (32, [(22, .iload_n 2, 1, false, 0, []), (23, .ireturn, 1, false, 0, []), (24, .iinc 2 2, 3, false, 0, []), (27, .goto (-25), 3, false, 0, [2]), (30, .bipush (-9), 2, false, 0, []), (32, .ireturn, 1, false, 0, [])])]
def iX4_leastAbove : MI := (yX4_leastAbove, cX4_leastAbove, 3, (some .int), 0, 0, 2, 525, 50)
abbrev mX4_leastAbove : Nat := 36
def bX4_bridge : BK := [
  (19, [(0, .aload_n 0, 1, false, 0, []), (1, .iload_n 2, 1, false, 0, []), (2, .invokevirtual 72, 3, false, 0, [0, 33, 1, 555, 532, 533, 4]), (5, .iconst (-1), 1, false, 0, []), (6, .if_icmp .eq 6, 3, false, 0, [12]), (9, .bipush (-9), 2, false, 0, []), (11, .ireturn, 1, false, 0, []), (12, .sipush 1024, 3, false, 0, []), (15, .istore_n 3, 1, false, 0, []), (16, .iconst 0, 1, false, 0, []), (17, .istore 4, 2, false, 0, []), (19, .iload 4, 2, true, 0, [])]),
  (42, [(21, .bipush 9, 2, false, 0, []), (23, .if_icmp .gt 92, 3, false, 0, [115]), (26, .iload_n 2, 1, false, 0, []), (27, .iload 4, 2, false, 0, []), (29, .ishl, 1, false, 0, []), (30, .sipush 1023, 3, false, 0, []), (33, .if_icmp .gt 82, 3, false, 0, [115]), (36, .iload_n 2, 1, false, 0, []), (37, .iload 4, 2, false, 0, []), (39, .ishl, 1, false, 0, []), (40, .istore 5, 2, false, 0, []), (42, .iload_n 3, 1, false, 0, [])]),
  (63, [(43, .aload_n 0, 1, false, 0, []), (44, .iload 5, 2, false, 0, []), (46, .aload_n 1, 1, false, 0, []), (47, .getfield 50, 3, false, 0, [1, 4, 0, 90]), (50, .invokevirtual 75, 3, false, 0, [0, 38, 2, 556, 558, 11, 4]), (53, .invokestatic 78, 3, false, 0, [6, 0, 2, 564, 313, 314, 54]), (56, .istore_n 3, 1, false, 0, []), (57, .iconst 0, 1, false, 0, []), (58, .istore 6, 2, false, 0, []), (60, .iload 6, 2, true, 0, []), (62, .aload_n 1, 1, false, 0, []), (63, .getfield 18, 3, false, 0, [1, 2, 0, 80])]),
  (87, [(66, .if_icmp .gt 43, 3, false, 0, [109]), (69, .aload_n 1, 1, false, 0, []), (70, .iload 6, 2, false, 0, []), (72, .invokevirtual 83, 3, false, 0, [0, 8, 1, 565, 366, 367, 1]), (75, .aload_n 1, 1, false, 0, []), (76, .getfield 50, 3, false, 0, [1, 4, 0, 90]), (79, .if_icmp .ge 24, 3, false, 0, [103]), (82, .iload_n 3, 1, false, 0, []), (83, .aload_n 0, 1, false, 0, []), (84, .iload 5, 2, false, 0, []), (86, .aload_n 1, 1, false, 0, []), (87, .iload 6, 2, false, 0, [])]),
  (116, [(89, .invokevirtual 34, 3, false, 0, [0, 7, 1, 496, 352, 353, 1]), (92, .aload_n 1, 1, false, 0, []), (93, .getfield 50, 3, false, 0, [1, 4, 0, 90]), (96, .invokevirtual 86, 3, false, 0, [0, 39, 3, 566, 568, 13, 4]), (99, .invokestatic 78, 3, false, 0, [6, 0, 2, 564, 313, 314, 54]), (102, .istore_n 3, 1, false, 0, []), (103, .iinc 6 1, 3, false, 0, []), (106, .goto (-46), 3, false, 0, [60]), (109, .iinc 4 1, 3, false, 0, []), (112, .goto (-93), 3, false, 0, [19]), (115, .iload_n 3, 1, false, 0, []), (116, .sipush 1024, 3, false, 0, [])]),
  (128, [(119, .if_icmp .ne 8, 3, false, 0, [127]), (122, .bipush (-9), 2, false, 0, []), (124, .goto 4, 3, false, 0, [128]), (127, .iload_n 3, 1, false, 0, []), (128, .ireturn, 1, false, 0, [])])]
def iX4_bridge : MI := (yX4_bridge, cX4_bridge, 7, (some .int), 0, 0, 3, 554, 50)
abbrev mX4_bridge : Nat := 37
def bX4_bridgeAlone : BK := [
  (19, [(0, .sipush 1024, 3, false, 0, []), (3, .istore_n 3, 1, false, 0, []), (4, .iconst 1, 1, false, 0, []), (5, .istore 4, 2, false, 0, []), (7, .iload 4, 2, true, 0, []), (9, .bipush 9, 2, false, 0, []), (11, .if_icmp .gt 67, 3, false, 0, [78]), (14, .iconst 1, 1, false, 0, []), (15, .iload 4, 2, false, 0, []), (17, .ishl, 1, false, 0, []), (18, .iconst 1, 1, false, 0, []), (19, .iadd, 1, false, 0, [])]),
  (37, [(20, .istore 5, 2, false, 0, []), (22, .iconst 1, 1, false, 0, []), (23, .iload 4, 2, false, 0, []), (25, .ishl, 1, false, 0, []), (26, .iconst 1, 1, false, 0, []), (27, .isub, 1, false, 0, []), (28, .istore 6, 2, false, 0, []), (30, .iload_n 1, 1, false, 0, []), (31, .iload 5, 2, false, 0, []), (33, .irem, 1, false, 0, []), (34, .ifCond .ne 17, 3, false, 0, [51]), (37, .iload_n 3, 1, false, 0, [])]),
  (55, [(38, .aload_n 0, 1, false, 0, []), (39, .iload_n 1, 1, false, 0, []), (40, .iload 5, 2, false, 0, []), (42, .idiv, 1, false, 0, []), (43, .iload_n 2, 1, false, 0, []), (44, .invokevirtual 90, 3, false, 0, [0, 40, 2, 560, 562, 12, 4]), (47, .invokestatic 78, 3, false, 0, [6, 0, 2, 564, 313, 314, 54]), (50, .istore_n 3, 1, false, 0, []), (51, .iload_n 1, 1, false, 0, []), (52, .iload 6, 2, false, 0, []), (54, .irem, 1, false, 0, []), (55, .ifCond .ne 17, 3, false, 0, [72])]),
  (78, [(58, .iload_n 3, 1, false, 0, []), (59, .aload_n 0, 1, false, 0, []), (60, .iload_n 1, 1, false, 0, []), (61, .iload 6, 2, false, 0, []), (63, .idiv, 1, false, 0, []), (64, .iload_n 2, 1, false, 0, []), (65, .invokevirtual 90, 3, false, 0, [0, 40, 2, 560, 562, 12, 4]), (68, .invokestatic 78, 3, false, 0, [6, 0, 2, 564, 313, 314, 54]), (71, .istore_n 3, 1, false, 0, []), (72, .iinc 4 1, 3, false, 0, []), (75, .goto (-68), 3, false, 0, [7]), (78, .iload_n 3, 1, false, 0, [])]),
  (79, [(79, .ireturn, 1, false, 0, [])])]
def iX4_bridgeAlone : MI := (yX4_bridgeAlone, cX4_bridgeAlone, 7, (some .int), 0, 0, 2, 559, 50)
abbrev mX4_bridgeAlone : Nat := 38
def bX4_bridgeWith : BK := [
  (17, [(0, .aload_n 0, 1, false, 0, []), (1, .iload_n 1, 1, false, 0, []), (2, .iload_n 2, 1, false, 0, []), (3, .iadd, 1, false, 0, []), (4, .invokestatic 57, 3, false, 0, [2, 101, 1, 506, 377]), (7, .iload_n 3, 1, false, 0, []), (8, .invokevirtual 90, 3, false, 0, [0, 40, 2, 560, 562, 12, 4]), (11, .istore 4, 2, false, 0, []), (13, .iload 4, 2, false, 0, []), (15, .aload_n 0, 1, false, 0, []), (16, .iload_n 1, 1, false, 0, []), (17, .iload_n 2, 1, false, 0, [])]),
  (41, [(18, .isub, 1, false, 0, []), (19, .invokestatic 93, 3, false, 0, [7, 0, 1, 570, 359, 360, 54]), (22, .invokestatic 57, 3, false, 0, [2, 101, 1, 506, 377]), (25, .iload_n 3, 1, false, 0, []), (26, .invokevirtual 90, 3, false, 0, [0, 40, 2, 560, 562, 12, 4]), (29, .invokestatic 78, 3, false, 0, [6, 0, 2, 564, 313, 314, 54]), (32, .istore 4, 2, false, 0, []), (34, .iconst 0, 1, false, 0, []), (35, .istore 5, 2, false, 0, []), (37, .iload 5, 2, true, 0, []), (39, .bipush 9, 2, false, 0, []), (41, .if_icmp .gt 50, 3, false, 0, [91])]),
  (61, [(44, .iload_n 2, 1, false, 0, []), (45, .iload 5, 2, false, 0, []), (47, .ishl, 1, false, 0, []), (48, .istore 6, 2, false, 0, []), (50, .iload 4, 2, false, 0, []), (52, .aload_n 0, 1, false, 0, []), (53, .iload_n 1, 1, false, 0, []), (54, .iload 6, 2, false, 0, []), (56, .iadd, 1, false, 0, []), (57, .iload_n 3, 1, false, 0, []), (58, .invokevirtual 90, 3, false, 0, [0, 40, 2, 560, 562, 12, 4]), (61, .invokestatic 78, 3, false, 0, [6, 0, 2, 564, 313, 314, 54])]),
  (85, [(64, .istore 4, 2, false, 0, []), (66, .iload 4, 2, false, 0, []), (68, .aload_n 0, 1, false, 0, []), (69, .iload_n 1, 1, false, 0, []), (70, .iload 6, 2, false, 0, []), (72, .isub, 1, false, 0, []), (73, .invokestatic 93, 3, false, 0, [7, 0, 1, 570, 359, 360, 54]), (76, .iload_n 3, 1, false, 0, []), (77, .invokevirtual 90, 3, false, 0, [0, 40, 2, 560, 562, 12, 4]), (80, .invokestatic 78, 3, false, 0, [6, 0, 2, 564, 313, 314, 54]), (83, .istore 4, 2, false, 0, []), (85, .iinc 5 1, 3, false, 0, [])]),
  (93, [(88, .goto (-51), 3, false, 0, [37]), (91, .iload 4, 2, false, 0, []), (93, .ireturn, 1, false, 0, [])])]
def iX4_bridgeWith : MI := (yX4_bridgeWith, cX4_bridgeWith, 7, (some .int), 0, 0, 2, 569, 50)
abbrev mX4_bridgeWith : Nat := 39
def bX4_usable : BK := [
  (19, [(0, .iload_n 1, 1, false, 0, []), (1, .invokestatic 38, 3, false, 0, [2, 99, 1, 497, 498]), (4, .ifCond .ne 7, 3, false, 0, [11]), (7, .sipush 1024, 3, false, 0, []), (10, .ireturn, 1, false, 0, []), (11, .iload_n 1, 1, false, 0, []), (12, .iconst 1, 1, false, 0, []), (13, .ishr, 1, false, 0, []), (14, .istore_n 3, 1, false, 0, []), (15, .aload_n 0, 1, false, 0, []), (16, .getfield 9, 3, false, 0, [4, 0, 2, 195]), (19, .iload_n 3, 1, false, 0, [])]),
  (41, [(20, .iaload, 1, false, 0, []), (21, .ifCond .lt 17, 3, false, 0, [38]), (24, .aload_n 0, 1, false, 0, []), (25, .getfield 15, 3, false, 0, [4, 1, 2, 196]), (28, .iload_n 3, 1, false, 0, []), (29, .iaload, 1, false, 0, []), (30, .iload_n 2, 1, false, 0, []), (31, .if_icmp .ge 7, 3, false, 0, [38]), (34, .iload_n 1, 1, false, 0, []), (35, .goto 6, 3, false, 0, [41]), (38, .sipush 1024, 3, false, 0, []), (41, .ireturn, 1, false, 0, [])])]
def iX4_usable : MI := (yX4_usable, cX4_usable, 4, (some .int), 0, 0, 1, 563, 50)
abbrev mX4_usable : Nat := 40
def bX5_init : BK := [
  (23, [(0, .aload_n 0, 1, false, 0, []), (1, .invokespecial 3, 3, false, 0, [9, 0, 0, 207, 63, 64]), (4, .aload_n 0, 1, false, 0, []), (5, .new 9, 3, false, 0, [1, 5, 208, 66, 45]), (8, .dup, 1, false, 0, []), (9, .invokespecial 11, 3, false, 0, [3, 3, 0, 209, 68]), (12, .putfield 12, 3, false, 0, [5, 0, 2, 212]), (15, .aload_n 0, 1, false, 0, []), (16, .new 18, 3, false, 0, [4, 2, 210, 190, 50]), (19, .dup, 1, false, 0, []), (20, .invokespecial 20, 3, false, 0, [4, 27, 0, 211, 192]), (23, .putfield 21, 3, false, 0, [5, 1, 2, 214])]),
  (26, [(26, .return_, 1, false, 0, [])])]
def iX5_init : MI := (yX5_init, cX5_init, 1, none, 13, 1135, 2, 206, 51)
abbrev mX5_init : Nat := 41
def bX5_make : BK := [
  (21, [(0, .aload_n 0, 1, false, 0, []), (1, .getfield 12, 3, false, 0, [5, 0, 2, 212]), (4, .aload_n 1, 1, false, 0, []), (5, .invokevirtual 25, 3, false, 0, [0, 5, 1, 612, 384, 385, 1]), (8, .aload_n 0, 1, false, 0, []), (9, .getfield 21, 3, false, 0, [5, 1, 2, 214]), (12, .aload_n 2, 1, false, 0, []), (13, .invokevirtual 29, 3, false, 0, [0, 29, 1, 613, 599, 600, 4]), (16, .aload_n 0, 1, false, 0, []), (17, .aload_n 1, 1, false, 0, []), (18, .getfield 32, 3, false, 0, [1, 2, 0, 79]), (21, .putfield 36, 3, false, 0, [5, 2, 0, 215])]),
  (46, [(24, .aload_n 0, 1, false, 0, []), (25, .getfield 36, 3, false, 0, [5, 2, 0, 215]), (28, .istore_n 3, 1, false, 0, []), (29, .iload_n 3, 1, true, 0, []), (30, .bipush 12, 2, false, 0, []), (32, .if_icmp .ge 65, 3, false, 0, [97]), (35, .aload_n 0, 1, false, 0, []), (36, .getfield 12, 3, false, 0, [5, 0, 2, 212]), (39, .invokevirtual 39, 3, false, 0, [0, 16, 0, 614, 615, 616, 1]), (42, .ifCond .le 55, 3, false, 0, [97]), (45, .aload_n 0, 1, false, 0, []), (46, .getfield 21, 3, false, 0, [5, 1, 2, 214])]),
  (73, [(49, .aload_n 0, 1, false, 0, []), (50, .invokevirtual 43, 3, false, 0, [0, 45, 0, 619, 621, 15, 5]), (53, .invokevirtual 46, 3, false, 0, [0, 33, 1, 627, 532, 533, 4]), (56, .istore 4, 2, false, 0, []), (58, .iload 4, 2, false, 0, []), (60, .ifCond .ge 4, 3, false, 0, [64]), (63, .return_, 1, false, 0, []), (64, .aload_n 0, 1, false, 0, []), (65, .getfield 12, 3, false, 0, [5, 0, 2, 212]), (68, .iload 4, 2, false, 0, []), (70, .invokevirtual 50, 3, false, 0, [0, 12, 1, 628, 590, 591, 1]), (73, .aload_n 0, 1, false, 0, [])]),
  (97, [(74, .getfield 21, 3, false, 0, [5, 1, 2, 214]), (77, .aload_n 0, 1, false, 0, []), (78, .getfield 12, 3, false, 0, [5, 0, 2, 212]), (81, .aload_n 0, 1, false, 0, []), (82, .getfield 12, 3, false, 0, [5, 0, 2, 212]), (85, .getfield 32, 3, false, 0, [1, 2, 0, 79]), (88, .invokevirtual 54, 3, false, 0, [0, 30, 2, 629, 493, 494, 4]), (91, .iinc 3 1, 3, false, 0, []), (94, .goto (-65), 3, false, 0, [29]), (97, .return_, 1, false, 0, [])])]
def iX5_make : MI := (yX5_make, cX5_make, 5, none, 0, 0, 5, 611, 51)
abbrev mX5_make : Nat := 42
def bX5_made : BK := [
  (12, [(0, .aload_n 0, 1, false, 0, []), (1, .getfield 12, 3, false, 0, [5, 0, 2, 212]), (4, .getfield 32, 3, false, 0, [1, 2, 0, 79]), (7, .aload_n 0, 1, false, 0, []), (8, .getfield 36, 3, false, 0, [5, 2, 0, 215]), (11, .isub, 1, false, 0, []), (12, .ireturn, 1, false, 0, [])])]
def iX5_made : MI := (yX5_made, cX5_made, 1, (some .int), 0, 0, 0, 633, 51)
abbrev mX5_made : Nat := 43
def bX5_value : BK := [
  (21, [(0, .iload_n 1, 1, false, 0, []), (1, .ifCond .lt 29, 3, false, 0, [30]), (4, .iload_n 1, 1, false, 0, []), (5, .aload_n 0, 1, false, 0, []), (6, .invokevirtual 58, 3, false, 0, [0, 43, 0, 639, 631, 632, 5]), (9, .if_icmp .ge 21, 3, false, 0, [30]), (12, .aload_n 0, 1, false, 0, []), (13, .getfield 12, 3, false, 0, [5, 0, 2, 212]), (16, .aload_n 0, 1, false, 0, []), (17, .getfield 36, 3, false, 0, [5, 2, 0, 215]), (20, .iconst 1, 1, false, 0, []), (21, .iadd, 1, false, 0, [])]),
  (32, [(22, .iload_n 1, 1, false, 0, []), (23, .iadd, 1, false, 0, []), (24, .invokevirtual 61, 3, false, 0, [0, 7, 1, 640, 352, 353, 1]), (27, .goto 5, 3, false, 0, [32]), (30, .bipush (-9), 2, false, 0, []), (32, .ireturn, 1, false, 0, [])])]
def iX5_value : MI := (yX5_value, cX5_value, 2, (some .int), 0, 0, 1, 638, 51)
abbrev mX5_value : Nat := 44
def bX5_choice : BK := [
  (21, [(0, .sipush 1024, 3, false, 0, []), (3, .istore_n 1, 1, false, 0, []), (4, .sipush 1024, 3, false, 0, []), (7, .istore_n 2, 1, false, 0, []), (8, .iconst 0, 1, false, 0, []), (9, .istore_n 3, 1, false, 0, []), (10, .iload_n 3, 1, true, 0, []), (11, .aload_n 0, 1, false, 0, []), (12, .getfield 12, 3, false, 0, [5, 0, 2, 212]), (15, .getfield 64, 3, false, 0, [1, 3, 0, 85]), (18, .if_icmp .ge 72, 3, false, 0, [90]), (21, .aload_n 0, 1, false, 0, [])]),
  (47, [(22, .getfield 12, 3, false, 0, [5, 0, 2, 212]), (25, .getfield 67, 3, false, 0, [1, 1, 2, 76]), (28, .iload_n 3, 1, false, 0, []), (29, .iaload, 1, false, 0, []), (30, .invokestatic 71, 3, false, 0, [2, 101, 1, 623, 377]), (33, .istore 4, 2, false, 0, []), (35, .aload_n 0, 1, false, 0, []), (36, .getfield 21, 3, false, 0, [5, 1, 2, 214]), (39, .iload 4, 2, false, 0, []), (41, .invokevirtual 74, 3, false, 0, [0, 34, 1, 624, 519, 520, 4]), (44, .ifCond .eq 13, 3, false, 0, [57]), (47, .iload_n 1, 1, false, 0, [])]),
  (71, [(48, .iload 4, 2, false, 0, []), (50, .invokestatic 78, 3, false, 0, [6, 0, 2, 625, 313, 314, 54]), (53, .istore_n 1, 1, false, 0, []), (54, .goto 30, 3, false, 0, [84]), (57, .iload 4, 2, false, 0, []), (59, .iload_n 2, 1, false, 0, []), (60, .if_icmp .ge 24, 3, false, 0, [84]), (63, .aload_n 0, 1, false, 0, []), (64, .getfield 21, 3, false, 0, [5, 1, 2, 214]), (67, .aload_n 0, 1, false, 0, []), (68, .getfield 12, 3, false, 0, [5, 0, 2, 212]), (71, .iload 4, 2, false, 0, [])]),
  (98, [(73, .invokevirtual 84, 3, false, 0, [0, 37, 2, 626, 552, 553, 4]), (76, .bipush (-9), 2, false, 0, []), (78, .if_icmp .eq 6, 3, false, 0, [84]), (81, .iload 4, 2, false, 0, []), (83, .istore_n 2, 1, false, 0, []), (84, .iinc 3 1, 3, false, 0, []), (87, .goto (-77), 3, false, 0, [10]), (90, .iload_n 1, 1, false, 0, []), (91, .sipush 1023, 3, false, 0, []), (94, .if_icmp .gt 5, 3, false, 0, [99]), (97, .iload_n 1, 1, false, 0, []), (98, .ireturn, 1, false, 0, [])]),
  (123, [(99, .iload_n 2, 1, false, 0, []), (100, .sipush 1023, 3, false, 0, []), (103, .if_icmp .gt 18, 3, false, 0, [121]), (106, .aload_n 0, 1, false, 0, []), (107, .getfield 21, 3, false, 0, [5, 1, 2, 214]), (110, .aload_n 0, 1, false, 0, []), (111, .getfield 12, 3, false, 0, [5, 0, 2, 212]), (114, .iload_n 2, 1, false, 0, []), (115, .invokevirtual 84, 3, false, 0, [0, 37, 2, 626, 552, 553, 4]), (118, .goto 5, 3, false, 0, [123]), (121, .bipush (-9), 2, false, 0, []), (123, .ireturn, 1, false, 0, [])])]
def iX5_choice : MI := (yX5_choice, cX5_choice, 5, (some .int), 0, 0, 4, 622, 51)
abbrev mX5_choice : Nat := 45
def bX6_init : BK := [
  (21, [(0, .aload_n 0, 1, false, 0, []), (1, .invokespecial 3, 3, false, 0, [9, 0, 0, 174, 63, 64]), (4, .aload_n 0, 1, false, 0, []), (5, .bipush 6, 2, false, 0, []), (7, .newarray .int, 2, false, 0, [104]), (9, .putfield 9, 3, false, 0, [6, 0, 2, 175]), (12, .aload_n 0, 1, false, 0, []), (13, .bipush 6, 2, false, 0, []), (15, .newarray .int, 2, false, 0, [104]), (17, .putfield 15, 3, false, 0, [6, 1, 2, 176]), (20, .aload_n 0, 1, false, 0, []), (21, .bipush 9, 2, false, 0, [])]),
  (28, [(23, .newarray .int, 2, false, 0, [104]), (25, .putfield 18, 3, false, 0, [6, 2, 2, 177]), (28, .return_, 1, false, 0, [])])]
def iX6_init : MI := (yX6_init, cX6_init, 1, none, 3, 21, 1, 173, 49)
abbrev mX6_init : Nat := 46
def bX6_append : BK := [
  (21, [(0, .aload_n 0, 1, false, 0, []), (1, .getfield 21, 3, false, 0, [6, 3, 0, 178]), (4, .bipush 6, 2, false, 0, []), (6, .if_icmp .lt 6, 3, false, 0, [12]), (9, .bipush (-3), 2, false, 0, []), (11, .ireturn, 1, false, 0, []), (12, .aload_n 0, 1, false, 0, []), (13, .getfield 9, 3, false, 0, [6, 0, 2, 175]), (16, .aload_n 0, 1, false, 0, []), (17, .getfield 21, 3, false, 0, [6, 3, 0, 178]), (20, .iload_n 1, 1, false, 0, []), (21, .iastore, 1, false, 0, [])]),
  (39, [(22, .aload_n 0, 1, false, 0, []), (23, .getfield 15, 3, false, 0, [6, 1, 2, 176]), (26, .aload_n 0, 1, false, 0, []), (27, .getfield 21, 3, false, 0, [6, 3, 0, 178]), (30, .iload_n 2, 1, false, 0, []), (31, .iastore, 1, false, 0, []), (32, .aload_n 0, 1, false, 0, []), (33, .dup, 1, false, 0, []), (34, .getfield 21, 3, false, 0, [6, 3, 0, 178]), (37, .iconst 1, 1, false, 0, []), (38, .iadd, 1, false, 0, []), (39, .putfield 21, 3, false, 0, [6, 3, 0, 178])]),
  (46, [(42, .aload_n 0, 1, false, 0, []), (43, .getfield 21, 3, false, 0, [6, 3, 0, 178]), (46, .ireturn, 1, false, 0, [])])]
def iX6_append : MI := (yX6_append, cX6_append, 3, (some .int), 0, 0, 0, 654, 49)
abbrev mX6_append : Nat := 47
def bX6_lose : BK := [
  (11, [(0, .aload_n 0, 1, false, 0, []), (1, .getfield 21, 3, false, 0, [6, 3, 0, 178]), (4, .istore_n 1, 1, false, 0, []), (5, .aload_n 0, 1, false, 0, []), (6, .iconst 0, 1, false, 0, []), (7, .putfield 21, 3, false, 0, [6, 3, 0, 178]), (10, .iload_n 1, 1, false, 0, []), (11, .ireturn, 1, false, 0, [])])]
def iX6_lose : MI := (yX6_lose, cX6_lose, 2, (some .int), 0, 0, 0, 401, 49)
abbrev mX6_lose : Nat := 48
def bX6_allows : BK := [
  (17, [(0, .aload_n 1, 1, false, 0, []), (1, .iload_n 2, 1, false, 0, []), (2, .invokevirtual 25, 3, false, 0, [0, 34, 1, 671, 519, 520, 4]), (5, .ifCond .ne 5, 3, false, 0, [10]), (8, .iconst 0, 1, false, 0, []), (9, .ireturn, 1, false, 0, []), (10, .iconst 0, 1, false, 0, []), (11, .istore_n 3, 1, false, 0, []), (12, .iload_n 3, 1, true, 0, []), (13, .aload_n 0, 1, false, 0, []), (14, .getfield 21, 3, false, 0, [6, 3, 0, 178]), (17, .if_icmp .ge 38, 3, false, 0, [55])]),
  (38, [(20, .aload_n 0, 1, false, 0, []), (21, .getfield 9, 3, false, 0, [6, 0, 2, 175]), (24, .iload_n 3, 1, false, 0, []), (25, .iaload, 1, false, 0, []), (26, .istore 4, 2, false, 0, []), (28, .iload 4, 2, false, 0, []), (30, .iconst 2, 1, false, 0, []), (31, .if_icmp .lt 16, 3, false, 0, [47]), (34, .iload_n 2, 1, false, 0, []), (35, .iload 4, 2, false, 0, []), (37, .irem, 1, false, 0, []), (38, .aload_n 0, 1, false, 0, [])]),
  (56, [(39, .getfield 15, 3, false, 0, [6, 1, 2, 176]), (42, .iload_n 3, 1, false, 0, []), (43, .iaload, 1, false, 0, []), (44, .if_icmp .eq 5, 3, false, 0, [49]), (47, .iconst 0, 1, false, 0, []), (48, .ireturn, 1, false, 0, []), (49, .iinc 3 1, 3, false, 0, []), (52, .goto (-40), 3, false, 0, [12]), (55, .iconst 1, 1, false, 0, []), (56, .ireturn, 1, false, 0, [])])]
def iX6_allows : MI := (yX6_allows, cX6_allows, 5, (some .boolean), 0, 0, 2, 670, 49)
abbrev mX6_allows : Nat := 49
def bX6_howMany : BK := [
  (17, [(0, .iconst 0, 1, false, 0, []), (1, .istore_n 2, 1, false, 0, []), (2, .iconst 1, 1, false, 0, []), (3, .istore_n 3, 1, false, 0, []), (4, .iload_n 3, 1, true, 0, []), (5, .sipush 1023, 3, false, 0, []), (8, .if_icmp .gt 21, 3, false, 0, [29]), (11, .aload_n 0, 1, false, 0, []), (12, .aload_n 1, 1, false, 0, []), (13, .iload_n 3, 1, false, 0, []), (14, .invokevirtual 31, 3, false, 0, [0, 49, 2, 667, 669, 16, 6]), (17, .ifCond .eq 6, 3, false, 0, [23])]),
  (30, [(20, .iinc 2 1, 3, false, 0, []), (23, .iinc 3 2, 3, false, 0, []), (26, .goto (-22), 3, false, 0, [4]), (29, .iload_n 2, 1, false, 0, []), (30, .ireturn, 1, false, 0, [])])]
def iX6_howMany : MI := (yX6_howMany, cX6_howMany, 4, (some .int), 0, 0, 3, 666, 49)
abbrev mX6_howMany : Nat := 50
def bX6_lowest : BK := [
  (19, [(0, .iconst 1, 1, false, 0, []), (1, .istore_n 2, 1, false, 0, []), (2, .iload_n 2, 1, true, 0, []), (3, .sipush 1023, 3, false, 0, []), (6, .if_icmp .gt 20, 3, false, 0, [26]), (9, .aload_n 0, 1, false, 0, []), (10, .aload_n 1, 1, false, 0, []), (11, .iload_n 2, 1, false, 0, []), (12, .invokevirtual 31, 3, false, 0, [0, 49, 2, 667, 669, 16, 6]), (15, .ifCond .eq 5, 3, false, 0, [20]), (18, .iload_n 2, 1, false, 0, []), (19, .ireturn, 1, false, 0, [])]),
  (28, [(20, .iinc 2 2, 3, false, 0, []), (23, .goto (-21), 3, false, 0, [2]), (26, .bipush (-9), 2, false, 0, []), (28, .ireturn, 1, false, 0, [])])]
def iX6_lowest : MI := (yX6_lowest, cX6_lowest, 3, (some .int), 0, 0, 3, 675, 49)
abbrev mX6_lowest : Nat := 51
def bX6_ask : BK := [
  (19, [(0, .aload_n 0, 1, false, 0, []), (1, .aload_n 1, 1, false, 0, []), (2, .invokevirtual 35, 3, false, 0, [0, 50, 1, 684, 664, 665, 6]), (5, .iconst 1, 1, false, 0, []), (6, .if_icmp .gt 6, 3, false, 0, [12]), (9, .bipush (-9), 2, false, 0, []), (11, .ireturn, 1, false, 0, []), (12, .bipush (-9), 2, false, 0, []), (14, .istore_n 2, 1, false, 0, []), (15, .sipush 513, 3, false, 0, []), (18, .istore_n 3, 1, false, 0, []), (19, .iconst 2, 1, false, 0, [])]),
  (41, [(20, .istore 4, 2, false, 0, []), (22, .iload 4, 2, true, 0, []), (24, .bipush 9, 2, false, 0, []), (26, .if_icmp .gt 30, 3, false, 0, [56]), (29, .aload_n 0, 1, false, 0, []), (30, .aload_n 1, 1, false, 0, []), (31, .iload 4, 2, false, 0, []), (33, .invokevirtual 39, 3, false, 0, [0, 53, 2, 685, 687, 17, 6]), (36, .istore 5, 2, false, 0, []), (38, .iload 5, 2, false, 0, []), (40, .iload_n 3, 1, false, 0, []), (41, .if_icmp .ge 9, 3, false, 0, [50])]),
  (57, [(44, .iload 5, 2, false, 0, []), (46, .istore_n 3, 1, false, 0, []), (47, .iload 4, 2, false, 0, []), (49, .istore_n 2, 1, false, 0, []), (50, .iinc 4 1, 3, false, 0, []), (53, .goto (-31), 3, false, 0, [22]), (56, .iload_n 2, 1, false, 0, []), (57, .ireturn, 1, false, 0, [])])]
def iX6_ask : MI := (yX6_ask, cX6_ask, 6, (some .int), 0, 0, 4, 683, 49)
abbrev mX6_ask : Nat := 52
def bX6_greatestLeft : BK := [
  (18, [(0, .iconst 0, 1, false, 0, []), (1, .istore_n 3, 1, false, 0, []), (2, .iload_n 3, 1, true, 0, []), (3, .bipush 9, 2, false, 0, []), (5, .if_icmp .ge 16, 3, false, 0, [21]), (8, .aload_n 0, 1, false, 0, []), (9, .getfield 18, 3, false, 0, [6, 2, 2, 177]), (12, .iload_n 3, 1, false, 0, []), (13, .iconst 0, 1, false, 0, []), (14, .iastore, 1, false, 0, []), (15, .iinc 3 1, 3, false, 0, []), (18, .goto (-16), 3, false, 0, [2])]),
  (40, [(21, .iconst 0, 1, false, 0, []), (22, .istore_n 3, 1, false, 0, []), (23, .iconst 1, 1, false, 0, []), (24, .istore 4, 2, false, 0, []), (26, .iload 4, 2, true, 0, []), (28, .sipush 1023, 3, false, 0, []), (31, .if_icmp .gt 57, 3, false, 0, [88]), (34, .iload_n 2, 1, false, 0, []), (35, .iconst 2, 1, false, 0, []), (36, .if_icmp .lt 46, 3, false, 0, [82]), (39, .iload_n 2, 1, false, 0, []), (40, .bipush 9, 2, false, 0, [])]),
  (63, [(42, .if_icmp .gt 40, 3, false, 0, [82]), (45, .aload_n 0, 1, false, 0, []), (46, .aload_n 1, 1, false, 0, []), (47, .iload 4, 2, false, 0, []), (49, .invokevirtual 31, 3, false, 0, [0, 49, 2, 667, 669, 16, 6]), (52, .ifCond .eq 30, 3, false, 0, [82]), (55, .aload_n 0, 1, false, 0, []), (56, .getfield 18, 3, false, 0, [6, 2, 2, 177]), (59, .iload 4, 2, false, 0, []), (61, .iload_n 2, 1, false, 0, []), (62, .irem, 1, false, 0, []), (63, .dup2, 1, false, 0, [])]),
  (78, [(64, .iaload, 1, false, 0, []), (65, .iconst 1, 1, false, 0, []), (66, .iadd, 1, false, 0, []), (67, .iastore, 1, false, 0, []), (68, .iload_n 3, 1, false, 0, []), (69, .aload_n 0, 1, false, 0, []), (70, .getfield 18, 3, false, 0, [6, 2, 2, 177]), (73, .iload 4, 2, false, 0, []), (75, .iload_n 2, 1, false, 0, []), (76, .irem, 1, false, 0, []), (77, .iaload, 1, false, 0, []), (78, .invokestatic 43, 3, false, 0, [5, 0, 2, 689, 370, 371, 54])]),
  (89, [(81, .istore_n 3, 1, false, 0, []), (82, .iinc 4 2, 3, false, 0, []), (85, .goto (-59), 3, false, 0, [26]), (88, .iload_n 3, 1, false, 0, []), (89, .ireturn, 1, false, 0, [])])]
def iX6_greatestLeft : MI := (yX6_greatestLeft, cX6_greatestLeft, 5, (some .int), 0, 0, 3, 688, 49)
abbrev mX6_greatestLeft : Nat := 53
def bX7_init : BK := [
  (12, [(0, .aload_n 0, 1, false, 0, []), (1, .invokespecial 3, 3, false, 0, [9, 0, 0, 110, 63, 64]), (4, .aload_n 0, 1, false, 0, []), (5, .bipush 80, 2, false, 0, []), (7, .newarray .int, 2, false, 0, [104]), (9, .putfield 9, 3, false, 0, [7, 0, 2, 111]), (12, .return_, 1, false, 0, [])])]
def iX7_init : MI := (yX7_init, cX7_init, 1, none, 1, 80, 1, 109, 46)
abbrev mX7_init : Nat := 54
def bX7_append : BK := [
  (21, [(0, .aload_n 0, 1, false, 0, []), (1, .getfield 15, 3, false, 0, [7, 1, 0, 112]), (4, .bipush 80, 2, false, 0, []), (6, .if_icmp .lt 6, 3, false, 0, [12]), (9, .bipush (-3), 2, false, 0, []), (11, .ireturn, 1, false, 0, []), (12, .aload_n 0, 1, false, 0, []), (13, .getfield 9, 3, false, 0, [7, 0, 2, 111]), (16, .aload_n 0, 1, false, 0, []), (17, .getfield 15, 3, false, 0, [7, 1, 0, 112]), (20, .iload_n 1, 1, false, 0, []), (21, .iastore, 1, false, 0, [])]),
  (36, [(22, .aload_n 0, 1, false, 0, []), (23, .dup, 1, false, 0, []), (24, .getfield 15, 3, false, 0, [7, 1, 0, 112]), (27, .iconst 1, 1, false, 0, []), (28, .iadd, 1, false, 0, []), (29, .putfield 15, 3, false, 0, [7, 1, 0, 112]), (32, .aload_n 0, 1, false, 0, []), (33, .getfield 15, 3, false, 0, [7, 1, 0, 112]), (36, .ireturn, 1, false, 0, [])])]
def iX7_append : MI := (yX7_append, cX7_append, 2, (some .int), 0, 0, 0, 284, 46)
abbrev mX7_append : Nat := 55
def bX7_empty : BK := [
  (11, [(0, .aload_n 0, 1, false, 0, []), (1, .getfield 15, 3, false, 0, [7, 1, 0, 112]), (4, .istore_n 1, 1, false, 0, []), (5, .aload_n 0, 1, false, 0, []), (6, .iconst 0, 1, false, 0, []), (7, .putfield 15, 3, false, 0, [7, 1, 0, 112]), (10, .iload_n 1, 1, false, 0, []), (11, .ireturn, 1, false, 0, [])])]
def iX7_empty : MI := (yX7_empty, cX7_empty, 2, (some .int), 0, 0, 0, 292, 46)
abbrev mX7_empty : Nat := 56
def bX7_read : BK := [
  (18, [(0, .aload_n 1, 1, false, 0, []), (1, .invokevirtual 19, 3, false, 0, [0, 4, 0, 301, 302, 303, 1]), (4, .aload_n 0, 1, false, 0, []), (5, .iconst 0, 1, false, 0, []), (6, .putfield 24, 3, false, 0, [7, 3, 0, 115]), (9, .aload_n 0, 1, false, 0, []), (10, .invokevirtual 27, 3, false, 0, [0, 64, 0, 305, 307, 0, 7]), (13, .iconst 0, 1, false, 0, []), (14, .istore_n 2, 1, false, 0, []), (15, .iload_n 2, 1, true, 0, []), (16, .bipush 80, 2, false, 0, []), (18, .if_icmp .ge 38, 3, false, 0, [56])]),
  (41, [(21, .aload_n 0, 1, false, 0, []), (22, .getfield 30, 3, false, 0, [7, 4, 0, 116]), (25, .iconst (-1), 1, false, 0, []), (26, .if_icmp .eq 30, 3, false, 0, [56]), (29, .aload_n 0, 1, false, 0, []), (30, .aload_n 1, 1, false, 0, []), (31, .iload_n 2, 1, false, 0, []), (32, .invokevirtual 33, 3, false, 0, [0, 58, 2, 315, 317, 1, 7]), (35, .ifCond .ne 11, 3, false, 0, [46]), (38, .bipush (-10), 2, false, 0, []), (40, .aload_n 0, 1, false, 0, []), (41, .getfield 37, 3, false, 0, [7, 2, 0, 114])]),
  (57, [(44, .isub, 1, false, 0, []), (45, .ireturn, 1, false, 0, []), (46, .iinc 2 1, 3, false, 0, []), (49, .aload_n 0, 1, false, 0, []), (50, .invokevirtual 27, 3, false, 0, [0, 64, 0, 305, 307, 0, 7]), (53, .goto (-38), 3, false, 0, [15]), (56, .iload_n 2, 1, false, 0, []), (57, .ireturn, 1, false, 0, [])])]
def iX7_read : MI := (yX7_read, cX7_read, 3, (some .int), 0, 0, 5, 300, 46)
abbrev mX7_read : Nat := 57
def bX7_readItem : BK := [
  (56, [(0, .aload_n 0, 1, false, 0, []), (1, .getfield 30, 3, false, 0, [7, 4, 0, 116]), (4, .lookupswitch 100 #[(97, 77), (108, 36), (119, 54)], 36, false, 0, [104, 81, 40, 58]), (40, .iload_n 2, 1, false, 0, []), (41, .ifCond .ne 15, 3, false, 0, [56]), (44, .aload_n 0, 1, false, 0, []), (45, .aload_n 1, 1, false, 0, []), (46, .invokevirtual 40, 3, false, 0, [0, 59, 1, 319, 321, 2, 7]), (49, .ifCond .eq 7, 3, false, 0, [56]), (52, .iconst 1, 1, false, 0, []), (53, .goto 4, 3, false, 0, [57]), (56, .iconst 0, 1, false, 0, [])]),
  (79, [(57, .ireturn, 1, false, 0, []), (58, .aload_n 1, 1, false, 0, []), (59, .getfield 44, 3, false, 0, [1, 3, 0, 86]), (62, .bipush 6, 2, false, 0, []), (64, .if_icmp .ge 15, 3, false, 0, [79]), (67, .aload_n 0, 1, false, 0, []), (68, .aload_n 1, 1, false, 0, []), (69, .invokevirtual 47, 3, false, 0, [0, 60, 1, 331, 333, 5, 7]), (72, .ifCond .eq 7, 3, false, 0, [79]), (75, .iconst 1, 1, false, 0, []), (76, .goto 4, 3, false, 0, [80]), (79, .iconst 0, 1, false, 0, [])]),
  (102, [(80, .ireturn, 1, false, 0, []), (81, .aload_n 1, 1, false, 0, []), (82, .getfield 50, 3, false, 0, [1, 2, 0, 82]), (85, .bipush 12, 2, false, 0, []), (87, .if_icmp .ge 15, 3, false, 0, [102]), (90, .aload_n 0, 1, false, 0, []), (91, .aload_n 1, 1, false, 0, []), (92, .invokevirtual 53, 3, false, 0, [0, 61, 1, 343, 345, 6, 7]), (95, .ifCond .eq 7, 3, false, 0, [102]), (98, .iconst 1, 1, false, 0, []), (99, .goto 4, 3, false, 0, [103]), (102, .iconst 0, 1, false, 0, [])]),
  (105, [(103, .ireturn, 1, false, 0, []), (104, .iconst 0, 1, false, 0, []), (105, .ireturn, 1, false, 0, [])])]
def iX7_readItem : MI := (yX7_readItem, cX7_readItem, 3, (some .boolean), 0, 0, 4, 318, 46)
abbrev mX7_readItem : Nat := 58
def bX7_readLimit : BK := [
  (20, [(0, .aload_n 0, 1, false, 0, []), (1, .iconst 1, 1, false, 0, []), (2, .bipush 9, 2, false, 0, []), (4, .invokevirtual 56, 3, false, 0, [0, 62, 2, 323, 325, 3, 7]), (7, .ifCond .ne 5, 3, false, 0, [12]), (10, .iconst 0, 1, false, 0, []), (11, .ireturn, 1, false, 0, []), (12, .aload_n 1, 1, false, 0, []), (13, .aload_n 0, 1, false, 0, []), (14, .getfield 60, 3, false, 0, [7, 5, 0, 117]), (17, .putfield 63, 3, false, 0, [1, 4, 0, 91]), (20, .aload_n 0, 1, false, 0, [])]),
  (24, [(21, .invokevirtual 66, 3, false, 0, [0, 63, 0, 327, 329, 4, 7]), (24, .ireturn, 1, false, 0, [])])]
def iX7_readLimit : MI := (yX7_readLimit, cX7_readLimit, 2, (some .boolean), 0, 0, 3, 322, 46)
abbrev mX7_readLimit : Nat := 59
def bX7_readWish : BK := [
  (23, [(0, .aload_n 0, 1, false, 0, []), (1, .iconst 1, 1, false, 0, []), (2, .sipush 1023, 3, false, 0, []), (5, .invokevirtual 56, 3, false, 0, [0, 62, 2, 323, 325, 3, 7]), (8, .ifCond .eq 14, 3, false, 0, [22]), (11, .aload_n 1, 1, false, 0, []), (12, .aload_n 0, 1, false, 0, []), (13, .getfield 60, 3, false, 0, [7, 5, 0, 117]), (16, .invokevirtual 70, 3, false, 0, [0, 17, 1, 335, 336, 337, 1]), (19, .ifCond .lt 5, 3, false, 0, [24]), (22, .iconst 0, 1, false, 0, []), (23, .ireturn, 1, false, 0, [])]),
  (36, [(24, .aload_n 1, 1, false, 0, []), (25, .aload_n 0, 1, false, 0, []), (26, .getfield 60, 3, false, 0, [7, 5, 0, 117]), (29, .invokevirtual 74, 3, false, 0, [0, 18, 1, 339, 340, 341, 1]), (32, .aload_n 0, 1, false, 0, []), (33, .invokevirtual 66, 3, false, 0, [0, 63, 0, 327, 329, 4, 7]), (36, .ireturn, 1, false, 0, [])])]
def iX7_readWish : MI := (yX7_readWish, cX7_readWish, 2, (some .boolean), 0, 0, 3, 334, 46)
abbrev mX7_readWish : Nat := 60
def bX7_readAdder : BK := [
  (19, [(0, .aload_n 0, 1, false, 0, []), (1, .iconst 0, 1, false, 0, []), (2, .aload_n 1, 1, false, 0, []), (3, .getfield 50, 3, false, 0, [1, 2, 0, 82]), (6, .invokevirtual 56, 3, false, 0, [0, 62, 2, 323, 325, 3, 7]), (9, .ifCond .ne 5, 3, false, 0, [14]), (12, .iconst 0, 1, false, 0, []), (13, .ireturn, 1, false, 0, []), (14, .aload_n 0, 1, false, 0, []), (15, .getfield 60, 3, false, 0, [7, 5, 0, 117]), (18, .istore_n 2, 1, false, 0, []), (19, .aload_n 0, 1, false, 0, [])]),
  (38, [(20, .iconst 0, 1, false, 0, []), (21, .bipush 9, 2, false, 0, []), (23, .invokevirtual 56, 3, false, 0, [0, 62, 2, 323, 325, 3, 7]), (26, .ifCond .ne 5, 3, false, 0, [31]), (29, .iconst 0, 1, false, 0, []), (30, .ireturn, 1, false, 0, []), (31, .aload_n 0, 1, false, 0, []), (32, .getfield 60, 3, false, 0, [7, 5, 0, 117]), (35, .istore_n 3, 1, false, 0, []), (36, .aload_n 0, 1, false, 0, []), (37, .iconst 0, 1, false, 0, []), (38, .aload_n 1, 1, false, 0, [])]),
  (59, [(39, .getfield 50, 3, false, 0, [1, 2, 0, 82]), (42, .invokevirtual 56, 3, false, 0, [0, 62, 2, 323, 325, 3, 7]), (45, .ifCond .ne 5, 3, false, 0, [50]), (48, .iconst 0, 1, false, 0, []), (49, .ireturn, 1, false, 0, []), (50, .aload_n 0, 1, false, 0, []), (51, .getfield 60, 3, false, 0, [7, 5, 0, 117]), (54, .istore 4, 2, false, 0, []), (56, .aload_n 0, 1, false, 0, []), (57, .iconst 0, 1, false, 0, []), (58, .iconst 3, 1, false, 0, []), (59, .invokevirtual 56, 3, false, 0, [0, 62, 2, 323, 325, 3, 7])]),
  (82, [(62, .ifCond .eq 18, 3, false, 0, [80]), (65, .aload_n 1, 1, false, 0, []), (66, .iload_n 2, 1, false, 0, []), (67, .iload_n 3, 1, false, 0, []), (68, .iload 4, 2, false, 0, []), (70, .aload_n 0, 1, false, 0, []), (71, .getfield 60, 3, false, 0, [7, 5, 0, 117]), (74, .invokevirtual 78, 3, false, 0, [0, 10, 4, 347, 348, 349, 1]), (77, .ifCond .ne 5, 3, false, 0, [82]), (80, .iconst 0, 1, false, 0, []), (81, .ireturn, 1, false, 0, []), (82, .aload_n 1, 1, false, 0, [])]),
  (98, [(83, .iload_n 2, 1, false, 0, []), (84, .iload_n 3, 1, false, 0, []), (85, .iload 4, 2, false, 0, []), (87, .aload_n 0, 1, false, 0, []), (88, .getfield 60, 3, false, 0, [7, 5, 0, 117]), (91, .invokevirtual 82, 3, false, 0, [0, 11, 4, 372, 373, 374, 1]), (94, .aload_n 0, 1, false, 0, []), (95, .invokevirtual 66, 3, false, 0, [0, 63, 0, 327, 329, 4, 7]), (98, .ireturn, 1, false, 0, [])])]
def iX7_readAdder : MI := (yX7_readAdder, cX7_readAdder, 5, (some .boolean), 0, 0, 3, 346, 46)
abbrev mX7_readAdder : Nat := 61
def bX7_stepToNumber : BK := [
  (22, [(0, .aload_n 0, 1, false, 0, []), (1, .invokevirtual 27, 3, false, 0, [0, 64, 0, 305, 307, 0, 7]), (4, .aload_n 0, 1, false, 0, []), (5, .getfield 30, 3, false, 0, [7, 4, 0, 116]), (8, .bipush (-2), 2, false, 0, []), (10, .if_icmp .ne 23, 3, false, 0, [33]), (13, .aload_n 0, 1, false, 0, []), (14, .getfield 60, 3, false, 0, [7, 5, 0, 117]), (17, .iload_n 1, 1, false, 0, []), (18, .if_icmp .lt 15, 3, false, 0, [33]), (21, .aload_n 0, 1, false, 0, []), (22, .getfield 60, 3, false, 0, [7, 5, 0, 117])]),
  (34, [(25, .iload_n 2, 1, false, 0, []), (26, .if_icmp .gt 7, 3, false, 0, [33]), (29, .iconst 1, 1, false, 0, []), (30, .goto 4, 3, false, 0, [34]), (33, .iconst 0, 1, false, 0, []), (34, .ireturn, 1, false, 0, [])])]
def iX7_stepToNumber : MI := (yX7_stepToNumber, cX7_stepToNumber, 3, (some .boolean), 0, 0, 2, 326, 46)
abbrev mX7_stepToNumber : Nat := 62
def bX7_stepToSemicolon : BK := [
  (18, [(0, .aload_n 0, 1, false, 0, []), (1, .invokevirtual 27, 3, false, 0, [0, 64, 0, 305, 307, 0, 7]), (4, .aload_n 0, 1, false, 0, []), (5, .getfield 30, 3, false, 0, [7, 4, 0, 116]), (8, .bipush 59, 2, false, 0, []), (10, .if_icmp .ne 7, 3, false, 0, [17]), (13, .iconst 1, 1, false, 0, []), (14, .goto 4, 3, false, 0, [18]), (17, .iconst 0, 1, false, 0, []), (18, .ireturn, 1, false, 0, [])])]
def iX7_stepToSemicolon : MI := (yX7_stepToSemicolon, cX7_stepToSemicolon, 1, (some .boolean), 0, 0, 2, 330, 46)
abbrev mX7_stepToSemicolon : Nat := 63
def bX7_step : BK := [
  (23, [(0, .aload_n 0, 1, false, 0, []), (1, .aload_n 0, 1, false, 0, []), (2, .getfield 24, 3, false, 0, [7, 3, 0, 115]), (5, .putfield 37, 3, false, 0, [7, 2, 0, 114]), (8, .aload_n 0, 1, true, 0, []), (9, .getfield 37, 3, false, 0, [7, 2, 0, 114]), (12, .aload_n 0, 1, false, 0, []), (13, .getfield 15, 3, false, 0, [7, 1, 0, 112]), (16, .if_icmp .ge 30, 3, false, 0, [46]), (19, .aload_n 0, 1, false, 0, []), (20, .getfield 9, 3, false, 0, [7, 0, 2, 111]), (23, .aload_n 0, 1, false, 0, [])]),
  (46, [(24, .getfield 37, 3, false, 0, [7, 2, 0, 114]), (27, .iaload, 1, false, 0, []), (28, .bipush 32, 2, false, 0, []), (30, .if_icmp .ne 16, 3, false, 0, [46]), (33, .aload_n 0, 1, false, 0, []), (34, .dup, 1, false, 0, []), (35, .getfield 37, 3, false, 0, [7, 2, 0, 114]), (38, .iconst 1, 1, false, 0, []), (39, .iadd, 1, false, 0, []), (40, .putfield 37, 3, false, 0, [7, 2, 0, 114]), (43, .goto (-35), 3, false, 0, [8]), (46, .aload_n 0, 1, false, 0, [])]),
  (70, [(47, .aload_n 0, 1, false, 0, []), (48, .getfield 37, 3, false, 0, [7, 2, 0, 114]), (51, .putfield 24, 3, false, 0, [7, 3, 0, 115]), (54, .aload_n 0, 1, false, 0, []), (55, .iconst 0, 1, false, 0, []), (56, .putfield 60, 3, false, 0, [7, 5, 0, 117]), (59, .aload_n 0, 1, true, 0, []), (60, .getfield 24, 3, false, 0, [7, 3, 0, 115]), (63, .aload_n 0, 1, false, 0, []), (64, .getfield 15, 3, false, 0, [7, 1, 0, 112]), (67, .if_icmp .ge 61, 3, false, 0, [128]), (70, .aload_n 0, 1, false, 0, [])]),
  (93, [(71, .getfield 9, 3, false, 0, [7, 0, 2, 111]), (74, .aload_n 0, 1, false, 0, []), (75, .getfield 24, 3, false, 0, [7, 3, 0, 115]), (78, .iaload, 1, false, 0, []), (79, .invokestatic 86, 3, false, 0, [1, 65, 1, 309, 310]), (82, .ifCond .eq 46, 3, false, 0, [128]), (85, .aload_n 0, 1, false, 0, []), (86, .aload_n 0, 1, false, 0, []), (87, .getfield 60, 3, false, 0, [7, 5, 0, 117]), (90, .bipush 10, 2, false, 0, []), (92, .imul, 1, false, 0, []), (93, .aload_n 0, 1, false, 0, [])]),
  (116, [(94, .getfield 9, 3, false, 0, [7, 0, 2, 111]), (97, .aload_n 0, 1, false, 0, []), (98, .getfield 24, 3, false, 0, [7, 3, 0, 115]), (101, .iaload, 1, false, 0, []), (102, .iadd, 1, false, 0, []), (103, .bipush 48, 2, false, 0, []), (105, .isub, 1, false, 0, []), (106, .sipush 10000, 3, false, 0, []), (109, .invokestatic 90, 3, false, 0, [6, 0, 2, 312, 313, 314, 54]), (112, .putfield 60, 3, false, 0, [7, 5, 0, 117]), (115, .aload_n 0, 1, false, 0, []), (116, .dup, 1, false, 0, [])]),
  (140, [(117, .getfield 24, 3, false, 0, [7, 3, 0, 115]), (120, .iconst 1, 1, false, 0, []), (121, .iadd, 1, false, 0, []), (122, .putfield 24, 3, false, 0, [7, 3, 0, 115]), (125, .goto (-66), 3, false, 0, [59]), (128, .aload_n 0, 1, false, 0, []), (129, .getfield 37, 3, false, 0, [7, 2, 0, 114]), (132, .aload_n 0, 1, false, 0, []), (133, .getfield 15, 3, false, 0, [7, 1, 0, 112]), (136, .if_icmp .lt 11, 3, false, 0, [147]), (139, .aload_n 0, 1, false, 0, []), (140, .iconst (-1), 1, false, 0, [])]),
  (166, [(141, .putfield 30, 3, false, 0, [7, 4, 0, 116]), (144, .goto 98, 3, false, 0, [242]), (147, .aload_n 0, 1, false, 0, []), (148, .getfield 24, 3, false, 0, [7, 3, 0, 115]), (151, .aload_n 0, 1, false, 0, []), (152, .getfield 37, 3, false, 0, [7, 2, 0, 114]), (155, .if_icmp .le 64, 3, false, 0, [219]), (158, .aload_n 0, 1, false, 0, []), (159, .getfield 9, 3, false, 0, [7, 0, 2, 111]), (162, .aload_n 0, 1, false, 0, []), (163, .getfield 37, 3, false, 0, [7, 2, 0, 114]), (166, .iaload, 1, false, 0, [])]),
  (189, [(167, .bipush 48, 2, false, 0, []), (169, .if_icmp .ne 20, 3, false, 0, [189]), (172, .aload_n 0, 1, false, 0, []), (173, .getfield 24, 3, false, 0, [7, 3, 0, 115]), (176, .aload_n 0, 1, false, 0, []), (177, .getfield 37, 3, false, 0, [7, 2, 0, 114]), (180, .isub, 1, false, 0, []), (181, .iconst 1, 1, false, 0, []), (182, .if_icmp .le 7, 3, false, 0, [189]), (185, .iconst 1, 1, false, 0, []), (186, .goto 4, 3, false, 0, [190]), (189, .iconst 0, 1, false, 0, [])]),
  (213, [(190, .istore_n 1, 1, false, 0, []), (191, .aload_n 0, 1, false, 0, []), (192, .iload_n 1, 1, false, 0, []), (193, .ifCond .ne 13, 3, false, 0, [206]), (196, .aload_n 0, 1, false, 0, []), (197, .getfield 60, 3, false, 0, [7, 5, 0, 117]), (200, .sipush 9999, 3, false, 0, []), (203, .if_icmp .le 8, 3, false, 0, [211]), (206, .bipush (-3), 2, false, 0, []), (208, .goto 5, 3, false, 0, [213]), (211, .bipush (-2), 2, false, 0, []), (213, .putfield 30, 3, false, 0, [7, 4, 0, 116])]),
  (237, [(216, .goto 26, 3, false, 0, [242]), (219, .aload_n 0, 1, false, 0, []), (220, .aload_n 0, 1, false, 0, []), (221, .getfield 9, 3, false, 0, [7, 0, 2, 111]), (224, .aload_n 0, 1, false, 0, []), (225, .getfield 37, 3, false, 0, [7, 2, 0, 114]), (228, .iaload, 1, false, 0, []), (229, .putfield 30, 3, false, 0, [7, 4, 0, 116]), (232, .aload_n 0, 1, false, 0, []), (233, .dup, 1, false, 0, []), (234, .getfield 24, 3, false, 0, [7, 3, 0, 115]), (237, .iconst 1, 1, false, 0, [])]),
  (242, [(238, .iadd, 1, false, 0, []), (239, .putfield 24, 3, false, 0, [7, 3, 0, 115]), (242, .return_, 1, false, 0, [])])]
def iX7_step : MI := (yX7_step, cX7_step, 2, none, 0, 0, 1, 308, 46)
abbrev mX7_step : Nat := 64
def bX7_isDigit : BK := [
  (17, [(0, .iload_n 0, 1, false, 0, []), (1, .bipush 48, 2, false, 0, []), (3, .if_icmp .lt 13, 3, false, 0, [16]), (6, .iload_n 0, 1, false, 0, []), (7, .bipush 57, 2, false, 0, []), (9, .if_icmp .gt 7, 3, false, 0, [16]), (12, .iconst 1, 1, false, 0, []), (13, .goto 4, 3, false, 0, [17]), (16, .iconst 0, 1, false, 0, []), (17, .ireturn, 1, false, 0, [])])]
def iX7_isDigit : MI := (yX7_isDigit, cX7_isDigit, 1, (some .boolean), 0, 0, 0, 311, 46)
abbrev mX7_isDigit : Nat := 65
def bX8_of : BK := [
  (13, [(0, .iload_n 0, 1, false, 0, []), (1, .bipush 10, 2, false, 0, []), (3, .ishl, 1, false, 0, []), (4, .iload_n 1, 1, false, 0, []), (5, .bipush 6, 2, false, 0, []), (7, .ishl, 1, false, 0, []), (8, .ior, 1, false, 0, []), (9, .iload_n 2, 1, false, 0, []), (10, .iconst 2, 1, false, 0, []), (11, .ishl, 1, false, 0, []), (12, .ior, 1, false, 0, []), (13, .iload_n 3, 1, false, 0, [])]),
  (15, [(14, .ior, 1, false, 0, []), (15, .ireturn, 1, false, 0, [])])]
def iX8_of : MI := (yX8_of, cX8_of, 4, (some .int), 0, 0, 0, 509, 56)
abbrev mX8_of : Nat := 66
def bX8_p : BK := [
  (4, [(0, .iload_n 0, 1, false, 0, []), (1, .bipush 10, 2, false, 0, []), (3, .ishr, 1, false, 0, []), (4, .ireturn, 1, false, 0, [])])]
def iX8_p : MI := (yX8_p, cX8_p, 1, (some .int), 0, 0, 0, 537, 56)
abbrev mX8_p : Nat := 67
def bX8_q : BK := [
  (7, [(0, .iload_n 0, 1, false, 0, []), (1, .bipush 6, 2, false, 0, []), (3, .ishr, 1, false, 0, []), (4, .bipush 15, 2, false, 0, []), (6, .iand, 1, false, 0, []), (7, .ireturn, 1, false, 0, [])])]
def iX8_q : MI := (yX8_q, cX8_q, 1, (some .int), 0, 0, 0, 540, 56)
abbrev mX8_q : Nat := 68
def bX8_shift : BK := [
  (6, [(0, .iload_n 0, 1, false, 0, []), (1, .iconst 2, 1, false, 0, []), (2, .ishr, 1, false, 0, []), (3, .bipush 15, 2, false, 0, []), (5, .iand, 1, false, 0, []), (6, .ireturn, 1, false, 0, [])])]
def iX8_shift : MI := (yX8_shift, cX8_shift, 1, (some .int), 0, 0, 0, 543, 56)
abbrev mX8_shift : Nat := 69
def bX8_form : BK := [
  (3, [(0, .iload_n 0, 1, false, 0, []), (1, .iconst 3, 1, false, 0, []), (2, .iand, 1, false, 0, []), (3, .ireturn, 1, false, 0, [])])]
def iX8_form : MI := (yX8_form, cX8_form, 1, (some .int), 0, 0, 0, 546, 56)
abbrev mX8_form : Nat := 70
def bX9_init : BK := [
  (23, [(0, .aload_n 0, 1, false, 0, []), (1, .invokespecial 1, 3, false, 0, [9, 0, 0, 62, 63, 64]), (4, .aload_n 0, 1, false, 0, []), (5, .new 7, 3, false, 0, [1, 5, 65, 66, 45]), (8, .dup, 1, false, 0, []), (9, .invokespecial 9, 3, false, 0, [3, 3, 0, 67, 68]), (12, .putfield 10, 3, false, 0, [8, 0, 2, 243]), (15, .aload_n 0, 1, false, 0, []), (16, .new 7, 3, false, 0, [1, 5, 65, 66, 45]), (19, .dup, 1, false, 0, []), (20, .invokespecial 9, 3, false, 0, [3, 3, 0, 67, 68]), (23, .putfield 16, 3, false, 0, [8, 1, 2, 244])]),
  (49, [(26, .aload_n 0, 1, false, 0, []), (27, .new 19, 3, false, 0, [7, 6, 105, 106, 46]), (30, .dup, 1, false, 0, []), (31, .invokespecial 21, 3, false, 0, [4, 54, 0, 107, 108]), (34, .putfield 22, 3, false, 0, [8, 2, 2, 245]), (37, .aload_n 0, 1, false, 0, []), (38, .new 26, 3, false, 0, [2, 3, 131, 132, 47]), (41, .dup, 1, false, 0, []), (42, .invokespecial 28, 3, false, 0, [3, 20, 0, 133, 134]), (45, .putfield 29, 3, false, 0, [8, 3, 2, 246]), (48, .aload_n 0, 1, false, 0, []), (49, .new 33, 3, false, 0, [3, 2, 151, 152, 48])]),
  (75, [(52, .dup, 1, false, 0, []), (53, .invokespecial 35, 3, false, 0, [3, 24, 0, 153, 154]), (56, .putfield 36, 3, false, 0, [8, 4, 2, 247]), (59, .aload_n 0, 1, false, 0, []), (60, .new 40, 3, false, 0, [6, 4, 169, 170, 49]), (63, .dup, 1, false, 0, []), (64, .invokespecial 42, 3, false, 0, [4, 46, 0, 171, 172]), (67, .putfield 43, 3, false, 0, [8, 5, 2, 248]), (70, .aload_n 0, 1, false, 0, []), (71, .new 47, 3, false, 0, [4, 2, 189, 190, 50]), (74, .dup, 1, false, 0, []), (75, .invokespecial 49, 3, false, 0, [4, 27, 0, 191, 192])]),
  (103, [(78, .putfield 50, 3, false, 0, [8, 6, 2, 249]), (81, .aload_n 0, 1, false, 0, []), (82, .new 54, 3, false, 0, [5, 3, 202, 203, 51]), (85, .dup, 1, false, 0, []), (86, .invokespecial 56, 3, false, 0, [4, 41, 0, 204, 205]), (89, .putfield 57, 3, false, 0, [8, 7, 2, 250]), (92, .aload_n 0, 1, false, 0, []), (93, .new 61, 3, false, 0, [0, 3, 223, 224, 52]), (96, .dup, 1, false, 0, []), (97, .invokespecial 63, 3, false, 0, [4, 0, 0, 225, 226]), (100, .putfield 64, 3, false, 0, [8, 8, 2, 251]), (103, .aload_n 0, 1, false, 0, [])]),
  (113, [(104, .iconst 1, 1, false, 0, []), (105, .putfield 68, 3, false, 0, [8, 9, 1, 252]), (108, .aload_n 0, 1, false, 0, []), (109, .iconst 1, 1, false, 0, []), (110, .putfield 72, 3, false, 0, [8, 10, 1, 253]), (113, .return_, 1, false, 0, [])])]
def iX9_init : MI := (yX9_init, cX9_init, 1, none, 185, 5984, 3, 61, 44)
abbrev mX9_init : Nat := 71
def bX9_type : BK := [
  (21, [(0, .iload_n 1, 1, false, 0, []), (1, .ifCond .lt 10, 3, false, 0, [11]), (4, .iload_n 1, 1, false, 0, []), (5, .sipush 255, 3, false, 0, []), (8, .if_icmp .le 5, 3, false, 0, [13]), (11, .iconst (-1), 1, false, 0, []), (12, .ireturn, 1, false, 0, []), (13, .aload_n 0, 1, false, 0, []), (14, .getfield 22, 3, false, 0, [8, 2, 2, 245]), (17, .iload_n 1, 1, false, 0, []), (18, .invokevirtual 75, 3, false, 0, [0, 55, 1, 281, 282, 283, 7]), (21, .ireturn, 1, false, 0, [])])]
def iX9_type : MI := (yX9_type, cX9_type, 2, (some .int), 0, 0, 1, 280, 44)
abbrev mX9_type : Nat := 72
def bX9_clear : BK := [
  (7, [(0, .aload_n 0, 1, false, 0, []), (1, .getfield 22, 3, false, 0, [8, 2, 2, 245]), (4, .invokevirtual 79, 3, false, 0, [0, 56, 0, 289, 290, 291, 7]), (7, .ireturn, 1, false, 0, [])])]
def iX9_clear : MI := (yX9_clear, cX9_clear, 1, (some .int), 0, 0, 1, 288, 44)
abbrev mX9_clear : Nat := 73
def bX9_graph : BK := [
  (19, [(0, .aload_n 0, 1, false, 0, []), (1, .getfield 22, 3, false, 0, [8, 2, 2, 245]), (4, .aload_n 0, 1, false, 0, []), (5, .getfield 16, 3, false, 0, [8, 1, 2, 244]), (8, .invokevirtual 83, 3, false, 0, [0, 57, 1, 297, 298, 299, 7]), (11, .istore_n 1, 1, false, 0, []), (12, .iload_n 1, 1, false, 0, []), (13, .ifCond .ge 5, 3, false, 0, [18]), (16, .iload_n 1, 1, false, 0, []), (17, .ireturn, 1, false, 0, []), (18, .aload_n 0, 1, false, 0, []), (19, .getfield 10, 3, false, 0, [8, 0, 2, 243])]),
  (45, [(22, .aload_n 0, 1, false, 0, []), (23, .getfield 16, 3, false, 0, [8, 1, 2, 244]), (26, .invokevirtual 87, 3, false, 0, [0, 5, 1, 383, 384, 385, 1]), (29, .aload_n 0, 1, false, 0, []), (30, .getfield 22, 3, false, 0, [8, 2, 2, 245]), (33, .invokevirtual 79, 3, false, 0, [0, 56, 0, 289, 290, 291, 7]), (36, .pop, 1, false, 0, []), (37, .aload_n 0, 1, false, 0, []), (38, .getfield 29, 3, false, 0, [8, 3, 2, 246]), (41, .invokevirtual 91, 3, false, 0, [0, 23, 0, 390, 391, 392, 2]), (44, .aload_n 0, 1, false, 0, []), (45, .getfield 36, 3, false, 0, [8, 4, 2, 247])]),
  (64, [(48, .invokevirtual 94, 3, false, 0, [0, 26, 0, 394, 395, 396, 3]), (51, .aload_n 0, 1, false, 0, []), (52, .getfield 43, 3, false, 0, [8, 5, 2, 248]), (55, .invokevirtual 95, 3, false, 0, [0, 48, 0, 398, 399, 400, 6]), (58, .pop, 1, false, 0, []), (59, .aload_n 0, 1, false, 0, []), (60, .invokevirtual 97, 3, false, 0, [0, 97, 0, 402, 404, 7, 8]), (63, .iload_n 1, 1, false, 0, []), (64, .ireturn, 1, false, 0, [])])]
def iX9_graph : MI := (yX9_graph, cX9_graph, 2, (some .int), 0, 0, 6, 296, 44)
abbrev mX9_graph : Nat := 74
def bX9_odd : BK := [
  (22, [(0, .aload_n 0, 1, false, 0, []), (1, .getfield 10, 3, false, 0, [8, 0, 2, 243]), (4, .iload_n 1, 1, false, 0, []), (5, .invokevirtual 100, 3, false, 0, [0, 6, 1, 410, 411, 412, 1]), (8, .ifCond .eq 13, 3, false, 0, [21]), (11, .iload_n 2, 1, false, 0, []), (12, .ifCond .lt 9, 3, false, 0, [21]), (15, .iload_n 2, 1, false, 0, []), (16, .bipush 7, 2, false, 0, []), (18, .if_icmp .lt 5, 3, false, 0, [23]), (21, .iconst (-1), 1, false, 0, []), (22, .ireturn, 1, false, 0, [])]),
  (34, [(23, .aload_n 0, 1, false, 0, []), (24, .getfield 10, 3, false, 0, [8, 0, 2, 243]), (27, .getfield 104, 3, false, 0, [1, 0, 2, 74]), (30, .iload_n 2, 1, false, 0, []), (31, .aaload, 1, false, 0, []), (32, .iload_n 1, 1, false, 0, []), (33, .iaload, 1, false, 0, []), (34, .ireturn, 1, false, 0, [])])]
def iX9_odd : MI := (yX9_odd, cX9_odd, 3, (some .int), 0, 0, 1, 409, 44)
abbrev mX9_odd : Nat := 75
def bX9_wanted : BK := [
  (21, [(0, .iload_n 1, 1, false, 0, []), (1, .ifCond .lt 23, 3, false, 0, [24]), (4, .iload_n 1, 1, false, 0, []), (5, .aload_n 0, 1, false, 0, []), (6, .getfield 10, 3, false, 0, [8, 0, 2, 243]), (9, .getfield 108, 3, false, 0, [1, 3, 0, 87]), (12, .if_icmp .ge 12, 3, false, 0, [24]), (15, .iload_n 2, 1, false, 0, []), (16, .ifCond .lt 8, 3, false, 0, [24]), (19, .iload_n 2, 1, false, 0, []), (20, .iconst 1, 1, false, 0, []), (21, .if_icmp .le 5, 3, false, 0, [26])]),
  (41, [(24, .iconst (-1), 1, false, 0, []), (25, .ireturn, 1, false, 0, []), (26, .aload_n 0, 1, false, 0, []), (27, .getfield 10, 3, false, 0, [8, 0, 2, 243]), (30, .getfield 112, 3, false, 0, [1, 1, 2, 77]), (33, .iload_n 1, 1, false, 0, []), (34, .iaload, 1, false, 0, []), (35, .istore_n 3, 1, false, 0, []), (36, .iload_n 2, 1, false, 0, []), (37, .ifCond .ne 5, 3, false, 0, [42]), (40, .iload_n 3, 1, false, 0, []), (41, .ireturn, 1, false, 0, [])]),
  (58, [(42, .aload_n 0, 1, false, 0, []), (43, .getfield 10, 3, false, 0, [8, 0, 2, 243]), (46, .iload_n 3, 1, false, 0, []), (47, .invokevirtual 116, 3, false, 0, [0, 15, 1, 418, 419, 420, 1]), (50, .ifCond .eq 7, 3, false, 0, [57]), (53, .iconst 1, 1, false, 0, []), (54, .goto 4, 3, false, 0, [58]), (57, .iconst 0, 1, false, 0, []), (58, .ireturn, 1, false, 0, [])])]
def iX9_wanted : MI := (yX9_wanted, cX9_wanted, 4, (some .int), 0, 0, 3, 417, 44)
abbrev mX9_wanted : Nat := 76
def bX9_adds : BK := [
  (23, [(0, .aload_n 0, 1, false, 0, []), (1, .getfield 10, 3, false, 0, [8, 0, 2, 243]), (4, .iload_n 1, 1, false, 0, []), (5, .invokevirtual 100, 3, false, 0, [0, 6, 1, 410, 411, 412, 1]), (8, .ifCond .eq 35, 3, false, 0, [43]), (11, .aload_n 0, 1, false, 0, []), (12, .getfield 10, 3, false, 0, [8, 0, 2, 243]), (15, .iload_n 3, 1, false, 0, []), (16, .invokevirtual 100, 3, false, 0, [0, 6, 1, 410, 411, 412, 1]), (19, .ifCond .eq 24, 3, false, 0, [43]), (22, .iload_n 2, 1, false, 0, []), (23, .ifCond .lt 20, 3, false, 0, [43])]),
  (46, [(26, .iload_n 2, 1, false, 0, []), (27, .bipush 9, 2, false, 0, []), (29, .if_icmp .gt 14, 3, false, 0, [43]), (32, .iload 4, 2, false, 0, []), (34, .ifCond .lt 9, 3, false, 0, [43]), (37, .iload 4, 2, false, 0, []), (39, .iconst 4, 1, false, 0, []), (40, .if_icmp .lt 5, 3, false, 0, [45]), (43, .iconst (-1), 1, false, 0, []), (44, .ireturn, 1, false, 0, []), (45, .aload_n 0, 1, false, 0, []), (46, .getfield 10, 3, false, 0, [8, 0, 2, 243])]),
  (70, [(49, .iload_n 1, 1, false, 0, []), (50, .iload_n 2, 1, false, 0, []), (51, .iload_n 3, 1, false, 0, []), (52, .iload 4, 2, false, 0, []), (54, .invokevirtual 119, 3, false, 0, [0, 10, 4, 430, 348, 349, 1]), (57, .ifCond .ne 6, 3, false, 0, [63]), (60, .bipush (-2), 2, false, 0, []), (62, .ireturn, 1, false, 0, []), (63, .aload_n 0, 1, false, 0, []), (64, .getfield 10, 3, false, 0, [8, 0, 2, 243]), (67, .getfield 123, 3, false, 0, [1, 2, 0, 83]), (70, .bipush 12, 2, false, 0, [])]),
  (94, [(72, .if_icmp .lt 6, 3, false, 0, [78]), (75, .bipush (-3), 2, false, 0, []), (77, .ireturn, 1, false, 0, []), (78, .aload_n 0, 1, false, 0, []), (79, .getfield 29, 3, false, 0, [8, 3, 2, 246]), (82, .aload_n 0, 1, false, 0, []), (83, .getfield 10, 3, false, 0, [8, 0, 2, 243]), (86, .invokevirtual 126, 3, false, 0, [0, 21, 1, 431, 432, 433, 2]), (89, .aload_n 0, 1, false, 0, []), (90, .getfield 10, 3, false, 0, [8, 0, 2, 243]), (93, .iload_n 1, 1, false, 0, []), (94, .iload_n 2, 1, false, 0, [])]),
  (119, [(95, .iload_n 3, 1, false, 0, []), (96, .iload 4, 2, false, 0, []), (98, .invokevirtual 129, 3, false, 0, [0, 11, 4, 437, 373, 374, 1]), (101, .aload_n 0, 1, false, 0, []), (102, .invokevirtual 97, 3, false, 0, [0, 97, 0, 402, 404, 7, 8]), (105, .aload_n 0, 1, false, 0, []), (106, .getfield 10, 3, false, 0, [8, 0, 2, 243]), (109, .aload_n 0, 1, false, 0, []), (110, .getfield 10, 3, false, 0, [8, 0, 2, 243]), (113, .getfield 123, 3, false, 0, [1, 2, 0, 83]), (116, .invokevirtual 132, 3, false, 0, [0, 7, 1, 438, 352, 353, 1]), (119, .ireturn, 1, false, 0, [])])]
def iX9_adds : MI := (yX9_adds, cX9_adds, 5, (some .int), 0, 0, 3, 429, 44)
abbrev mX9_adds : Nat := 77
def bX9_takes : BK := [
  (24, [(0, .aload_n 0, 1, false, 0, []), (1, .getfield 10, 3, false, 0, [8, 0, 2, 243]), (4, .getfield 123, 3, false, 0, [1, 2, 0, 83]), (7, .ifCond .ne 6, 3, false, 0, [13]), (10, .bipush (-2), 2, false, 0, []), (12, .ireturn, 1, false, 0, []), (13, .aload_n 0, 1, false, 0, []), (14, .getfield 29, 3, false, 0, [8, 3, 2, 246]), (17, .aload_n 0, 1, false, 0, []), (18, .getfield 10, 3, false, 0, [8, 0, 2, 243]), (21, .invokevirtual 126, 3, false, 0, [0, 21, 1, 431, 432, 433, 2]), (24, .aload_n 0, 1, false, 0, [])]),
  (48, [(25, .getfield 10, 3, false, 0, [8, 0, 2, 243]), (28, .aload_n 0, 1, false, 0, []), (29, .getfield 10, 3, false, 0, [8, 0, 2, 243]), (32, .getfield 123, 3, false, 0, [1, 2, 0, 83]), (35, .invokevirtual 132, 3, false, 0, [0, 7, 1, 438, 352, 353, 1]), (38, .istore_n 1, 1, false, 0, []), (39, .aload_n 0, 1, false, 0, []), (40, .getfield 10, 3, false, 0, [8, 0, 2, 243]), (43, .dup, 1, false, 0, []), (44, .getfield 123, 3, false, 0, [1, 2, 0, 83]), (47, .iconst 1, 1, false, 0, []), (48, .isub, 1, false, 0, [])]),
  (57, [(49, .putfield 123, 3, false, 0, [1, 2, 0, 83]), (52, .aload_n 0, 1, false, 0, []), (53, .invokevirtual 97, 3, false, 0, [0, 97, 0, 402, 404, 7, 8]), (56, .iload_n 1, 1, false, 0, []), (57, .ireturn, 1, false, 0, [])])]
def iX9_takes : MI := (yX9_takes, cX9_takes, 2, (some .int), 0, 0, 3, 442, 44)
abbrev mX9_takes : Nat := 78
def bX9_wishes : BK := [
  (19, [(0, .iload_n 1, 1, false, 0, []), (1, .iconst 1, 1, false, 0, []), (2, .if_icmp .lt 10, 3, false, 0, [12]), (5, .iload_n 1, 1, false, 0, []), (6, .sipush 1023, 3, false, 0, []), (9, .if_icmp .le 5, 3, false, 0, [14]), (12, .iconst (-1), 1, false, 0, []), (13, .ireturn, 1, false, 0, []), (14, .aload_n 0, 1, false, 0, []), (15, .getfield 10, 3, false, 0, [8, 0, 2, 243]), (18, .iload_n 1, 1, false, 0, []), (19, .invokevirtual 135, 3, false, 0, [0, 17, 1, 447, 336, 337, 1])]),
  (43, [(22, .istore_n 2, 1, false, 0, []), (23, .iload_n 2, 1, false, 0, []), (24, .ifCond .ge 18, 3, false, 0, [42]), (27, .aload_n 0, 1, false, 0, []), (28, .getfield 10, 3, false, 0, [8, 0, 2, 243]), (31, .getfield 108, 3, false, 0, [1, 3, 0, 87]), (34, .bipush 6, 2, false, 0, []), (36, .if_icmp .lt 6, 3, false, 0, [42]), (39, .bipush (-3), 2, false, 0, []), (41, .ireturn, 1, false, 0, []), (42, .aload_n 0, 1, false, 0, []), (43, .getfield 29, 3, false, 0, [8, 3, 2, 246])]),
  (69, [(46, .aload_n 0, 1, false, 0, []), (47, .getfield 10, 3, false, 0, [8, 0, 2, 243]), (50, .invokevirtual 126, 3, false, 0, [0, 21, 1, 431, 432, 433, 2]), (53, .iload_n 2, 1, false, 0, []), (54, .ifCond .ge 14, 3, false, 0, [68]), (57, .aload_n 0, 1, false, 0, []), (58, .getfield 10, 3, false, 0, [8, 0, 2, 243]), (61, .iload_n 1, 1, false, 0, []), (62, .invokevirtual 138, 3, false, 0, [0, 18, 1, 448, 340, 341, 1]), (65, .goto 11, 3, false, 0, [76]), (68, .aload_n 0, 1, false, 0, []), (69, .getfield 10, 3, false, 0, [8, 0, 2, 243])]),
  (87, [(72, .iload_n 2, 1, false, 0, []), (73, .invokevirtual 142, 3, false, 0, [0, 19, 1, 449, 450, 451, 1]), (76, .aload_n 0, 1, false, 0, []), (77, .invokevirtual 97, 3, false, 0, [0, 97, 0, 402, 404, 7, 8]), (80, .aload_n 0, 1, false, 0, []), (81, .getfield 10, 3, false, 0, [8, 0, 2, 243]), (84, .getfield 108, 3, false, 0, [1, 3, 0, 87]), (87, .ireturn, 1, false, 0, [])])]
def iX9_wishes : MI := (yX9_wishes, cX9_wishes, 3, (some .int), 0, 0, 3, 446, 44)
abbrev mX9_wishes : Nat := 79
def bX9_limits : BK := [
  (20, [(0, .iload_n 1, 1, false, 0, []), (1, .iconst 1, 1, false, 0, []), (2, .if_icmp .lt 9, 3, false, 0, [11]), (5, .iload_n 1, 1, false, 0, []), (6, .bipush 9, 2, false, 0, []), (8, .if_icmp .le 5, 3, false, 0, [13]), (11, .iconst (-1), 1, false, 0, []), (12, .ireturn, 1, false, 0, []), (13, .aload_n 0, 1, false, 0, []), (14, .getfield 10, 3, false, 0, [8, 0, 2, 243]), (17, .invokevirtual 145, 3, false, 0, [0, 14, 0, 457, 458, 459, 1]), (20, .iload_n 1, 1, false, 0, [])]),
  (45, [(21, .if_icmp .le 6, 3, false, 0, [27]), (24, .bipush (-2), 2, false, 0, []), (26, .ireturn, 1, false, 0, []), (27, .aload_n 0, 1, false, 0, []), (28, .getfield 29, 3, false, 0, [8, 3, 2, 246]), (31, .aload_n 0, 1, false, 0, []), (32, .getfield 10, 3, false, 0, [8, 0, 2, 243]), (35, .invokevirtual 126, 3, false, 0, [0, 21, 1, 431, 432, 433, 2]), (38, .aload_n 0, 1, false, 0, []), (39, .getfield 10, 3, false, 0, [8, 0, 2, 243]), (42, .getfield 148, 3, false, 0, [1, 4, 0, 92]), (45, .istore_n 2, 1, false, 0, [])]),
  (59, [(46, .aload_n 0, 1, false, 0, []), (47, .getfield 10, 3, false, 0, [8, 0, 2, 243]), (50, .iload_n 1, 1, false, 0, []), (51, .putfield 148, 3, false, 0, [1, 4, 0, 92]), (54, .aload_n 0, 1, false, 0, []), (55, .invokevirtual 97, 3, false, 0, [0, 97, 0, 402, 404, 7, 8]), (58, .iload_n 2, 1, false, 0, []), (59, .ireturn, 1, false, 0, [])])]
def iX9_limits : MI := (yX9_limits, cX9_limits, 3, (some .int), 0, 0, 3, 456, 44)
abbrev mX9_limits : Nat := 80
def bX9_undo : BK := [
  (24, [(0, .aload_n 0, 1, false, 0, []), (1, .getfield 29, 3, false, 0, [8, 3, 2, 246]), (4, .getfield 151, 3, false, 0, [2, 2, 0, 143]), (7, .ifCond .ne 6, 3, false, 0, [13]), (10, .bipush (-2), 2, false, 0, []), (12, .ireturn, 1, false, 0, []), (13, .aload_n 0, 1, false, 0, []), (14, .getfield 29, 3, false, 0, [8, 3, 2, 246]), (17, .aload_n 0, 1, false, 0, []), (18, .getfield 10, 3, false, 0, [8, 0, 2, 243]), (21, .invokevirtual 154, 3, false, 0, [0, 22, 1, 465, 466, 467, 2]), (24, .aload_n 0, 1, false, 0, [])]),
  (35, [(25, .invokevirtual 97, 3, false, 0, [0, 97, 0, 402, 404, 7, 8]), (28, .aload_n 0, 1, false, 0, []), (29, .getfield 29, 3, false, 0, [8, 3, 2, 246]), (32, .getfield 151, 3, false, 0, [2, 2, 0, 143]), (35, .ireturn, 1, false, 0, [])])]
def iX9_undo : MI := (yX9_undo, cX9_undo, 1, (some .int), 0, 0, 3, 464, 44)
abbrev mX9_undo : Nat := 81
def bX9_digits : BK := [
  (17, [(0, .iload_n 1, 1, false, 0, []), (1, .iconst 1, 1, false, 0, []), (2, .if_icmp .lt 10, 3, false, 0, [12]), (5, .iload_n 1, 1, false, 0, []), (6, .sipush 1023, 3, false, 0, []), (9, .if_icmp .le 5, 3, false, 0, [14]), (12, .iconst (-1), 1, false, 0, []), (13, .ireturn, 1, false, 0, []), (14, .iconst 0, 1, false, 0, []), (15, .istore_n 2, 1, false, 0, []), (16, .iconst 0, 1, false, 0, []), (17, .istore_n 3, 1, false, 0, [])]),
  (42, [(18, .iload_n 3, 1, true, 0, []), (19, .bipush 12, 2, false, 0, []), (21, .if_icmp .ge 20, 3, false, 0, [41]), (24, .iload_n 1, 1, false, 0, []), (25, .iload_n 3, 1, false, 0, []), (26, .invokestatic 157, 3, false, 0, [1, 103, 2, 473, 474]), (29, .ifCond .eq 6, 3, false, 0, [35]), (32, .iinc 2 1, 3, false, 0, []), (35, .iinc 3 1, 3, false, 0, []), (38, .goto (-20), 3, false, 0, [18]), (41, .iload_n 2, 1, false, 0, []), (42, .ireturn, 1, false, 0, [])])]
def iX9_digits : MI := (yX9_digits, cX9_digits, 4, (some .int), 0, 0, 1, 472, 44)
abbrev mX9_digits : Nat := 82
def bX9_digit : BK := [
  (22, [(0, .iload_n 1, 1, false, 0, []), (1, .iconst 1, 1, false, 0, []), (2, .if_icmp .lt 20, 3, false, 0, [22]), (5, .iload_n 1, 1, false, 0, []), (6, .sipush 1023, 3, false, 0, []), (9, .if_icmp .gt 13, 3, false, 0, [22]), (12, .iload_n 2, 1, false, 0, []), (13, .ifCond .lt 9, 3, false, 0, [22]), (16, .iload_n 2, 1, false, 0, []), (17, .bipush 12, 2, false, 0, []), (19, .if_icmp .lt 5, 3, false, 0, [24]), (22, .iconst (-1), 1, false, 0, [])]),
  (31, [(23, .ireturn, 1, false, 0, []), (24, .iload_n 1, 1, false, 0, []), (25, .iload_n 2, 1, false, 0, []), (26, .invokestatic 157, 3, false, 0, [1, 103, 2, 473, 474]), (29, .iconst 1, 1, false, 0, []), (30, .iadd, 1, false, 0, []), (31, .ireturn, 1, false, 0, [])])]
def iX9_digit : MI := (yX9_digit, cX9_digit, 3, (some .int), 0, 0, 1, 479, 44)
abbrev mX9_digit : Nat := 83
def bX9_near : BK := [
  (19, [(0, .iload_n 1, 1, false, 0, []), (1, .ifCond .lt 12, 3, false, 0, [13]), (4, .iload_n 2, 1, false, 0, []), (5, .ifCond .lt 8, 3, false, 0, [13]), (8, .iload_n 2, 1, false, 0, []), (9, .iconst 1, 1, false, 0, []), (10, .if_icmp .le 5, 3, false, 0, [15]), (13, .iconst (-1), 1, false, 0, []), (14, .ireturn, 1, false, 0, []), (15, .aload_n 0, 1, false, 0, []), (16, .invokevirtual 161, 3, false, 0, [0, 98, 0, 484, 486, 8, 8]), (19, .astore_n 3, 1, false, 0, [])]),
  (37, [(20, .iload_n 2, 1, false, 0, []), (21, .ifCond .ne 11, 3, false, 0, [32]), (24, .aload_n 3, 1, false, 0, []), (25, .iload_n 1, 1, false, 0, []), (26, .invokevirtual 165, 3, false, 0, [0, 35, 1, 514, 515, 516, 4]), (29, .goto 8, 3, false, 0, [37]), (32, .aload_n 3, 1, false, 0, []), (33, .iload_n 1, 1, false, 0, []), (34, .invokevirtual 168, 3, false, 0, [0, 36, 1, 522, 523, 524, 4]), (37, .ireturn, 1, false, 0, [])])]
def iX9_near : MI := (yX9_near, cX9_near, 4, (some .int), 0, 0, 6, 483, 44)
abbrev mX9_near : Nat := 84
def bX9_by : BK := [
  (19, [(0, .iload_n 1, 1, false, 0, []), (1, .invokestatic 171, 3, false, 0, [1, 99, 1, 530, 498]), (4, .ifCond .eq 12, 3, false, 0, [16]), (7, .iload_n 2, 1, false, 0, []), (8, .ifCond .lt 8, 3, false, 0, [16]), (11, .iload_n 2, 1, false, 0, []), (12, .iconst 4, 1, false, 0, []), (13, .if_icmp .lt 5, 3, false, 0, [18]), (16, .iconst (-1), 1, false, 0, []), (17, .ireturn, 1, false, 0, []), (18, .aload_n 0, 1, false, 0, []), (19, .invokevirtual 161, 3, false, 0, [0, 98, 0, 484, 486, 8, 8])]),
  (64, [(22, .iload_n 1, 1, false, 0, []), (23, .invokevirtual 174, 3, false, 0, [0, 33, 1, 531, 532, 533, 4]), (26, .istore_n 3, 1, false, 0, []), (27, .iload_n 3, 1, false, 0, []), (28, .ifCond .ge 6, 3, false, 0, [34]), (31, .bipush (-9), 2, false, 0, []), (33, .ireturn, 1, false, 0, []), (34, .iload_n 2, 1, false, 0, []), (35, .tableswitch 40 0 2 #[25, 30, 35], 25, false, 0, [75, 60, 65, 70]), (60, .iload_n 3, 1, false, 0, []), (61, .invokestatic 177, 3, false, 0, [1, 67, 1, 535, 536]), (64, .ireturn, 1, false, 0, [])]),
  (79, [(65, .iload_n 3, 1, false, 0, []), (66, .invokestatic 182, 3, false, 0, [1, 68, 1, 538, 539]), (69, .ireturn, 1, false, 0, []), (70, .iload_n 3, 1, false, 0, []), (71, .invokestatic 185, 3, false, 0, [1, 69, 1, 541, 542]), (74, .ireturn, 1, false, 0, []), (75, .iload_n 3, 1, false, 0, []), (76, .invokestatic 188, 3, false, 0, [1, 70, 1, 544, 545]), (79, .ireturn, 1, false, 0, [])])]
def iX9_by : MI := (yX9_by, cX9_by, 4, (some .int), 0, 0, 6, 529, 44)
abbrev mX9_by : Nat := 85
def bX9_two : BK := [
  (21, [(0, .iload_n 1, 1, false, 0, []), (1, .invokestatic 171, 3, false, 0, [1, 99, 1, 530, 498]), (4, .ifCond .ne 5, 3, false, 0, [9]), (7, .iconst (-1), 1, false, 0, []), (8, .ireturn, 1, false, 0, []), (9, .aload_n 0, 1, false, 0, []), (10, .invokevirtual 161, 3, false, 0, [0, 98, 0, 484, 486, 8, 8]), (13, .aload_n 0, 1, false, 0, []), (14, .getfield 10, 3, false, 0, [8, 0, 2, 243]), (17, .iload_n 1, 1, false, 0, []), (18, .invokevirtual 191, 3, false, 0, [0, 37, 2, 551, 552, 553, 4]), (21, .ireturn, 1, false, 0, [])])]
def iX9_two : MI := (yX9_two, cX9_two, 2, (some .int), 0, 0, 6, 550, 44)
abbrev mX9_two : Nat := 86
def bX9_least : BK := [
  (19, [(0, .iload_n 1, 1, false, 0, []), (1, .iconst 1, 1, false, 0, []), (2, .if_icmp .lt 10, 3, false, 0, [12]), (5, .iload_n 1, 1, false, 0, []), (6, .sipush 255, 3, false, 0, []), (9, .if_icmp .le 5, 3, false, 0, [14]), (12, .iconst (-1), 1, false, 0, []), (13, .ireturn, 1, false, 0, []), (14, .aload_n 0, 1, false, 0, []), (15, .getfield 64, 3, false, 0, [8, 8, 2, 251]), (18, .iload_n 1, 1, false, 0, []), (19, .invokestatic 195, 3, false, 0, [1, 101, 1, 575, 377])]),
  (25, [(22, .invokevirtual 198, 3, false, 0, [0, 1, 1, 576, 577, 578, 0]), (25, .ireturn, 1, false, 0, [])])]
def iX9_least : MI := (yX9_least, cX9_least, 2, (some .int), 0, 0, 6, 574, 44)
abbrev mX9_least : Nat := 87
def bX9_plan : BK := [
  (20, [(0, .iload_n 1, 1, false, 0, []), (1, .bipush (-2), 2, false, 0, []), (3, .if_icmp .ge 5, 3, false, 0, [8]), (6, .iconst (-1), 1, false, 0, []), (7, .ireturn, 1, false, 0, []), (8, .aload_n 0, 1, false, 0, []), (9, .getfield 72, 3, false, 0, [8, 10, 1, 253]), (12, .ifCond .eq 23, 3, false, 0, [35]), (15, .aload_n 0, 1, false, 0, []), (16, .getfield 57, 3, false, 0, [8, 7, 2, 250]), (19, .aload_n 0, 1, false, 0, []), (20, .getfield 10, 3, false, 0, [8, 0, 2, 243])]),
  (45, [(23, .aload_n 0, 1, false, 0, []), (24, .invokevirtual 161, 3, false, 0, [0, 98, 0, 484, 486, 8, 8]), (27, .invokevirtual 200, 3, false, 0, [0, 42, 2, 608, 609, 610, 5]), (30, .aload_n 0, 1, false, 0, []), (31, .iconst 0, 1, false, 0, []), (32, .putfield 72, 3, false, 0, [8, 10, 1, 253]), (35, .iload_n 1, 1, false, 0, []), (36, .bipush (-2), 2, false, 0, []), (38, .if_icmp .ne 11, 3, false, 0, [49]), (41, .aload_n 0, 1, false, 0, []), (42, .getfield 57, 3, false, 0, [8, 7, 2, 250]), (45, .invokevirtual 204, 3, false, 0, [0, 43, 0, 630, 631, 632, 5])]),
  (69, [(48, .ireturn, 1, false, 0, []), (49, .iload_n 1, 1, false, 0, []), (50, .iconst (-1), 1, false, 0, []), (51, .if_icmp .ne 14, 3, false, 0, [65]), (54, .aload_n 0, 1, false, 0, []), (55, .getfield 57, 3, false, 0, [8, 7, 2, 250]), (58, .getfield 207, 3, false, 0, [5, 0, 2, 213]), (61, .invokevirtual 210, 3, false, 0, [0, 16, 0, 634, 615, 616, 1]), (64, .ireturn, 1, false, 0, []), (65, .aload_n 0, 1, false, 0, []), (66, .getfield 57, 3, false, 0, [8, 7, 2, 250]), (69, .iload_n 1, 1, false, 0, [])]),
  (73, [(70, .invokevirtual 213, 3, false, 0, [0, 44, 1, 635, 636, 637, 5]), (73, .ireturn, 1, false, 0, [])])]
def iX9_plan : MI := (yX9_plan, cX9_plan, 2, (some .int), 0, 0, 6, 607, 44)
abbrev mX9_plan : Nat := 88
def bX9_product : BK := [
  (23, [(0, .aload_n 0, 1, false, 0, []), (1, .getfield 10, 3, false, 0, [8, 0, 2, 243]), (4, .iload_n 1, 1, false, 0, []), (5, .invokevirtual 100, 3, false, 0, [0, 6, 1, 410, 411, 412, 1]), (8, .ifCond .eq 15, 3, false, 0, [23]), (11, .iload_n 2, 1, false, 0, []), (12, .ldc 214, 2, false, (-99999), [645]), (14, .if_icmp .lt 9, 3, false, 0, [23]), (17, .iload_n 2, 1, false, 0, []), (18, .ldc 215, 2, false, 99999, [646]), (20, .if_icmp .le 5, 3, false, 0, [25]), (23, .lconst 0, 1, false, 0, [])]),
  (37, [(24, .lreturn, 1, false, 0, []), (25, .aload_n 0, 1, false, 0, []), (26, .getfield 10, 3, false, 0, [8, 0, 2, 243]), (29, .iload_n 1, 1, false, 0, []), (30, .invokevirtual 132, 3, false, 0, [0, 7, 1, 438, 352, 353, 1]), (33, .i2l, 1, false, 0, []), (34, .iload_n 2, 1, false, 0, []), (35, .i2l, 1, false, 0, []), (36, .lmul, 1, false, 0, []), (37, .lreturn, 1, false, 0, [])])]
def iX9_product : MI := (yX9_product, cX9_product, 3, (some .long), 0, 0, 1, 644, 44)
abbrev mX9_product : Nat := 89
def bX9_sees : BK := [
  (20, [(0, .iload_n 1, 1, false, 0, []), (1, .iconst 2, 1, false, 0, []), (2, .if_icmp .lt 18, 3, false, 0, [20]), (5, .iload_n 1, 1, false, 0, []), (6, .bipush 9, 2, false, 0, []), (8, .if_icmp .gt 12, 3, false, 0, [20]), (11, .iload_n 2, 1, false, 0, []), (12, .ifCond .lt 8, 3, false, 0, [20]), (15, .iload_n 2, 1, false, 0, []), (16, .iload_n 1, 1, false, 0, []), (17, .if_icmp .lt 5, 3, false, 0, [22]), (20, .iconst (-1), 1, false, 0, [])]),
  (31, [(21, .ireturn, 1, false, 0, []), (22, .aload_n 0, 1, false, 0, []), (23, .getfield 43, 3, false, 0, [8, 5, 2, 248]), (26, .iload_n 1, 1, false, 0, []), (27, .iload_n 2, 1, false, 0, []), (28, .invokevirtual 216, 3, false, 0, [0, 47, 2, 651, 652, 653, 6]), (31, .ireturn, 1, false, 0, [])])]
def iX9_sees : MI := (yX9_sees, cX9_sees, 3, (some .int), 0, 0, 1, 650, 44)
abbrev mX9_sees : Nat := 90
def bX9_forget : BK := [
  (7, [(0, .aload_n 0, 1, false, 0, []), (1, .getfield 43, 3, false, 0, [8, 5, 2, 248]), (4, .invokevirtual 95, 3, false, 0, [0, 48, 0, 398, 399, 400, 6]), (7, .ireturn, 1, false, 0, [])])]
def iX9_forget : MI := (yX9_forget, cX9_forget, 1, (some .int), 0, 0, 1, 658, 44)
abbrev mX9_forget : Nat := 91
def bX9_unseen : BK := [
  (17, [(0, .iload_n 1, 1, false, 0, []), (1, .ifCond .lt 8, 3, false, 0, [9]), (4, .iload_n 1, 1, false, 0, []), (5, .iconst 1, 1, false, 0, []), (6, .if_icmp .le 5, 3, false, 0, [11]), (9, .iconst (-1), 1, false, 0, []), (10, .ireturn, 1, false, 0, []), (11, .aload_n 0, 1, false, 0, []), (12, .invokevirtual 161, 3, false, 0, [0, 98, 0, 484, 486, 8, 8]), (15, .astore_n 2, 1, false, 0, []), (16, .iload_n 1, 1, false, 0, []), (17, .ifCond .ne 14, 3, false, 0, [31])]),
  (39, [(20, .aload_n 0, 1, false, 0, []), (21, .getfield 43, 3, false, 0, [8, 5, 2, 248]), (24, .aload_n 2, 1, false, 0, []), (25, .invokevirtual 218, 3, false, 0, [0, 50, 1, 663, 664, 665, 6]), (28, .goto 11, 3, false, 0, [39]), (31, .aload_n 0, 1, false, 0, []), (32, .getfield 43, 3, false, 0, [8, 5, 2, 248]), (35, .aload_n 2, 1, false, 0, []), (36, .invokevirtual 222, 3, false, 0, [0, 51, 1, 672, 673, 674, 6]), (39, .ireturn, 1, false, 0, [])])]
def iX9_unseen : MI := (yX9_unseen, cX9_unseen, 3, (some .int), 0, 0, 6, 662, 44)
abbrev mX9_unseen : Nat := 92
def bX9_next : BK := [
  (11, [(0, .aload_n 0, 1, false, 0, []), (1, .getfield 43, 3, false, 0, [8, 5, 2, 248]), (4, .aload_n 0, 1, false, 0, []), (5, .invokevirtual 161, 3, false, 0, [0, 98, 0, 484, 486, 8, 8]), (8, .invokevirtual 225, 3, false, 0, [0, 52, 1, 680, 681, 682, 6]), (11, .ireturn, 1, false, 0, [])])]
def iX9_next : MI := (yX9_next, cX9_next, 1, (some .int), 0, 0, 6, 679, 44)
abbrev mX9_next : Nat := 93
def bX9_keep : BK := [
  (17, [(0, .iload_n 1, 1, false, 0, []), (1, .ifCond .lt 8, 3, false, 0, [9]), (4, .iload_n 1, 1, false, 0, []), (5, .iconst 2, 1, false, 0, []), (6, .if_icmp .lt 5, 3, false, 0, [11]), (9, .iconst (-1), 1, false, 0, []), (10, .ireturn, 1, false, 0, []), (11, .aload_n 0, 1, false, 0, []), (12, .getfield 36, 3, false, 0, [8, 4, 2, 247]), (15, .iload_n 1, 1, false, 0, []), (16, .aload_n 0, 1, false, 0, []), (17, .getfield 10, 3, false, 0, [8, 0, 2, 243])]),
  (30, [(20, .invokevirtual 228, 3, false, 0, [0, 25, 2, 694, 695, 696, 3]), (23, .aload_n 0, 1, false, 0, []), (24, .getfield 10, 3, false, 0, [8, 0, 2, 243]), (27, .getfield 123, 3, false, 0, [1, 2, 0, 83]), (30, .ireturn, 1, false, 0, [])])]
def iX9_keep : MI := (yX9_keep, cX9_keep, 2, (some .int), 0, 0, 3, 693, 44)
abbrev mX9_keep : Nat := 94
def bX9_back : BK := [
  (19, [(0, .iload_n 1, 1, false, 0, []), (1, .ifCond .lt 8, 3, false, 0, [9]), (4, .iload_n 1, 1, false, 0, []), (5, .iconst 2, 1, false, 0, []), (6, .if_icmp .lt 5, 3, false, 0, [11]), (9, .iconst (-1), 1, false, 0, []), (10, .ireturn, 1, false, 0, []), (11, .aload_n 0, 1, false, 0, []), (12, .getfield 36, 3, false, 0, [8, 4, 2, 247]), (15, .getfield 232, 3, false, 0, [3, 1, 2, 162]), (18, .iload_n 1, 1, false, 0, []), (19, .baload, 1, false, 0, [])]),
  (42, [(20, .ifCond .ne 6, 3, false, 0, [26]), (23, .bipush (-2), 2, false, 0, []), (25, .ireturn, 1, false, 0, []), (26, .aload_n 0, 1, false, 0, []), (27, .getfield 10, 3, false, 0, [8, 0, 2, 243]), (30, .aload_n 0, 1, false, 0, []), (31, .getfield 36, 3, false, 0, [8, 4, 2, 247]), (34, .getfield 236, 3, false, 0, [3, 0, 2, 160]), (37, .iload_n 1, 1, false, 0, []), (38, .aaload, 1, false, 0, []), (39, .invokevirtual 87, 3, false, 0, [0, 5, 1, 383, 384, 385, 1]), (42, .aload_n 0, 1, false, 0, [])]),
  (60, [(43, .getfield 29, 3, false, 0, [8, 3, 2, 246]), (46, .invokevirtual 91, 3, false, 0, [0, 23, 0, 390, 391, 392, 2]), (49, .aload_n 0, 1, false, 0, []), (50, .invokevirtual 97, 3, false, 0, [0, 97, 0, 402, 404, 7, 8]), (53, .aload_n 0, 1, false, 0, []), (54, .getfield 10, 3, false, 0, [8, 0, 2, 243]), (57, .getfield 123, 3, false, 0, [1, 2, 0, 83]), (60, .ireturn, 1, false, 0, [])])]
def iX9_back : MI := (yX9_back, cX9_back, 2, (some .int), 0, 0, 2, 702, 44)
abbrev mX9_back : Nat := 95
def bX9_count : BK := [
  (65, [(0, .iload_n 1, 1, false, 0, []), (1, .tableswitch 111 0 7 #[47, 55, 63, 71, 79, 87, 95, 103], 47, false, 0, [112, 48, 56, 64, 72, 80, 88, 96, 104]), (48, .aload_n 0, 1, false, 0, []), (49, .getfield 10, 3, false, 0, [8, 0, 2, 243]), (52, .getfield 123, 3, false, 0, [1, 2, 0, 83]), (55, .ireturn, 1, false, 0, []), (56, .aload_n 0, 1, false, 0, []), (57, .getfield 10, 3, false, 0, [8, 0, 2, 243]), (60, .getfield 108, 3, false, 0, [1, 3, 0, 87]), (63, .ireturn, 1, false, 0, []), (64, .aload_n 0, 1, false, 0, []), (65, .getfield 10, 3, false, 0, [8, 0, 2, 243])]),
  (89, [(68, .getfield 148, 3, false, 0, [1, 4, 0, 92]), (71, .ireturn, 1, false, 0, []), (72, .aload_n 0, 1, false, 0, []), (73, .getfield 10, 3, false, 0, [8, 0, 2, 243]), (76, .invokevirtual 210, 3, false, 0, [0, 16, 0, 634, 615, 616, 1]), (79, .ireturn, 1, false, 0, []), (80, .aload_n 0, 1, false, 0, []), (81, .getfield 10, 3, false, 0, [8, 0, 2, 243]), (84, .invokevirtual 145, 3, false, 0, [0, 14, 0, 457, 458, 459, 1]), (87, .ireturn, 1, false, 0, []), (88, .aload_n 0, 1, false, 0, []), (89, .getfield 43, 3, false, 0, [8, 5, 2, 248])]),
  (113, [(92, .getfield 240, 3, false, 0, [6, 3, 0, 179]), (95, .ireturn, 1, false, 0, []), (96, .aload_n 0, 1, false, 0, []), (97, .getfield 22, 3, false, 0, [8, 2, 2, 245]), (100, .getfield 243, 3, false, 0, [7, 1, 0, 113]), (103, .ireturn, 1, false, 0, []), (104, .aload_n 0, 1, false, 0, []), (105, .getfield 29, 3, false, 0, [8, 3, 2, 246]), (108, .getfield 151, 3, false, 0, [2, 2, 0, 143]), (111, .ireturn, 1, false, 0, []), (112, .iconst (-1), 1, false, 0, []), (113, .ireturn, 1, false, 0, [])])]
def iX9_count : MI := (yX9_count, cX9_count, 2, (some .int), 0, 0, 4, 706, 44)
abbrev mX9_count : Nat := 96
def bX9_changed : BK := [
  (10, [(0, .aload_n 0, 1, false, 0, []), (1, .iconst 1, 1, false, 0, []), (2, .putfield 68, 3, false, 0, [8, 9, 1, 252]), (5, .aload_n 0, 1, false, 0, []), (6, .iconst 1, 1, false, 0, []), (7, .putfield 72, 3, false, 0, [8, 10, 1, 253]), (10, .return_, 1, false, 0, [])])]
def iX9_changed : MI := (yX9_changed, cX9_changed, 1, none, 0, 0, 0, 405, 44)
abbrev mX9_changed : Nat := 97
def bX9_freshNear : BK := [
  (23, [(0, .aload_n 0, 1, false, 0, []), (1, .getfield 68, 3, false, 0, [8, 9, 1, 252]), (4, .ifCond .eq 19, 3, false, 0, [23]), (7, .aload_n 0, 1, false, 0, []), (8, .getfield 50, 3, false, 0, [8, 6, 2, 249]), (11, .aload_n 0, 1, false, 0, []), (12, .getfield 10, 3, false, 0, [8, 0, 2, 243]), (15, .invokevirtual 246, 3, false, 0, [0, 28, 1, 488, 489, 490, 4]), (18, .aload_n 0, 1, false, 0, []), (19, .iconst 0, 1, false, 0, []), (20, .putfield 68, 3, false, 0, [8, 9, 1, 252]), (23, .aload_n 0, 1, false, 0, [])]),
  (27, [(24, .getfield 50, 3, false, 0, [8, 6, 2, 249]), (27, .areturn, 1, false, 0, [])])]
def iX9_freshNear : MI := (yX9_freshNear, cX9_freshNear, 1, (some (.object "ShiftAdds$Near")), 0, 0, 5, 487, 44)
abbrev mX9_freshNear : Nat := 98
def bX9_isOddNumber : BK := [
  (19, [(0, .iload_n 0, 1, false, 0, []), (1, .iconst 1, 1, false, 0, []), (2, .if_icmp .lt 21, 3, false, 0, [23]), (5, .iload_n 0, 1, false, 0, []), (6, .sipush 1023, 3, false, 0, []), (9, .if_icmp .gt 14, 3, false, 0, [23]), (12, .iload_n 0, 1, false, 0, []), (13, .iconst 1, 1, false, 0, []), (14, .iand, 1, false, 0, []), (15, .iconst 1, 1, false, 0, []), (16, .if_icmp .ne 7, 3, false, 0, [23]), (19, .iconst 1, 1, false, 0, [])]),
  (24, [(20, .goto 4, 3, false, 0, [24]), (23, .iconst 0, 1, false, 0, []), (24, .ireturn, 1, false, 0, [])])]
def iX9_isOddNumber : MI := (yX9_isOddNumber, cX9_isOddNumber, 1, (some .boolean), 0, 0, 0, 499, 44)
abbrev mX9_isOddNumber : Nat := 99
def bX9_halvings : BK := [
  (16, [(0, .iconst 0, 1, false, 0, []), (1, .istore_n 1, 1, false, 0, []), (2, .iload_n 1, 1, true, 0, []), (3, .bipush 11, 2, false, 0, []), (5, .if_icmp .ge 21, 3, false, 0, [26]), (8, .iload_n 0, 1, false, 0, []), (9, .ifCond .eq 17, 3, false, 0, [26]), (12, .iload_n 0, 1, false, 0, []), (13, .iload_n 1, 1, false, 0, []), (14, .ishr, 1, false, 0, []), (15, .iconst 1, 1, false, 0, []), (16, .iand, 1, false, 0, [])]),
  (27, [(17, .ifCond .ne 9, 3, false, 0, [26]), (20, .iinc 1 1, 3, false, 0, []), (23, .goto (-21), 3, false, 0, [2]), (26, .iload_n 1, 1, false, 0, []), (27, .ireturn, 1, false, 0, [])])]
def iX9_halvings : MI := (yX9_halvings, cX9_halvings, 2, (some .int), 0, 0, 0, 381, 44)
abbrev mX9_halvings : Nat := 100
def bX9_oddPart : BK := [
  (6, [(0, .iload_n 0, 1, false, 0, []), (1, .iload_n 0, 1, false, 0, []), (2, .invokestatic 249, 3, false, 0, [1, 100, 1, 379, 380]), (5, .ishr, 1, false, 0, []), (6, .ireturn, 1, false, 0, [])])]
def iX9_oddPart : MI := (yX9_oddPart, cX9_oddPart, 1, (some .int), 0, 0, 1, 378, 44)
abbrev mX9_oddPart : Nat := 101
def bX9_comes : BK := [
  (37, [(0, .iload_n 3, 1, false, 0, []), (1, .tableswitch 48 0 2 #[27, 33, 42], 27, false, 0, [49, 28, 34, 43]), (28, .iload_n 0, 1, false, 0, []), (29, .iload_n 1, 1, false, 0, []), (30, .ishl, 1, false, 0, []), (31, .iload_n 2, 1, false, 0, []), (32, .iadd, 1, false, 0, []), (33, .ireturn, 1, false, 0, []), (34, .iload_n 0, 1, false, 0, []), (35, .iload_n 1, 1, false, 0, []), (36, .ishl, 1, false, 0, []), (37, .iload_n 2, 1, false, 0, [])]),
  (51, [(38, .isub, 1, false, 0, []), (39, .invokestatic 252, 3, false, 0, [7, 0, 1, 358, 359, 360, 54]), (42, .ireturn, 1, false, 0, []), (43, .iload_n 0, 1, false, 0, []), (44, .iload_n 2, 1, false, 0, []), (45, .iload_n 1, 1, false, 0, []), (46, .ishl, 1, false, 0, []), (47, .iadd, 1, false, 0, []), (48, .ireturn, 1, false, 0, []), (49, .iload_n 0, 1, false, 0, []), (50, .iload_n 2, 1, false, 0, []), (51, .iload_n 1, 1, false, 0, [])]),
  (57, [(52, .ishl, 1, false, 0, []), (53, .isub, 1, false, 0, []), (54, .invokestatic 252, 3, false, 0, [7, 0, 1, 358, 359, 360, 54]), (57, .ireturn, 1, false, 0, [])])]
def iX9_comes : MI := (yX9_comes, cX9_comes, 4, (some .int), 0, 0, 1, 357, 44)
abbrev mX9_comes : Nat := 102
def bX9_signedDigit : BK := [
  (11, [(0, .iconst 3, 1, false, 0, []), (1, .iload_n 0, 1, false, 0, []), (2, .imul, 1, false, 0, []), (3, .iload_n 1, 1, false, 0, []), (4, .iconst 1, 1, false, 0, []), (5, .iadd, 1, false, 0, []), (6, .ishr, 1, false, 0, []), (7, .iconst 1, 1, false, 0, []), (8, .iand, 1, false, 0, []), (9, .iload_n 0, 1, false, 0, []), (10, .iload_n 1, 1, false, 0, []), (11, .iconst 1, 1, false, 0, [])]),
  (17, [(12, .iadd, 1, false, 0, []), (13, .ishr, 1, false, 0, []), (14, .iconst 1, 1, false, 0, []), (15, .iand, 1, false, 0, []), (16, .isub, 1, false, 0, []), (17, .ireturn, 1, false, 0, [])])]
def iX9_signedDigit : MI := (yX9_signedDigit, cX9_signedDigit, 2, (some .int), 0, 0, 0, 475, 44)
abbrev mX9_signedDigit : Nat := 103
def bX10_init : BK := [
  (21, [(0, .aload_n 0, 1, false, 0, []), (1, .invokespecial 1, 3, false, 0, [9, 0, 0, 712, 63, 64]), (4, .aload_n 0, 1, false, 0, []), (5, .bipush 80, 2, false, 0, []), (7, .newarray .int, 2, false, 0, [104]), (9, .putfield 7, 3, false, 0, [9, 1, 2, 725]), (12, .aload_n 0, 1, false, 0, []), (13, .bipush 57, 2, false, 0, []), (15, .newarray .int, 2, false, 0, [104]), (17, .putfield 13, 3, false, 0, [9, 8, 2, 732]), (20, .aload_n 0, 1, false, 0, []), (21, .bipush 57, 2, false, 0, [])]),
  (45, [(23, .newarray .int, 2, false, 0, [104]), (25, .putfield 16, 3, false, 0, [9, 9, 2, 733]), (28, .aload_n 0, 1, false, 0, []), (29, .bipush 57, 2, false, 0, []), (31, .newarray .int, 2, false, 0, [104]), (33, .putfield 19, 3, false, 0, [9, 10, 2, 734]), (36, .aload_n 0, 1, false, 0, []), (37, .bipush 114, 2, false, 0, []), (39, .newarray .int, 2, false, 0, [104]), (41, .putfield 22, 3, false, 0, [9, 11, 2, 735]), (44, .aload_n 0, 1, false, 0, []), (45, .iconst 2, 1, false, 0, [])]),
  (69, [(46, .newarray .boolean, 2, false, 0, [168]), (48, .putfield 25, 3, false, 0, [9, 12, 2, 736]), (51, .aload_n 0, 1, false, 0, []), (52, .sipush 570, 3, false, 0, []), (55, .newarray .int, 2, false, 0, [104]), (57, .putfield 29, 3, false, 0, [9, 13, 2, 737]), (60, .aload_n 0, 1, false, 0, []), (61, .bipush 6, 2, false, 0, []), (63, .newarray .int, 2, false, 0, [104]), (65, .putfield 32, 3, false, 0, [9, 15, 2, 739]), (68, .aload_n 0, 1, false, 0, []), (69, .bipush 6, 2, false, 0, [])]),
  (93, [(71, .newarray .int, 2, false, 0, [104]), (73, .putfield 35, 3, false, 0, [9, 16, 2, 740]), (76, .aload_n 0, 1, false, 0, []), (77, .bipush 14, 2, false, 0, []), (79, .newarray .int, 2, false, 0, [104]), (81, .putfield 38, 3, false, 0, [9, 18, 2, 742]), (84, .aload_n 0, 1, false, 0, []), (85, .bipush 14, 2, false, 0, []), (87, .newarray .int, 2, false, 0, [104]), (89, .putfield 41, 3, false, 0, [9, 19, 2, 743]), (92, .aload_n 0, 1, false, 0, []), (93, .sipush 1024, 3, false, 0, [])]),
  (119, [(96, .newarray .int, 2, false, 0, [104]), (98, .putfield 44, 3, false, 0, [9, 21, 2, 745]), (101, .aload_n 0, 1, false, 0, []), (102, .bipush 12, 2, false, 0, []), (104, .newarray .int, 2, false, 0, [104]), (106, .putfield 47, 3, false, 0, [9, 22, 2, 746]), (109, .aload_n 0, 1, false, 0, []), (110, .sipush 1024, 3, false, 0, []), (113, .newarray .int, 2, false, 0, [104]), (115, .putfield 50, 3, false, 0, [9, 24, 2, 748]), (118, .aload_n 0, 1, false, 0, []), (119, .sipush 1024, 3, false, 0, [])]),
  (135, [(122, .newarray .int, 2, false, 0, [104]), (124, .putfield 53, 3, false, 0, [9, 25, 2, 749]), (127, .aload_n 0, 1, false, 0, []), (128, .invokevirtual 56, 3, false, 0, [0, 113, 0, 713, 715, 18, 9]), (131, .aload_n 0, 1, false, 0, []), (132, .invokevirtual 59, 3, false, 0, [0, 119, 0, 717, 719, 19, 9]), (135, .return_, 1, false, 0, [])])]
def iX10_init : MI := (yX10_init, cX10_init, 1, none, 15, 4061, 2, 711, 53)
abbrev mX10_init : Nat := 104
def bX10_in : BK := [
  (15, [(0, .iload_n 0, 1, false, 0, []), (1, .iload_n 1, 1, false, 0, []), (2, .if_icmp .lt 12, 3, false, 0, [14]), (5, .iload_n 0, 1, false, 0, []), (6, .iload_n 2, 1, false, 0, []), (7, .if_icmp .gt 7, 3, false, 0, [14]), (10, .iconst 1, 1, false, 0, []), (11, .goto 4, 3, false, 0, [15]), (14, .iconst 0, 1, false, 0, []), (15, .ireturn, 1, false, 0, [])])]
def iX10_in : MI := (yX10_in, cX10_in, 3, (some .boolean), 0, 0, 0, 809, 53)
abbrev mX10_in : Nat := 105
def bX10_type : BK := [
  (19, [(0, .aload_n 0, 1, false, 0, []), (1, .iconst 0, 1, false, 0, []), (2, .putfield 62, 3, false, 0, [9, 0, 0, 724]), (5, .iload_n 1, 1, false, 0, []), (6, .iconst 0, 1, false, 0, []), (7, .sipush 255, 3, false, 0, []), (10, .invokestatic 66, 3, false, 0, [1, 105, 3, 807, 808]), (13, .ifCond .ne 5, 3, false, 0, [18]), (16, .iconst (-1), 1, false, 0, []), (17, .ireturn, 1, false, 0, []), (18, .aload_n 0, 1, false, 0, []), (19, .getfield 70, 3, false, 0, [9, 2, 0, 726])]),
  (41, [(22, .bipush 80, 2, false, 0, []), (24, .if_icmp .ne 6, 3, false, 0, [30]), (27, .bipush (-3), 2, false, 0, []), (29, .ireturn, 1, false, 0, []), (30, .aload_n 0, 1, false, 0, []), (31, .getfield 7, 3, false, 0, [9, 1, 2, 725]), (34, .aload_n 0, 1, false, 0, []), (35, .getfield 70, 3, false, 0, [9, 2, 0, 726]), (38, .iload_n 1, 1, false, 0, []), (39, .iastore, 1, false, 0, []), (40, .aload_n 0, 1, false, 0, []), (41, .dup, 1, false, 0, [])]),
  (54, [(42, .getfield 70, 3, false, 0, [9, 2, 0, 726]), (45, .iconst 1, 1, false, 0, []), (46, .iadd, 1, false, 0, []), (47, .putfield 70, 3, false, 0, [9, 2, 0, 726]), (50, .aload_n 0, 1, false, 0, []), (51, .getfield 70, 3, false, 0, [9, 2, 0, 726]), (54, .ireturn, 1, false, 0, [])])]
def iX10_type : MI := (yX10_type, cX10_type, 2, (some .int), 0, 0, 1, 806, 53)
abbrev mX10_type : Nat := 106
def bX10_clear : BK := [
  (16, [(0, .aload_n 0, 1, false, 0, []), (1, .iconst 0, 1, false, 0, []), (2, .putfield 62, 3, false, 0, [9, 0, 0, 724]), (5, .aload_n 0, 1, false, 0, []), (6, .getfield 70, 3, false, 0, [9, 2, 0, 726]), (9, .istore_n 1, 1, false, 0, []), (10, .aload_n 0, 1, false, 0, []), (11, .iconst 0, 1, false, 0, []), (12, .putfield 70, 3, false, 0, [9, 2, 0, 726]), (15, .iload_n 1, 1, false, 0, []), (16, .ireturn, 1, false, 0, [])])]
def iX10_clear : MI := (yX10_clear, cX10_clear, 2, (some .int), 0, 0, 0, 813, 53)
abbrev mX10_clear : Nat := 107
def bX10_letterAt : BK := [
  (18, [(0, .iload_n 1, 1, false, 0, []), (1, .aload_n 0, 1, false, 0, []), (2, .getfield 70, 3, false, 0, [9, 2, 0, 726]), (5, .if_icmp .ge 12, 3, false, 0, [17]), (8, .aload_n 0, 1, false, 0, []), (9, .getfield 7, 3, false, 0, [9, 1, 2, 725]), (12, .iload_n 1, 1, false, 0, []), (13, .iaload, 1, false, 0, []), (14, .goto 4, 3, false, 0, [18]), (17, .iconst (-1), 1, false, 0, []), (18, .ireturn, 1, false, 0, [])])]
def iX10_letterAt : MI := (yX10_letterAt, cX10_letterAt, 2, (some .int), 0, 0, 0, 825, 53)
abbrev mX10_letterAt : Nat := 108
def bX10_advances : BK := [
  (20, [(0, .aload_n 0, 1, true, 0, []), (1, .aload_n 0, 1, false, 0, []), (2, .getfield 73, 3, false, 0, [9, 3, 0, 727]), (5, .invokevirtual 76, 3, false, 0, [0, 108, 1, 822, 824, 21, 9]), (8, .bipush 32, 2, false, 0, []), (10, .if_icmp .ne 16, 3, false, 0, [26]), (13, .aload_n 0, 1, false, 0, []), (14, .dup, 1, false, 0, []), (15, .getfield 73, 3, false, 0, [9, 3, 0, 727]), (18, .iconst 1, 1, false, 0, []), (19, .iadd, 1, false, 0, []), (20, .putfield 73, 3, false, 0, [9, 3, 0, 727])]),
  (44, [(23, .goto (-23), 3, false, 0, [0]), (26, .aload_n 0, 1, false, 0, []), (27, .aload_n 0, 1, false, 0, []), (28, .getfield 73, 3, false, 0, [9, 3, 0, 727]), (31, .putfield 80, 3, false, 0, [9, 5, 0, 729]), (34, .aload_n 0, 1, false, 0, []), (35, .aload_n 0, 1, false, 0, []), (36, .getfield 73, 3, false, 0, [9, 3, 0, 727]), (39, .invokevirtual 76, 3, false, 0, [0, 108, 1, 822, 824, 21, 9]), (42, .istore_n 1, 1, false, 0, []), (43, .iload_n 1, 1, false, 0, []), (44, .ifCond .ge 11, 3, false, 0, [55])]),
  (68, [(47, .aload_n 0, 1, false, 0, []), (48, .iconst 0, 1, false, 0, []), (49, .putfield 83, 3, false, 0, [9, 4, 0, 728]), (52, .goto 183, 3, false, 0, [235]), (55, .iload_n 1, 1, false, 0, []), (56, .bipush 48, 2, false, 0, []), (58, .bipush 57, 2, false, 0, []), (60, .invokestatic 66, 3, false, 0, [1, 105, 3, 807, 808]), (63, .ifCond .eq 120, 3, false, 0, [183]), (66, .aload_n 0, 1, false, 0, []), (67, .iconst 0, 1, false, 0, []), (68, .putfield 86, 3, false, 0, [9, 6, 0, 730])]),
  (94, [(71, .aload_n 0, 1, true, 0, []), (72, .aload_n 0, 1, false, 0, []), (73, .getfield 73, 3, false, 0, [9, 3, 0, 727]), (76, .invokevirtual 76, 3, false, 0, [0, 108, 1, 822, 824, 21, 9]), (79, .bipush 48, 2, false, 0, []), (81, .bipush 57, 2, false, 0, []), (83, .invokestatic 66, 3, false, 0, [1, 105, 3, 807, 808]), (86, .ifCond .eq 56, 3, false, 0, [142]), (89, .aload_n 0, 1, false, 0, []), (90, .aload_n 0, 1, false, 0, []), (91, .getfield 86, 3, false, 0, [9, 6, 0, 730]), (94, .sipush 9999, 3, false, 0, [])]),
  (119, [(97, .if_icmp .le 10, 3, false, 0, [107]), (100, .aload_n 0, 1, false, 0, []), (101, .getfield 86, 3, false, 0, [9, 6, 0, 730]), (104, .goto 22, 3, false, 0, [126]), (107, .bipush 10, 2, false, 0, []), (109, .aload_n 0, 1, false, 0, []), (110, .getfield 86, 3, false, 0, [9, 6, 0, 730]), (113, .imul, 1, false, 0, []), (114, .aload_n 0, 1, false, 0, []), (115, .aload_n 0, 1, false, 0, []), (116, .getfield 73, 3, false, 0, [9, 3, 0, 727]), (119, .invokevirtual 76, 3, false, 0, [0, 108, 1, 822, 824, 21, 9])]),
  (142, [(122, .iadd, 1, false, 0, []), (123, .bipush 48, 2, false, 0, []), (125, .isub, 1, false, 0, []), (126, .putfield 86, 3, false, 0, [9, 6, 0, 730]), (129, .aload_n 0, 1, false, 0, []), (130, .dup, 1, false, 0, []), (131, .getfield 73, 3, false, 0, [9, 3, 0, 727]), (134, .iconst 1, 1, false, 0, []), (135, .iadd, 1, false, 0, []), (136, .putfield 73, 3, false, 0, [9, 3, 0, 727]), (139, .goto (-68), 3, false, 0, [71]), (142, .aload_n 0, 1, false, 0, [])]),
  (167, [(143, .aload_n 0, 1, false, 0, []), (144, .getfield 86, 3, false, 0, [9, 6, 0, 730]), (147, .sipush 9999, 3, false, 0, []), (150, .if_icmp .gt 22, 3, false, 0, [172]), (153, .iload_n 1, 1, false, 0, []), (154, .bipush 48, 2, false, 0, []), (156, .if_icmp .ne 20, 3, false, 0, [176]), (159, .aload_n 0, 1, false, 0, []), (160, .getfield 73, 3, false, 0, [9, 3, 0, 727]), (163, .aload_n 0, 1, false, 0, []), (164, .getfield 80, 3, false, 0, [9, 5, 0, 729]), (167, .isub, 1, false, 0, [])]),
  (189, [(168, .iconst 1, 1, false, 0, []), (169, .if_icmp .le 7, 3, false, 0, [176]), (172, .iconst 4, 1, false, 0, []), (173, .goto 4, 3, false, 0, [177]), (176, .iconst 2, 1, false, 0, []), (177, .putfield 83, 3, false, 0, [9, 4, 0, 728]), (180, .goto 55, 3, false, 0, [235]), (183, .aload_n 0, 1, false, 0, []), (184, .dup, 1, false, 0, []), (185, .getfield 73, 3, false, 0, [9, 3, 0, 727]), (188, .iconst 1, 1, false, 0, []), (189, .iadd, 1, false, 0, [])]),
  (210, [(190, .putfield 73, 3, false, 0, [9, 3, 0, 727]), (193, .aload_n 0, 1, false, 0, []), (194, .iload_n 1, 1, false, 0, []), (195, .putfield 86, 3, false, 0, [9, 6, 0, 730]), (198, .aload_n 0, 1, false, 0, []), (199, .iload_n 1, 1, false, 0, []), (200, .bipush 59, 2, false, 0, []), (202, .if_icmp .ne 7, 3, false, 0, [209]), (205, .iconst 3, 1, false, 0, []), (206, .goto 26, 3, false, 0, [232]), (209, .iload_n 1, 1, false, 0, []), (210, .bipush 108, 2, false, 0, [])]),
  (235, [(212, .if_icmp .eq 15, 3, false, 0, [227]), (215, .iload_n 1, 1, false, 0, []), (216, .bipush 119, 2, false, 0, []), (218, .if_icmp .eq 9, 3, false, 0, [227]), (221, .iload_n 1, 1, false, 0, []), (222, .bipush 97, 2, false, 0, []), (224, .if_icmp .ne 7, 3, false, 0, [231]), (227, .iconst 1, 1, false, 0, []), (228, .goto 4, 3, false, 0, [232]), (231, .iconst 4, 1, false, 0, []), (232, .putfield 83, 3, false, 0, [9, 4, 0, 728]), (235, .return_, 1, false, 0, [])])]
def iX10_advances : MI := (yX10_advances, cX10_advances, 2, none, 0, 0, 1, 821, 53)
abbrev mX10_advances : Nat := 109
def bX10_isWell : BK := [
  (12, [(0, .aload_n 0, 1, false, 0, []), (1, .getfield 89, 3, false, 0, [9, 7, 0, 731]), (4, .ifCond .ge 7, 3, false, 0, [11]), (7, .iconst 1, 1, false, 0, []), (8, .goto 4, 3, false, 0, [12]), (11, .iconst 0, 1, false, 0, []), (12, .ireturn, 1, false, 0, [])])]
def iX10_isWell : MI := (yX10_isWell, cX10_isWell, 1, (some .boolean), 0, 0, 0, 829, 53)
abbrev mX10_isWell : Nat := 110
def bX10_takes : BK := [
  (21, [(0, .aload_n 0, 1, false, 0, []), (1, .invokevirtual 92, 3, false, 0, [0, 110, 0, 826, 828, 22, 9]), (4, .ifCond .ne 5, 3, false, 0, [9]), (7, .iconst 0, 1, false, 0, []), (8, .ireturn, 1, false, 0, []), (9, .iload_n 1, 1, false, 0, []), (10, .ifCond .ne 13, 3, false, 0, [23]), (13, .aload_n 0, 1, false, 0, []), (14, .aload_n 0, 1, false, 0, []), (15, .getfield 80, 3, false, 0, [9, 5, 0, 729]), (18, .putfield 89, 3, false, 0, [9, 7, 0, 731]), (21, .iconst 0, 1, false, 0, [])]),
  (33, [(22, .ireturn, 1, false, 0, []), (23, .aload_n 0, 1, false, 0, []), (24, .getfield 86, 3, false, 0, [9, 6, 0, 730]), (27, .istore_n 2, 1, false, 0, []), (28, .aload_n 0, 1, false, 0, []), (29, .invokevirtual 96, 3, false, 0, [0, 109, 0, 818, 820, 20, 9]), (32, .iload_n 2, 1, false, 0, []), (33, .ireturn, 1, false, 0, [])])]
def iX10_takes : MI := (yX10_takes, cX10_takes, 3, (some .int), 0, 0, 2, 837, 53)
abbrev mX10_takes : Nat := 111
def bX10_isNumber : BK := [
  (21, [(0, .aload_n 0, 1, false, 0, []), (1, .getfield 83, 3, false, 0, [9, 4, 0, 728]), (4, .iconst 2, 1, false, 0, []), (5, .if_icmp .ne 19, 3, false, 0, [24]), (8, .aload_n 0, 1, false, 0, []), (9, .getfield 86, 3, false, 0, [9, 6, 0, 730]), (12, .iload_n 1, 1, false, 0, []), (13, .iload_n 2, 1, false, 0, []), (14, .invokestatic 66, 3, false, 0, [1, 105, 3, 807, 808]), (17, .ifCond .eq 7, 3, false, 0, [24]), (20, .iconst 1, 1, false, 0, []), (21, .goto 4, 3, false, 0, [25])]),
  (25, [(24, .iconst 0, 1, false, 0, []), (25, .ireturn, 1, false, 0, [])])]
def iX10_isNumber : MI := (yX10_isNumber, cX10_isNumber, 3, (some .boolean), 0, 0, 1, 845, 53)
abbrev mX10_isNumber : Nat := 112
def bX10_begins : BK := [
  (18, [(0, .iconst 0, 1, false, 0, []), (1, .istore_n 1, 1, false, 0, []), (2, .iload_n 1, 1, true, 0, []), (3, .bipush 57, 2, false, 0, []), (5, .if_icmp .ge 16, 3, false, 0, [21]), (8, .aload_n 0, 1, false, 0, []), (9, .getfield 13, 3, false, 0, [9, 8, 2, 732]), (12, .iload_n 1, 1, false, 0, []), (13, .iconst 0, 1, false, 0, []), (14, .iastore, 1, false, 0, []), (15, .iinc 1 1, 3, false, 0, []), (18, .goto (-16), 3, false, 0, [2])]),
  (30, [(21, .aload_n 0, 1, false, 0, []), (22, .getfield 13, 3, false, 0, [9, 8, 2, 732]), (25, .bipush 56, 2, false, 0, []), (27, .bipush 6, 2, false, 0, []), (29, .iastore, 1, false, 0, []), (30, .return_, 1, false, 0, [])])]
def iX10_begins : MI := (yX10_begins, cX10_begins, 2, none, 0, 0, 0, 716, 53)
abbrev mX10_begins : Nat := 113
def bX10_mayBegin : BK := [
  (22, [(0, .aload_n 0, 1, false, 0, []), (1, .getfield 86, 3, false, 0, [9, 6, 0, 730]), (4, .bipush 108, 2, false, 0, []), (6, .if_icmp .ne 15, 3, false, 0, [21]), (9, .iload_n 1, 1, false, 0, []), (10, .ifCond .ne 7, 3, false, 0, [17]), (13, .iconst 1, 1, false, 0, []), (14, .goto 52, 3, false, 0, [66]), (17, .iconst 0, 1, false, 0, []), (18, .goto 48, 3, false, 0, [66]), (21, .aload_n 0, 1, false, 0, []), (22, .getfield 86, 3, false, 0, [9, 6, 0, 730])]),
  (47, [(25, .bipush 119, 2, false, 0, []), (27, .if_icmp .ne 23, 3, false, 0, [50]), (30, .aload_n 0, 1, false, 0, []), (31, .getfield 13, 3, false, 0, [9, 8, 2, 732]), (34, .bipush 49, 2, false, 0, []), (36, .iaload, 1, false, 0, []), (37, .bipush 6, 2, false, 0, []), (39, .if_icmp .ge 7, 3, false, 0, [46]), (42, .iconst 1, 1, false, 0, []), (43, .goto 23, 3, false, 0, [66]), (46, .iconst 0, 1, false, 0, []), (47, .goto 19, 3, false, 0, [66])]),
  (66, [(50, .aload_n 0, 1, false, 0, []), (51, .getfield 13, 3, false, 0, [9, 8, 2, 732]), (54, .iconst 0, 1, false, 0, []), (55, .iaload, 1, false, 0, []), (56, .bipush 12, 2, false, 0, []), (58, .if_icmp .ge 7, 3, false, 0, [65]), (61, .iconst 1, 1, false, 0, []), (62, .goto 4, 3, false, 0, [66]), (65, .iconst 0, 1, false, 0, []), (66, .ireturn, 1, false, 0, [])])]
def iX10_mayBegin : MI := (yX10_mayBegin, cX10_mayBegin, 2, (some .boolean), 0, 0, 0, 833, 53)
abbrev mX10_mayBegin : Nat := 114
def bX10_wantedAt : BK := [
  (15, [(0, .iconst (-1), 1, false, 0, []), (1, .istore_n 2, 1, false, 0, []), (2, .iconst 0, 1, false, 0, []), (3, .istore_n 3, 1, false, 0, []), (4, .iload_n 3, 1, true, 0, []), (5, .aload_n 0, 1, false, 0, []), (6, .bipush 49, 2, false, 0, []), (8, .iaload, 1, false, 0, []), (9, .if_icmp .ge 25, 3, false, 0, [34]), (12, .aload_n 0, 1, false, 0, []), (13, .bipush 50, 2, false, 0, []), (15, .iload_n 3, 1, false, 0, [])]),
  (35, [(16, .iadd, 1, false, 0, []), (17, .iaload, 1, false, 0, []), (18, .iload_n 1, 1, false, 0, []), (19, .if_icmp .ne 7, 3, false, 0, [26]), (22, .iload_n 3, 1, false, 0, []), (23, .goto 4, 3, false, 0, [27]), (26, .iload_n 2, 1, false, 0, []), (27, .istore_n 2, 1, false, 0, []), (28, .iinc 3 1, 3, false, 0, []), (31, .goto (-27), 3, false, 0, [4]), (34, .iload_n 2, 1, false, 0, []), (35, .ireturn, 1, false, 0, [])])]
def iX10_wantedAt : MI := (yX10_wantedAt, cX10_wantedAt, 4, (some .int), 0, 0, 0, 848, 53)
abbrev mX10_wantedAt : Nat := 115
def bX10_readsAdder : BK := [
  (17, [(0, .aload_n 0, 1, false, 0, []), (1, .getfield 13, 3, false, 0, [9, 8, 2, 732]), (4, .iconst 0, 1, false, 0, []), (5, .iaload, 1, false, 0, []), (6, .istore_n 1, 1, false, 0, []), (7, .aload_n 0, 1, false, 0, []), (8, .aload_n 0, 1, false, 0, []), (9, .iconst 0, 1, false, 0, []), (10, .iload_n 1, 1, false, 0, []), (11, .invokevirtual 99, 3, false, 0, [0, 112, 2, 842, 844, 26, 9]), (14, .invokevirtual 103, 3, false, 0, [0, 111, 1, 834, 836, 24, 9]), (17, .istore_n 2, 1, false, 0, [])]),
  (34, [(18, .aload_n 0, 1, false, 0, []), (19, .aload_n 0, 1, false, 0, []), (20, .iconst 0, 1, false, 0, []), (21, .bipush 9, 2, false, 0, []), (23, .invokevirtual 99, 3, false, 0, [0, 112, 2, 842, 844, 26, 9]), (26, .invokevirtual 103, 3, false, 0, [0, 111, 1, 834, 836, 24, 9]), (29, .istore_n 3, 1, false, 0, []), (30, .aload_n 0, 1, false, 0, []), (31, .aload_n 0, 1, false, 0, []), (32, .iconst 0, 1, false, 0, []), (33, .iload_n 1, 1, false, 0, []), (34, .invokevirtual 99, 3, false, 0, [0, 112, 2, 842, 844, 26, 9])]),
  (59, [(37, .invokevirtual 103, 3, false, 0, [0, 111, 1, 834, 836, 24, 9]), (40, .istore 4, 2, false, 0, []), (42, .aload_n 0, 1, false, 0, []), (43, .invokevirtual 92, 3, false, 0, [0, 110, 0, 826, 828, 22, 9]), (46, .ifCond .eq 11, 3, false, 0, [57]), (49, .aload_n 0, 1, false, 0, []), (50, .aload_n 0, 1, false, 0, []), (51, .getfield 13, 3, false, 0, [9, 8, 2, 732]), (54, .invokevirtual 107, 3, false, 0, [0, 124, 1, 853, 855, 28, 9]), (57, .aload_n 0, 1, false, 0, []), (58, .aload_n 0, 1, false, 0, []), (59, .iconst 0, 1, false, 0, [])]),
  (80, [(60, .iconst 3, 1, false, 0, []), (61, .invokevirtual 99, 3, false, 0, [0, 112, 2, 842, 844, 26, 9]), (64, .ifCond .eq 29, 3, false, 0, [93]), (67, .aload_n 0, 1, false, 0, []), (68, .iload_n 2, 1, false, 0, []), (69, .iload_n 3, 1, false, 0, []), (70, .iload 4, 2, false, 0, []), (72, .aload_n 0, 1, false, 0, []), (73, .getfield 86, 3, false, 0, [9, 6, 0, 730]), (76, .aload_n 0, 1, false, 0, []), (77, .getfield 13, 3, false, 0, [9, 8, 2, 732]), (80, .bipush 56, 2, false, 0, [])]),
  (106, [(82, .iaload, 1, false, 0, []), (83, .invokevirtual 111, 3, false, 0, [0, 125, 5, 867, 869, 30, 9]), (86, .ifCond .eq 7, 3, false, 0, [93]), (89, .iconst 1, 1, false, 0, []), (90, .goto 4, 3, false, 0, [94]), (93, .iconst 0, 1, false, 0, []), (94, .invokevirtual 103, 3, false, 0, [0, 111, 1, 834, 836, 24, 9]), (97, .istore 5, 2, false, 0, []), (99, .aload_n 0, 1, false, 0, []), (100, .invokevirtual 92, 3, false, 0, [0, 110, 0, 826, 828, 22, 9]), (103, .ifCond .eq 16, 3, false, 0, [119]), (106, .aload_n 0, 1, false, 0, [])]),
  (119, [(107, .getfield 13, 3, false, 0, [9, 8, 2, 732]), (110, .iload_n 2, 1, false, 0, []), (111, .iload_n 3, 1, false, 0, []), (112, .iload 4, 2, false, 0, []), (114, .iload 5, 2, false, 0, []), (116, .invokestatic 115, 3, false, 0, [1, 126, 5, 871, 872]), (119, .return_, 1, false, 0, [])])]
def iX10_readsAdder : MI := (yX10_readsAdder, cX10_readsAdder, 6, none, 0, 0, 3, 852, 53)
abbrev mX10_readsAdder : Nat := 116
def bX10_readsItem : BK := [
  (20, [(0, .iload_n 1, 1, false, 0, []), (1, .bipush 108, 2, false, 0, []), (3, .if_icmp .ne 24, 3, false, 0, [27]), (6, .aload_n 0, 1, false, 0, []), (7, .getfield 13, 3, false, 0, [9, 8, 2, 732]), (10, .bipush 56, 2, false, 0, []), (12, .aload_n 0, 1, false, 0, []), (13, .aload_n 0, 1, false, 0, []), (14, .iconst 1, 1, false, 0, []), (15, .bipush 9, 2, false, 0, []), (17, .invokevirtual 99, 3, false, 0, [0, 112, 2, 842, 844, 26, 9]), (20, .invokevirtual 103, 3, false, 0, [0, 111, 1, 834, 836, 24, 9])]),
  (45, [(23, .iastore, 1, false, 0, []), (24, .goto 85, 3, false, 0, [109]), (27, .iload_n 1, 1, false, 0, []), (28, .bipush 119, 2, false, 0, []), (30, .if_icmp .ne 75, 3, false, 0, [105]), (33, .aload_n 0, 1, false, 0, []), (34, .aload_n 0, 1, false, 0, []), (35, .iconst 1, 1, false, 0, []), (36, .sipush 1023, 3, false, 0, []), (39, .invokevirtual 99, 3, false, 0, [0, 112, 2, 842, 844, 26, 9]), (42, .ifCond .eq 21, 3, false, 0, [63]), (45, .aload_n 0, 1, false, 0, [])]),
  (69, [(46, .getfield 13, 3, false, 0, [9, 8, 2, 732]), (49, .aload_n 0, 1, false, 0, []), (50, .getfield 86, 3, false, 0, [9, 6, 0, 730]), (53, .invokestatic 119, 3, false, 0, [1, 115, 2, 846, 847]), (56, .ifCond .ge 7, 3, false, 0, [63]), (59, .iconst 1, 1, false, 0, []), (60, .goto 4, 3, false, 0, [64]), (63, .iconst 0, 1, false, 0, []), (64, .invokevirtual 103, 3, false, 0, [0, 111, 1, 834, 836, 24, 9]), (67, .istore_n 2, 1, false, 0, []), (68, .aload_n 0, 1, false, 0, []), (69, .invokevirtual 92, 3, false, 0, [0, 110, 0, 826, 828, 22, 9])]),
  (91, [(72, .ifCond .eq 30, 3, false, 0, [102]), (75, .aload_n 0, 1, false, 0, []), (76, .getfield 13, 3, false, 0, [9, 8, 2, 732]), (79, .bipush 50, 2, false, 0, []), (81, .aload_n 0, 1, false, 0, []), (82, .getfield 13, 3, false, 0, [9, 8, 2, 732]), (85, .bipush 49, 2, false, 0, []), (87, .iaload, 1, false, 0, []), (88, .iadd, 1, false, 0, []), (89, .iload_n 2, 1, false, 0, []), (90, .iastore, 1, false, 0, []), (91, .aload_n 0, 1, false, 0, [])]),
  (109, [(92, .getfield 13, 3, false, 0, [9, 8, 2, 732]), (95, .bipush 49, 2, false, 0, []), (97, .dup2, 1, false, 0, []), (98, .iaload, 1, false, 0, []), (99, .iconst 1, 1, false, 0, []), (100, .iadd, 1, false, 0, []), (101, .iastore, 1, false, 0, []), (102, .goto 7, 3, false, 0, [109]), (105, .aload_n 0, 1, false, 0, []), (106, .invokevirtual 123, 3, false, 0, [0, 116, 0, 849, 851, 27, 9]), (109, .return_, 1, false, 0, [])])]
def iX10_readsItem : MI := (yX10_readsItem, cX10_readsItem, 3, none, 0, 0, 4, 841, 53)
abbrev mX10_readsItem : Nat := 117
def bX10_graph : BK := [
  (19, [(0, .aload_n 0, 1, false, 0, []), (1, .iconst 0, 1, false, 0, []), (2, .putfield 62, 3, false, 0, [9, 0, 0, 724]), (5, .aload_n 0, 1, false, 0, []), (6, .iconst (-1), 1, false, 0, []), (7, .putfield 89, 3, false, 0, [9, 7, 0, 731]), (10, .aload_n 0, 1, false, 0, []), (11, .iconst 0, 1, false, 0, []), (12, .putfield 73, 3, false, 0, [9, 3, 0, 727]), (15, .aload_n 0, 1, false, 0, []), (16, .invokevirtual 56, 3, false, 0, [0, 113, 0, 713, 715, 18, 9]), (19, .iconst 0, 1, false, 0, [])]),
  (41, [(20, .istore_n 1, 1, false, 0, []), (21, .aload_n 0, 1, false, 0, []), (22, .invokevirtual 96, 3, false, 0, [0, 109, 0, 818, 820, 20, 9]), (25, .aload_n 0, 1, true, 0, []), (26, .invokevirtual 92, 3, false, 0, [0, 110, 0, 826, 828, 22, 9]), (29, .ifCond .eq 72, 3, false, 0, [101]), (32, .aload_n 0, 1, false, 0, []), (33, .getfield 83, 3, false, 0, [9, 4, 0, 728]), (36, .ifCond .eq 65, 3, false, 0, [101]), (39, .aload_n 0, 1, false, 0, []), (40, .aload_n 0, 1, false, 0, []), (41, .getfield 83, 3, false, 0, [9, 4, 0, 728])]),
  (65, [(44, .iconst 1, 1, false, 0, []), (45, .if_icmp .ne 15, 3, false, 0, [60]), (48, .aload_n 0, 1, false, 0, []), (49, .iload_n 1, 1, false, 0, []), (50, .invokevirtual 126, 3, false, 0, [0, 114, 1, 830, 832, 23, 9]), (53, .ifCond .eq 7, 3, false, 0, [60]), (56, .iconst 1, 1, false, 0, []), (57, .goto 4, 3, false, 0, [61]), (60, .iconst 0, 1, false, 0, []), (61, .invokevirtual 103, 3, false, 0, [0, 111, 1, 834, 836, 24, 9]), (64, .istore_n 2, 1, false, 0, []), (65, .aload_n 0, 1, false, 0, [])]),
  (87, [(66, .invokevirtual 92, 3, false, 0, [0, 110, 0, 826, 828, 22, 9]), (69, .ifCond .eq 8, 3, false, 0, [77]), (72, .aload_n 0, 1, false, 0, []), (73, .iload_n 2, 1, false, 0, []), (74, .invokevirtual 130, 3, false, 0, [0, 117, 1, 838, 840, 25, 9]), (77, .aload_n 0, 1, false, 0, []), (78, .aload_n 0, 1, false, 0, []), (79, .getfield 83, 3, false, 0, [9, 4, 0, 728]), (82, .iconst 3, 1, false, 0, []), (83, .if_icmp .ne 7, 3, false, 0, [90]), (86, .iconst 1, 1, false, 0, []), (87, .goto 4, 3, false, 0, [91])]),
  (114, [(90, .iconst 0, 1, false, 0, []), (91, .invokevirtual 103, 3, false, 0, [0, 111, 1, 834, 836, 24, 9]), (94, .pop, 1, false, 0, []), (95, .iinc 1 1, 3, false, 0, []), (98, .goto (-73), 3, false, 0, [25]), (101, .aload_n 0, 1, false, 0, []), (102, .invokevirtual 92, 3, false, 0, [0, 110, 0, 826, 828, 22, 9]), (105, .ifCond .ne 11, 3, false, 0, [116]), (108, .bipush (-10), 2, false, 0, []), (110, .aload_n 0, 1, false, 0, []), (111, .getfield 89, 3, false, 0, [9, 7, 0, 731]), (114, .isub, 1, false, 0, [])]),
  (121, [(115, .ireturn, 1, false, 0, []), (116, .aload_n 0, 1, false, 0, []), (117, .invokevirtual 59, 3, false, 0, [0, 119, 0, 717, 719, 19, 9]), (120, .iload_n 1, 1, false, 0, []), (121, .ireturn, 1, false, 0, [])])]
def iX10_graph : MI := (yX10_graph, cX10_graph, 3, (some .int), 0, 0, 5, 817, 53)
abbrev mX10_graph : Nat := 118
def bX10_settles : BK := [
  (21, [(0, .aload_n 0, 1, false, 0, []), (1, .getfield 13, 3, false, 0, [9, 8, 2, 732]), (4, .aload_n 0, 1, false, 0, []), (5, .getfield 16, 3, false, 0, [9, 9, 2, 733]), (8, .invokestatic 134, 3, false, 0, [1, 120, 2, 721, 722]), (11, .aload_n 0, 1, false, 0, []), (12, .iconst 0, 1, false, 0, []), (13, .putfield 70, 3, false, 0, [9, 2, 0, 726]), (16, .aload_n 0, 1, false, 0, []), (17, .iconst 0, 1, false, 0, []), (18, .putfield 138, 3, false, 0, [9, 17, 0, 741]), (21, .aload_n 0, 1, false, 0, [])]),
  (39, [(22, .iconst 0, 1, false, 0, []), (23, .putfield 141, 3, false, 0, [9, 14, 0, 738]), (26, .aload_n 0, 1, false, 0, []), (27, .getfield 25, 3, false, 0, [9, 12, 2, 736]), (30, .iconst 0, 1, false, 0, []), (31, .iconst 0, 1, false, 0, []), (32, .bastore, 1, false, 0, []), (33, .aload_n 0, 1, false, 0, []), (34, .getfield 25, 3, false, 0, [9, 12, 2, 736]), (37, .iconst 1, 1, false, 0, []), (38, .iconst 0, 1, false, 0, []), (39, .bastore, 1, false, 0, [])]),
  (40, [(40, .return_, 1, false, 0, [])])]
def iX10_settles : MI := (yX10_settles, cX10_settles, 1, none, 0, 0, 1, 720, 53)
abbrev mX10_settles : Nat := 119
def bX10_copies : BK := [
  (14, [(0, .iconst 0, 1, false, 0, []), (1, .istore_n 2, 1, false, 0, []), (2, .iload_n 2, 1, true, 0, []), (3, .bipush 57, 2, false, 0, []), (5, .if_icmp .ge 15, 3, false, 0, [20]), (8, .aload_n 1, 1, false, 0, []), (9, .iload_n 2, 1, false, 0, []), (10, .aload_n 0, 1, false, 0, []), (11, .iload_n 2, 1, false, 0, []), (12, .iaload, 1, false, 0, []), (13, .iastore, 1, false, 0, []), (14, .iinc 2 1, 3, false, 0, [])]),
  (20, [(17, .goto (-15), 3, false, 0, [2]), (20, .return_, 1, false, 0, [])])]
def iX10_copies : MI := (yX10_copies, cX10_copies, 3, none, 0, 0, 0, 723, 53)
abbrev mX10_copies : Nat := 120
def bX10_comes : BK := [
  (17, [(0, .iload_n 3, 1, false, 0, []), (1, .ifCond .ne 11, 3, false, 0, [12]), (4, .iload_n 0, 1, false, 0, []), (5, .iload_n 1, 1, false, 0, []), (6, .ishl, 1, false, 0, []), (7, .iload_n 2, 1, false, 0, []), (8, .iadd, 1, false, 0, []), (9, .goto 34, 3, false, 0, [43]), (12, .iload_n 3, 1, false, 0, []), (13, .iconst 1, 1, false, 0, []), (14, .if_icmp .ne 11, 3, false, 0, [25]), (17, .iload_n 0, 1, false, 0, [])]),
  (33, [(18, .iload_n 1, 1, false, 0, []), (19, .ishl, 1, false, 0, []), (20, .iload_n 2, 1, false, 0, []), (21, .isub, 1, false, 0, []), (22, .goto 21, 3, false, 0, [43]), (25, .iload_n 3, 1, false, 0, []), (26, .iconst 2, 1, false, 0, []), (27, .if_icmp .ne 11, 3, false, 0, [38]), (30, .iload_n 0, 1, false, 0, []), (31, .iload_n 2, 1, false, 0, []), (32, .iload_n 1, 1, false, 0, []), (33, .ishl, 1, false, 0, [])]),
  (52, [(34, .iadd, 1, false, 0, []), (35, .goto 8, 3, false, 0, [43]), (38, .iload_n 0, 1, false, 0, []), (39, .iload_n 2, 1, false, 0, []), (40, .iload_n 1, 1, false, 0, []), (41, .ishl, 1, false, 0, []), (42, .isub, 1, false, 0, []), (43, .istore 4, 2, false, 0, []), (45, .iload 4, 2, false, 0, []), (47, .ifCond .ge 9, 3, false, 0, [56]), (50, .iload 4, 2, false, 0, []), (52, .ineg, 1, false, 0, [])]),
  (58, [(53, .goto 5, 3, false, 0, [58]), (56, .iload 4, 2, false, 0, []), (58, .ireturn, 1, false, 0, [])])]
def iX10_comes : MI := (yX10_comes, cX10_comes, 5, (some .int), 0, 0, 0, 859, 53)
abbrev mX10_comes : Nat := 121
def bX10_oddPart : BK := [
  (15, [(0, .iload_n 0, 1, false, 0, []), (1, .istore_n 1, 1, false, 0, []), (2, .iload_n 1, 1, true, 0, []), (3, .ifCond .le 16, 3, false, 0, [19]), (6, .iload_n 1, 1, false, 0, []), (7, .iconst 2, 1, false, 0, []), (8, .irem, 1, false, 0, []), (9, .ifCond .ne 10, 3, false, 0, [19]), (12, .iload_n 1, 1, false, 0, []), (13, .iconst 2, 1, false, 0, []), (14, .idiv, 1, false, 0, []), (15, .istore_n 1, 1, false, 0, [])]),
  (20, [(16, .goto (-14), 3, false, 0, [2]), (19, .iload_n 1, 1, false, 0, []), (20, .ireturn, 1, false, 0, [])])]
def iX10_oddPart : MI := (yX10_oddPart, cX10_oddPart, 2, (some .int), 0, 0, 0, 862, 53)
abbrev mX10_oddPart : Nat := 122
def bX10_deeper : BK := [
  (19, [(0, .aload_n 0, 1, false, 0, []), (1, .getfield 41, 3, false, 0, [9, 19, 2, 743]), (4, .iload_n 1, 1, false, 0, []), (5, .iaload, 1, false, 0, []), (6, .aload_n 0, 1, false, 0, []), (7, .getfield 41, 3, false, 0, [9, 19, 2, 743]), (10, .iload_n 2, 1, false, 0, []), (11, .iaload, 1, false, 0, []), (12, .if_icmp .le 12, 3, false, 0, [24]), (15, .aload_n 0, 1, false, 0, []), (16, .getfield 41, 3, false, 0, [9, 19, 2, 743]), (19, .iload_n 1, 1, false, 0, [])]),
  (32, [(20, .iaload, 1, false, 0, []), (21, .goto 9, 3, false, 0, [30]), (24, .aload_n 0, 1, false, 0, []), (25, .getfield 41, 3, false, 0, [9, 19, 2, 743]), (28, .iload_n 2, 1, false, 0, []), (29, .iaload, 1, false, 0, []), (30, .iconst 1, 1, false, 0, []), (31, .iadd, 1, false, 0, []), (32, .ireturn, 1, false, 0, [])])]
def iX10_deeper : MI := (yX10_deeper, cX10_deeper, 3, (some .int), 0, 0, 0, 866, 53)
abbrev mX10_deeper : Nat := 123
def bX10_reckons : BK := [
  (15, [(0, .aload_n 0, 1, false, 0, []), (1, .getfield 38, 3, false, 0, [9, 18, 2, 742]), (4, .iconst 0, 1, false, 0, []), (5, .iconst 1, 1, false, 0, []), (6, .iastore, 1, false, 0, []), (7, .aload_n 0, 1, false, 0, []), (8, .getfield 41, 3, false, 0, [9, 19, 2, 743]), (11, .iconst 0, 1, false, 0, []), (12, .iconst 0, 1, false, 0, []), (13, .iastore, 1, false, 0, []), (14, .aload_n 0, 1, false, 0, []), (15, .iconst 1, 1, false, 0, [])]),
  (31, [(16, .putfield 144, 3, false, 0, [9, 20, 0, 744]), (19, .iconst 0, 1, false, 0, []), (20, .istore_n 2, 1, false, 0, []), (21, .iload_n 2, 1, true, 0, []), (22, .aload_n 1, 1, false, 0, []), (23, .iconst 0, 1, false, 0, []), (24, .iaload, 1, false, 0, []), (25, .if_icmp .ge 87, 3, false, 0, [112]), (28, .aload_n 1, 1, false, 0, []), (29, .iconst 1, 1, false, 0, []), (30, .iload_n 2, 1, false, 0, []), (31, .iadd, 1, false, 0, [])]),
  (47, [(32, .iaload, 1, false, 0, []), (33, .istore_n 3, 1, false, 0, []), (34, .aload_n 1, 1, false, 0, []), (35, .bipush 25, 2, false, 0, []), (37, .iload_n 2, 1, false, 0, []), (38, .iadd, 1, false, 0, []), (39, .iaload, 1, false, 0, []), (40, .istore 4, 2, false, 0, []), (42, .aload_n 0, 1, false, 0, []), (43, .getfield 38, 3, false, 0, [9, 18, 2, 742]), (46, .iload_n 2, 1, false, 0, []), (47, .iconst 1, 1, false, 0, [])]),
  (62, [(48, .iadd, 1, false, 0, []), (49, .aload_n 0, 1, false, 0, []), (50, .getfield 38, 3, false, 0, [9, 18, 2, 742]), (53, .iload_n 3, 1, false, 0, []), (54, .iaload, 1, false, 0, []), (55, .aload_n 1, 1, false, 0, []), (56, .bipush 13, 2, false, 0, []), (58, .iload_n 2, 1, false, 0, []), (59, .iadd, 1, false, 0, []), (60, .iaload, 1, false, 0, []), (61, .aload_n 0, 1, false, 0, []), (62, .getfield 38, 3, false, 0, [9, 18, 2, 742])]),
  (82, [(65, .iload 4, 2, false, 0, []), (67, .iaload, 1, false, 0, []), (68, .aload_n 1, 1, false, 0, []), (69, .bipush 37, 2, false, 0, []), (71, .iload_n 2, 1, false, 0, []), (72, .iadd, 1, false, 0, []), (73, .iaload, 1, false, 0, []), (74, .invokestatic 147, 3, false, 0, [1, 121, 4, 857, 858]), (77, .invokestatic 151, 3, false, 0, [1, 122, 1, 860, 861]), (80, .iastore, 1, false, 0, []), (81, .aload_n 0, 1, false, 0, []), (82, .getfield 41, 3, false, 0, [9, 19, 2, 743])]),
  (101, [(85, .iload_n 2, 1, false, 0, []), (86, .iconst 1, 1, false, 0, []), (87, .iadd, 1, false, 0, []), (88, .aload_n 0, 1, false, 0, []), (89, .iload_n 3, 1, false, 0, []), (90, .iload 4, 2, false, 0, []), (92, .invokevirtual 154, 3, false, 0, [0, 123, 2, 863, 865, 29, 9]), (95, .iastore, 1, false, 0, []), (96, .aload_n 0, 1, false, 0, []), (97, .dup, 1, false, 0, []), (98, .getfield 144, 3, false, 0, [9, 20, 0, 744]), (101, .iconst 1, 1, false, 0, [])]),
  (112, [(102, .iadd, 1, false, 0, []), (103, .putfield 144, 3, false, 0, [9, 20, 0, 744]), (106, .iinc 2 1, 3, false, 0, []), (109, .goto (-88), 3, false, 0, [21]), (112, .return_, 1, false, 0, [])])]
def iX10_reckons : MI := (yX10_reckons, cX10_reckons, 5, none, 0, 0, 1, 856, 53)
abbrev mX10_reckons : Nat := 124
def bX10_mayBe : BK := [
  (18, [(0, .aload_n 0, 1, false, 0, []), (1, .getfield 38, 3, false, 0, [9, 18, 2, 742]), (4, .iload_n 1, 1, false, 0, []), (5, .iaload, 1, false, 0, []), (6, .iload_n 2, 1, false, 0, []), (7, .aload_n 0, 1, false, 0, []), (8, .getfield 38, 3, false, 0, [9, 18, 2, 742]), (11, .iload_n 3, 1, false, 0, []), (12, .iaload, 1, false, 0, []), (13, .iload 4, 2, false, 0, []), (15, .invokestatic 147, 3, false, 0, [1, 121, 4, 857, 858]), (18, .iconst 1, 1, false, 0, [])]),
  (43, [(19, .sipush 1023, 3, false, 0, []), (22, .invokestatic 66, 3, false, 0, [1, 105, 3, 807, 808]), (25, .ifCond .eq 18, 3, false, 0, [43]), (28, .aload_n 0, 1, false, 0, []), (29, .iload_n 1, 1, false, 0, []), (30, .iload_n 3, 1, false, 0, []), (31, .invokevirtual 154, 3, false, 0, [0, 123, 2, 863, 865, 29, 9]), (34, .iload 5, 2, false, 0, []), (36, .if_icmp .gt 7, 3, false, 0, [43]), (39, .iconst 1, 1, false, 0, []), (40, .goto 4, 3, false, 0, [44]), (43, .iconst 0, 1, false, 0, [])]),
  (44, [(44, .ireturn, 1, false, 0, [])])]
def iX10_mayBe : MI := (yX10_mayBe, cX10_mayBe, 6, (some .boolean), 0, 0, 1, 870, 53)
abbrev mX10_mayBe : Nat := 125
def bX10_makes : BK := [
  (13, [(0, .aload_n 0, 1, false, 0, []), (1, .iconst 0, 1, false, 0, []), (2, .iaload, 1, false, 0, []), (3, .istore 5, 2, false, 0, []), (5, .aload_n 0, 1, false, 0, []), (6, .iconst 1, 1, false, 0, []), (7, .iload 5, 2, false, 0, []), (9, .iadd, 1, false, 0, []), (10, .iload_n 1, 1, false, 0, []), (11, .iastore, 1, false, 0, []), (12, .aload_n 0, 1, false, 0, []), (13, .bipush 13, 2, false, 0, [])]),
  (29, [(15, .iload 5, 2, false, 0, []), (17, .iadd, 1, false, 0, []), (18, .iload_n 2, 1, false, 0, []), (19, .iastore, 1, false, 0, []), (20, .aload_n 0, 1, false, 0, []), (21, .bipush 25, 2, false, 0, []), (23, .iload 5, 2, false, 0, []), (25, .iadd, 1, false, 0, []), (26, .iload_n 3, 1, false, 0, []), (27, .iastore, 1, false, 0, []), (28, .aload_n 0, 1, false, 0, []), (29, .bipush 37, 2, false, 0, [])]),
  (44, [(31, .iload 5, 2, false, 0, []), (33, .iadd, 1, false, 0, []), (34, .iload 4, 2, false, 0, []), (36, .iastore, 1, false, 0, []), (37, .aload_n 0, 1, false, 0, []), (38, .iconst 0, 1, false, 0, []), (39, .dup2, 1, false, 0, []), (40, .iaload, 1, false, 0, []), (41, .iconst 1, 1, false, 0, []), (42, .iadd, 1, false, 0, []), (43, .iastore, 1, false, 0, []), (44, .return_, 1, false, 0, [])])]
def iX10_makes : MI := (yX10_makes, cX10_makes, 6, none, 0, 0, 0, 873, 53)
abbrev mX10_makes : Nat := 126
def bX10_isOdds : BK := [
  (17, [(0, .iconst 0, 1, false, 0, []), (1, .istore_n 2, 1, false, 0, []), (2, .iconst 0, 1, false, 0, []), (3, .istore_n 3, 1, false, 0, []), (4, .iload_n 3, 1, true, 0, []), (5, .aload_n 0, 1, false, 0, []), (6, .getfield 144, 3, false, 0, [9, 20, 0, 744]), (9, .if_icmp .ge 29, 3, false, 0, [38]), (12, .iload_n 2, 1, false, 0, []), (13, .ifCond .ne 13, 3, false, 0, [26]), (16, .aload_n 0, 1, false, 0, []), (17, .getfield 38, 3, false, 0, [9, 18, 2, 742])]),
  (39, [(20, .iload_n 3, 1, false, 0, []), (21, .iaload, 1, false, 0, []), (22, .iload_n 1, 1, false, 0, []), (23, .if_icmp .ne 7, 3, false, 0, [30]), (26, .iconst 1, 1, false, 0, []), (27, .goto 4, 3, false, 0, [31]), (30, .iconst 0, 1, false, 0, []), (31, .istore_n 2, 1, false, 0, []), (32, .iinc 3 1, 3, false, 0, []), (35, .goto (-31), 3, false, 0, [4]), (38, .iload_n 2, 1, false, 0, []), (39, .ireturn, 1, false, 0, [])])]
def iX10_isOdds : MI := (yX10_isOdds, cX10_isOdds, 4, (some .boolean), 0, 0, 0, 885, 53)
abbrev mX10_isOdds : Nat := 127
def bX10_nears : BK := [
  (19, [(0, .iconst 0, 1, false, 0, []), (1, .istore_n 2, 1, false, 0, []), (2, .iload_n 2, 1, true, 0, []), (3, .sipush 1024, 3, false, 0, []), (6, .if_icmp .ge 16, 3, false, 0, [22]), (9, .aload_n 0, 1, false, 0, []), (10, .getfield 44, 3, false, 0, [9, 21, 2, 745]), (13, .iload_n 2, 1, false, 0, []), (14, .iconst 0, 1, false, 0, []), (15, .iastore, 1, false, 0, []), (16, .iinc 2 1, 3, false, 0, []), (19, .goto (-17), 3, false, 0, [2])]),
  (39, [(22, .iconst 0, 1, false, 0, []), (23, .istore_n 2, 1, false, 0, []), (24, .iload_n 2, 1, true, 0, []), (25, .aload_n 0, 1, false, 0, []), (26, .getfield 144, 3, false, 0, [9, 20, 0, 744]), (29, .if_icmp .ge 141, 3, false, 0, [170]), (32, .iconst 0, 1, false, 0, []), (33, .istore_n 3, 1, false, 0, []), (34, .iload_n 3, 1, true, 0, []), (35, .aload_n 0, 1, false, 0, []), (36, .getfield 144, 3, false, 0, [9, 20, 0, 744]), (39, .if_icmp .ge 125, 3, false, 0, [164])]),
  (62, [(42, .iconst 0, 1, false, 0, []), (43, .istore 4, 2, false, 0, []), (45, .iload 4, 2, true, 0, []), (47, .bipush 10, 2, false, 0, []), (49, .if_icmp .ge 109, 3, false, 0, [158]), (52, .iconst 0, 1, false, 0, []), (53, .istore 5, 2, false, 0, []), (55, .iload 5, 2, true, 0, []), (57, .iconst 4, 1, false, 0, []), (58, .if_icmp .ge 94, 3, false, 0, [152]), (61, .aload_n 0, 1, false, 0, []), (62, .iload_n 2, 1, false, 0, [])]),
  (83, [(63, .iload 4, 2, false, 0, []), (65, .iload_n 3, 1, false, 0, []), (66, .iload 5, 2, false, 0, []), (68, .iload_n 1, 1, false, 0, []), (69, .invokevirtual 111, 3, false, 0, [0, 125, 5, 867, 869, 30, 9]), (72, .ifCond .eq 74, 3, false, 0, [146]), (75, .aload_n 0, 1, false, 0, []), (76, .getfield 38, 3, false, 0, [9, 18, 2, 742]), (79, .iload_n 2, 1, false, 0, []), (80, .iaload, 1, false, 0, []), (81, .iload 4, 2, false, 0, []), (83, .aload_n 0, 1, false, 0, [])]),
  (106, [(84, .getfield 38, 3, false, 0, [9, 18, 2, 742]), (87, .iload_n 3, 1, false, 0, []), (88, .iaload, 1, false, 0, []), (89, .iload 5, 2, false, 0, []), (91, .invokestatic 147, 3, false, 0, [1, 121, 4, 857, 858]), (94, .invokestatic 151, 3, false, 0, [1, 122, 1, 860, 861]), (97, .istore 6, 2, false, 0, []), (99, .aload_n 0, 1, false, 0, []), (100, .getfield 44, 3, false, 0, [9, 21, 2, 745]), (103, .iload 6, 2, false, 0, []), (105, .aload_n 0, 1, false, 0, []), (106, .getfield 44, 3, false, 0, [9, 21, 2, 745])]),
  (126, [(109, .iload 6, 2, false, 0, []), (111, .iaload, 1, false, 0, []), (112, .ifCond .ne 26, 3, false, 0, [138]), (115, .sipush 1000, 3, false, 0, []), (118, .iload_n 2, 1, false, 0, []), (119, .imul, 1, false, 0, []), (120, .bipush 50, 2, false, 0, []), (122, .iload_n 3, 1, false, 0, []), (123, .imul, 1, false, 0, []), (124, .iadd, 1, false, 0, []), (125, .iconst 4, 1, false, 0, []), (126, .iload 4, 2, false, 0, [])]),
  (145, [(128, .imul, 1, false, 0, []), (129, .iadd, 1, false, 0, []), (130, .iload 5, 2, false, 0, []), (132, .iadd, 1, false, 0, []), (133, .iconst 1, 1, false, 0, []), (134, .iadd, 1, false, 0, []), (135, .goto 10, 3, false, 0, [145]), (138, .aload_n 0, 1, false, 0, []), (139, .getfield 44, 3, false, 0, [9, 21, 2, 745]), (142, .iload 6, 2, false, 0, []), (144, .iaload, 1, false, 0, []), (145, .iastore, 1, false, 0, [])]),
  (173, [(146, .iinc 5 1, 3, false, 0, []), (149, .goto (-94), 3, false, 0, [55]), (152, .iinc 4 1, 3, false, 0, []), (155, .goto (-110), 3, false, 0, [45]), (158, .iinc 3 1, 3, false, 0, []), (161, .goto (-127), 3, false, 0, [34]), (164, .iinc 2 1, 3, false, 0, []), (167, .goto (-143), 3, false, 0, [24]), (170, .iconst 0, 1, false, 0, []), (171, .istore_n 2, 1, false, 0, []), (172, .iload_n 2, 1, true, 0, []), (173, .aload_n 0, 1, false, 0, [])]),
  (195, [(174, .getfield 144, 3, false, 0, [9, 20, 0, 744]), (177, .if_icmp .ge 21, 3, false, 0, [198]), (180, .aload_n 0, 1, false, 0, []), (181, .getfield 44, 3, false, 0, [9, 21, 2, 745]), (184, .aload_n 0, 1, false, 0, []), (185, .getfield 38, 3, false, 0, [9, 18, 2, 742]), (188, .iload_n 2, 1, false, 0, []), (189, .iaload, 1, false, 0, []), (190, .iconst 0, 1, false, 0, []), (191, .iastore, 1, false, 0, []), (192, .iinc 2 1, 3, false, 0, []), (195, .goto (-23), 3, false, 0, [172])]),
  (198, [(198, .return_, 1, false, 0, [])])]
def iX10_nears : MI := (yX10_nears, cX10_nears, 7, none, 0, 0, 2, 939, 53)
abbrev mX10_nears : Nat := 128
def bX10_nearsOf : BK := [
  (13, [(0, .aload_n 0, 1, false, 0, []), (1, .aload_n 1, 1, false, 0, []), (2, .invokevirtual 107, 3, false, 0, [0, 124, 1, 853, 855, 28, 9]), (5, .aload_n 0, 1, false, 0, []), (6, .aload_n 1, 1, false, 0, []), (7, .bipush 56, 2, false, 0, []), (9, .iaload, 1, false, 0, []), (10, .invokevirtual 158, 3, false, 0, [0, 128, 1, 936, 938, 35, 9]), (13, .return_, 1, false, 0, [])])]
def iX10_nearsOf : MI := (yX10_nearsOf, cX10_nearsOf, 2, none, 0, 0, 3, 935, 53)
abbrev mX10_nearsOf : Nat := 129
def bX10_odd : BK := [
  (19, [(0, .aload_n 0, 1, false, 0, []), (1, .iconst 0, 1, false, 0, []), (2, .putfield 62, 3, false, 0, [9, 0, 0, 724]), (5, .iload_n 1, 1, false, 0, []), (6, .iconst 0, 1, false, 0, []), (7, .aload_n 0, 1, false, 0, []), (8, .getfield 16, 3, false, 0, [9, 9, 2, 733]), (11, .iconst 0, 1, false, 0, []), (12, .iaload, 1, false, 0, []), (13, .invokestatic 66, 3, false, 0, [1, 105, 3, 807, 808]), (16, .ifCond .eq 13, 3, false, 0, [29]), (19, .iload_n 2, 1, false, 0, [])]),
  (40, [(20, .iconst 0, 1, false, 0, []), (21, .bipush 6, 2, false, 0, []), (23, .invokestatic 66, 3, false, 0, [1, 105, 3, 807, 808]), (26, .ifCond .ne 5, 3, false, 0, [31]), (29, .iconst (-1), 1, false, 0, []), (30, .ireturn, 1, false, 0, []), (31, .aload_n 0, 1, false, 0, []), (32, .aload_n 0, 1, false, 0, []), (33, .getfield 16, 3, false, 0, [9, 9, 2, 733]), (36, .invokevirtual 107, 3, false, 0, [0, 124, 1, 853, 855, 28, 9]), (39, .iload_n 2, 1, false, 0, []), (40, .iconst 2, 1, false, 0, [])]),
  (62, [(41, .if_icmp .ge 23, 3, false, 0, [64]), (44, .iload_n 2, 1, false, 0, []), (45, .ifCond .ne 12, 3, false, 0, [57]), (48, .aload_n 0, 1, false, 0, []), (49, .getfield 38, 3, false, 0, [9, 18, 2, 742]), (52, .iload_n 1, 1, false, 0, []), (53, .iaload, 1, false, 0, []), (54, .goto 9, 3, false, 0, [63]), (57, .aload_n 0, 1, false, 0, []), (58, .getfield 41, 3, false, 0, [9, 19, 2, 743]), (61, .iload_n 1, 1, false, 0, []), (62, .iaload, 1, false, 0, [])]),
  (82, [(63, .ireturn, 1, false, 0, []), (64, .iload_n 1, 1, false, 0, []), (65, .ifCond .ne 16, 3, false, 0, [81]), (68, .iload_n 2, 1, false, 0, []), (69, .bipush 6, 2, false, 0, []), (71, .if_icmp .ne 7, 3, false, 0, [78]), (74, .iconst 0, 1, false, 0, []), (75, .goto 5, 3, false, 0, [80]), (78, .bipush (-9), 2, false, 0, []), (80, .ireturn, 1, false, 0, []), (81, .iload_n 1, 1, false, 0, []), (82, .iconst 1, 1, false, 0, [])]),
  (101, [(83, .isub, 1, false, 0, []), (84, .istore_n 3, 1, false, 0, []), (85, .iload_n 2, 1, false, 0, []), (86, .bipush 6, 2, false, 0, []), (88, .if_icmp .ge 63, 3, false, 0, [151]), (91, .iload_n 2, 1, false, 0, []), (92, .iconst 2, 1, false, 0, []), (93, .if_icmp .ne 14, 3, false, 0, [107]), (96, .aload_n 0, 1, false, 0, []), (97, .getfield 16, 3, false, 0, [9, 9, 2, 733]), (100, .iconst 1, 1, false, 0, []), (101, .iload_n 3, 1, false, 0, [])]),
  (120, [(102, .iadd, 1, false, 0, []), (103, .iaload, 1, false, 0, []), (104, .goto 46, 3, false, 0, [150]), (107, .iload_n 2, 1, false, 0, []), (108, .iconst 3, 1, false, 0, []), (109, .if_icmp .ne 15, 3, false, 0, [124]), (112, .aload_n 0, 1, false, 0, []), (113, .getfield 16, 3, false, 0, [9, 9, 2, 733]), (116, .bipush 25, 2, false, 0, []), (118, .iload_n 3, 1, false, 0, []), (119, .iadd, 1, false, 0, []), (120, .iaload, 1, false, 0, [])]),
  (141, [(121, .goto 29, 3, false, 0, [150]), (124, .iload_n 2, 1, false, 0, []), (125, .iconst 4, 1, false, 0, []), (126, .if_icmp .ne 15, 3, false, 0, [141]), (129, .aload_n 0, 1, false, 0, []), (130, .getfield 16, 3, false, 0, [9, 9, 2, 733]), (133, .bipush 13, 2, false, 0, []), (135, .iload_n 3, 1, false, 0, []), (136, .iadd, 1, false, 0, []), (137, .iaload, 1, false, 0, []), (138, .goto 12, 3, false, 0, [150]), (141, .aload_n 0, 1, false, 0, [])]),
  (160, [(142, .getfield 16, 3, false, 0, [9, 9, 2, 733]), (145, .bipush 37, 2, false, 0, []), (147, .iload_n 3, 1, false, 0, []), (148, .iadd, 1, false, 0, []), (149, .iaload, 1, false, 0, []), (150, .ireturn, 1, false, 0, []), (151, .aload_n 0, 1, false, 0, []), (152, .getfield 38, 3, false, 0, [9, 18, 2, 742]), (155, .aload_n 0, 1, false, 0, []), (156, .getfield 16, 3, false, 0, [9, 9, 2, 733]), (159, .iconst 1, 1, false, 0, []), (160, .iload_n 3, 1, false, 0, [])]),
  (177, [(161, .iadd, 1, false, 0, []), (162, .iaload, 1, false, 0, []), (163, .iaload, 1, false, 0, []), (164, .aload_n 0, 1, false, 0, []), (165, .getfield 16, 3, false, 0, [9, 9, 2, 733]), (168, .bipush 13, 2, false, 0, []), (170, .iload_n 3, 1, false, 0, []), (171, .iadd, 1, false, 0, []), (172, .iaload, 1, false, 0, []), (173, .aload_n 0, 1, false, 0, []), (174, .getfield 38, 3, false, 0, [9, 18, 2, 742]), (177, .aload_n 0, 1, false, 0, [])]),
  (195, [(178, .getfield 16, 3, false, 0, [9, 9, 2, 733]), (181, .bipush 25, 2, false, 0, []), (183, .iload_n 3, 1, false, 0, []), (184, .iadd, 1, false, 0, []), (185, .iaload, 1, false, 0, []), (186, .iaload, 1, false, 0, []), (187, .aload_n 0, 1, false, 0, []), (188, .getfield 16, 3, false, 0, [9, 9, 2, 733]), (191, .bipush 37, 2, false, 0, []), (193, .iload_n 3, 1, false, 0, []), (194, .iadd, 1, false, 0, []), (195, .iaload, 1, false, 0, [])]),
  (215, [(196, .invokestatic 147, 3, false, 0, [1, 121, 4, 857, 858]), (199, .istore 4, 2, false, 0, []), (201, .iconst 0, 1, false, 0, []), (202, .istore 5, 2, false, 0, []), (204, .iload 4, 2, true, 0, []), (206, .iconst 2, 1, false, 0, []), (207, .irem, 1, false, 0, []), (208, .ifCond .ne 15, 3, false, 0, [223]), (211, .iload 4, 2, false, 0, []), (213, .iconst 2, 1, false, 0, []), (214, .idiv, 1, false, 0, []), (215, .istore 4, 2, false, 0, [])]),
  (225, [(217, .iinc 5 1, 3, false, 0, []), (220, .goto (-16), 3, false, 0, [204]), (223, .iload 5, 2, false, 0, []), (225, .ireturn, 1, false, 0, [])])]
def iX10_odd : MI := (yX10_odd, cX10_odd, 6, (some .int), 0, 0, 2, 877, 53)
abbrev mX10_odd : Nat := 130
def bX10_wanted : BK := [
  (16, [(0, .aload_n 0, 1, false, 0, []), (1, .iconst 0, 1, false, 0, []), (2, .putfield 62, 3, false, 0, [9, 0, 0, 724]), (5, .iload_n 1, 1, false, 0, []), (6, .iconst 0, 1, false, 0, []), (7, .aload_n 0, 1, false, 0, []), (8, .getfield 16, 3, false, 0, [9, 9, 2, 733]), (11, .bipush 49, 2, false, 0, []), (13, .iaload, 1, false, 0, []), (14, .iconst 1, 1, false, 0, []), (15, .isub, 1, false, 0, []), (16, .invokestatic 66, 3, false, 0, [1, 105, 3, 807, 808])]),
  (38, [(19, .ifCond .eq 12, 3, false, 0, [31]), (22, .iload_n 2, 1, false, 0, []), (23, .iconst 0, 1, false, 0, []), (24, .iconst 1, 1, false, 0, []), (25, .invokestatic 66, 3, false, 0, [1, 105, 3, 807, 808]), (28, .ifCond .ne 5, 3, false, 0, [33]), (31, .iconst (-1), 1, false, 0, []), (32, .ireturn, 1, false, 0, []), (33, .aload_n 0, 1, false, 0, []), (34, .aload_n 0, 1, false, 0, []), (35, .getfield 16, 3, false, 0, [9, 9, 2, 733]), (38, .invokevirtual 107, 3, false, 0, [0, 124, 1, 853, 855, 28, 9])]),
  (59, [(41, .iload_n 2, 1, false, 0, []), (42, .ifCond .ne 15, 3, false, 0, [57]), (45, .aload_n 0, 1, false, 0, []), (46, .getfield 16, 3, false, 0, [9, 9, 2, 733]), (49, .bipush 50, 2, false, 0, []), (51, .iload_n 1, 1, false, 0, []), (52, .iadd, 1, false, 0, []), (53, .iaload, 1, false, 0, []), (54, .goto 27, 3, false, 0, [81]), (57, .aload_n 0, 1, false, 0, []), (58, .aload_n 0, 1, false, 0, []), (59, .getfield 16, 3, false, 0, [9, 9, 2, 733])]),
  (81, [(62, .bipush 50, 2, false, 0, []), (64, .iload_n 1, 1, false, 0, []), (65, .iadd, 1, false, 0, []), (66, .iaload, 1, false, 0, []), (67, .invokestatic 151, 3, false, 0, [1, 122, 1, 860, 861]), (70, .invokevirtual 161, 3, false, 0, [0, 127, 1, 882, 884, 31, 9]), (73, .ifCond .eq 7, 3, false, 0, [80]), (76, .iconst 1, 1, false, 0, []), (77, .goto 4, 3, false, 0, [81]), (80, .iconst 0, 1, false, 0, []), (81, .ireturn, 1, false, 0, [])])]
def iX10_wanted : MI := (yX10_wanted, cX10_wanted, 3, (some .int), 0, 0, 2, 881, 53)
abbrev mX10_wanted : Nat := 131
def bX10_notes : BK := [
  (22, [(0, .aload_n 0, 1, false, 0, []), (1, .getfield 141, 3, false, 0, [9, 14, 0, 738]), (4, .bipush 10, 2, false, 0, []), (6, .if_icmp .ne 39, 3, false, 0, [45]), (9, .iconst 0, 1, false, 0, []), (10, .istore_n 1, 1, false, 0, []), (11, .iload_n 1, 1, true, 0, []), (12, .sipush 513, 3, false, 0, []), (15, .if_icmp .ge 24, 3, false, 0, [39]), (18, .aload_n 0, 1, false, 0, []), (19, .getfield 29, 3, false, 0, [9, 13, 2, 737]), (22, .iload_n 1, 1, false, 0, [])]),
  (42, [(23, .aload_n 0, 1, false, 0, []), (24, .getfield 29, 3, false, 0, [9, 13, 2, 737]), (27, .iload_n 1, 1, false, 0, []), (28, .bipush 57, 2, false, 0, []), (30, .iadd, 1, false, 0, []), (31, .iaload, 1, false, 0, []), (32, .iastore, 1, false, 0, []), (33, .iinc 1 1, 3, false, 0, []), (36, .goto (-25), 3, false, 0, [11]), (39, .aload_n 0, 1, false, 0, []), (40, .bipush 9, 2, false, 0, []), (42, .putfield 141, 3, false, 0, [9, 14, 0, 738])]),
  (64, [(45, .iconst 0, 1, false, 0, []), (46, .istore_n 1, 1, false, 0, []), (47, .iload_n 1, 1, true, 0, []), (48, .bipush 57, 2, false, 0, []), (50, .if_icmp .ge 29, 3, false, 0, [79]), (53, .aload_n 0, 1, false, 0, []), (54, .getfield 29, 3, false, 0, [9, 13, 2, 737]), (57, .bipush 57, 2, false, 0, []), (59, .aload_n 0, 1, false, 0, []), (60, .getfield 141, 3, false, 0, [9, 14, 0, 738]), (63, .imul, 1, false, 0, []), (64, .iload_n 1, 1, false, 0, [])]),
  (84, [(65, .iadd, 1, false, 0, []), (66, .aload_n 0, 1, false, 0, []), (67, .getfield 16, 3, false, 0, [9, 9, 2, 733]), (70, .iload_n 1, 1, false, 0, []), (71, .iaload, 1, false, 0, []), (72, .iastore, 1, false, 0, []), (73, .iinc 1 1, 3, false, 0, []), (76, .goto (-29), 3, false, 0, [47]), (79, .aload_n 0, 1, false, 0, []), (80, .dup, 1, false, 0, []), (81, .getfield 141, 3, false, 0, [9, 14, 0, 738]), (84, .iconst 1, 1, false, 0, [])]),
  (89, [(85, .iadd, 1, false, 0, []), (86, .putfield 141, 3, false, 0, [9, 14, 0, 738]), (89, .return_, 1, false, 0, [])])]
def iX10_notes : MI := (yX10_notes, cX10_notes, 2, none, 0, 0, 0, 893, 53)
abbrev mX10_notes : Nat := 132
def bX10_adds : BK := [
  (19, [(0, .aload_n 0, 1, false, 0, []), (1, .iconst 0, 1, false, 0, []), (2, .putfield 62, 3, false, 0, [9, 0, 0, 724]), (5, .iload_n 1, 1, false, 0, []), (6, .iconst 0, 1, false, 0, []), (7, .aload_n 0, 1, false, 0, []), (8, .getfield 16, 3, false, 0, [9, 9, 2, 733]), (11, .iconst 0, 1, false, 0, []), (12, .iaload, 1, false, 0, []), (13, .invokestatic 66, 3, false, 0, [1, 105, 3, 807, 808]), (16, .ifCond .eq 37, 3, false, 0, [53]), (19, .iload_n 3, 1, false, 0, [])]),
  (40, [(20, .iconst 0, 1, false, 0, []), (21, .aload_n 0, 1, false, 0, []), (22, .getfield 16, 3, false, 0, [9, 9, 2, 733]), (25, .iconst 0, 1, false, 0, []), (26, .iaload, 1, false, 0, []), (27, .invokestatic 66, 3, false, 0, [1, 105, 3, 807, 808]), (30, .ifCond .eq 23, 3, false, 0, [53]), (33, .iload_n 2, 1, false, 0, []), (34, .iconst 0, 1, false, 0, []), (35, .bipush 9, 2, false, 0, []), (37, .invokestatic 66, 3, false, 0, [1, 105, 3, 807, 808]), (40, .ifCond .eq 13, 3, false, 0, [53])]),
  (63, [(43, .iload 4, 2, false, 0, []), (45, .iconst 0, 1, false, 0, []), (46, .iconst 3, 1, false, 0, []), (47, .invokestatic 66, 3, false, 0, [1, 105, 3, 807, 808]), (50, .ifCond .ne 5, 3, false, 0, [55]), (53, .iconst (-1), 1, false, 0, []), (54, .ireturn, 1, false, 0, []), (55, .aload_n 0, 1, false, 0, []), (56, .aload_n 0, 1, false, 0, []), (57, .getfield 16, 3, false, 0, [9, 9, 2, 733]), (60, .invokevirtual 107, 3, false, 0, [0, 124, 1, 853, 855, 28, 9]), (63, .aload_n 0, 1, false, 0, [])]),
  (84, [(64, .iload_n 1, 1, false, 0, []), (65, .iload_n 2, 1, false, 0, []), (66, .iload_n 3, 1, false, 0, []), (67, .iload 4, 2, false, 0, []), (69, .aload_n 0, 1, false, 0, []), (70, .getfield 16, 3, false, 0, [9, 9, 2, 733]), (73, .bipush 56, 2, false, 0, []), (75, .iaload, 1, false, 0, []), (76, .invokevirtual 111, 3, false, 0, [0, 125, 5, 867, 869, 30, 9]), (79, .ifCond .ne 6, 3, false, 0, [85]), (82, .bipush (-2), 2, false, 0, []), (84, .ireturn, 1, false, 0, [])]),
  (104, [(85, .aload_n 0, 1, false, 0, []), (86, .getfield 16, 3, false, 0, [9, 9, 2, 733]), (89, .iconst 0, 1, false, 0, []), (90, .iaload, 1, false, 0, []), (91, .bipush 12, 2, false, 0, []), (93, .if_icmp .ne 6, 3, false, 0, [99]), (96, .bipush (-3), 2, false, 0, []), (98, .ireturn, 1, false, 0, []), (99, .aload_n 0, 1, false, 0, []), (100, .invokevirtual 164, 3, false, 0, [0, 132, 0, 890, 892, 32, 9]), (103, .aload_n 0, 1, false, 0, []), (104, .getfield 16, 3, false, 0, [9, 9, 2, 733])]),
  (127, [(107, .iload_n 1, 1, false, 0, []), (108, .iload_n 2, 1, false, 0, []), (109, .iload_n 3, 1, false, 0, []), (110, .iload 4, 2, false, 0, []), (112, .invokestatic 115, 3, false, 0, [1, 126, 5, 871, 872]), (115, .aload_n 0, 1, false, 0, []), (116, .aload_n 0, 1, false, 0, []), (117, .getfield 16, 3, false, 0, [9, 9, 2, 733]), (120, .invokevirtual 107, 3, false, 0, [0, 124, 1, 853, 855, 28, 9]), (123, .aload_n 0, 1, false, 0, []), (124, .getfield 38, 3, false, 0, [9, 18, 2, 742]), (127, .aload_n 0, 1, false, 0, [])]),
  (134, [(128, .getfield 16, 3, false, 0, [9, 9, 2, 733]), (131, .iconst 0, 1, false, 0, []), (132, .iaload, 1, false, 0, []), (133, .iaload, 1, false, 0, []), (134, .ireturn, 1, false, 0, [])])]
def iX10_adds : MI := (yX10_adds, cX10_adds, 5, (some .int), 0, 0, 2, 889, 53)
abbrev mX10_adds : Nat := 133
def bX10_takes_ : BK := [
  (18, [(0, .aload_n 0, 1, false, 0, []), (1, .iconst 0, 1, false, 0, []), (2, .putfield 62, 3, false, 0, [9, 0, 0, 724]), (5, .aload_n 0, 1, false, 0, []), (6, .getfield 16, 3, false, 0, [9, 9, 2, 733]), (9, .iconst 0, 1, false, 0, []), (10, .iaload, 1, false, 0, []), (11, .ifCond .ne 6, 3, false, 0, [17]), (14, .bipush (-2), 2, false, 0, []), (16, .ireturn, 1, false, 0, []), (17, .aload_n 0, 1, false, 0, []), (18, .invokevirtual 164, 3, false, 0, [0, 132, 0, 890, 892, 32, 9])]),
  (38, [(21, .aload_n 0, 1, false, 0, []), (22, .aload_n 0, 1, false, 0, []), (23, .getfield 16, 3, false, 0, [9, 9, 2, 733]), (26, .invokevirtual 107, 3, false, 0, [0, 124, 1, 853, 855, 28, 9]), (29, .aload_n 0, 1, false, 0, []), (30, .getfield 16, 3, false, 0, [9, 9, 2, 733]), (33, .iconst 0, 1, false, 0, []), (34, .dup2, 1, false, 0, []), (35, .iaload, 1, false, 0, []), (36, .iconst 1, 1, false, 0, []), (37, .isub, 1, false, 0, []), (38, .iastore, 1, false, 0, [])]),
  (52, [(39, .aload_n 0, 1, false, 0, []), (40, .getfield 38, 3, false, 0, [9, 18, 2, 742]), (43, .aload_n 0, 1, false, 0, []), (44, .getfield 16, 3, false, 0, [9, 9, 2, 733]), (47, .iconst 0, 1, false, 0, []), (48, .iaload, 1, false, 0, []), (49, .iconst 1, 1, false, 0, []), (50, .iadd, 1, false, 0, []), (51, .iaload, 1, false, 0, []), (52, .ireturn, 1, false, 0, [])])]
def iX10_takes_ : MI := (yX10_takes_, cX10_takes_, 1, (some .int), 0, 0, 2, 897, 53)
abbrev mX10_takes_ : Nat := 134
def bX10_wishes : BK := [
  (19, [(0, .aload_n 0, 1, false, 0, []), (1, .iconst 0, 1, false, 0, []), (2, .putfield 62, 3, false, 0, [9, 0, 0, 724]), (5, .iload_n 1, 1, false, 0, []), (6, .iconst 1, 1, false, 0, []), (7, .sipush 1023, 3, false, 0, []), (10, .invokestatic 66, 3, false, 0, [1, 105, 3, 807, 808]), (13, .ifCond .ne 5, 3, false, 0, [18]), (16, .iconst (-1), 1, false, 0, []), (17, .ireturn, 1, false, 0, []), (18, .aload_n 0, 1, false, 0, []), (19, .getfield 16, 3, false, 0, [9, 9, 2, 733])]),
  (43, [(22, .iload_n 1, 1, false, 0, []), (23, .invokestatic 119, 3, false, 0, [1, 115, 2, 846, 847]), (26, .istore_n 2, 1, false, 0, []), (27, .iload_n 2, 1, false, 0, []), (28, .ifCond .ge 18, 3, false, 0, [46]), (31, .aload_n 0, 1, false, 0, []), (32, .getfield 16, 3, false, 0, [9, 9, 2, 733]), (35, .bipush 49, 2, false, 0, []), (37, .iaload, 1, false, 0, []), (38, .bipush 6, 2, false, 0, []), (40, .if_icmp .ne 6, 3, false, 0, [46]), (43, .bipush (-3), 2, false, 0, [])]),
  (66, [(45, .ireturn, 1, false, 0, []), (46, .aload_n 0, 1, false, 0, []), (47, .invokevirtual 164, 3, false, 0, [0, 132, 0, 890, 892, 32, 9]), (50, .iload_n 2, 1, false, 0, []), (51, .ifCond .ge 33, 3, false, 0, [84]), (54, .aload_n 0, 1, false, 0, []), (55, .getfield 16, 3, false, 0, [9, 9, 2, 733]), (58, .bipush 50, 2, false, 0, []), (60, .aload_n 0, 1, false, 0, []), (61, .getfield 16, 3, false, 0, [9, 9, 2, 733]), (64, .bipush 49, 2, false, 0, []), (66, .iaload, 1, false, 0, [])]),
  (81, [(67, .iadd, 1, false, 0, []), (68, .iload_n 1, 1, false, 0, []), (69, .iastore, 1, false, 0, []), (70, .aload_n 0, 1, false, 0, []), (71, .getfield 16, 3, false, 0, [9, 9, 2, 733]), (74, .bipush 49, 2, false, 0, []), (76, .dup2, 1, false, 0, []), (77, .iaload, 1, false, 0, []), (78, .iconst 1, 1, false, 0, []), (79, .iadd, 1, false, 0, []), (80, .iastore, 1, false, 0, []), (81, .goto 55, 3, false, 0, [136])]),
  (100, [(84, .iload_n 2, 1, false, 0, []), (85, .istore_n 3, 1, false, 0, []), (86, .iload_n 3, 1, true, 0, []), (87, .iconst 1, 1, false, 0, []), (88, .iadd, 1, false, 0, []), (89, .aload_n 0, 1, false, 0, []), (90, .getfield 16, 3, false, 0, [9, 9, 2, 733]), (93, .bipush 49, 2, false, 0, []), (95, .iaload, 1, false, 0, []), (96, .if_icmp .ge 29, 3, false, 0, [125]), (99, .aload_n 0, 1, false, 0, []), (100, .getfield 16, 3, false, 0, [9, 9, 2, 733])]),
  (118, [(103, .bipush 50, 2, false, 0, []), (105, .iload_n 3, 1, false, 0, []), (106, .iadd, 1, false, 0, []), (107, .aload_n 0, 1, false, 0, []), (108, .getfield 16, 3, false, 0, [9, 9, 2, 733]), (111, .bipush 50, 2, false, 0, []), (113, .iload_n 3, 1, false, 0, []), (114, .iadd, 1, false, 0, []), (115, .iconst 1, 1, false, 0, []), (116, .iadd, 1, false, 0, []), (117, .iaload, 1, false, 0, []), (118, .iastore, 1, false, 0, [])]),
  (137, [(119, .iinc 3 1, 3, false, 0, []), (122, .goto (-36), 3, false, 0, [86]), (125, .aload_n 0, 1, false, 0, []), (126, .getfield 16, 3, false, 0, [9, 9, 2, 733]), (129, .bipush 49, 2, false, 0, []), (131, .dup2, 1, false, 0, []), (132, .iaload, 1, false, 0, []), (133, .iconst 1, 1, false, 0, []), (134, .isub, 1, false, 0, []), (135, .iastore, 1, false, 0, []), (136, .aload_n 0, 1, false, 0, []), (137, .getfield 16, 3, false, 0, [9, 9, 2, 733])]),
  (143, [(140, .bipush 49, 2, false, 0, []), (142, .iaload, 1, false, 0, []), (143, .ireturn, 1, false, 0, [])])]
def iX10_wishes : MI := (yX10_wishes, cX10_wishes, 4, (some .int), 0, 0, 1, 901, 53)
abbrev mX10_wishes : Nat := 135
def bX10_deepest : BK := [
  (17, [(0, .aload_n 0, 1, false, 0, []), (1, .aload_n 0, 1, false, 0, []), (2, .getfield 16, 3, false, 0, [9, 9, 2, 733]), (5, .invokevirtual 107, 3, false, 0, [0, 124, 1, 853, 855, 28, 9]), (8, .iconst 0, 1, false, 0, []), (9, .istore_n 1, 1, false, 0, []), (10, .iconst 0, 1, false, 0, []), (11, .istore_n 2, 1, false, 0, []), (12, .iload_n 2, 1, true, 0, []), (13, .aload_n 0, 1, false, 0, []), (14, .getfield 144, 3, false, 0, [9, 20, 0, 744]), (17, .if_icmp .ge 30, 3, false, 0, [47])]),
  (39, [(20, .aload_n 0, 1, false, 0, []), (21, .getfield 41, 3, false, 0, [9, 19, 2, 743]), (24, .iload_n 2, 1, false, 0, []), (25, .iaload, 1, false, 0, []), (26, .iload_n 1, 1, false, 0, []), (27, .if_icmp .le 12, 3, false, 0, [39]), (30, .aload_n 0, 1, false, 0, []), (31, .getfield 41, 3, false, 0, [9, 19, 2, 743]), (34, .iload_n 2, 1, false, 0, []), (35, .iaload, 1, false, 0, []), (36, .goto 4, 3, false, 0, [40]), (39, .iload_n 1, 1, false, 0, [])]),
  (48, [(40, .istore_n 1, 1, false, 0, []), (41, .iinc 2 1, 3, false, 0, []), (44, .goto (-32), 3, false, 0, [12]), (47, .iload_n 1, 1, false, 0, []), (48, .ireturn, 1, false, 0, [])])]
def iX10_deepest : MI := (yX10_deepest, cX10_deepest, 3, (some .int), 0, 0, 2, 909, 53)
abbrev mX10_deepest : Nat := 136
def bX10_limits : BK := [
  (18, [(0, .aload_n 0, 1, false, 0, []), (1, .iconst 0, 1, false, 0, []), (2, .putfield 62, 3, false, 0, [9, 0, 0, 724]), (5, .iload_n 1, 1, false, 0, []), (6, .iconst 1, 1, false, 0, []), (7, .bipush 9, 2, false, 0, []), (9, .invokestatic 66, 3, false, 0, [1, 105, 3, 807, 808]), (12, .ifCond .ne 5, 3, false, 0, [17]), (15, .iconst (-1), 1, false, 0, []), (16, .ireturn, 1, false, 0, []), (17, .aload_n 0, 1, false, 0, []), (18, .invokevirtual 167, 3, false, 0, [0, 136, 0, 906, 908, 33, 9])]),
  (40, [(21, .iload_n 1, 1, false, 0, []), (22, .if_icmp .le 6, 3, false, 0, [28]), (25, .bipush (-2), 2, false, 0, []), (27, .ireturn, 1, false, 0, []), (28, .aload_n 0, 1, false, 0, []), (29, .invokevirtual 164, 3, false, 0, [0, 132, 0, 890, 892, 32, 9]), (32, .aload_n 0, 1, false, 0, []), (33, .getfield 16, 3, false, 0, [9, 9, 2, 733]), (36, .bipush 56, 2, false, 0, []), (38, .iaload, 1, false, 0, []), (39, .istore_n 2, 1, false, 0, []), (40, .aload_n 0, 1, false, 0, [])]),
  (49, [(41, .getfield 16, 3, false, 0, [9, 9, 2, 733]), (44, .bipush 56, 2, false, 0, []), (46, .iload_n 1, 1, false, 0, []), (47, .iastore, 1, false, 0, []), (48, .iload_n 2, 1, false, 0, []), (49, .ireturn, 1, false, 0, [])])]
def iX10_limits : MI := (yX10_limits, cX10_limits, 3, (some .int), 0, 0, 3, 905, 53)
abbrev mX10_limits : Nat := 137
def bX10_undo : BK := [
  (20, [(0, .aload_n 0, 1, false, 0, []), (1, .iconst 0, 1, false, 0, []), (2, .putfield 62, 3, false, 0, [9, 0, 0, 724]), (5, .aload_n 0, 1, false, 0, []), (6, .getfield 141, 3, false, 0, [9, 14, 0, 738]), (9, .ifCond .ne 6, 3, false, 0, [15]), (12, .bipush (-2), 2, false, 0, []), (14, .ireturn, 1, false, 0, []), (15, .aload_n 0, 1, false, 0, []), (16, .dup, 1, false, 0, []), (17, .getfield 141, 3, false, 0, [9, 14, 0, 738]), (20, .iconst 1, 1, false, 0, [])]),
  (39, [(21, .isub, 1, false, 0, []), (22, .putfield 141, 3, false, 0, [9, 14, 0, 738]), (25, .iconst 0, 1, false, 0, []), (26, .istore_n 1, 1, false, 0, []), (27, .iload_n 1, 1, true, 0, []), (28, .bipush 57, 2, false, 0, []), (30, .if_icmp .ge 29, 3, false, 0, [59]), (33, .aload_n 0, 1, false, 0, []), (34, .getfield 16, 3, false, 0, [9, 9, 2, 733]), (37, .iload_n 1, 1, false, 0, []), (38, .aload_n 0, 1, false, 0, []), (39, .getfield 29, 3, false, 0, [9, 13, 2, 737])]),
  (60, [(42, .bipush 57, 2, false, 0, []), (44, .aload_n 0, 1, false, 0, []), (45, .getfield 141, 3, false, 0, [9, 14, 0, 738]), (48, .imul, 1, false, 0, []), (49, .iload_n 1, 1, false, 0, []), (50, .iadd, 1, false, 0, []), (51, .iaload, 1, false, 0, []), (52, .iastore, 1, false, 0, []), (53, .iinc 1 1, 3, false, 0, []), (56, .goto (-29), 3, false, 0, [27]), (59, .aload_n 0, 1, false, 0, []), (60, .getfield 141, 3, false, 0, [9, 14, 0, 738])]),
  (63, [(63, .ireturn, 1, false, 0, [])])]
def iX10_undo : MI := (yX10_undo, cX10_undo, 2, (some .int), 0, 0, 0, 913, 53)
abbrev mX10_undo : Nat := 138
def bX10_isConstant : BK := [
  (8, [(0, .iload_n 0, 1, false, 0, []), (1, .iconst 1, 1, false, 0, []), (2, .sipush 1023, 3, false, 0, []), (5, .invokestatic 66, 3, false, 0, [1, 105, 3, 807, 808]), (8, .ireturn, 1, false, 0, [])])]
def iX10_isConstant : MI := (yX10_isConstant, cX10_isConstant, 1, (some .boolean), 0, 0, 1, 920, 53)
abbrev mX10_isConstant : Nat := 139
def bX10_digitOf : BK := [
  (15, [(0, .iload_n 0, 1, false, 0, []), (1, .istore_n 2, 1, false, 0, []), (2, .iconst 0, 1, false, 0, []), (3, .istore_n 3, 1, false, 0, []), (4, .iconst 0, 1, false, 0, []), (5, .istore 4, 2, false, 0, []), (7, .iload 4, 2, true, 0, []), (9, .iload_n 1, 1, false, 0, []), (10, .if_icmp .gt 38, 3, false, 0, [48]), (13, .iload_n 2, 1, false, 0, []), (14, .iconst 2, 1, false, 0, []), (15, .irem, 1, false, 0, [])]),
  (35, [(16, .ifCond .ne 7, 3, false, 0, [23]), (19, .iconst 0, 1, false, 0, []), (20, .goto 15, 3, false, 0, [35]), (23, .iload_n 2, 1, false, 0, []), (24, .iconst 4, 1, false, 0, []), (25, .irem, 1, false, 0, []), (26, .iconst 1, 1, false, 0, []), (27, .if_icmp .ne 7, 3, false, 0, [34]), (30, .iconst 1, 1, false, 0, []), (31, .goto 4, 3, false, 0, [35]), (34, .iconst (-1), 1, false, 0, []), (35, .istore_n 3, 1, false, 0, [])]),
  (49, [(36, .iload_n 2, 1, false, 0, []), (37, .iload_n 3, 1, false, 0, []), (38, .isub, 1, false, 0, []), (39, .iconst 2, 1, false, 0, []), (40, .idiv, 1, false, 0, []), (41, .istore_n 2, 1, false, 0, []), (42, .iinc 4 1, 3, false, 0, []), (45, .goto (-38), 3, false, 0, [7]), (48, .iload_n 3, 1, false, 0, []), (49, .ireturn, 1, false, 0, [])])]
def iX10_digitOf : MI := (yX10_digitOf, cX10_digitOf, 5, (some .int), 0, 0, 0, 923, 53)
abbrev mX10_digitOf : Nat := 140
def bX10_digits : BK := [
  (17, [(0, .aload_n 0, 1, false, 0, []), (1, .iconst 0, 1, false, 0, []), (2, .putfield 62, 3, false, 0, [9, 0, 0, 724]), (5, .iload_n 1, 1, false, 0, []), (6, .invokestatic 171, 3, false, 0, [1, 139, 1, 918, 919]), (9, .ifCond .ne 5, 3, false, 0, [14]), (12, .iconst (-1), 1, false, 0, []), (13, .ireturn, 1, false, 0, []), (14, .iconst 0, 1, false, 0, []), (15, .istore_n 2, 1, false, 0, []), (16, .iconst 0, 1, false, 0, []), (17, .istore_n 3, 1, false, 0, [])]),
  (38, [(18, .iload_n 3, 1, true, 0, []), (19, .bipush 12, 2, false, 0, []), (21, .if_icmp .ge 25, 3, false, 0, [46]), (24, .iload_n 2, 1, false, 0, []), (25, .iload_n 1, 1, false, 0, []), (26, .iload_n 3, 1, false, 0, []), (27, .invokestatic 174, 3, false, 0, [1, 140, 2, 921, 922]), (30, .ifCond .eq 7, 3, false, 0, [37]), (33, .iconst 1, 1, false, 0, []), (34, .goto 4, 3, false, 0, [38]), (37, .iconst 0, 1, false, 0, []), (38, .iadd, 1, false, 0, [])]),
  (47, [(39, .istore_n 2, 1, false, 0, []), (40, .iinc 3 1, 3, false, 0, []), (43, .goto (-25), 3, false, 0, [18]), (46, .iload_n 2, 1, false, 0, []), (47, .ireturn, 1, false, 0, [])])]
def iX10_digits : MI := (yX10_digits, cX10_digits, 4, (some .int), 0, 0, 2, 917, 53)
abbrev mX10_digits : Nat := 141
def bX10_digit : BK := [
  (22, [(0, .aload_n 0, 1, false, 0, []), (1, .iconst 0, 1, false, 0, []), (2, .putfield 62, 3, false, 0, [9, 0, 0, 724]), (5, .iload_n 1, 1, false, 0, []), (6, .invokestatic 171, 3, false, 0, [1, 139, 1, 918, 919]), (9, .ifCond .eq 23, 3, false, 0, [32]), (12, .iload_n 2, 1, false, 0, []), (13, .iconst 0, 1, false, 0, []), (14, .bipush 11, 2, false, 0, []), (16, .invokestatic 66, 3, false, 0, [1, 105, 3, 807, 808]), (19, .ifCond .eq 13, 3, false, 0, [32]), (22, .iload_n 1, 1, false, 0, [])]),
  (33, [(23, .iload_n 2, 1, false, 0, []), (24, .invokestatic 174, 3, false, 0, [1, 140, 2, 921, 922]), (27, .iconst 1, 1, false, 0, []), (28, .iadd, 1, false, 0, []), (29, .goto 4, 3, false, 0, [33]), (32, .iconst (-1), 1, false, 0, []), (33, .ireturn, 1, false, 0, [])])]
def iX10_digit : MI := (yX10_digit, cX10_digit, 3, (some .int), 0, 0, 2, 927, 53)
abbrev mX10_digit : Nat := 142
def bX10_near : BK := [
  (19, [(0, .aload_n 0, 1, false, 0, []), (1, .iconst 0, 1, false, 0, []), (2, .putfield 62, 3, false, 0, [9, 0, 0, 724]), (5, .iload_n 1, 1, false, 0, []), (6, .ifCond .lt 12, 3, false, 0, [18]), (9, .iload_n 2, 1, false, 0, []), (10, .iconst 0, 1, false, 0, []), (11, .iconst 1, 1, false, 0, []), (12, .invokestatic 66, 3, false, 0, [1, 105, 3, 807, 808]), (15, .ifCond .ne 5, 3, false, 0, [20]), (18, .iconst (-1), 1, false, 0, []), (19, .ireturn, 1, false, 0, [])]),
  (39, [(20, .aload_n 0, 1, false, 0, []), (21, .aload_n 0, 1, false, 0, []), (22, .getfield 16, 3, false, 0, [9, 9, 2, 733]), (25, .invokevirtual 177, 3, false, 0, [0, 129, 1, 932, 934, 34, 9]), (28, .iconst 0, 1, false, 0, []), (29, .istore_n 3, 1, false, 0, []), (30, .bipush (-9), 2, false, 0, []), (32, .istore 4, 2, false, 0, []), (34, .iconst 1, 1, false, 0, []), (35, .istore 5, 2, false, 0, []), (37, .iload 5, 2, true, 0, []), (39, .sipush 1024, 3, false, 0, [])]),
  (65, [(42, .if_icmp .ge 41, 3, false, 0, [83]), (45, .iload 5, 2, false, 0, []), (47, .iload_n 1, 1, false, 0, []), (48, .if_icmp .le 29, 3, false, 0, [77]), (51, .aload_n 0, 1, false, 0, []), (52, .getfield 44, 3, false, 0, [9, 21, 2, 745]), (55, .iload 5, 2, false, 0, []), (57, .iaload, 1, false, 0, []), (58, .ifCond .le 19, 3, false, 0, [77]), (61, .iload_n 3, 1, false, 0, []), (62, .ifCond .ne 8, 3, false, 0, [70]), (65, .iload 5, 2, false, 0, [])]),
  (93, [(67, .goto 5, 3, false, 0, [72]), (70, .iload 4, 2, false, 0, []), (72, .istore 4, 2, false, 0, []), (74, .iinc 3 1, 3, false, 0, []), (77, .iinc 5 1, 3, false, 0, []), (80, .goto (-43), 3, false, 0, [37]), (83, .iload_n 2, 1, false, 0, []), (84, .ifCond .ne 7, 3, false, 0, [91]), (87, .iload_n 3, 1, false, 0, []), (88, .goto 5, 3, false, 0, [93]), (91, .iload 4, 2, false, 0, []), (93, .ireturn, 1, false, 0, [])])]
def iX10_near : MI := (yX10_near, cX10_near, 6, (some .int), 0, 0, 4, 931, 53)
abbrev mX10_near : Nat := 143
def bX10_isOddNumber : BK := [
  (19, [(0, .iload_n 0, 1, false, 0, []), (1, .invokestatic 171, 3, false, 0, [1, 139, 1, 918, 919]), (4, .ifCond .eq 14, 3, false, 0, [18]), (7, .iload_n 0, 1, false, 0, []), (8, .iconst 2, 1, false, 0, []), (9, .irem, 1, false, 0, []), (10, .iconst 1, 1, false, 0, []), (11, .if_icmp .ne 7, 3, false, 0, [18]), (14, .iconst 1, 1, false, 0, []), (15, .goto 4, 3, false, 0, [19]), (18, .iconst 0, 1, false, 0, []), (19, .ireturn, 1, false, 0, [])])]
def iX10_isOddNumber : MI := (yX10_isOddNumber, cX10_isOddNumber, 1, (some .boolean), 0, 0, 2, 946, 53)
abbrev mX10_isOddNumber : Nat := 144
def bX10_partOf : BK := [
  (17, [(0, .iload_n 0, 1, false, 0, []), (1, .iconst 1, 1, false, 0, []), (2, .isub, 1, false, 0, []), (3, .istore_n 2, 1, false, 0, []), (4, .iload_n 1, 1, false, 0, []), (5, .ifCond .ne 11, 3, false, 0, [16]), (8, .iload_n 2, 1, false, 0, []), (9, .sipush 1000, 3, false, 0, []), (12, .idiv, 1, false, 0, []), (13, .goto 39, 3, false, 0, [52]), (16, .iload_n 1, 1, false, 0, []), (17, .iconst 1, 1, false, 0, [])]),
  (38, [(18, .if_icmp .ne 14, 3, false, 0, [32]), (21, .iload_n 2, 1, false, 0, []), (22, .sipush 1000, 3, false, 0, []), (25, .irem, 1, false, 0, []), (26, .bipush 50, 2, false, 0, []), (28, .idiv, 1, false, 0, []), (29, .goto 23, 3, false, 0, [52]), (32, .iload_n 1, 1, false, 0, []), (33, .iconst 2, 1, false, 0, []), (34, .if_icmp .ne 12, 3, false, 0, [46]), (37, .iload_n 2, 1, false, 0, []), (38, .bipush 50, 2, false, 0, [])]),
  (52, [(40, .irem, 1, false, 0, []), (41, .iconst 4, 1, false, 0, []), (42, .idiv, 1, false, 0, []), (43, .goto 9, 3, false, 0, [52]), (46, .iload_n 2, 1, false, 0, []), (47, .bipush 50, 2, false, 0, []), (49, .irem, 1, false, 0, []), (50, .iconst 4, 1, false, 0, []), (51, .irem, 1, false, 0, []), (52, .ireturn, 1, false, 0, [])])]
def iX10_partOf : MI := (yX10_partOf, cX10_partOf, 3, (some .int), 0, 0, 0, 949, 53)
abbrev mX10_partOf : Nat := 145
def bX10_by : BK := [
  (21, [(0, .aload_n 0, 1, false, 0, []), (1, .iconst 0, 1, false, 0, []), (2, .putfield 62, 3, false, 0, [9, 0, 0, 724]), (5, .iload_n 1, 1, false, 0, []), (6, .invokestatic 180, 3, false, 0, [1, 144, 1, 944, 945]), (9, .ifCond .eq 12, 3, false, 0, [21]), (12, .iload_n 2, 1, false, 0, []), (13, .iconst 0, 1, false, 0, []), (14, .iconst 3, 1, false, 0, []), (15, .invokestatic 66, 3, false, 0, [1, 105, 3, 807, 808]), (18, .ifCond .ne 5, 3, false, 0, [23]), (21, .iconst (-1), 1, false, 0, [])]),
  (42, [(22, .ireturn, 1, false, 0, []), (23, .aload_n 0, 1, false, 0, []), (24, .aload_n 0, 1, false, 0, []), (25, .getfield 16, 3, false, 0, [9, 9, 2, 733]), (28, .invokevirtual 177, 3, false, 0, [0, 129, 1, 932, 934, 34, 9]), (31, .aload_n 0, 1, false, 0, []), (32, .getfield 44, 3, false, 0, [9, 21, 2, 745]), (35, .iload_n 1, 1, false, 0, []), (36, .iaload, 1, false, 0, []), (37, .ifCond .ne 8, 3, false, 0, [45]), (40, .bipush (-9), 2, false, 0, []), (42, .goto 13, 3, false, 0, [55])]),
  (55, [(45, .aload_n 0, 1, false, 0, []), (46, .getfield 44, 3, false, 0, [9, 21, 2, 745]), (49, .iload_n 1, 1, false, 0, []), (50, .iaload, 1, false, 0, []), (51, .iload_n 2, 1, false, 0, []), (52, .invokestatic 183, 3, false, 0, [1, 145, 2, 947, 948]), (55, .ireturn, 1, false, 0, [])])]
def iX10_by : MI := (yX10_by, cX10_by, 3, (some .int), 0, 0, 4, 943, 53)
abbrev mX10_by : Nat := 146
def bX10_isByLast : BK := [
  (19, [(0, .aload_n 0, 1, false, 0, []), (1, .getfield 144, 3, false, 0, [9, 20, 0, 744]), (4, .iconst 1, 1, false, 0, []), (5, .isub, 1, false, 0, []), (6, .istore_n 3, 1, false, 0, []), (7, .iconst 0, 1, false, 0, []), (8, .istore 4, 2, false, 0, []), (10, .iload 4, 2, true, 0, []), (12, .aload_n 0, 1, false, 0, []), (13, .getfield 144, 3, false, 0, [9, 20, 0, 744]), (16, .if_icmp .ge 150, 3, false, 0, [166]), (19, .iconst 0, 1, false, 0, [])]),
  (40, [(20, .istore 5, 2, false, 0, []), (22, .iload 5, 2, true, 0, []), (24, .bipush 10, 2, false, 0, []), (26, .if_icmp .ge 134, 3, false, 0, [160]), (29, .iconst 0, 1, false, 0, []), (30, .istore 6, 2, false, 0, []), (32, .iload 6, 2, true, 0, []), (34, .iconst 4, 1, false, 0, []), (35, .if_icmp .ge 119, 3, false, 0, [154]), (38, .aload_n 0, 1, false, 0, []), (39, .iload_n 3, 1, false, 0, []), (40, .iload 5, 2, false, 0, [])]),
  (62, [(42, .iload 4, 2, false, 0, []), (44, .iload 6, 2, false, 0, []), (46, .iload_n 2, 1, false, 0, []), (47, .invokevirtual 111, 3, false, 0, [0, 125, 5, 867, 869, 30, 9]), (50, .ifCond .eq 34, 3, false, 0, [84]), (53, .aload_n 0, 1, false, 0, []), (54, .getfield 38, 3, false, 0, [9, 18, 2, 742]), (57, .iload_n 3, 1, false, 0, []), (58, .iaload, 1, false, 0, []), (59, .iload 5, 2, false, 0, []), (61, .aload_n 0, 1, false, 0, []), (62, .getfield 38, 3, false, 0, [9, 18, 2, 742])]),
  (87, [(65, .iload 4, 2, false, 0, []), (67, .iaload, 1, false, 0, []), (68, .iload 6, 2, false, 0, []), (70, .invokestatic 147, 3, false, 0, [1, 121, 4, 857, 858]), (73, .invokestatic 151, 3, false, 0, [1, 122, 1, 860, 861]), (76, .iload_n 1, 1, false, 0, []), (77, .if_icmp .ne 7, 3, false, 0, [84]), (80, .iconst 1, 1, false, 0, []), (81, .goto 4, 3, false, 0, [85]), (84, .iconst 0, 1, false, 0, []), (85, .istore 7, 2, false, 0, []), (87, .aload_n 0, 1, false, 0, [])]),
  (109, [(88, .iload 4, 2, false, 0, []), (90, .iload 5, 2, false, 0, []), (92, .iload_n 3, 1, false, 0, []), (93, .iload 6, 2, false, 0, []), (95, .iload_n 2, 1, false, 0, []), (96, .invokevirtual 111, 3, false, 0, [0, 125, 5, 867, 869, 30, 9]), (99, .ifCond .eq 34, 3, false, 0, [133]), (102, .aload_n 0, 1, false, 0, []), (103, .getfield 38, 3, false, 0, [9, 18, 2, 742]), (106, .iload 4, 2, false, 0, []), (108, .iaload, 1, false, 0, []), (109, .iload 5, 2, false, 0, [])]),
  (133, [(111, .aload_n 0, 1, false, 0, []), (112, .getfield 38, 3, false, 0, [9, 18, 2, 742]), (115, .iload_n 3, 1, false, 0, []), (116, .iaload, 1, false, 0, []), (117, .iload 6, 2, false, 0, []), (119, .invokestatic 147, 3, false, 0, [1, 121, 4, 857, 858]), (122, .invokestatic 151, 3, false, 0, [1, 122, 1, 860, 861]), (125, .iload_n 1, 1, false, 0, []), (126, .if_icmp .ne 7, 3, false, 0, [133]), (129, .iconst 1, 1, false, 0, []), (130, .goto 4, 3, false, 0, [134]), (133, .iconst 0, 1, false, 0, [])]),
  (160, [(134, .istore 8, 2, false, 0, []), (136, .iload 7, 2, false, 0, []), (138, .ifCond .ne 8, 3, false, 0, [146]), (141, .iload 8, 2, false, 0, []), (143, .ifCond .eq 5, 3, false, 0, [148]), (146, .iconst 1, 1, false, 0, []), (147, .ireturn, 1, false, 0, []), (148, .iinc 6 1, 3, false, 0, []), (151, .goto (-119), 3, false, 0, [32]), (154, .iinc 5 1, 3, false, 0, []), (157, .goto (-135), 3, false, 0, [22]), (160, .iinc 4 1, 3, false, 0, [])]),
  (167, [(163, .goto (-153), 3, false, 0, [10]), (166, .iconst 0, 1, false, 0, []), (167, .ireturn, 1, false, 0, [])])]
def iX10_isByLast : MI := (yX10_isByLast, cX10_isByLast, 9, (some .boolean), 0, 0, 2, 961, 53)
abbrev mX10_isByLast : Nat := 147
def bX10_twoOf : BK := [
  (20, [(0, .aload_n 0, 1, false, 0, []), (1, .iload_n 2, 1, false, 0, []), (2, .invokevirtual 161, 3, false, 0, [0, 127, 1, 882, 884, 31, 9]), (5, .ifCond .ne 12, 3, false, 0, [17]), (8, .aload_n 0, 1, false, 0, []), (9, .getfield 44, 3, false, 0, [9, 21, 2, 745]), (12, .iload_n 2, 1, false, 0, []), (13, .iaload, 1, false, 0, []), (14, .ifCond .le 6, 3, false, 0, [20]), (17, .bipush (-9), 2, false, 0, []), (19, .ireturn, 1, false, 0, []), (20, .bipush (-9), 2, false, 0, [])]),
  (41, [(22, .istore_n 3, 1, false, 0, []), (23, .aload_n 0, 1, false, 0, []), (24, .dup, 1, false, 0, []), (25, .getfield 144, 3, false, 0, [9, 20, 0, 744]), (28, .iconst 1, 1, false, 0, []), (29, .iadd, 1, false, 0, []), (30, .putfield 144, 3, false, 0, [9, 20, 0, 744]), (33, .iconst 1, 1, false, 0, []), (34, .istore 4, 2, false, 0, []), (36, .iload 4, 2, true, 0, []), (38, .sipush 1024, 3, false, 0, []), (41, .if_icmp .ge 91, 3, false, 0, [132])]),
  (65, [(44, .iload_n 3, 1, false, 0, []), (45, .bipush (-9), 2, false, 0, []), (47, .if_icmp .ne 85, 3, false, 0, [132]), (50, .aload_n 0, 1, false, 0, []), (51, .getfield 44, 3, false, 0, [9, 21, 2, 745]), (54, .iload 4, 2, false, 0, []), (56, .iaload, 1, false, 0, []), (57, .ifCond .le 69, 3, false, 0, [126]), (60, .aload_n 0, 1, false, 0, []), (61, .getfield 38, 3, false, 0, [9, 18, 2, 742]), (64, .aload_n 0, 1, false, 0, []), (65, .getfield 144, 3, false, 0, [9, 20, 0, 744])]),
  (84, [(68, .iconst 1, 1, false, 0, []), (69, .isub, 1, false, 0, []), (70, .iload 4, 2, false, 0, []), (72, .iastore, 1, false, 0, []), (73, .aload_n 0, 1, false, 0, []), (74, .getfield 41, 3, false, 0, [9, 19, 2, 743]), (77, .aload_n 0, 1, false, 0, []), (78, .getfield 144, 3, false, 0, [9, 20, 0, 744]), (81, .iconst 1, 1, false, 0, []), (82, .isub, 1, false, 0, []), (83, .aload_n 0, 1, false, 0, []), (84, .aload_n 0, 1, false, 0, [])]),
  (106, [(85, .getfield 44, 3, false, 0, [9, 21, 2, 745]), (88, .iload 4, 2, false, 0, []), (90, .iaload, 1, false, 0, []), (91, .iconst 0, 1, false, 0, []), (92, .invokestatic 183, 3, false, 0, [1, 145, 2, 947, 948]), (95, .aload_n 0, 1, false, 0, []), (96, .getfield 44, 3, false, 0, [9, 21, 2, 745]), (99, .iload 4, 2, false, 0, []), (101, .iaload, 1, false, 0, []), (102, .iconst 1, 1, false, 0, []), (103, .invokestatic 183, 3, false, 0, [1, 145, 2, 947, 948]), (106, .invokevirtual 154, 3, false, 0, [0, 123, 2, 863, 865, 29, 9])]),
  (129, [(109, .iastore, 1, false, 0, []), (110, .aload_n 0, 1, false, 0, []), (111, .iload_n 2, 1, false, 0, []), (112, .iload_n 1, 1, false, 0, []), (113, .invokevirtual 186, 3, false, 0, [0, 147, 2, 958, 960, 37, 9]), (116, .ifCond .eq 8, 3, false, 0, [124]), (119, .iload 4, 2, false, 0, []), (121, .goto 4, 3, false, 0, [125]), (124, .iload_n 3, 1, false, 0, []), (125, .istore_n 3, 1, false, 0, []), (126, .iinc 4 2, 3, false, 0, []), (129, .goto (-93), 3, false, 0, [36])]),
  (143, [(132, .aload_n 0, 1, false, 0, []), (133, .dup, 1, false, 0, []), (134, .getfield 144, 3, false, 0, [9, 20, 0, 744]), (137, .iconst 1, 1, false, 0, []), (138, .isub, 1, false, 0, []), (139, .putfield 144, 3, false, 0, [9, 20, 0, 744]), (142, .iload_n 3, 1, false, 0, []), (143, .ireturn, 1, false, 0, [])])]
def iX10_twoOf : MI := (yX10_twoOf, cX10_twoOf, 5, (some .int), 0, 0, 3, 957, 53)
abbrev mX10_twoOf : Nat := 148
def bX10_two : BK := [
  (19, [(0, .aload_n 0, 1, false, 0, []), (1, .iconst 0, 1, false, 0, []), (2, .putfield 62, 3, false, 0, [9, 0, 0, 724]), (5, .iload_n 1, 1, false, 0, []), (6, .invokestatic 180, 3, false, 0, [1, 144, 1, 944, 945]), (9, .ifCond .ne 5, 3, false, 0, [14]), (12, .iconst (-1), 1, false, 0, []), (13, .ireturn, 1, false, 0, []), (14, .aload_n 0, 1, false, 0, []), (15, .aload_n 0, 1, false, 0, []), (16, .getfield 16, 3, false, 0, [9, 9, 2, 733]), (19, .invokevirtual 177, 3, false, 0, [0, 129, 1, 932, 934, 34, 9])]),
  (34, [(22, .aload_n 0, 1, false, 0, []), (23, .aload_n 0, 1, false, 0, []), (24, .getfield 16, 3, false, 0, [9, 9, 2, 733]), (27, .bipush 56, 2, false, 0, []), (29, .iaload, 1, false, 0, []), (30, .iload_n 1, 1, false, 0, []), (31, .invokevirtual 189, 3, false, 0, [0, 148, 2, 954, 956, 36, 9]), (34, .ireturn, 1, false, 0, [])])]
def iX10_two : MI := (yX10_two, cX10_two, 2, (some .int), 0, 0, 4, 953, 53)
abbrev mX10_two : Nat := 149
def bX10_marks : BK := [
  (20, [(0, .iconst 0, 1, false, 0, []), (1, .istore 4, 2, false, 0, []), (3, .iload 4, 2, true, 0, []), (5, .bipush 10, 2, false, 0, []), (7, .if_icmp .ge 55, 3, false, 0, [62]), (10, .iconst 0, 1, false, 0, []), (11, .istore 5, 2, false, 0, []), (13, .iload 5, 2, true, 0, []), (15, .iconst 4, 1, false, 0, []), (16, .if_icmp .ge 40, 3, false, 0, [56]), (19, .iload_n 1, 1, false, 0, []), (20, .iload 4, 2, false, 0, [])]),
  (45, [(22, .iload_n 2, 1, false, 0, []), (23, .iload 5, 2, false, 0, []), (25, .invokestatic 147, 3, false, 0, [1, 121, 4, 857, 858]), (28, .istore 6, 2, false, 0, []), (30, .iload 6, 2, false, 0, []), (32, .iconst 1, 1, false, 0, []), (33, .sipush 1023, 3, false, 0, []), (36, .invokestatic 66, 3, false, 0, [1, 105, 3, 807, 808]), (39, .ifCond .eq 11, 3, false, 0, [50]), (42, .aload_n 0, 1, false, 0, []), (43, .iload 6, 2, false, 0, []), (45, .invokestatic 151, 3, false, 0, [1, 122, 1, 860, 861])]),
  (62, [(48, .iload_n 3, 1, false, 0, []), (49, .iastore, 1, false, 0, []), (50, .iinc 5 1, 3, false, 0, []), (53, .goto (-40), 3, false, 0, [13]), (56, .iinc 4 1, 3, false, 0, []), (59, .goto (-56), 3, false, 0, [3]), (62, .return_, 1, false, 0, [])])]
def iX10_marks : MI := (yX10_marks, cX10_marks, 7, none, 0, 0, 1, 968, 53)
abbrev mX10_marks : Nat := 150
def bX10_isMade : BK := [
  (18, [(0, .iconst 0, 1, false, 0, []), (1, .istore_n 3, 1, false, 0, []), (2, .iload_n 3, 1, true, 0, []), (3, .bipush 10, 2, false, 0, []), (5, .if_icmp .ge 57, 3, false, 0, [62]), (8, .iconst 0, 1, false, 0, []), (9, .istore 4, 2, false, 0, []), (11, .iload 4, 2, true, 0, []), (13, .iconst 4, 1, false, 0, []), (14, .if_icmp .ge 42, 3, false, 0, [56]), (17, .iload_n 1, 1, false, 0, []), (18, .iload_n 3, 1, false, 0, [])]),
  (44, [(19, .iload_n 2, 1, false, 0, []), (20, .iload 4, 2, false, 0, []), (22, .invokestatic 147, 3, false, 0, [1, 121, 4, 857, 858]), (25, .istore 5, 2, false, 0, []), (27, .iload 5, 2, false, 0, []), (29, .iconst 1, 1, false, 0, []), (30, .sipush 1023, 3, false, 0, []), (33, .invokestatic 66, 3, false, 0, [1, 105, 3, 807, 808]), (36, .ifCond .eq 14, 3, false, 0, [50]), (39, .iload 5, 2, false, 0, []), (41, .invokestatic 151, 3, false, 0, [1, 122, 1, 860, 861]), (44, .iload_n 0, 1, false, 0, [])]),
  (63, [(45, .if_icmp .ne 5, 3, false, 0, [50]), (48, .iconst 1, 1, false, 0, []), (49, .ireturn, 1, false, 0, []), (50, .iinc 4 1, 3, false, 0, []), (53, .goto (-42), 3, false, 0, [11]), (56, .iinc 3 1, 3, false, 0, []), (59, .goto (-57), 3, false, 0, [2]), (62, .iconst 0, 1, false, 0, []), (63, .ireturn, 1, false, 0, [])])]
def iX10_isMade : MI := (yX10_isMade, cX10_isMade, 6, (some .boolean), 0, 0, 1, 974, 53)
abbrev mX10_isMade : Nat := 151
def bX10_marksAll : BK := [
  (15, [(0, .aload_n 0, 1, false, 0, []), (1, .iconst 1, 1, false, 0, []), (2, .iconst 1, 1, false, 0, []), (3, .iload_n 3, 1, false, 0, []), (4, .invokestatic 192, 3, false, 0, [1, 150, 4, 966, 967]), (7, .aload_n 0, 1, false, 0, []), (8, .iconst 1, 1, false, 0, []), (9, .iload_n 1, 1, false, 0, []), (10, .iload_n 3, 1, false, 0, []), (11, .invokestatic 192, 3, false, 0, [1, 150, 4, 966, 967]), (14, .aload_n 0, 1, false, 0, []), (15, .iload_n 1, 1, false, 0, [])]),
  (31, [(16, .iconst 1, 1, false, 0, []), (17, .iload_n 3, 1, false, 0, []), (18, .invokestatic 192, 3, false, 0, [1, 150, 4, 966, 967]), (21, .aload_n 0, 1, false, 0, []), (22, .iload_n 1, 1, false, 0, []), (23, .iload_n 1, 1, false, 0, []), (24, .iload_n 3, 1, false, 0, []), (25, .invokestatic 192, 3, false, 0, [1, 150, 4, 966, 967]), (28, .aload_n 0, 1, false, 0, []), (29, .iconst 1, 1, false, 0, []), (30, .iload_n 2, 1, false, 0, []), (31, .iload_n 3, 1, false, 0, [])]),
  (49, [(32, .invokestatic 192, 3, false, 0, [1, 150, 4, 966, 967]), (35, .aload_n 0, 1, false, 0, []), (36, .iload_n 2, 1, false, 0, []), (37, .iconst 1, 1, false, 0, []), (38, .iload_n 3, 1, false, 0, []), (39, .invokestatic 192, 3, false, 0, [1, 150, 4, 966, 967]), (42, .aload_n 0, 1, false, 0, []), (43, .iload_n 1, 1, false, 0, []), (44, .iload_n 2, 1, false, 0, []), (45, .iload_n 3, 1, false, 0, []), (46, .invokestatic 192, 3, false, 0, [1, 150, 4, 966, 967]), (49, .aload_n 0, 1, false, 0, [])]),
  (63, [(50, .iload_n 2, 1, false, 0, []), (51, .iload_n 1, 1, false, 0, []), (52, .iload_n 3, 1, false, 0, []), (53, .invokestatic 192, 3, false, 0, [1, 150, 4, 966, 967]), (56, .aload_n 0, 1, false, 0, []), (57, .iload_n 2, 1, false, 0, []), (58, .iload_n 2, 1, false, 0, []), (59, .iload_n 3, 1, false, 0, []), (60, .invokestatic 192, 3, false, 0, [1, 150, 4, 966, 967]), (63, .return_, 1, false, 0, [])])]
def iX10_marksAll : MI := (yX10_marksAll, cX10_marksAll, 4, none, 0, 0, 2, 971, 53)
abbrev mX10_marksAll : Nat := 152
def bX10_least : BK := [
  (19, [(0, .aload_n 0, 1, false, 0, []), (1, .iconst 0, 1, false, 0, []), (2, .putfield 62, 3, false, 0, [9, 0, 0, 724]), (5, .iload_n 1, 1, false, 0, []), (6, .iconst 1, 1, false, 0, []), (7, .sipush 255, 3, false, 0, []), (10, .invokestatic 66, 3, false, 0, [1, 105, 3, 807, 808]), (13, .ifCond .ne 5, 3, false, 0, [18]), (16, .iconst (-1), 1, false, 0, []), (17, .ireturn, 1, false, 0, []), (18, .iload_n 1, 1, false, 0, []), (19, .invokestatic 151, 3, false, 0, [1, 122, 1, 860, 861])]),
  (39, [(22, .istore_n 2, 1, false, 0, []), (23, .iload_n 2, 1, false, 0, []), (24, .iconst 1, 1, false, 0, []), (25, .if_icmp .ne 5, 3, false, 0, [30]), (28, .iconst 0, 1, false, 0, []), (29, .ireturn, 1, false, 0, []), (30, .iconst 0, 1, false, 0, []), (31, .istore_n 3, 1, false, 0, []), (32, .iload_n 3, 1, true, 0, []), (33, .sipush 1024, 3, false, 0, []), (36, .if_icmp .ge 23, 3, false, 0, [59]), (39, .aload_n 0, 1, false, 0, [])]),
  (59, [(40, .getfield 50, 3, false, 0, [9, 24, 2, 748]), (43, .iload_n 3, 1, false, 0, []), (44, .iconst 0, 1, false, 0, []), (45, .iastore, 1, false, 0, []), (46, .aload_n 0, 1, false, 0, []), (47, .getfield 53, 3, false, 0, [9, 25, 2, 749]), (50, .iload_n 3, 1, false, 0, []), (51, .iconst 0, 1, false, 0, []), (52, .iastore, 1, false, 0, []), (53, .iinc 3 1, 3, false, 0, []), (56, .goto (-24), 3, false, 0, [32]), (59, .aload_n 0, 1, false, 0, [])]),
  (79, [(60, .getfield 50, 3, false, 0, [9, 24, 2, 748]), (63, .iconst 1, 1, false, 0, []), (64, .iconst 1, 1, false, 0, []), (65, .iconst 1, 1, false, 0, []), (66, .invokestatic 192, 3, false, 0, [1, 150, 4, 966, 967]), (69, .aload_n 0, 1, false, 0, []), (70, .getfield 50, 3, false, 0, [9, 24, 2, 748]), (73, .iload_n 2, 1, false, 0, []), (74, .iaload, 1, false, 0, []), (75, .ifCond .le 5, 3, false, 0, [80]), (78, .iconst 1, 1, false, 0, []), (79, .ireturn, 1, false, 0, [])]),
  (100, [(80, .iconst 0, 1, false, 0, []), (81, .istore_n 3, 1, false, 0, []), (82, .iconst 3, 1, false, 0, []), (83, .istore 4, 2, false, 0, []), (85, .iload 4, 2, true, 0, []), (87, .sipush 1024, 3, false, 0, []), (90, .if_icmp .ge 134, 3, false, 0, [224]), (93, .aload_n 0, 1, false, 0, []), (94, .getfield 50, 3, false, 0, [9, 24, 2, 748]), (97, .iload 4, 2, false, 0, []), (99, .iaload, 1, false, 0, []), (100, .ifCond .le 118, 3, false, 0, [218])]),
  (124, [(103, .aload_n 0, 1, false, 0, []), (104, .getfield 53, 3, false, 0, [9, 25, 2, 749]), (107, .iload 4, 2, false, 0, []), (109, .iconst 1, 1, false, 0, []), (110, .iload 4, 2, false, 0, []), (112, .invokestatic 196, 3, false, 0, [1, 152, 4, 969, 970]), (115, .aload_n 0, 1, false, 0, []), (116, .getfield 53, 3, false, 0, [9, 25, 2, 749]), (119, .iload_n 2, 1, false, 0, []), (120, .iaload, 1, false, 0, []), (121, .ifCond .le 5, 3, false, 0, [126]), (124, .iconst 2, 1, false, 0, [])]),
  (147, [(125, .ireturn, 1, false, 0, []), (126, .iconst 3, 1, false, 0, []), (127, .istore 5, 2, false, 0, []), (129, .iload 5, 2, true, 0, []), (131, .sipush 1024, 3, false, 0, []), (134, .if_icmp .ge 84, 3, false, 0, [218]), (137, .iload_n 3, 1, false, 0, []), (138, .ifCond .ne 80, 3, false, 0, [218]), (141, .aload_n 0, 1, false, 0, []), (142, .getfield 53, 3, false, 0, [9, 25, 2, 749]), (145, .iload 5, 2, false, 0, []), (147, .iaload, 1, false, 0, [])]),
  (170, [(148, .iload 4, 2, false, 0, []), (150, .if_icmp .ne 60, 3, false, 0, [210]), (153, .iload_n 2, 1, false, 0, []), (154, .iload 5, 2, false, 0, []), (156, .iconst 1, 1, false, 0, []), (157, .invokestatic 199, 3, false, 0, [1, 151, 3, 972, 973]), (160, .ifCond .ne 46, 3, false, 0, [206]), (163, .iload_n 2, 1, false, 0, []), (164, .iconst 1, 1, false, 0, []), (165, .iload 5, 2, false, 0, []), (167, .invokestatic 199, 3, false, 0, [1, 151, 3, 972, 973]), (170, .ifCond .ne 36, 3, false, 0, [206])]),
  (196, [(173, .iload_n 2, 1, false, 0, []), (174, .iload 4, 2, false, 0, []), (176, .iload 5, 2, false, 0, []), (178, .invokestatic 199, 3, false, 0, [1, 151, 3, 972, 973]), (181, .ifCond .ne 25, 3, false, 0, [206]), (184, .iload_n 2, 1, false, 0, []), (185, .iload 5, 2, false, 0, []), (187, .iload 4, 2, false, 0, []), (189, .invokestatic 199, 3, false, 0, [1, 151, 3, 972, 973]), (192, .ifCond .ne 14, 3, false, 0, [206]), (195, .iload_n 2, 1, false, 0, []), (196, .iload 5, 2, false, 0, [])]),
  (224, [(198, .iload 5, 2, false, 0, []), (200, .invokestatic 199, 3, false, 0, [1, 151, 3, 972, 973]), (203, .ifCond .eq 7, 3, false, 0, [210]), (206, .iconst 1, 1, false, 0, []), (207, .goto 4, 3, false, 0, [211]), (210, .iconst 0, 1, false, 0, []), (211, .istore_n 3, 1, false, 0, []), (212, .iinc 5 2, 3, false, 0, []), (215, .goto (-86), 3, false, 0, [129]), (218, .iinc 4 2, 3, false, 0, []), (221, .goto (-136), 3, false, 0, [85]), (224, .iload_n 3, 1, false, 0, [])]),
  (234, [(225, .ifCond .eq 7, 3, false, 0, [232]), (228, .iconst 3, 1, false, 0, []), (229, .goto 5, 3, false, 0, [234]), (232, .bipush (-9), 2, false, 0, []), (234, .ireturn, 1, false, 0, [])])]
def iX10_least : MI := (yX10_least, cX10_least, 6, (some .int), 0, 0, 3, 965, 53)
abbrev mX10_least : Nat := 153
def bX10_unmet : BK := [
  (14, [(0, .iconst 0, 1, false, 0, []), (1, .istore_n 2, 1, false, 0, []), (2, .iconst 0, 1, false, 0, []), (3, .istore_n 3, 1, false, 0, []), (4, .iload_n 3, 1, true, 0, []), (5, .aload_n 1, 1, false, 0, []), (6, .bipush 49, 2, false, 0, []), (8, .iaload, 1, false, 0, []), (9, .if_icmp .ge 33, 3, false, 0, [42]), (12, .iload_n 2, 1, false, 0, []), (13, .aload_n 0, 1, false, 0, []), (14, .aload_n 1, 1, false, 0, [])]),
  (35, [(15, .bipush 50, 2, false, 0, []), (17, .iload_n 3, 1, false, 0, []), (18, .iadd, 1, false, 0, []), (19, .iaload, 1, false, 0, []), (20, .invokestatic 151, 3, false, 0, [1, 122, 1, 860, 861]), (23, .invokevirtual 161, 3, false, 0, [0, 127, 1, 882, 884, 31, 9]), (26, .ifCond .eq 7, 3, false, 0, [33]), (29, .iconst 0, 1, false, 0, []), (30, .goto 4, 3, false, 0, [34]), (33, .iconst 1, 1, false, 0, []), (34, .iadd, 1, false, 0, []), (35, .istore_n 2, 1, false, 0, [])]),
  (43, [(36, .iinc 3 1, 3, false, 0, []), (39, .goto (-35), 3, false, 0, [4]), (42, .iload_n 2, 1, false, 0, []), (43, .ireturn, 1, false, 0, [])])]
def iX10_unmet : MI := (yX10_unmet, cX10_unmet, 4, (some .int), 0, 0, 1, 986, 53)
abbrev mX10_unmet : Nat := 154
def bX10_nextOf : BK := [
  (16, [(0, .bipush (-9), 2, false, 0, []), (2, .istore_n 2, 1, false, 0, []), (3, .iconst 0, 1, false, 0, []), (4, .istore_n 3, 1, false, 0, []), (5, .iload_n 3, 1, true, 0, []), (6, .aload_n 1, 1, false, 0, []), (7, .bipush 49, 2, false, 0, []), (9, .iaload, 1, false, 0, []), (10, .if_icmp .ge 49, 3, false, 0, [59]), (13, .aload_n 1, 1, false, 0, []), (14, .bipush 50, 2, false, 0, []), (16, .iload_n 3, 1, false, 0, [])]),
  (37, [(17, .iadd, 1, false, 0, []), (18, .iaload, 1, false, 0, []), (19, .invokestatic 151, 3, false, 0, [1, 122, 1, 860, 861]), (22, .istore 4, 2, false, 0, []), (24, .aload_n 0, 1, false, 0, []), (25, .getfield 44, 3, false, 0, [9, 21, 2, 745]), (28, .iload 4, 2, false, 0, []), (30, .iaload, 1, false, 0, []), (31, .ifCond .le 20, 3, false, 0, [51]), (34, .iload_n 2, 1, false, 0, []), (35, .bipush (-9), 2, false, 0, []), (37, .if_icmp .eq 9, 3, false, 0, [46])]),
  (62, [(40, .iload 4, 2, false, 0, []), (42, .iload_n 2, 1, false, 0, []), (43, .if_icmp .ge 8, 3, false, 0, [51]), (46, .iload 4, 2, false, 0, []), (48, .goto 4, 3, false, 0, [52]), (51, .iload_n 2, 1, false, 0, []), (52, .istore_n 2, 1, false, 0, []), (53, .iinc 3 1, 3, false, 0, []), (56, .goto (-51), 3, false, 0, [5]), (59, .iload_n 2, 1, false, 0, []), (60, .bipush (-9), 2, false, 0, []), (62, .if_icmp .eq 5, 3, false, 0, [67])]),
  (82, [(65, .iload_n 2, 1, false, 0, []), (66, .ireturn, 1, false, 0, []), (67, .bipush (-9), 2, false, 0, []), (69, .istore_n 3, 1, false, 0, []), (70, .iconst 0, 1, false, 0, []), (71, .istore 4, 2, false, 0, []), (73, .iload 4, 2, true, 0, []), (75, .aload_n 1, 1, false, 0, []), (76, .bipush 49, 2, false, 0, []), (78, .iaload, 1, false, 0, []), (79, .if_icmp .ge 78, 3, false, 0, [157]), (82, .aload_n 1, 1, false, 0, [])]),
  (103, [(83, .bipush 50, 2, false, 0, []), (85, .iload 4, 2, false, 0, []), (87, .iadd, 1, false, 0, []), (88, .iaload, 1, false, 0, []), (89, .invokestatic 151, 3, false, 0, [1, 122, 1, 860, 861]), (92, .istore 5, 2, false, 0, []), (94, .iload_n 3, 1, false, 0, []), (95, .bipush (-9), 2, false, 0, []), (97, .if_icmp .eq 9, 3, false, 0, [106]), (100, .iload 5, 2, false, 0, []), (102, .iload_n 3, 1, false, 0, []), (103, .if_icmp .ge 16, 3, false, 0, [119])]),
  (127, [(106, .aload_n 0, 1, false, 0, []), (107, .aload_n 1, 1, false, 0, []), (108, .bipush 56, 2, false, 0, []), (110, .iaload, 1, false, 0, []), (111, .iload 5, 2, false, 0, []), (113, .invokevirtual 189, 3, false, 0, [0, 148, 2, 954, 956, 36, 9]), (116, .goto 5, 3, false, 0, [121]), (119, .bipush (-9), 2, false, 0, []), (121, .istore 6, 2, false, 0, []), (123, .iload 6, 2, false, 0, []), (125, .bipush (-9), 2, false, 0, []), (127, .if_icmp .eq 8, 3, false, 0, [135])]),
  (151, [(130, .iload 6, 2, false, 0, []), (132, .goto 4, 3, false, 0, [136]), (135, .iload_n 2, 1, false, 0, []), (136, .istore_n 2, 1, false, 0, []), (137, .iload 6, 2, false, 0, []), (139, .bipush (-9), 2, false, 0, []), (141, .if_icmp .eq 8, 3, false, 0, [149]), (144, .iload 5, 2, false, 0, []), (146, .goto 4, 3, false, 0, [150]), (149, .iload_n 3, 1, false, 0, []), (150, .istore_n 3, 1, false, 0, []), (151, .iinc 4 1, 3, false, 0, [])]),
  (158, [(154, .goto (-81), 3, false, 0, [73]), (157, .iload_n 2, 1, false, 0, []), (158, .ireturn, 1, false, 0, [])])]
def iX10_nextOf : MI := (yX10_nextOf, cX10_nextOf, 7, (some .int), 0, 0, 4, 990, 53)
abbrev mX10_nextOf : Nat := 155
def bX10_plans : BK := [
  (21, [(0, .aload_n 0, 1, false, 0, []), (1, .getfield 16, 3, false, 0, [9, 9, 2, 733]), (4, .aload_n 0, 1, false, 0, []), (5, .getfield 19, 3, false, 0, [9, 10, 2, 734]), (8, .invokestatic 134, 3, false, 0, [1, 120, 2, 721, 722]), (11, .aload_n 0, 1, false, 0, []), (12, .iconst 0, 1, false, 0, []), (13, .putfield 202, 3, false, 0, [9, 23, 0, 747]), (16, .aload_n 0, 1, false, 0, []), (17, .aload_n 0, 1, false, 0, []), (18, .getfield 19, 3, false, 0, [9, 10, 2, 734]), (21, .invokevirtual 177, 3, false, 0, [0, 129, 1, 932, 934, 34, 9])]),
  (46, [(24, .aload_n 0, 1, false, 0, []), (25, .aload_n 0, 1, false, 0, []), (26, .getfield 19, 3, false, 0, [9, 10, 2, 734]), (29, .invokevirtual 205, 3, false, 0, [0, 154, 1, 983, 985, 39, 9]), (32, .ifCond .le 25, 3, false, 0, [57]), (35, .aload_n 0, 1, false, 0, []), (36, .getfield 19, 3, false, 0, [9, 10, 2, 734]), (39, .iconst 0, 1, false, 0, []), (40, .iaload, 1, false, 0, []), (41, .bipush 12, 2, false, 0, []), (43, .if_icmp .ge 14, 3, false, 0, [57]), (46, .aload_n 0, 1, false, 0, [])]),
  (70, [(47, .aload_n 0, 1, false, 0, []), (48, .getfield 19, 3, false, 0, [9, 10, 2, 734]), (51, .invokevirtual 209, 3, false, 0, [0, 155, 1, 987, 989, 40, 9]), (54, .goto 5, 3, false, 0, [59]), (57, .bipush (-9), 2, false, 0, []), (59, .istore_n 1, 1, false, 0, []), (60, .iload_n 1, 1, true, 0, []), (61, .bipush (-9), 2, false, 0, []), (63, .if_icmp .eq 104, 3, false, 0, [167]), (66, .aload_n 0, 1, false, 0, []), (67, .getfield 44, 3, false, 0, [9, 21, 2, 745]), (70, .iload_n 1, 1, false, 0, [])]),
  (88, [(71, .iaload, 1, false, 0, []), (72, .istore_n 2, 1, false, 0, []), (73, .aload_n 0, 1, false, 0, []), (74, .getfield 19, 3, false, 0, [9, 10, 2, 734]), (77, .iload_n 2, 1, false, 0, []), (78, .iconst 0, 1, false, 0, []), (79, .invokestatic 183, 3, false, 0, [1, 145, 2, 947, 948]), (82, .iload_n 2, 1, false, 0, []), (83, .iconst 2, 1, false, 0, []), (84, .invokestatic 183, 3, false, 0, [1, 145, 2, 947, 948]), (87, .iload_n 2, 1, false, 0, []), (88, .iconst 1, 1, false, 0, [])]),
  (110, [(89, .invokestatic 183, 3, false, 0, [1, 145, 2, 947, 948]), (92, .iload_n 2, 1, false, 0, []), (93, .iconst 3, 1, false, 0, []), (94, .invokestatic 183, 3, false, 0, [1, 145, 2, 947, 948]), (97, .invokestatic 115, 3, false, 0, [1, 126, 5, 871, 872]), (100, .aload_n 0, 1, false, 0, []), (101, .getfield 47, 3, false, 0, [9, 22, 2, 746]), (104, .aload_n 0, 1, false, 0, []), (105, .getfield 202, 3, false, 0, [9, 23, 0, 747]), (108, .iload_n 1, 1, false, 0, []), (109, .iastore, 1, false, 0, []), (110, .aload_n 0, 1, false, 0, [])]),
  (130, [(111, .dup, 1, false, 0, []), (112, .getfield 202, 3, false, 0, [9, 23, 0, 747]), (115, .iconst 1, 1, false, 0, []), (116, .iadd, 1, false, 0, []), (117, .putfield 202, 3, false, 0, [9, 23, 0, 747]), (120, .aload_n 0, 1, false, 0, []), (121, .aload_n 0, 1, false, 0, []), (122, .getfield 19, 3, false, 0, [9, 10, 2, 734]), (125, .invokevirtual 177, 3, false, 0, [0, 129, 1, 932, 934, 34, 9]), (128, .aload_n 0, 1, false, 0, []), (129, .aload_n 0, 1, false, 0, []), (130, .getfield 19, 3, false, 0, [9, 10, 2, 734])]),
  (155, [(133, .invokevirtual 205, 3, false, 0, [0, 154, 1, 983, 985, 39, 9]), (136, .ifCond .le 25, 3, false, 0, [161]), (139, .aload_n 0, 1, false, 0, []), (140, .getfield 19, 3, false, 0, [9, 10, 2, 734]), (143, .iconst 0, 1, false, 0, []), (144, .iaload, 1, false, 0, []), (145, .bipush 12, 2, false, 0, []), (147, .if_icmp .ge 14, 3, false, 0, [161]), (150, .aload_n 0, 1, false, 0, []), (151, .aload_n 0, 1, false, 0, []), (152, .getfield 19, 3, false, 0, [9, 10, 2, 734]), (155, .invokevirtual 209, 3, false, 0, [0, 155, 1, 987, 989, 40, 9])]),
  (167, [(158, .goto 5, 3, false, 0, [163]), (161, .bipush (-9), 2, false, 0, []), (163, .istore_n 1, 1, false, 0, []), (164, .goto (-104), 3, false, 0, [60]), (167, .return_, 1, false, 0, [])])]
def iX10_plans : MI := (yX10_plans, cX10_plans, 3, none, 0, 0, 5, 982, 53)
abbrev mX10_plans : Nat := 156
def bX10_plan : BK := [
  (18, [(0, .aload_n 0, 1, false, 0, []), (1, .iconst 0, 1, false, 0, []), (2, .putfield 62, 3, false, 0, [9, 0, 0, 724]), (5, .iload_n 1, 1, false, 0, []), (6, .bipush (-2), 2, false, 0, []), (8, .if_icmp .ge 5, 3, false, 0, [13]), (11, .iconst (-1), 1, false, 0, []), (12, .ireturn, 1, false, 0, []), (13, .aload_n 0, 1, false, 0, []), (14, .invokevirtual 212, 3, false, 0, [0, 156, 0, 979, 981, 38, 9]), (17, .iload_n 1, 1, false, 0, []), (18, .bipush (-2), 2, false, 0, [])]),
  (43, [(20, .if_icmp .ne 10, 3, false, 0, [30]), (23, .aload_n 0, 1, false, 0, []), (24, .getfield 202, 3, false, 0, [9, 23, 0, 747]), (27, .goto 38, 3, false, 0, [65]), (30, .iload_n 1, 1, false, 0, []), (31, .iconst (-1), 1, false, 0, []), (32, .if_icmp .ne 14, 3, false, 0, [46]), (35, .aload_n 0, 1, false, 0, []), (36, .aload_n 0, 1, false, 0, []), (37, .getfield 19, 3, false, 0, [9, 10, 2, 734]), (40, .invokevirtual 205, 3, false, 0, [0, 154, 1, 983, 985, 39, 9]), (43, .goto 22, 3, false, 0, [65])]),
  (65, [(46, .iload_n 1, 1, false, 0, []), (47, .aload_n 0, 1, false, 0, []), (48, .getfield 202, 3, false, 0, [9, 23, 0, 747]), (51, .if_icmp .ge 12, 3, false, 0, [63]), (54, .aload_n 0, 1, false, 0, []), (55, .getfield 47, 3, false, 0, [9, 22, 2, 746]), (58, .iload_n 1, 1, false, 0, []), (59, .iaload, 1, false, 0, []), (60, .goto 5, 3, false, 0, [65]), (63, .bipush (-9), 2, false, 0, []), (65, .ireturn, 1, false, 0, [])])]
def iX10_plan : MI := (yX10_plan, cX10_plan, 2, (some .int), 0, 0, 6, 978, 53)
abbrev mX10_plan : Nat := 157
def bX10_product : BK := [
  (19, [(0, .aload_n 0, 1, false, 0, []), (1, .iconst 0, 1, false, 0, []), (2, .putfield 62, 3, false, 0, [9, 0, 0, 724]), (5, .iload_n 1, 1, false, 0, []), (6, .iconst 0, 1, false, 0, []), (7, .aload_n 0, 1, false, 0, []), (8, .getfield 16, 3, false, 0, [9, 9, 2, 733]), (11, .iconst 0, 1, false, 0, []), (12, .iaload, 1, false, 0, []), (13, .invokestatic 66, 3, false, 0, [1, 105, 3, 807, 808]), (16, .ifCond .eq 14, 3, false, 0, [30]), (19, .iload_n 2, 1, false, 0, [])]),
  (41, [(20, .ldc 215, 2, false, (-99999), [995]), (22, .ldc 216, 2, false, 99999, [996]), (24, .invokestatic 66, 3, false, 0, [1, 105, 3, 807, 808]), (27, .ifCond .ne 5, 3, false, 0, [32]), (30, .lconst 0, 1, false, 0, []), (31, .lreturn, 1, false, 0, []), (32, .aload_n 0, 1, false, 0, []), (33, .aload_n 0, 1, false, 0, []), (34, .getfield 16, 3, false, 0, [9, 9, 2, 733]), (37, .invokevirtual 107, 3, false, 0, [0, 124, 1, 853, 855, 28, 9]), (40, .aload_n 0, 1, false, 0, []), (41, .getfield 38, 3, false, 0, [9, 18, 2, 742])]),
  (50, [(44, .iload_n 1, 1, false, 0, []), (45, .iaload, 1, false, 0, []), (46, .i2l, 1, false, 0, []), (47, .iload_n 2, 1, false, 0, []), (48, .i2l, 1, false, 0, []), (49, .lmul, 1, false, 0, []), (50, .lreturn, 1, false, 0, [])])]
def iX10_product : MI := (yX10_product, cX10_product, 3, (some .long), 0, 0, 2, 994, 53)
abbrev mX10_product : Nat := 158
def bX10_sees : BK := [
  (18, [(0, .aload_n 0, 1, false, 0, []), (1, .iconst 0, 1, false, 0, []), (2, .putfield 62, 3, false, 0, [9, 0, 0, 724]), (5, .iload_n 1, 1, false, 0, []), (6, .iconst 2, 1, false, 0, []), (7, .bipush 9, 2, false, 0, []), (9, .invokestatic 66, 3, false, 0, [1, 105, 3, 807, 808]), (12, .ifCond .eq 14, 3, false, 0, [26]), (15, .iload_n 2, 1, false, 0, []), (16, .iconst 0, 1, false, 0, []), (17, .iload_n 1, 1, false, 0, []), (18, .iconst 1, 1, false, 0, [])]),
  (40, [(19, .isub, 1, false, 0, []), (20, .invokestatic 66, 3, false, 0, [1, 105, 3, 807, 808]), (23, .ifCond .ne 5, 3, false, 0, [28]), (26, .iconst (-1), 1, false, 0, []), (27, .ireturn, 1, false, 0, []), (28, .aload_n 0, 1, false, 0, []), (29, .getfield 138, 3, false, 0, [9, 17, 0, 741]), (32, .bipush 6, 2, false, 0, []), (34, .if_icmp .ne 6, 3, false, 0, [40]), (37, .bipush (-3), 2, false, 0, []), (39, .ireturn, 1, false, 0, []), (40, .aload_n 0, 1, false, 0, [])]),
  (60, [(41, .getfield 32, 3, false, 0, [9, 15, 2, 739]), (44, .aload_n 0, 1, false, 0, []), (45, .getfield 138, 3, false, 0, [9, 17, 0, 741]), (48, .iload_n 1, 1, false, 0, []), (49, .iastore, 1, false, 0, []), (50, .aload_n 0, 1, false, 0, []), (51, .getfield 35, 3, false, 0, [9, 16, 2, 740]), (54, .aload_n 0, 1, false, 0, []), (55, .getfield 138, 3, false, 0, [9, 17, 0, 741]), (58, .iload_n 2, 1, false, 0, []), (59, .iastore, 1, false, 0, []), (60, .aload_n 0, 1, false, 0, [])]),
  (74, [(61, .dup, 1, false, 0, []), (62, .getfield 138, 3, false, 0, [9, 17, 0, 741]), (65, .iconst 1, 1, false, 0, []), (66, .iadd, 1, false, 0, []), (67, .putfield 138, 3, false, 0, [9, 17, 0, 741]), (70, .aload_n 0, 1, false, 0, []), (71, .getfield 138, 3, false, 0, [9, 17, 0, 741]), (74, .ireturn, 1, false, 0, [])])]
def iX10_sees : MI := (yX10_sees, cX10_sees, 3, (some .int), 0, 0, 1, 1000, 53)
abbrev mX10_sees : Nat := 159
def bX10_forget : BK := [
  (16, [(0, .aload_n 0, 1, false, 0, []), (1, .iconst 0, 1, false, 0, []), (2, .putfield 62, 3, false, 0, [9, 0, 0, 724]), (5, .aload_n 0, 1, false, 0, []), (6, .getfield 138, 3, false, 0, [9, 17, 0, 741]), (9, .istore_n 1, 1, false, 0, []), (10, .aload_n 0, 1, false, 0, []), (11, .iconst 0, 1, false, 0, []), (12, .putfield 138, 3, false, 0, [9, 17, 0, 741]), (15, .iload_n 1, 1, false, 0, []), (16, .ireturn, 1, false, 0, [])])]
def iX10_forget : MI := (yX10_forget, cX10_forget, 2, (some .int), 0, 0, 0, 1004, 53)
abbrev mX10_forget : Nat := 160
def bX10_canBe : BK := [
  (17, [(0, .aload_n 0, 1, false, 0, []), (1, .getfield 44, 3, false, 0, [9, 21, 2, 745]), (4, .iload_n 1, 1, false, 0, []), (5, .iaload, 1, false, 0, []), (6, .ifCond .le 7, 3, false, 0, [13]), (9, .iconst 1, 1, false, 0, []), (10, .goto 4, 3, false, 0, [14]), (13, .iconst 0, 1, false, 0, []), (14, .istore_n 2, 1, false, 0, []), (15, .iconst 0, 1, false, 0, []), (16, .istore_n 3, 1, false, 0, []), (17, .iload_n 3, 1, true, 0, [])]),
  (37, [(18, .aload_n 0, 1, false, 0, []), (19, .getfield 138, 3, false, 0, [9, 17, 0, 741]), (22, .if_icmp .ge 36, 3, false, 0, [58]), (25, .iload_n 2, 1, false, 0, []), (26, .ifCond .eq 24, 3, false, 0, [50]), (29, .iload_n 1, 1, false, 0, []), (30, .aload_n 0, 1, false, 0, []), (31, .getfield 32, 3, false, 0, [9, 15, 2, 739]), (34, .iload_n 3, 1, false, 0, []), (35, .iaload, 1, false, 0, []), (36, .irem, 1, false, 0, []), (37, .aload_n 0, 1, false, 0, [])]),
  (59, [(38, .getfield 35, 3, false, 0, [9, 16, 2, 740]), (41, .iload_n 3, 1, false, 0, []), (42, .iaload, 1, false, 0, []), (43, .if_icmp .ne 7, 3, false, 0, [50]), (46, .iconst 1, 1, false, 0, []), (47, .goto 4, 3, false, 0, [51]), (50, .iconst 0, 1, false, 0, []), (51, .istore_n 2, 1, false, 0, []), (52, .iinc 3 1, 3, false, 0, []), (55, .goto (-38), 3, false, 0, [17]), (58, .iload_n 2, 1, false, 0, []), (59, .ireturn, 1, false, 0, [])])]
def iX10_canBe : MI := (yX10_canBe, cX10_canBe, 4, (some .boolean), 0, 0, 0, 1012, 53)
abbrev mX10_canBe : Nat := 161
def bX10_unseen : BK := [
  (17, [(0, .aload_n 0, 1, false, 0, []), (1, .iconst 0, 1, false, 0, []), (2, .putfield 62, 3, false, 0, [9, 0, 0, 724]), (5, .iload_n 1, 1, false, 0, []), (6, .iconst 0, 1, false, 0, []), (7, .iconst 1, 1, false, 0, []), (8, .invokestatic 66, 3, false, 0, [1, 105, 3, 807, 808]), (11, .ifCond .ne 5, 3, false, 0, [16]), (14, .iconst (-1), 1, false, 0, []), (15, .ireturn, 1, false, 0, []), (16, .aload_n 0, 1, false, 0, []), (17, .aload_n 0, 1, false, 0, [])]),
  (40, [(18, .getfield 16, 3, false, 0, [9, 9, 2, 733]), (21, .invokevirtual 177, 3, false, 0, [0, 129, 1, 932, 934, 34, 9]), (24, .iconst 0, 1, false, 0, []), (25, .istore_n 2, 1, false, 0, []), (26, .bipush (-9), 2, false, 0, []), (28, .istore_n 3, 1, false, 0, []), (29, .iconst 1, 1, false, 0, []), (30, .istore 4, 2, false, 0, []), (32, .iload 4, 2, true, 0, []), (34, .sipush 1024, 3, false, 0, []), (37, .if_icmp .ge 32, 3, false, 0, [69]), (40, .aload_n 0, 1, false, 0, [])]),
  (66, [(41, .iload 4, 2, false, 0, []), (43, .invokevirtual 217, 3, false, 0, [0, 161, 1, 1009, 1011, 41, 9]), (46, .ifCond .eq 17, 3, false, 0, [63]), (49, .iload_n 2, 1, false, 0, []), (50, .ifCond .ne 8, 3, false, 0, [58]), (53, .iload 4, 2, false, 0, []), (55, .goto 4, 3, false, 0, [59]), (58, .iload_n 3, 1, false, 0, []), (59, .istore_n 3, 1, false, 0, []), (60, .iinc 2 1, 3, false, 0, []), (63, .iinc 4 1, 3, false, 0, []), (66, .goto (-34), 3, false, 0, [32])]),
  (78, [(69, .iload_n 1, 1, false, 0, []), (70, .ifCond .ne 7, 3, false, 0, [77]), (73, .iload_n 2, 1, false, 0, []), (74, .goto 4, 3, false, 0, [78]), (77, .iload_n 3, 1, false, 0, []), (78, .ireturn, 1, false, 0, [])])]
def iX10_unseen : MI := (yX10_unseen, cX10_unseen, 5, (some .int), 0, 0, 4, 1008, 53)
abbrev mX10_unseen : Nat := 162
def bX10_leaving : BK := [
  (18, [(0, .iconst 0, 1, false, 0, []), (1, .istore_n 3, 1, false, 0, []), (2, .iconst 1, 1, false, 0, []), (3, .istore 4, 2, false, 0, []), (5, .iload 4, 2, true, 0, []), (7, .sipush 1024, 3, false, 0, []), (10, .if_icmp .ge 34, 3, false, 0, [44]), (13, .iload_n 3, 1, false, 0, []), (14, .iload 4, 2, false, 0, []), (16, .iload_n 1, 1, false, 0, []), (17, .irem, 1, false, 0, []), (18, .iload_n 2, 1, false, 0, [])]),
  (41, [(19, .if_icmp .ne 16, 3, false, 0, [35]), (22, .aload_n 0, 1, false, 0, []), (23, .iload 4, 2, false, 0, []), (25, .invokevirtual 217, 3, false, 0, [0, 161, 1, 1009, 1011, 41, 9]), (28, .ifCond .eq 7, 3, false, 0, [35]), (31, .iconst 1, 1, false, 0, []), (32, .goto 4, 3, false, 0, [36]), (35, .iconst 0, 1, false, 0, []), (36, .iadd, 1, false, 0, []), (37, .istore_n 3, 1, false, 0, []), (38, .iinc 4 1, 3, false, 0, []), (41, .goto (-36), 3, false, 0, [5])]),
  (45, [(44, .iload_n 3, 1, false, 0, []), (45, .ireturn, 1, false, 0, [])])]
def iX10_leaving : MI := (yX10_leaving, cX10_leaving, 5, (some .int), 0, 0, 1, 1020, 53)
abbrev mX10_leaving : Nat := 163
def bX10_next : BK := [
  (20, [(0, .aload_n 0, 1, false, 0, []), (1, .iconst 0, 1, false, 0, []), (2, .putfield 62, 3, false, 0, [9, 0, 0, 724]), (5, .aload_n 0, 1, false, 0, []), (6, .aload_n 0, 1, false, 0, []), (7, .getfield 16, 3, false, 0, [9, 9, 2, 733]), (10, .invokevirtual 177, 3, false, 0, [0, 129, 1, 932, 934, 34, 9]), (13, .bipush (-9), 2, false, 0, []), (15, .istore_n 1, 1, false, 0, []), (16, .sipush 9999, 3, false, 0, []), (19, .istore_n 2, 1, false, 0, []), (20, .aload_n 0, 1, false, 0, [])]),
  (39, [(21, .iconst 1, 1, false, 0, []), (22, .iconst 0, 1, false, 0, []), (23, .invokevirtual 220, 3, false, 0, [0, 163, 2, 1017, 1019, 42, 9]), (26, .iconst 1, 1, false, 0, []), (27, .if_icmp .le 7, 3, false, 0, [34]), (30, .iconst 1, 1, false, 0, []), (31, .goto 4, 3, false, 0, [35]), (34, .iconst 0, 1, false, 0, []), (35, .istore_n 3, 1, false, 0, []), (36, .iconst 2, 1, false, 0, []), (37, .istore 4, 2, false, 0, []), (39, .iload 4, 2, true, 0, [])]),
  (63, [(41, .bipush 10, 2, false, 0, []), (43, .if_icmp .ge 84, 3, false, 0, [127]), (46, .iload_n 3, 1, false, 0, []), (47, .ifCond .eq 80, 3, false, 0, [127]), (50, .iconst 0, 1, false, 0, []), (51, .istore 5, 2, false, 0, []), (53, .iconst 0, 1, false, 0, []), (54, .istore 6, 2, false, 0, []), (56, .iload 6, 2, true, 0, []), (58, .iload 4, 2, false, 0, []), (60, .if_icmp .ge 35, 3, false, 0, [95]), (63, .aload_n 0, 1, false, 0, [])]),
  (89, [(64, .iload 4, 2, false, 0, []), (66, .iload 6, 2, false, 0, []), (68, .invokevirtual 220, 3, false, 0, [0, 163, 2, 1017, 1019, 42, 9]), (71, .istore 7, 2, false, 0, []), (73, .iload 7, 2, false, 0, []), (75, .iload 5, 2, false, 0, []), (77, .if_icmp .le 8, 3, false, 0, [85]), (80, .iload 7, 2, false, 0, []), (82, .goto 5, 3, false, 0, [87]), (85, .iload 5, 2, false, 0, []), (87, .istore 5, 2, false, 0, []), (89, .iinc 6 1, 3, false, 0, [])]),
  (114, [(92, .goto (-36), 3, false, 0, [56]), (95, .iload 5, 2, false, 0, []), (97, .iload_n 2, 1, false, 0, []), (98, .if_icmp .ge 8, 3, false, 0, [106]), (101, .iload 4, 2, false, 0, []), (103, .goto 4, 3, false, 0, [107]), (106, .iload_n 1, 1, false, 0, []), (107, .istore_n 1, 1, false, 0, []), (108, .iload 5, 2, false, 0, []), (110, .iload_n 2, 1, false, 0, []), (111, .if_icmp .ge 8, 3, false, 0, [119]), (114, .iload 5, 2, false, 0, [])]),
  (128, [(116, .goto 4, 3, false, 0, [120]), (119, .iload_n 2, 1, false, 0, []), (120, .istore_n 2, 1, false, 0, []), (121, .iinc 4 1, 3, false, 0, []), (124, .goto (-85), 3, false, 0, [39]), (127, .iload_n 1, 1, false, 0, []), (128, .ireturn, 1, false, 0, [])])]
def iX10_next : MI := (yX10_next, cX10_next, 8, (some .int), 0, 0, 4, 1016, 53)
abbrev mX10_next : Nat := 164
def bX10_keep : BK := [
  (17, [(0, .aload_n 0, 1, false, 0, []), (1, .iconst 0, 1, false, 0, []), (2, .putfield 62, 3, false, 0, [9, 0, 0, 724]), (5, .iload_n 1, 1, false, 0, []), (6, .iconst 0, 1, false, 0, []), (7, .iconst 1, 1, false, 0, []), (8, .invokestatic 66, 3, false, 0, [1, 105, 3, 807, 808]), (11, .ifCond .ne 5, 3, false, 0, [16]), (14, .iconst (-1), 1, false, 0, []), (15, .ireturn, 1, false, 0, []), (16, .iconst 0, 1, false, 0, []), (17, .istore_n 2, 1, false, 0, [])]),
  (35, [(18, .iload_n 2, 1, true, 0, []), (19, .bipush 57, 2, false, 0, []), (21, .if_icmp .ge 26, 3, false, 0, [47]), (24, .aload_n 0, 1, false, 0, []), (25, .getfield 22, 3, false, 0, [9, 11, 2, 735]), (28, .bipush 57, 2, false, 0, []), (30, .iload_n 1, 1, false, 0, []), (31, .imul, 1, false, 0, []), (32, .iload_n 2, 1, false, 0, []), (33, .iadd, 1, false, 0, []), (34, .aload_n 0, 1, false, 0, []), (35, .getfield 16, 3, false, 0, [9, 9, 2, 733])]),
  (55, [(38, .iload_n 2, 1, false, 0, []), (39, .iaload, 1, false, 0, []), (40, .iastore, 1, false, 0, []), (41, .iinc 2 1, 3, false, 0, []), (44, .goto (-26), 3, false, 0, [18]), (47, .aload_n 0, 1, false, 0, []), (48, .getfield 25, 3, false, 0, [9, 12, 2, 736]), (51, .iload_n 1, 1, false, 0, []), (52, .iconst 1, 1, false, 0, []), (53, .bastore, 1, false, 0, []), (54, .aload_n 0, 1, false, 0, []), (55, .getfield 16, 3, false, 0, [9, 9, 2, 733])]),
  (60, [(58, .iconst 0, 1, false, 0, []), (59, .iaload, 1, false, 0, []), (60, .ireturn, 1, false, 0, [])])]
def iX10_keep : MI := (yX10_keep, cX10_keep, 3, (some .int), 0, 0, 1, 1024, 53)
abbrev mX10_keep : Nat := 165
def bX10_back : BK := [
  (17, [(0, .aload_n 0, 1, false, 0, []), (1, .iconst 0, 1, false, 0, []), (2, .putfield 62, 3, false, 0, [9, 0, 0, 724]), (5, .iload_n 1, 1, false, 0, []), (6, .iconst 0, 1, false, 0, []), (7, .iconst 1, 1, false, 0, []), (8, .invokestatic 66, 3, false, 0, [1, 105, 3, 807, 808]), (11, .ifCond .ne 5, 3, false, 0, [16]), (14, .iconst (-1), 1, false, 0, []), (15, .ireturn, 1, false, 0, []), (16, .aload_n 0, 1, false, 0, []), (17, .getfield 25, 3, false, 0, [9, 12, 2, 736])]),
  (37, [(20, .iload_n 1, 1, false, 0, []), (21, .baload, 1, false, 0, []), (22, .ifCond .ne 6, 3, false, 0, [28]), (25, .bipush (-2), 2, false, 0, []), (27, .ireturn, 1, false, 0, []), (28, .iconst 0, 1, false, 0, []), (29, .istore_n 2, 1, false, 0, []), (30, .iload_n 2, 1, true, 0, []), (31, .bipush 57, 2, false, 0, []), (33, .if_icmp .ge 26, 3, false, 0, [59]), (36, .aload_n 0, 1, false, 0, []), (37, .getfield 16, 3, false, 0, [9, 9, 2, 733])]),
  (56, [(40, .iload_n 2, 1, false, 0, []), (41, .aload_n 0, 1, false, 0, []), (42, .getfield 22, 3, false, 0, [9, 11, 2, 735]), (45, .bipush 57, 2, false, 0, []), (47, .iload_n 1, 1, false, 0, []), (48, .imul, 1, false, 0, []), (49, .iload_n 2, 1, false, 0, []), (50, .iadd, 1, false, 0, []), (51, .iaload, 1, false, 0, []), (52, .iastore, 1, false, 0, []), (53, .iinc 2 1, 3, false, 0, []), (56, .goto (-26), 3, false, 0, [30])]),
  (70, [(59, .aload_n 0, 1, false, 0, []), (60, .iconst 0, 1, false, 0, []), (61, .putfield 141, 3, false, 0, [9, 14, 0, 738]), (64, .aload_n 0, 1, false, 0, []), (65, .getfield 16, 3, false, 0, [9, 9, 2, 733]), (68, .iconst 0, 1, false, 0, []), (69, .iaload, 1, false, 0, []), (70, .ireturn, 1, false, 0, [])])]
def iX10_back : MI := (yX10_back, cX10_back, 3, (some .int), 0, 0, 1, 1028, 53)
abbrev mX10_back : Nat := 166
def bX10_count : BK := [
  (18, [(0, .aload_n 0, 1, false, 0, []), (1, .iconst 0, 1, false, 0, []), (2, .putfield 62, 3, false, 0, [9, 0, 0, 724]), (5, .iload_n 1, 1, false, 0, []), (6, .iconst 0, 1, false, 0, []), (7, .bipush 7, 2, false, 0, []), (9, .invokestatic 66, 3, false, 0, [1, 105, 3, 807, 808]), (12, .ifCond .ne 5, 3, false, 0, [17]), (15, .iconst (-1), 1, false, 0, []), (16, .ireturn, 1, false, 0, []), (17, .iload_n 1, 1, false, 0, []), (18, .iconst 3, 1, false, 0, [])]),
  (40, [(19, .if_icmp .ge 39, 3, false, 0, [58]), (22, .iload_n 1, 1, false, 0, []), (23, .ifCond .ne 12, 3, false, 0, [35]), (26, .aload_n 0, 1, false, 0, []), (27, .getfield 16, 3, false, 0, [9, 9, 2, 733]), (30, .iconst 0, 1, false, 0, []), (31, .iaload, 1, false, 0, []), (32, .goto 25, 3, false, 0, [57]), (35, .iload_n 1, 1, false, 0, []), (36, .iconst 1, 1, false, 0, []), (37, .if_icmp .ne 13, 3, false, 0, [50]), (40, .aload_n 0, 1, false, 0, [])]),
  (60, [(41, .getfield 16, 3, false, 0, [9, 9, 2, 733]), (44, .bipush 49, 2, false, 0, []), (46, .iaload, 1, false, 0, []), (47, .goto 10, 3, false, 0, [57]), (50, .aload_n 0, 1, false, 0, []), (51, .getfield 16, 3, false, 0, [9, 9, 2, 733]), (54, .bipush 56, 2, false, 0, []), (56, .iaload, 1, false, 0, []), (57, .ireturn, 1, false, 0, []), (58, .iload_n 1, 1, false, 0, []), (59, .iconst 5, 1, false, 0, []), (60, .if_icmp .ge 26, 3, false, 0, [86])]),
  (84, [(63, .aload_n 0, 1, false, 0, []), (64, .invokevirtual 167, 3, false, 0, [0, 136, 0, 906, 908, 33, 9]), (67, .istore_n 2, 1, false, 0, []), (68, .iload_n 1, 1, false, 0, []), (69, .iconst 3, 1, false, 0, []), (70, .if_icmp .ne 14, 3, false, 0, [84]), (73, .aload_n 0, 1, false, 0, []), (74, .aload_n 0, 1, false, 0, []), (75, .getfield 16, 3, false, 0, [9, 9, 2, 733]), (78, .invokevirtual 205, 3, false, 0, [0, 154, 1, 983, 985, 39, 9]), (81, .goto 4, 3, false, 0, [85]), (84, .iload_n 2, 1, false, 0, [])]),
  (105, [(85, .ireturn, 1, false, 0, []), (86, .iload_n 1, 1, false, 0, []), (87, .iconst 5, 1, false, 0, []), (88, .if_icmp .ne 10, 3, false, 0, [98]), (91, .aload_n 0, 1, false, 0, []), (92, .getfield 138, 3, false, 0, [9, 17, 0, 741]), (95, .goto 20, 3, false, 0, [115]), (98, .iload_n 1, 1, false, 0, []), (99, .bipush 6, 2, false, 0, []), (101, .if_icmp .ne 10, 3, false, 0, [111]), (104, .aload_n 0, 1, false, 0, []), (105, .getfield 70, 3, false, 0, [9, 2, 0, 726])]),
  (115, [(108, .goto 7, 3, false, 0, [115]), (111, .aload_n 0, 1, false, 0, []), (112, .getfield 141, 3, false, 0, [9, 14, 0, 738]), (115, .ireturn, 1, false, 0, [])])]
def iX10_count : MI := (yX10_count, cX10_count, 3, (some .int), 0, 0, 3, 1032, 53)
abbrev mX10_count : Nat := 167
def bL_law : BK := [
  (19, [(0, .new 7, 3, false, 0, [8, 11, 57, 58, 44]), (3, .dup, 1, false, 0, []), (4, .invokespecial 9, 3, false, 0, [3, 71, 0, 59, 60]), (7, .astore_n 1, 1, false, 0, []), (8, .new 10, 3, false, 0, [9, 26, 707, 708, 53]), (11, .dup, 1, false, 0, []), (12, .invokespecial 12, 3, false, 0, [3, 104, 0, 709, 710]), (15, .astore_n 2, 1, false, 0, []), (16, .iconst 0, 1, false, 0, []), (17, .istore_n 3, 1, false, 0, []), (18, .iload_n 3, 1, true, 0, []), (19, .aload_n 0, 1, false, 0, [])]),
  (149, [(20, .arraylength, 1, false, 0, []), (21, .iconst 5, 1, false, 0, []), (22, .isub, 1, false, 0, []), (23, .if_icmp .gt 747, 3, false, 0, [770]), (26, .aload_n 0, 1, false, 0, []), (27, .iload_n 3, 1, false, 0, []), (28, .iaload, 1, false, 0, []), (29, .bipush 31, 2, false, 0, []), (31, .iand, 1, false, 0, []), (32, .tableswitch 732 0 24 #[116, 139, 152, 165, 198, 231, 284, 297, 320, 343, 356, 379, 412, 445, 478, 501, 524, 547, 581, 614, 627, 650, 663, 686, 709], 116, false, 0, [764, 148, 171, 184, 197, 230, 263, 316, 329, 352, 375, 388, 411, 444, 477, 510, 533, 556, 579, 613, 646, 659, 682, 695, 718, 741]), (148, .aload_n 1, 1, false, 0, []), (149, .aload_n 0, 1, false, 0, [])]),
  (163, [(150, .iload_n 3, 1, false, 0, []), (151, .iconst 1, 1, false, 0, []), (152, .iadd, 1, false, 0, []), (153, .iaload, 1, false, 0, []), (154, .invokevirtual 13, 3, false, 0, [0, 72, 1, 277, 278, 279, 8]), (157, .aload_n 2, 1, false, 0, []), (158, .aload_n 0, 1, false, 0, []), (159, .iload_n 3, 1, false, 0, []), (160, .iconst 1, 1, false, 0, []), (161, .iadd, 1, false, 0, []), (162, .iaload, 1, false, 0, []), (163, .invokevirtual 17, 3, false, 0, [0, 106, 1, 803, 804, 805, 9])]),
  (185, [(166, .if_icmp .eq 598, 3, false, 0, [764]), (169, .iconst 0, 1, false, 0, []), (170, .ireturn, 1, false, 0, []), (171, .aload_n 1, 1, false, 0, []), (172, .invokevirtual 18, 3, false, 0, [0, 73, 0, 285, 286, 287, 8]), (175, .aload_n 2, 1, false, 0, []), (176, .invokevirtual 22, 3, false, 0, [0, 107, 0, 810, 811, 812, 9]), (179, .if_icmp .eq 585, 3, false, 0, [764]), (182, .iconst 0, 1, false, 0, []), (183, .ireturn, 1, false, 0, []), (184, .aload_n 1, 1, false, 0, []), (185, .invokevirtual 23, 3, false, 0, [0, 74, 0, 293, 294, 295, 8])]),
  (203, [(188, .aload_n 2, 1, false, 0, []), (189, .invokevirtual 26, 3, false, 0, [0, 118, 0, 814, 815, 816, 9]), (192, .if_icmp .eq 572, 3, false, 0, [764]), (195, .iconst 0, 1, false, 0, []), (196, .ireturn, 1, false, 0, []), (197, .aload_n 1, 1, false, 0, []), (198, .aload_n 0, 1, false, 0, []), (199, .iload_n 3, 1, false, 0, []), (200, .iconst 1, 1, false, 0, []), (201, .iadd, 1, false, 0, []), (202, .iaload, 1, false, 0, []), (203, .aload_n 0, 1, false, 0, [])]),
  (217, [(204, .iload_n 3, 1, false, 0, []), (205, .iconst 2, 1, false, 0, []), (206, .iadd, 1, false, 0, []), (207, .iaload, 1, false, 0, []), (208, .invokevirtual 27, 3, false, 0, [0, 75, 2, 406, 407, 408, 8]), (211, .aload_n 2, 1, false, 0, []), (212, .aload_n 0, 1, false, 0, []), (213, .iload_n 3, 1, false, 0, []), (214, .iconst 1, 1, false, 0, []), (215, .iadd, 1, false, 0, []), (216, .iaload, 1, false, 0, []), (217, .aload_n 0, 1, false, 0, [])]),
  (233, [(218, .iload_n 3, 1, false, 0, []), (219, .iconst 2, 1, false, 0, []), (220, .iadd, 1, false, 0, []), (221, .iaload, 1, false, 0, []), (222, .invokevirtual 31, 3, false, 0, [0, 130, 2, 874, 875, 876, 9]), (225, .if_icmp .eq 539, 3, false, 0, [764]), (228, .iconst 0, 1, false, 0, []), (229, .ireturn, 1, false, 0, []), (230, .aload_n 1, 1, false, 0, []), (231, .aload_n 0, 1, false, 0, []), (232, .iload_n 3, 1, false, 0, []), (233, .iconst 1, 1, false, 0, [])]),
  (247, [(234, .iadd, 1, false, 0, []), (235, .iaload, 1, false, 0, []), (236, .aload_n 0, 1, false, 0, []), (237, .iload_n 3, 1, false, 0, []), (238, .iconst 2, 1, false, 0, []), (239, .iadd, 1, false, 0, []), (240, .iaload, 1, false, 0, []), (241, .invokevirtual 32, 3, false, 0, [0, 76, 2, 414, 415, 416, 8]), (244, .aload_n 2, 1, false, 0, []), (245, .aload_n 0, 1, false, 0, []), (246, .iload_n 3, 1, false, 0, []), (247, .iconst 1, 1, false, 0, [])]),
  (263, [(248, .iadd, 1, false, 0, []), (249, .iaload, 1, false, 0, []), (250, .aload_n 0, 1, false, 0, []), (251, .iload_n 3, 1, false, 0, []), (252, .iconst 2, 1, false, 0, []), (253, .iadd, 1, false, 0, []), (254, .iaload, 1, false, 0, []), (255, .invokevirtual 35, 3, false, 0, [0, 131, 2, 878, 879, 880, 9]), (258, .if_icmp .eq 506, 3, false, 0, [764]), (261, .iconst 0, 1, false, 0, []), (262, .ireturn, 1, false, 0, []), (263, .aload_n 1, 1, false, 0, [])]),
  (275, [(264, .aload_n 0, 1, false, 0, []), (265, .iload_n 3, 1, false, 0, []), (266, .iconst 1, 1, false, 0, []), (267, .iadd, 1, false, 0, []), (268, .iaload, 1, false, 0, []), (269, .aload_n 0, 1, false, 0, []), (270, .iload_n 3, 1, false, 0, []), (271, .iconst 2, 1, false, 0, []), (272, .iadd, 1, false, 0, []), (273, .iaload, 1, false, 0, []), (274, .aload_n 0, 1, false, 0, []), (275, .iload_n 3, 1, false, 0, [])]),
  (289, [(276, .iconst 3, 1, false, 0, []), (277, .iadd, 1, false, 0, []), (278, .iaload, 1, false, 0, []), (279, .aload_n 0, 1, false, 0, []), (280, .iload_n 3, 1, false, 0, []), (281, .iconst 4, 1, false, 0, []), (282, .iadd, 1, false, 0, []), (283, .iaload, 1, false, 0, []), (284, .invokevirtual 36, 3, false, 0, [0, 77, 4, 426, 427, 428, 8]), (287, .aload_n 2, 1, false, 0, []), (288, .aload_n 0, 1, false, 0, []), (289, .iload_n 3, 1, false, 0, [])]),
  (301, [(290, .iconst 1, 1, false, 0, []), (291, .iadd, 1, false, 0, []), (292, .iaload, 1, false, 0, []), (293, .aload_n 0, 1, false, 0, []), (294, .iload_n 3, 1, false, 0, []), (295, .iconst 2, 1, false, 0, []), (296, .iadd, 1, false, 0, []), (297, .iaload, 1, false, 0, []), (298, .aload_n 0, 1, false, 0, []), (299, .iload_n 3, 1, false, 0, []), (300, .iconst 3, 1, false, 0, []), (301, .iadd, 1, false, 0, [])]),
  (317, [(302, .iaload, 1, false, 0, []), (303, .aload_n 0, 1, false, 0, []), (304, .iload_n 3, 1, false, 0, []), (305, .iconst 4, 1, false, 0, []), (306, .iadd, 1, false, 0, []), (307, .iaload, 1, false, 0, []), (308, .invokevirtual 40, 3, false, 0, [0, 133, 4, 886, 887, 888, 9]), (311, .if_icmp .eq 453, 3, false, 0, [764]), (314, .iconst 0, 1, false, 0, []), (315, .ireturn, 1, false, 0, []), (316, .aload_n 1, 1, false, 0, []), (317, .invokevirtual 41, 3, false, 0, [0, 78, 0, 439, 440, 441, 8])]),
  (335, [(320, .aload_n 2, 1, false, 0, []), (321, .invokevirtual 44, 3, false, 0, [0, 134, 0, 894, 895, 896, 9]), (324, .if_icmp .eq 440, 3, false, 0, [764]), (327, .iconst 0, 1, false, 0, []), (328, .ireturn, 1, false, 0, []), (329, .aload_n 1, 1, false, 0, []), (330, .aload_n 0, 1, false, 0, []), (331, .iload_n 3, 1, false, 0, []), (332, .iconst 1, 1, false, 0, []), (333, .iadd, 1, false, 0, []), (334, .iaload, 1, false, 0, []), (335, .invokevirtual 45, 3, false, 0, [0, 79, 1, 443, 444, 445, 8])]),
  (353, [(338, .aload_n 2, 1, false, 0, []), (339, .aload_n 0, 1, false, 0, []), (340, .iload_n 3, 1, false, 0, []), (341, .iconst 1, 1, false, 0, []), (342, .iadd, 1, false, 0, []), (343, .iaload, 1, false, 0, []), (344, .invokevirtual 48, 3, false, 0, [0, 135, 1, 898, 899, 900, 9]), (347, .if_icmp .eq 417, 3, false, 0, [764]), (350, .iconst 0, 1, false, 0, []), (351, .ireturn, 1, false, 0, []), (352, .aload_n 1, 1, false, 0, []), (353, .aload_n 0, 1, false, 0, [])]),
  (367, [(354, .iload_n 3, 1, false, 0, []), (355, .iconst 1, 1, false, 0, []), (356, .iadd, 1, false, 0, []), (357, .iaload, 1, false, 0, []), (358, .invokevirtual 49, 3, false, 0, [0, 80, 1, 453, 454, 455, 8]), (361, .aload_n 2, 1, false, 0, []), (362, .aload_n 0, 1, false, 0, []), (363, .iload_n 3, 1, false, 0, []), (364, .iconst 1, 1, false, 0, []), (365, .iadd, 1, false, 0, []), (366, .iaload, 1, false, 0, []), (367, .invokevirtual 52, 3, false, 0, [0, 137, 1, 902, 903, 904, 9])]),
  (389, [(370, .if_icmp .eq 394, 3, false, 0, [764]), (373, .iconst 0, 1, false, 0, []), (374, .ireturn, 1, false, 0, []), (375, .aload_n 1, 1, false, 0, []), (376, .invokevirtual 53, 3, false, 0, [0, 81, 0, 461, 462, 463, 8]), (379, .aload_n 2, 1, false, 0, []), (380, .invokevirtual 56, 3, false, 0, [0, 138, 0, 910, 911, 912, 9]), (383, .if_icmp .eq 381, 3, false, 0, [764]), (386, .iconst 0, 1, false, 0, []), (387, .ireturn, 1, false, 0, []), (388, .aload_n 1, 1, false, 0, []), (389, .aload_n 0, 1, false, 0, [])]),
  (403, [(390, .iload_n 3, 1, false, 0, []), (391, .iconst 1, 1, false, 0, []), (392, .iadd, 1, false, 0, []), (393, .iaload, 1, false, 0, []), (394, .invokevirtual 57, 3, false, 0, [0, 82, 1, 469, 470, 471, 8]), (397, .aload_n 2, 1, false, 0, []), (398, .aload_n 0, 1, false, 0, []), (399, .iload_n 3, 1, false, 0, []), (400, .iconst 1, 1, false, 0, []), (401, .iadd, 1, false, 0, []), (402, .iaload, 1, false, 0, []), (403, .invokevirtual 60, 3, false, 0, [0, 141, 1, 914, 915, 916, 9])]),
  (419, [(406, .if_icmp .eq 358, 3, false, 0, [764]), (409, .iconst 0, 1, false, 0, []), (410, .ireturn, 1, false, 0, []), (411, .aload_n 1, 1, false, 0, []), (412, .aload_n 0, 1, false, 0, []), (413, .iload_n 3, 1, false, 0, []), (414, .iconst 1, 1, false, 0, []), (415, .iadd, 1, false, 0, []), (416, .iaload, 1, false, 0, []), (417, .aload_n 0, 1, false, 0, []), (418, .iload_n 3, 1, false, 0, []), (419, .iconst 2, 1, false, 0, [])]),
  (433, [(420, .iadd, 1, false, 0, []), (421, .iaload, 1, false, 0, []), (422, .invokevirtual 61, 3, false, 0, [0, 83, 2, 476, 477, 478, 8]), (425, .aload_n 2, 1, false, 0, []), (426, .aload_n 0, 1, false, 0, []), (427, .iload_n 3, 1, false, 0, []), (428, .iconst 1, 1, false, 0, []), (429, .iadd, 1, false, 0, []), (430, .iaload, 1, false, 0, []), (431, .aload_n 0, 1, false, 0, []), (432, .iload_n 3, 1, false, 0, []), (433, .iconst 2, 1, false, 0, [])]),
  (449, [(434, .iadd, 1, false, 0, []), (435, .iaload, 1, false, 0, []), (436, .invokevirtual 64, 3, false, 0, [0, 142, 2, 924, 925, 926, 9]), (439, .if_icmp .eq 325, 3, false, 0, [764]), (442, .iconst 0, 1, false, 0, []), (443, .ireturn, 1, false, 0, []), (444, .aload_n 1, 1, false, 0, []), (445, .aload_n 0, 1, false, 0, []), (446, .iload_n 3, 1, false, 0, []), (447, .iconst 1, 1, false, 0, []), (448, .iadd, 1, false, 0, []), (449, .iaload, 1, false, 0, [])]),
  (463, [(450, .aload_n 0, 1, false, 0, []), (451, .iload_n 3, 1, false, 0, []), (452, .iconst 2, 1, false, 0, []), (453, .iadd, 1, false, 0, []), (454, .iaload, 1, false, 0, []), (455, .invokevirtual 65, 3, false, 0, [0, 84, 2, 480, 481, 482, 8]), (458, .aload_n 2, 1, false, 0, []), (459, .aload_n 0, 1, false, 0, []), (460, .iload_n 3, 1, false, 0, []), (461, .iconst 1, 1, false, 0, []), (462, .iadd, 1, false, 0, []), (463, .iaload, 1, false, 0, [])]),
  (479, [(464, .aload_n 0, 1, false, 0, []), (465, .iload_n 3, 1, false, 0, []), (466, .iconst 2, 1, false, 0, []), (467, .iadd, 1, false, 0, []), (468, .iaload, 1, false, 0, []), (469, .invokevirtual 68, 3, false, 0, [0, 143, 2, 928, 929, 930, 9]), (472, .if_icmp .eq 292, 3, false, 0, [764]), (475, .iconst 0, 1, false, 0, []), (476, .ireturn, 1, false, 0, []), (477, .aload_n 1, 1, false, 0, []), (478, .aload_n 0, 1, false, 0, []), (479, .iload_n 3, 1, false, 0, [])]),
  (493, [(480, .iconst 1, 1, false, 0, []), (481, .iadd, 1, false, 0, []), (482, .iaload, 1, false, 0, []), (483, .aload_n 0, 1, false, 0, []), (484, .iload_n 3, 1, false, 0, []), (485, .iconst 2, 1, false, 0, []), (486, .iadd, 1, false, 0, []), (487, .iaload, 1, false, 0, []), (488, .invokevirtual 69, 3, false, 0, [0, 85, 2, 526, 527, 528, 8]), (491, .aload_n 2, 1, false, 0, []), (492, .aload_n 0, 1, false, 0, []), (493, .iload_n 3, 1, false, 0, [])]),
  (509, [(494, .iconst 1, 1, false, 0, []), (495, .iadd, 1, false, 0, []), (496, .iaload, 1, false, 0, []), (497, .aload_n 0, 1, false, 0, []), (498, .iload_n 3, 1, false, 0, []), (499, .iconst 2, 1, false, 0, []), (500, .iadd, 1, false, 0, []), (501, .iaload, 1, false, 0, []), (502, .invokevirtual 72, 3, false, 0, [0, 146, 2, 940, 941, 942, 9]), (505, .if_icmp .eq 259, 3, false, 0, [764]), (508, .iconst 0, 1, false, 0, []), (509, .ireturn, 1, false, 0, [])]),
  (523, [(510, .aload_n 1, 1, false, 0, []), (511, .aload_n 0, 1, false, 0, []), (512, .iload_n 3, 1, false, 0, []), (513, .iconst 1, 1, false, 0, []), (514, .iadd, 1, false, 0, []), (515, .iaload, 1, false, 0, []), (516, .invokevirtual 73, 3, false, 0, [0, 86, 1, 547, 548, 549, 8]), (519, .aload_n 2, 1, false, 0, []), (520, .aload_n 0, 1, false, 0, []), (521, .iload_n 3, 1, false, 0, []), (522, .iconst 1, 1, false, 0, []), (523, .iadd, 1, false, 0, [])]),
  (539, [(524, .iaload, 1, false, 0, []), (525, .invokevirtual 76, 3, false, 0, [0, 149, 1, 950, 951, 952, 9]), (528, .if_icmp .eq 236, 3, false, 0, [764]), (531, .iconst 0, 1, false, 0, []), (532, .ireturn, 1, false, 0, []), (533, .aload_n 1, 1, false, 0, []), (534, .aload_n 0, 1, false, 0, []), (535, .iload_n 3, 1, false, 0, []), (536, .iconst 1, 1, false, 0, []), (537, .iadd, 1, false, 0, []), (538, .iaload, 1, false, 0, []), (539, .invokevirtual 77, 3, false, 0, [0, 87, 1, 571, 572, 573, 8])]),
  (557, [(542, .aload_n 2, 1, false, 0, []), (543, .aload_n 0, 1, false, 0, []), (544, .iload_n 3, 1, false, 0, []), (545, .iconst 1, 1, false, 0, []), (546, .iadd, 1, false, 0, []), (547, .iaload, 1, false, 0, []), (548, .invokevirtual 80, 3, false, 0, [0, 153, 1, 962, 963, 964, 9]), (551, .if_icmp .eq 213, 3, false, 0, [764]), (554, .iconst 0, 1, false, 0, []), (555, .ireturn, 1, false, 0, []), (556, .aload_n 1, 1, false, 0, []), (557, .aload_n 0, 1, false, 0, [])]),
  (571, [(558, .iload_n 3, 1, false, 0, []), (559, .iconst 1, 1, false, 0, []), (560, .iadd, 1, false, 0, []), (561, .iaload, 1, false, 0, []), (562, .invokevirtual 81, 3, false, 0, [0, 88, 1, 604, 605, 606, 8]), (565, .aload_n 2, 1, false, 0, []), (566, .aload_n 0, 1, false, 0, []), (567, .iload_n 3, 1, false, 0, []), (568, .iconst 1, 1, false, 0, []), (569, .iadd, 1, false, 0, []), (570, .iaload, 1, false, 0, []), (571, .invokevirtual 84, 3, false, 0, [0, 157, 1, 975, 976, 977, 9])]),
  (587, [(574, .if_icmp .eq 190, 3, false, 0, [764]), (577, .iconst 0, 1, false, 0, []), (578, .ireturn, 1, false, 0, []), (579, .aload_n 1, 1, false, 0, []), (580, .aload_n 0, 1, false, 0, []), (581, .iload_n 3, 1, false, 0, []), (582, .iconst 1, 1, false, 0, []), (583, .iadd, 1, false, 0, []), (584, .iaload, 1, false, 0, []), (585, .aload_n 0, 1, false, 0, []), (586, .iload_n 3, 1, false, 0, []), (587, .iconst 2, 1, false, 0, [])]),
  (601, [(588, .iadd, 1, false, 0, []), (589, .iaload, 1, false, 0, []), (590, .invokevirtual 85, 3, false, 0, [0, 89, 2, 641, 642, 643, 8]), (593, .aload_n 2, 1, false, 0, []), (594, .aload_n 0, 1, false, 0, []), (595, .iload_n 3, 1, false, 0, []), (596, .iconst 1, 1, false, 0, []), (597, .iadd, 1, false, 0, []), (598, .iaload, 1, false, 0, []), (599, .aload_n 0, 1, false, 0, []), (600, .iload_n 3, 1, false, 0, []), (601, .iconst 2, 1, false, 0, [])]),
  (617, [(602, .iadd, 1, false, 0, []), (603, .iaload, 1, false, 0, []), (604, .invokevirtual 89, 3, false, 0, [0, 158, 2, 991, 992, 993, 9]), (607, .lcmp, 1, false, 0, []), (608, .ifCond .eq 156, 3, false, 0, [764]), (611, .iconst 0, 1, false, 0, []), (612, .ireturn, 1, false, 0, []), (613, .aload_n 1, 1, false, 0, []), (614, .aload_n 0, 1, false, 0, []), (615, .iload_n 3, 1, false, 0, []), (616, .iconst 1, 1, false, 0, []), (617, .iadd, 1, false, 0, [])]),
  (631, [(618, .iaload, 1, false, 0, []), (619, .aload_n 0, 1, false, 0, []), (620, .iload_n 3, 1, false, 0, []), (621, .iconst 2, 1, false, 0, []), (622, .iadd, 1, false, 0, []), (623, .iaload, 1, false, 0, []), (624, .invokevirtual 90, 3, false, 0, [0, 90, 2, 647, 648, 649, 8]), (627, .aload_n 2, 1, false, 0, []), (628, .aload_n 0, 1, false, 0, []), (629, .iload_n 3, 1, false, 0, []), (630, .iconst 1, 1, false, 0, []), (631, .iadd, 1, false, 0, [])]),
  (647, [(632, .iaload, 1, false, 0, []), (633, .aload_n 0, 1, false, 0, []), (634, .iload_n 3, 1, false, 0, []), (635, .iconst 2, 1, false, 0, []), (636, .iadd, 1, false, 0, []), (637, .iaload, 1, false, 0, []), (638, .invokevirtual 93, 3, false, 0, [0, 159, 2, 997, 998, 999, 9]), (641, .if_icmp .eq 123, 3, false, 0, [764]), (644, .iconst 0, 1, false, 0, []), (645, .ireturn, 1, false, 0, []), (646, .aload_n 1, 1, false, 0, []), (647, .invokevirtual 94, 3, false, 0, [0, 91, 0, 655, 656, 657, 8])]),
  (665, [(650, .aload_n 2, 1, false, 0, []), (651, .invokevirtual 97, 3, false, 0, [0, 160, 0, 1001, 1002, 1003, 9]), (654, .if_icmp .eq 110, 3, false, 0, [764]), (657, .iconst 0, 1, false, 0, []), (658, .ireturn, 1, false, 0, []), (659, .aload_n 1, 1, false, 0, []), (660, .aload_n 0, 1, false, 0, []), (661, .iload_n 3, 1, false, 0, []), (662, .iconst 1, 1, false, 0, []), (663, .iadd, 1, false, 0, []), (664, .iaload, 1, false, 0, []), (665, .invokevirtual 98, 3, false, 0, [0, 92, 1, 659, 660, 661, 8])]),
  (683, [(668, .aload_n 2, 1, false, 0, []), (669, .aload_n 0, 1, false, 0, []), (670, .iload_n 3, 1, false, 0, []), (671, .iconst 1, 1, false, 0, []), (672, .iadd, 1, false, 0, []), (673, .iaload, 1, false, 0, []), (674, .invokevirtual 101, 3, false, 0, [0, 162, 1, 1005, 1006, 1007, 9]), (677, .if_icmp .eq 87, 3, false, 0, [764]), (680, .iconst 0, 1, false, 0, []), (681, .ireturn, 1, false, 0, []), (682, .aload_n 1, 1, false, 0, []), (683, .invokevirtual 102, 3, false, 0, [0, 93, 0, 676, 677, 678, 8])]),
  (701, [(686, .aload_n 2, 1, false, 0, []), (687, .invokevirtual 105, 3, false, 0, [0, 164, 0, 1013, 1014, 1015, 9]), (690, .if_icmp .eq 74, 3, false, 0, [764]), (693, .iconst 0, 1, false, 0, []), (694, .ireturn, 1, false, 0, []), (695, .aload_n 1, 1, false, 0, []), (696, .aload_n 0, 1, false, 0, []), (697, .iload_n 3, 1, false, 0, []), (698, .iconst 1, 1, false, 0, []), (699, .iadd, 1, false, 0, []), (700, .iaload, 1, false, 0, []), (701, .invokevirtual 106, 3, false, 0, [0, 94, 1, 690, 691, 692, 8])]),
  (719, [(704, .aload_n 2, 1, false, 0, []), (705, .aload_n 0, 1, false, 0, []), (706, .iload_n 3, 1, false, 0, []), (707, .iconst 1, 1, false, 0, []), (708, .iadd, 1, false, 0, []), (709, .iaload, 1, false, 0, []), (710, .invokevirtual 109, 3, false, 0, [0, 165, 1, 1021, 1022, 1023, 9]), (713, .if_icmp .eq 51, 3, false, 0, [764]), (716, .iconst 0, 1, false, 0, []), (717, .ireturn, 1, false, 0, []), (718, .aload_n 1, 1, false, 0, []), (719, .aload_n 0, 1, false, 0, [])]),
  (733, [(720, .iload_n 3, 1, false, 0, []), (721, .iconst 1, 1, false, 0, []), (722, .iadd, 1, false, 0, []), (723, .iaload, 1, false, 0, []), (724, .invokevirtual 110, 3, false, 0, [0, 95, 1, 699, 700, 701, 8]), (727, .aload_n 2, 1, false, 0, []), (728, .aload_n 0, 1, false, 0, []), (729, .iload_n 3, 1, false, 0, []), (730, .iconst 1, 1, false, 0, []), (731, .iadd, 1, false, 0, []), (732, .iaload, 1, false, 0, []), (733, .invokevirtual 113, 3, false, 0, [0, 166, 1, 1025, 1026, 1027, 9])]),
  (751, [(736, .if_icmp .eq 28, 3, false, 0, [764]), (739, .iconst 0, 1, false, 0, []), (740, .ireturn, 1, false, 0, []), (741, .aload_n 1, 1, false, 0, []), (742, .aload_n 0, 1, false, 0, []), (743, .iload_n 3, 1, false, 0, []), (744, .iconst 1, 1, false, 0, []), (745, .iadd, 1, false, 0, []), (746, .iaload, 1, false, 0, []), (747, .invokevirtual 114, 3, false, 0, [0, 96, 1, 703, 704, 705, 8]), (750, .aload_n 2, 1, false, 0, []), (751, .aload_n 0, 1, false, 0, [])]),
  (771, [(752, .iload_n 3, 1, false, 0, []), (753, .iconst 1, 1, false, 0, []), (754, .iadd, 1, false, 0, []), (755, .iaload, 1, false, 0, []), (756, .invokevirtual 117, 3, false, 0, [0, 167, 1, 1029, 1030, 1031, 9]), (759, .if_icmp .eq 5, 3, false, 0, [764]), (762, .iconst 0, 1, false, 0, []), (763, .ireturn, 1, false, 0, []), (764, .iinc 3 5, 3, false, 0, []), (767, .goto (-749), 3, false, 0, [18]), (770, .iconst 1, 1, false, 0, []), (771, .ireturn, 1, false, 0, [])])]
def iL_law : MI := (x, cL_law, 4, (some .boolean), 600000, 7302250, 7, 0, 43)
abbrev mL_law : Nat := 168
def mtab_0 : List MT := [(iX0_init, bX0_init), (iX0_adders, bX0_adders), (iX0_isMadeByThree, bX0_isMadeByThree), (iX1_init, bX1_init), (iX1_empty, bX1_empty), (iX1_copy, bX1_copy), (iX1_isThere, bX1_isThere), (iX1_value, bX1_value), (iX1_depth, bX1_depth), (iX1_depthOver, bX1_depthOver)]
def mtab_1 : List MT := [(iX1_mayBe, bX1_mayBe), (iX1_append, bX1_append), (iX1_append_, bX1_append_), (iX1_hasValue, bX1_hasValue), (iX1_greatestDepth, bX1_greatestDepth), (iX1_isMet, bX1_isMet), (iX1_notMet, bX1_notMet), (iX1_placeOf, bX1_placeOf), (iX1_wish, bX1_wish), (iX1_dropWish, bX1_dropWish)]
def mtab_2 : List MT := [(iX2_init, bX2_init), (iX2_remember, bX2_remember), (iX2_restore, bX2_restore), (iX2_lose, bX2_lose), (iX3_init, bX3_init), (iX3_put, bX3_put), (iX3_lose, bX3_lose), (iX4_init, bX4_init), (iX4_build, bX4_build), (iX4_copy, bX4_copy)]
def mtab_3 : List MT := [(iX4_widen, bX4_widen), (iX4_offerAll, bX4_offerAll), (iX4_offer, bX4_offer), (iX4_way, bX4_way), (iX4_has, bX4_has), (iX4_howManyAbove, bX4_howManyAbove), (iX4_leastAbove, bX4_leastAbove), (iX4_bridge, bX4_bridge), (iX4_bridgeAlone, bX4_bridgeAlone), (iX4_bridgeWith, bX4_bridgeWith)]
def mtab_4 : List MT := [(iX4_usable, bX4_usable), (iX5_init, bX5_init), (iX5_make, bX5_make), (iX5_made, bX5_made), (iX5_value, bX5_value), (iX5_choice, bX5_choice), (iX6_init, bX6_init), (iX6_append, bX6_append), (iX6_lose, bX6_lose), (iX6_allows, bX6_allows)]
def mtab_5 : List MT := [(iX6_howMany, bX6_howMany), (iX6_lowest, bX6_lowest), (iX6_ask, bX6_ask), (iX6_greatestLeft, bX6_greatestLeft), (iX7_init, bX7_init), (iX7_append, bX7_append), (iX7_empty, bX7_empty), (iX7_read, bX7_read), (iX7_readItem, bX7_readItem), (iX7_readLimit, bX7_readLimit)]
def mtab_6 : List MT := [(iX7_readWish, bX7_readWish), (iX7_readAdder, bX7_readAdder), (iX7_stepToNumber, bX7_stepToNumber), (iX7_stepToSemicolon, bX7_stepToSemicolon), (iX7_step, bX7_step), (iX7_isDigit, bX7_isDigit), (iX8_of, bX8_of), (iX8_p, bX8_p), (iX8_q, bX8_q), (iX8_shift, bX8_shift)]
def mtab_7 : List MT := [(iX8_form, bX8_form), (iX9_init, bX9_init), (iX9_type, bX9_type), (iX9_clear, bX9_clear), (iX9_graph, bX9_graph), (iX9_odd, bX9_odd), (iX9_wanted, bX9_wanted), (iX9_adds, bX9_adds), (iX9_takes, bX9_takes), (iX9_wishes, bX9_wishes)]
def mtab_8 : List MT := [(iX9_limits, bX9_limits), (iX9_undo, bX9_undo), (iX9_digits, bX9_digits), (iX9_digit, bX9_digit), (iX9_near, bX9_near), (iX9_by, bX9_by), (iX9_two, bX9_two), (iX9_least, bX9_least), (iX9_plan, bX9_plan), (iX9_product, bX9_product)]
def mtab_9 : List MT := [(iX9_sees, bX9_sees), (iX9_forget, bX9_forget), (iX9_unseen, bX9_unseen), (iX9_next, bX9_next), (iX9_keep, bX9_keep), (iX9_back, bX9_back), (iX9_count, bX9_count), (iX9_changed, bX9_changed), (iX9_freshNear, bX9_freshNear), (iX9_isOddNumber, bX9_isOddNumber)]
def mtab_10 : List MT := [(iX9_halvings, bX9_halvings), (iX9_oddPart, bX9_oddPart), (iX9_comes, bX9_comes), (iX9_signedDigit, bX9_signedDigit), (iX10_init, bX10_init), (iX10_in, bX10_in), (iX10_type, bX10_type), (iX10_clear, bX10_clear), (iX10_letterAt, bX10_letterAt), (iX10_advances, bX10_advances)]
def mtab_11 : List MT := [(iX10_isWell, bX10_isWell), (iX10_takes, bX10_takes), (iX10_isNumber, bX10_isNumber), (iX10_begins, bX10_begins), (iX10_mayBegin, bX10_mayBegin), (iX10_wantedAt, bX10_wantedAt), (iX10_readsAdder, bX10_readsAdder), (iX10_readsItem, bX10_readsItem), (iX10_graph, bX10_graph), (iX10_settles, bX10_settles)]
def mtab_12 : List MT := [(iX10_copies, bX10_copies), (iX10_comes, bX10_comes), (iX10_oddPart, bX10_oddPart), (iX10_deeper, bX10_deeper), (iX10_reckons, bX10_reckons), (iX10_mayBe, bX10_mayBe), (iX10_makes, bX10_makes), (iX10_isOdds, bX10_isOdds), (iX10_nears, bX10_nears), (iX10_nearsOf, bX10_nearsOf)]
def mtab_13 : List MT := [(iX10_odd, bX10_odd), (iX10_wanted, bX10_wanted), (iX10_notes, bX10_notes), (iX10_adds, bX10_adds), (iX10_takes_, bX10_takes_), (iX10_wishes, bX10_wishes), (iX10_deepest, bX10_deepest), (iX10_limits, bX10_limits), (iX10_undo, bX10_undo), (iX10_isConstant, bX10_isConstant)]
def mtab_14 : List MT := [(iX10_digitOf, bX10_digitOf), (iX10_digits, bX10_digits), (iX10_digit, bX10_digit), (iX10_near, bX10_near), (iX10_isOddNumber, bX10_isOddNumber), (iX10_partOf, bX10_partOf), (iX10_by, bX10_by), (iX10_isByLast, bX10_isByLast), (iX10_twoOf, bX10_twoOf), (iX10_two, bX10_two)]
def mtab_15 : List MT := [(iX10_marks, bX10_marks), (iX10_isMade, bX10_isMade), (iX10_marksAll, bX10_marksAll), (iX10_least, bX10_least), (iX10_unmet, bX10_unmet), (iX10_nextOf, bX10_nextOf), (iX10_plans, bX10_plans), (iX10_plan, bX10_plan), (iX10_product, bX10_product), (iX10_sees, bX10_sees)]
def mtab_16 : List MT := [(iX10_forget, bX10_forget), (iX10_canBe, bX10_canBe), (iX10_unseen, bX10_unseen), (iX10_leaving, bX10_leaving), (iX10_next, bX10_next), (iX10_keep, bX10_keep), (iX10_back, bX10_back), (iX10_count, bX10_count), (iL_law, bL_law)]
def mtab : List (List MT) := [mtab_0, mtab_1, mtab_2, mtab_3, mtab_4, mtab_5, mtab_6, mtab_7, mtab_8, mtab_9, mtab_10, mtab_11, mtab_12, mtab_13, mtab_14, mtab_15, mtab_16]
end
section
/-! ===== the program's tables, looked up ===== -/
abbrev inR (z : Int) : Prop := -2147483648 ≤ z ∧ z ≤ 2147483647
def lkB : Nat → List (Nat × AI) → Option AI
  | _, [] => none
  | pc, x :: xs => bif Nat.beq pc x.1 then some x.2 else lkB pc xs
def lk2 : Nat → BK → Option AI
  | _, [] => none
  | pc, x :: xs => bif Nat.ble pc x.1 then lkB pc x.2 else lk2 pc xs
def mt (μ : Nat) : MT := (mtab.getD (μ / 10) []).getD (μ % 10) (iX0_init, [])
abbrev mi (μ : Nat) : MI := (mt μ).1
abbrev PL (μ : Nat) : BK := (mt μ).2
abbrev my (μ : Nat) : MethodName := (mi μ).1
abbrev mcode (μ : Nat) : ByteArray := (mi μ).2.1
abbrev mxl (μ : Nat) : Nat := (mi μ).2.2.1
abbrev mret (μ : Nat) : Option FieldType := (mi μ).2.2.2.1
abbrev mmc (μ : Nat) : Nat := (mi μ).2.2.2.2.1
abbrev mms (μ : Nat) : Nat := (mi μ).2.2.2.2.2.1
abbrev mdp (μ : Nat) : Nat := (mi μ).2.2.2.2.2.2.1
def fkT : List (List Nat) := [[2, 2, 2], [2, 2, 0, 0, 0], [2, 0, 0], [2, 2], [2, 2], [2, 2, 0], [2, 2, 2, 0], [2, 0, 0, 0, 0, 0], [2, 2, 2, 2, 2, 2, 2, 2, 2, 1, 1], [0, 2, 0, 0, 0, 0, 0, 0, 2, 2, 2, 2, 2, 2, 0, 2, 2, 0, 2, 2, 0, 2, 2, 0, 2, 2]]
def fkOf (c k : Nat) : Nat := (fkT.getD c []).getD k 0
end
section
/-! ===== what a program's table must keep to: by the kernel ===== -/
def tn (t : Nat) (c : Jvm.Cond) : Bool := decide (lw_tbl[t]? = some c)
def tq (t : Nat) (c : Jvm.Cond) : Bool := goodWord c && decide (lw_tbl[t]? = some c)
def mchk (μ n : Nat) : Bool := tq (mi μ).2.2.2.2.2.2.2.1 (.code (my μ) (mcode μ) (mxl μ) (mret μ)) && (tq (mi μ).2.2.2.2.2.2.2.2 (.initialized (my μ).cls) && (plainName (my μ).cls && (decide ((my μ).cls ≠ "java/lang/invoke/MethodHandle" ∧ (my μ).cls ≠ "java/lang/invoke/VarHandle") && decide ((parseMethodDescriptor (my μ).desc).map (fun d => d.parameters.length) = some n))))
def clN (c : Nat) : String := (vwCl.getD c ("", TX0, 0)).1
def clT (c : Nat) : u_T := (vwCl.getD c ("", TX0, 0)).2.1
def clS (c : Nat) : Nat := (vwCl.getD c ("", TX0, 0)).2.2
def callk (μ : Nat) (aux : List Nat) (n : Nat) : Bool := mchk (aux.getD 1 0) (aux.getD 2 0) && (Nat.blt (mdp (aux.getD 1 0)) (mdp μ) && (Nat.ble n (mxl (aux.getD 1 0)) && Nat.ble (mxl (aux.getD 1 0)) 18))
def rtk (i : Instr) (r : Option FieldType) : Bool := match i, r with
  | .ireturn, some .int => true
  | .ireturn, some .boolean => true
  | .lreturn, some .long => true
  | .areturn, some (.object _) => true
  | .return_, none => true
  | _, _ => false
def ichk (μ pc : Nat) (ai : AI) : Bool := decide (decode (mcode μ) pc = .ok (ai.1, ai.2.1)) && match ai.1 with
  | .iload_n _ => Nat.beq ai.2.1 1
  | .iload _ => Nat.beq ai.2.1 2
  | .aload_n _ => Nat.beq ai.2.1 1
  | .istore_n k => Nat.beq ai.2.1 1 && Nat.blt k.val (mxl μ)
  | .istore k => Nat.beq ai.2.1 2 && Nat.blt k (mxl μ)
  | .astore_n k => Nat.beq ai.2.1 1 && Nat.blt k.val (mxl μ)
  | .iconst n => Nat.beq ai.2.1 1 && decide (inR n)
  | .bipush n => Nat.beq ai.2.1 2 && (decide (inR n) && decide ((Int8.ofInt n).toInt32 = Int32.ofInt n))
  | .sipush n => Nat.beq ai.2.1 3 && (decide (inR n) && decide ((Int16.ofInt n).toInt32 = Int32.ofInt n))
  | .ldc ix => Nat.beq ai.2.1 2 && (decide (inR ai.2.2.2.1) && tq (ai.2.2.2.2.getD 0 0) (.constant (my μ).cls ix (Int32.ofInt ai.2.2.2.1)))
  | .lconst _ | .iadd | .isub | .imul | .ineg | .idiv | .irem | .ishl | .ishr | .iand | .ior | .i2l | .lmul | .lcmp | .dup | .dup2 | .pop | .iaload | .iastore | .baload | .bastore | .aaload | .aastore | .arraylength => Nat.beq ai.2.1 1
  | .ireturn => Nat.beq ai.2.1 1 && rtk .ireturn (mret μ)
  | .lreturn => Nat.beq ai.2.1 1 && rtk .lreturn (mret μ)
  | .areturn => Nat.beq ai.2.1 1 && rtk .areturn (mret μ)
  | .return_ => Nat.beq ai.2.1 1 && rtk .return_ (mret μ)
  | .iinc k n => Nat.beq ai.2.1 3 && (Nat.blt k (mxl μ) && decide (inR n))
  | .goto off | .ifCond _ off | .if_icmp _ off => Nat.beq ai.2.1 3 && decide ((pc : Int) + off = (ai.2.2.2.2.getD 0 0 : Nat))
  | .getfield ix => Nat.beq ai.2.1 3 && (tq (ai.2.2.2.2.getD 3 0) (.fieldLink (my μ).cls ix (clT (ai.2.2.2.2.getD 0 0) (ai.2.2.2.2.getD 1 0)).1 (clT (ai.2.2.2.2.getD 0 0) (ai.2.2.2.2.getD 1 0)).2.1 (clT (ai.2.2.2.2.getD 0 0) (ai.2.2.2.2.getD 1 0)).2.2.1) && (Nat.blt (ai.2.2.2.2.getD 1 0) (clS (ai.2.2.2.2.getD 0 0)) && (Nat.blt (ai.2.2.2.2.getD 0 0) 10 && Nat.beq (ai.2.2.2.2.getD 2 0) (fkOf (ai.2.2.2.2.getD 0 0) (ai.2.2.2.2.getD 1 0)))))
  | .putfield ix => Nat.beq ai.2.1 3 && (tq (ai.2.2.2.2.getD 3 0) (.fieldLink (my μ).cls ix (clT (ai.2.2.2.2.getD 0 0) (ai.2.2.2.2.getD 1 0)).1 (clT (ai.2.2.2.2.getD 0 0) (ai.2.2.2.2.getD 1 0)).2.1 (clT (ai.2.2.2.2.getD 0 0) (ai.2.2.2.2.getD 1 0)).2.2.1) && (Nat.blt (ai.2.2.2.2.getD 1 0) (clS (ai.2.2.2.2.getD 0 0)) && (Nat.blt (ai.2.2.2.2.getD 0 0) 10 && (Nat.beq (ai.2.2.2.2.getD 2 0) (fkOf (ai.2.2.2.2.getD 0 0) (ai.2.2.2.2.getD 1 0)) &&
      (!(clT (ai.2.2.2.2.getD 0 0) (ai.2.2.2.2.getD 1 0)).2.2.2 || (decide ((my μ).name = "<init>") && decide ((clT (ai.2.2.2.2.getD 0 0) (ai.2.2.2.2.getD 1 0)).1 = (my μ).cls)))))))
  | .newarray t => Nat.beq ai.2.1 2 && (tq (ai.2.2.2.2.getD 0 0) (.arrayClass (newarray.typeOf t)) && (match t with | .int => true | .boolean => true | _ => false))
  | .anewarray ix => Nat.beq ai.2.1 3 && (tq (ai.2.2.2.2.getD 0 0) (.classLink (my μ).cls ix "ShiftAdds$Graph") && tn (ai.2.2.2.2.getD 1 0) (.arrayOver (.object "ShiftAdds$Graph")))
  | .multianewarray ix d => Nat.beq ai.2.1 4 && (Nat.beq d 2 && (tq (ai.2.2.2.2.getD 0 0) (.classLink (my μ).cls ix "[[I") && (tn (ai.2.2.2.2.getD 1 0) (.arrayOver (.array .int)) && tq (ai.2.2.2.2.getD 2 0) (.arrayClass .int))))
  | .new ix => Nat.beq ai.2.1 3 && (Nat.blt (ai.2.2.2.2.getD 0 0) 10 && (Nat.beq (ai.2.2.2.2.getD 1 0) (clS (ai.2.2.2.2.getD 0 0)) && (tq (ai.2.2.2.2.getD 2 0) (.classLink (my μ).cls ix (clN (ai.2.2.2.2.getD 0 0))) && (tq (ai.2.2.2.2.getD 3 0) (.instantiable (clN (ai.2.2.2.2.getD 0 0)) (ai.2.2.2.2.getD 1 0)) && tq (ai.2.2.2.2.getD 4 0) (.initialized (clN (ai.2.2.2.2.getD 0 0)))))))
  | .invokestatic ix => Nat.beq ai.2.1 3 && (match ai.2.2.2.2.getD 0 0 with
    | 5 => Nat.ble 1 (mdp μ) && (tq (ai.2.2.2.2.getD 3 0) (.methodLink (my μ).cls ix Lib.Math.max.name) && (tq (ai.2.2.2.2.getD 4 0) (.static Lib.Math.max.name) && (tq (ai.2.2.2.2.getD 5 0) (.code Lib.Math.max.name Lib.Math.max.code 2 (some .int)) && tq (ai.2.2.2.2.getD 6 0) (.initialized "java/lang/Math"))))
    | 6 => Nat.ble 1 (mdp μ) && (tq (ai.2.2.2.2.getD 3 0) (.methodLink (my μ).cls ix Lib.Math.min.name) && (tq (ai.2.2.2.2.getD 4 0) (.static Lib.Math.min.name) && (tq (ai.2.2.2.2.getD 5 0) (.code Lib.Math.min.name Lib.Math.min.code 2 (some .int)) && tq (ai.2.2.2.2.getD 6 0) (.initialized "java/lang/Math"))))
    | 7 => Nat.ble 1 (mdp μ) && (tq (ai.2.2.2.2.getD 3 0) (.methodLink (my μ).cls ix Lib.Math.abs.name) && (tq (ai.2.2.2.2.getD 4 0) (.static Lib.Math.abs.name) && (tq (ai.2.2.2.2.getD 5 0) (.code Lib.Math.abs.name Lib.Math.abs.code 1 (some .int)) && tq (ai.2.2.2.2.getD 6 0) (.initialized "java/lang/Math"))))
    | 8 => Nat.ble 1 (mdp μ) && (tq (ai.2.2.2.2.getD 3 0) (.methodLink (my μ).cls ix arraycopyName) && (tq (ai.2.2.2.2.getD 4 0) (.static arraycopyName) && (tq (ai.2.2.2.2.getD 5 0) (.native arraycopyName) && tq (ai.2.2.2.2.getD 6 0) (.initialized "java/lang/System"))))
    | 1 => callk μ ai.2.2.2.2 (ai.2.2.2.2.getD 2 0) && (tq (ai.2.2.2.2.getD 3 0) (.methodLink (my μ).cls ix (my (ai.2.2.2.2.getD 1 0))) && (tq (ai.2.2.2.2.getD 4 0) (.static (my (ai.2.2.2.2.getD 1 0))) && (Nat.beq (mmc (ai.2.2.2.2.getD 1 0)) 0 && Nat.beq (mms (ai.2.2.2.2.getD 1 0)) 0)))
    | 2 => callk μ ai.2.2.2.2 (ai.2.2.2.2.getD 2 0) && (tn (ai.2.2.2.2.getD 3 0) (.methodLinkNest (my μ).cls ix (my (ai.2.2.2.2.getD 1 0)) "ShiftAdds") && (tq (ai.2.2.2.2.getD 4 0) (.static (my (ai.2.2.2.2.getD 1 0))) && (Nat.beq (mmc (ai.2.2.2.2.getD 1 0)) 0 && Nat.beq (mms (ai.2.2.2.2.getD 1 0)) 0)))
    | _ => false)
  | .invokevirtual ix => Nat.beq ai.2.1 3 && (callk μ ai.2.2.2.2 (ai.2.2.2.2.getD 2 0 + 1) && (tq (ai.2.2.2.2.getD 3 0) (.methodLink (my μ).cls ix (my (ai.2.2.2.2.getD 1 0))) && (tq (ai.2.2.2.2.getD 4 0) (.instanceMethod (my (ai.2.2.2.2.getD 1 0))) && (tq (ai.2.2.2.2.getD 5 0) (.selects (clN (ai.2.2.2.2.getD 6 0)) (my (ai.2.2.2.2.getD 1 0)) (my (ai.2.2.2.2.getD 1 0))) && (Nat.blt (ai.2.2.2.2.getD 6 0) 10 && (Nat.beq (mmc (ai.2.2.2.2.getD 1 0)) 0 && Nat.beq (mms (ai.2.2.2.2.getD 1 0)) 0))))))
  | .invokespecial ix => Nat.beq ai.2.1 3 && (match ai.2.2.2.2.getD 0 0 with
    | 9 => Nat.ble 1 (mdp μ) && (tq (ai.2.2.2.2.getD 3 0) (.methodLink (my μ).cls ix objectInit) && (tq (ai.2.2.2.2.getD 4 0) (.instanceMethod objectInit) && tq (ai.2.2.2.2.getD 5 0) (.code objectInit ⟨#[0xb1]⟩ 1 none)))
    | 3 => callk μ ai.2.2.2.2 (ai.2.2.2.2.getD 2 0 + 1) && (tq (ai.2.2.2.2.getD 3 0) (.methodLink (my μ).cls ix (my (ai.2.2.2.2.getD 1 0))) && (tq (ai.2.2.2.2.getD 4 0) (.instanceMethod (my (ai.2.2.2.2.getD 1 0))) && (decide ((my (ai.2.2.2.2.getD 1 0)).name = "<init>") && decide (mret (ai.2.2.2.2.getD 1 0) = none))))
    | 4 => callk μ ai.2.2.2.2 (ai.2.2.2.2.getD 2 0 + 1) && (tn (ai.2.2.2.2.getD 3 0) (.methodLinkNest (my μ).cls ix (my (ai.2.2.2.2.getD 1 0)) "ShiftAdds") && (tq (ai.2.2.2.2.getD 4 0) (.instanceMethod (my (ai.2.2.2.2.getD 1 0))) && (decide ((my (ai.2.2.2.2.getD 1 0)).name = "<init>") && decide (mret (ai.2.2.2.2.getD 1 0) = none))))
    | _ => false)
  | .tableswitch d lo hi os => decide ((pc : Int) + d = (ai.2.2.2.2.getD 0 0 : Nat)) && (decide (os.toList.map (fun o => (pc : Int) + o) = (ai.2.2.2.2.drop 1).map Int.ofNat) && decide (lo + os.size = hi + 1))
  | .lookupswitch d ps => decide ((pc : Int) + d = (ai.2.2.2.2.getD 0 0 : Nat)) && (decide (ps.toList.map (fun o => (pc : Int) + o.2) = (ai.2.2.2.2.drop 1).map Int.ofNat) && (ps.toList.zip (ps.toList.drop 1)).all (fun (a, next) => a.1 < next.1))
  | _ => false
def bchk (μ : Nat) : Bool := (PL μ).all (fun b => b.2.all (fun x => ichk μ x.1 x.2))
end
section
/-! ===== the classes' fields ===== -/
def clY (c : Nat) : Nat → FieldType := [tyX0, tyX1, tyX2, tyX3, tyX4, tyX5, tyX6, tyX7, tyX9, tyX10].getD c tyX0
def fkb (c k : Nat) : Bool := match fkOf c k, clY c k with
  | 0, .int => true
  | 1, .boolean => true
  | 2, .object _ => true
  | 2, .array _ => true
  | _, _ => false
theorem cl_10 {P : Nat → Prop} (h0 : P 0) (h1 : P 1) (h2 : P 2) (h3 : P 3) (h4 : P 4) (h5 : P 5) (h6 : P 6) (h7 : P 7) (h8 : P 8) (h9 : P 9) : ∀ c, c < 10 → P c := by
  intro c hc
  match c, hc with
  | 0, _ => exact h0
  | 1, _ => exact h1
  | 2, _ => exact h2
  | 3, _ => exact h3
  | 4, _ => exact h4
  | 5, _ => exact h5
  | 6, _ => exact h6
  | 7, _ => exact h7
  | 8, _ => exact h8
  | 9, _ => exact h9
  | c + 10, h => omega
theorem cl_in0 : ∀ c, c < 10 → ∀ w ∈ u_ws (clN c) (clT c) (clS c), w ∈ lw_tbl :=
  cl_10 (by decide +kernel) (by decide +kernel) (by decide +kernel) (by decide +kernel) (by decide +kernel) (by decide +kernel) (by decide +kernel) (by decide +kernel) (by decide +kernel) (by decide +kernel)
theorem cl_ty : ∀ c, c < 10 → ∀ k, k < clS c → parseFieldDescriptor (clT c k).2.2.1 = some (clY c k) :=
  cl_10 tyX0_ok tyX1_ok tyX2_ok tyX3_ok tyX4_ok tyX5_ok tyX6_ok tyX7_ok tyX9_ok tyX10_ok
theorem cl_nm : ∀ c, c < 10 → ∀ a, a < clS c → ∀ b, b < clS c → a ≠ b → (clT c a).2.1 ≠ (clT c b).2.1 :=
  cl_10 nmX0 nmX1 nmX2 nmX3 nmX4 nmX5 nmX6 nmX7 nmX9 nmX10
theorem cl_fk : ∀ c, c < 10 → ∀ k, k < clS c → fkb c k = true :=
  cl_10 (by decide +kernel) (by decide +kernel) (by decide +kernel) (by decide +kernel) (by decide +kernel) (by decide +kernel) (by decide +kernel) (by decide +kernel) (by decide +kernel) (by decide +kernel)
theorem cl_at : ∀ c, c < 10 → vwCl[c]? = some (clN c, clT c, clS c) :=
  cl_10 rfl rfl rfl rfl rfl rfl rfl rfl rfl rfl
theorem cl_gd : ∀ c, c < 10 → (u_ws (clN c) (clT c) (clS c)).all goodWord = true :=
  cl_10 (by decide +kernel) (by decide +kernel) (by decide +kernel) (by decide +kernel) (by decide +kernel) (by decide +kernel) (by decide +kernel) (by decide +kernel) (by decide +kernel) (by decide +kernel)
/-- the words that a callee may take on trust -/
def gdT : List Jvm.Cond := lw_tbl.filter goodWord
theorem gdT_good : ∀ w ∈ gdT, w ∈ lw_tbl ∧ goodWord w = true := fun w h => List.mem_filter.mp h
theorem tq_in {t : Nat} {c : Jvm.Cond} (h : tq t c = true) : c ∈ gdT := by
  unfold tq at h
  rw [Bool.and_eq_true] at h
  exact List.mem_filter.mpr ⟨List.mem_of_getElem? (of_decide_eq_true h.2), h.1⟩
theorem tn_in {t : Nat} {c : Jvm.Cond} (h : tn t c = true) : c ∈ lw_tbl := List.mem_of_getElem? (of_decide_eq_true h)
theorem fk_cases {c k : Nat} (h : fkb c k = true) : (fkOf c k = 0 ∧ clY c k = .int) ∨ (fkOf c k = 1 ∧ clY c k = .boolean) ∨ (fkOf c k = 2 ∧ ((∃ n, clY c k = .object n) ∨ ∃ t, clY c k = .array t)) := by
  unfold fkb at h
  split at h
  · rename_i h1 h2; exact Or.inl ⟨h1, h2⟩
  · rename_i h1 h2; exact Or.inr (Or.inl ⟨h1, h2⟩)
  · rename_i n h1 h2; exact Or.inr (Or.inr ⟨h1, Or.inl ⟨n, h2⟩⟩)
  · rename_i n h1 h2; exact Or.inr (Or.inr ⟨h1, Or.inr ⟨n, h2⟩⟩)
  · exact absurd h (by decide)
theorem cl_in : ∀ c, c < 10 → ∀ w ∈ u_ws (clN c) (clT c) (clS c), w ∈ gdT := fun c hc w hw => List.mem_filter.mpr ⟨cl_in0 c hc w hw, List.all_eq_true.mp (cl_gd c hc) w hw⟩
end
section
/-! ===== an abstract machine over the kit's rows: values are whole numbers, long numbers, references by number; cells by number ===== -/
abbrev AV : Type := Int ⊕ (Int ⊕ Option Nat)
abbrev Wd : Type := (Nat → Nat) × (Nat → Nat) × (Nat → Nat → Option Nat) × Nat
abbrev MM : Type := Nat → Nat → Int
abbrev LL : Type := List (Option AV)
abbrev KT : Type := Nat → LL → List AV → Nat → Nat → Wd → MM → Prop
abbrev QT : Type := Option AV → Wd → MM → Prop
abbrev VI (z : Int) : AV := .inl z
abbrev VL (z : Int) : AV := .inr (.inl z)
abbrev VR (a : Nat) : AV := .inr (.inr (some a))
abbrev inRL (z : Int) : Prop := -9223372036854775808 ≤ z ∧ z ≤ 9223372036854775807
def getL : LL → Nat → Option AV
  | [], _ => none
  | x :: _, 0 => x
  | _ :: xs, i + 1 => getL xs i
def setL : LL → Nat → AV → LL
  | [], 0, v => [some v]
  | [], i + 1, v => none :: setL [] i v
  | _ :: xs, 0, v => some v :: xs
  | x :: xs, i + 1, v => x :: setL xs i v
def argL : Nat → List AV → LL → LL
  | 0, _, acc => acc
  | _ + 1, [], acc => acc
  | n + 1, x :: xs, acc => argL n xs (some x :: acc)
def upM (M : MM) (a k : Nat) (x : Int) : MM := fun a' k' => if a' = a ∧ k' = k then x else M a' k'
def cpM (M : MM) (a b n : Nat) : MM := fun a' k' => if a' = b ∧ k' < n then M a k' else M a' k'
def zrM (M : MM) (a : Nat) : MM := fun a' k' => if a' = a then 0 else M a' k'
def upN {α : Type} (f : Nat → α) (a : Nat) (x : α) : Nat → α := fun a' => if a' = a then x else f a'
def upR (f : Nat → Nat → Option Nat) (a k : Nat) (x : Option Nat) : Nat → Nat → Option Nat := fun a' k' => if a' = a ∧ k' = k then x else f a' k'
/-- the machine's world gets one cell more -/
def nwW (w : Wd) (kd ln : Nat) : Wd := (upN w.1 (w.2.2.2 + 1) kd, upN w.2.1 (w.2.2.2 + 1) ln, upN w.2.2.1 (w.2.2.2 + 1) (fun _ => none), w.2.2.2 + 1)
/-- an array of N int arrays of K places comes: the outer one first -/
def mnW (w : Wd) (N K : Nat) : Wd :=
  (fun a => if a = w.2.2.2 + 1 then 2 else if w.2.2.2 + 1 < a ∧ a ≤ w.2.2.2 + 1 + N then 0 else w.1 a,
   fun a => if a = w.2.2.2 + 1 then N else if w.2.2.2 + 1 < a ∧ a ≤ w.2.2.2 + 1 + N then K else w.2.1 a,
   fun a => if a = w.2.2.2 + 1 then (fun j => if j < N then some (w.2.2.2 + 2 + j) else none) else if w.2.2.2 + 1 < a ∧ a ≤ w.2.2.2 + 1 + N then (fun _ => none) else w.2.2.1 a,
   w.2.2.2 + 1 + N)
def mnM (M : MM) (n N : Nat) : MM := fun a k => if n < a ∧ a ≤ n + 1 + N then 0 else M a k
def rfW (w : Wd) (a k : Nat) (x : Option Nat) : Wd := (w.1, w.2.1, upR w.2.2.1 a k x, w.2.2.2)
abbrev GG : Type := Launch × va_G × (Nat → ClassId) × Nat × Nat × Cell
abbrev gl (Γ : GG) : Launch := Γ.1
abbrev gD (Γ : GG) : va_G := Γ.2.1
abbrev gA (Γ : GG) : Nat → ClassId := Γ.2.2.1
abbrev gb (Γ : GG) : Nat := Γ.2.2.2.1
abbrev gB (Γ : GG) : Nat := Γ.2.2.2.2.1
abbrev gs (Γ : GG) : Cell := Γ.2.2.2.2.2
def adr (Γ : GG) : Nat → Nat
  | 0 => gb Γ
  | i + 1 => gB Γ + i
def cV (Γ : GG) : AV → Value
  | .inl z => .int (Int32.ofInt z)
  | .inr (.inl z) => .long (Int64.ofInt z)
  | .inr (.inr r) => va_rf (r.map (adr Γ))
def okV : AV → Prop
  | .inl z => inR z
  | .inr (.inl z) => inRL z
  | .inr (.inr _) => True
def obV (Γ : GG) (c : Nat) (rf : Nat → Option Nat) (f : Nat → Int) (k : Nat) : Value := bif Nat.beq (fkOf c k) 2 then va_rf ((rf k).map (adr Γ)) else .int (Int32.ofInt (f k))
def arI (Γ : GG) (t n : Nat) (f : Nat → Int) : Cell := arrV (gA Γ t) n (fun j => .int (Int32.ofInt (f j)))
def arR (Γ : GG) (t n : Nat) (f : Nat → Option Nat) : Cell := arrV (gA Γ t) n (fun j => va_rf ((f j).map (adr Γ)))
def cellAt (Γ : GG) (kd n : Nat) (rf : Nat → Option Nat) (f : Nat → Int) (H : Heap) (i : Nat) : Prop := match kd with
  | 0 => H[adr Γ i]? = some (arI Γ 0 n f)
  | 1 => H[adr Γ i]? = some (arI Γ 1 n f)
  | 2 => H[adr Γ i]? = some (arR Γ 2 n rf)
  | 3 => H[adr Γ i]? = some (arR Γ 3 n rf)
  | c + 4 => ∃ r : vw_C, vwCl[c]? = some r ∧ t_OB (adr Γ i) ((gD Γ).1 c) r.2.2 ((gD Γ).2 c) H (obV Γ c rf f)
/-- what a heap holds of a world and its numbers -/
def HR (Γ : GG) (w : Wd) (M : MM) (H : Heap) : Prop :=
  H.size = gB Γ + w.2.2.2 ∧ (∀ a k, inR (M a k)) ∧ (∀ a, w.2.2.2 < a → w.1 a = 15) ∧ (∀ i, i < w.2.2.2 → cellAt Γ (w.1 (i + 1)) (w.2.1 (i + 1)) (w.2.2.1 (i + 1)) (M (i + 1)) H (i + 1)) ∧
  w.1 0 = 14 ∧ (gs Γ).slots.size = w.2.1 0 ∧ w.2.1 0 < 2147483648 ∧ ∀ j, j < w.2.1 0 → (gs Γ).slots[j]? = some (.int (Int32.ofInt (M 0 j)))
abbrev tyG (Γ : GG) : List (ClassId × FieldType) := [(gA Γ 0, .int), (gA Γ 1, .boolean), (gA Γ 2, .array .int), (gA Γ 3, .object "ShiftAdds$Graph")]
def neW : Jvm.Cond → Bool
  | .methodLinkNest .. => true
  | _ => false
/-- what the tables say beside the words that a callee may take on trust -/
def KF (Γ : GG) (s : State) : Prop := va_K (gD Γ) vwCl (tyG Γ) s ∧ s.isArrayOf (gs Γ) .int ∧ (∀ w ∈ lw_tbl, neW w = true → va_Nw w s) ∧ va_AO "ShiftAdds$Graph" s
abbrev gQ (Γ : GG) : Nat → Prop := fun q => gB Γ ≤ q
def Cx (Γ : GG) (μ : Nat) (p : Program) (R : Room) (s : State) (m : MethodId) (args : Array Value) (meth : Method) (c : Code) : Prop :=
  p.tables.exec = Jvm.exec ∧ c.code = mcode μ ∧ meth.sig.returnType = mret μ ∧ c.maxLocals = mxl μ ∧ s.vm.findClass (my μ).cls = some m.cls ∧ (∀ w ∈ gdT, w.before args s = true) ∧ meth.locks = false ∧ ((my μ).name = "<init>" → meth.name = "<init>") ∧ KF Γ s ∧
  (mdp μ ≤ R.frames ∧ 37 * mdp μ ≤ R.locals ∧ mmc μ ≤ R.cells ∧ mms μ ≤ R.slots) ∧ (gs Γ).vm ≠ .unknown ∧ gB Γ ≤ s.heap.size ∧ gb Γ < gB Γ ∧ s.heap[gb Γ]? = some (gs Γ)
def LR (Γ : GG) (μ : Nat) (ls : LL) (lc : Array Slot) : Prop := lc.size = mxl μ ∧ lv_wf lc ∧ ∀ i v, getL ls i = some v → lc[i]? = some (.val (cV Γ v)) ∧ okV v ∧ (cV Γ v).category = 1
def okR (ret : Option FieldType) (v : Option AV) : Prop := match v with
  | none => ret = none
  | some (.inl x) => (ret = some .int ∧ inR x) ∨ (ret = some .boolean ∧ (x = 0 ∨ x = 1))
  | some (.inr (.inl x)) => ret = some .long ∧ inRL x
  | some (.inr (.inr (some _))) => ∃ n, ret = some (.object n)
  | some (.inr (.inr none)) => False
def rins (v : Option AV) : Instr := match v with
  | none => .return_
  | some (.inl _) => .ireturn
  | some (.inr (.inl _)) => .lreturn
  | some (.inr (.inr _)) => .areturn
def rvs (v : Option AV) : List AV := match v with
  | none => []
  | some x => [x]
def RetP (Γ : GG) (μ : Nat) (p : Program) (e : Env) (R : Room) (s : State) (m : MethodId) (args : Array Value) (below : List Frame) (meth : Method) (c : Code) (Z : State → Prop) (Q : QT) : Prop :=
  ∀ (v : Option AV) (w : Wd) (M : MM) (H : Heap) (locs : List Loc) (pc : Nat) (lc : Array Slot), Q v w M → okR (mret μ) v → HR Γ w M H → va_S (gQ Γ) s.heap H locs → decode (mcode μ) pc = .ok (rins v, 1) →
    W p (gl Γ) e R s m args below meth c H locs (mmc μ) (mms μ) Z (F0 m pc lc ((rvs v).map (cV Γ)))
/-- from pc on, with these locals, this stack, this world: the method comes to its end with Q -/
def wp (Γ : GG) (μ pc : Nat) (ls : LL) (st : List AV) (cs sl : Nat) (w : Wd) (M : MM) (Q : QT) : Prop :=
  ∀ (p : Program) (e : Env) (R : Room) (s : State) (m : MethodId) (args : Array Value) (below : List Frame) (meth : Method) (c : Code) (H : Heap) (locs : List Loc) (lc : Array Slot) (Z : State → Prop),
    Cx Γ μ p R s m args meth c → HR Γ w M H → LR Γ μ ls lc → (∀ v ∈ st, okV v) → va_S (gQ Γ) s.heap H locs → RetP Γ μ p e R s m args below meth c Z Q →
    W p (gl Γ) e R s m args below meth c H locs cs sl Z (F0 m pc lc (st.map (cV Γ)))
-- the stack's top
def popI (st : List AV) (P : Int → List AV → Prop) : Prop := match st with
  | .inl x :: st => P x st
  | _ => False
def popII (st : List AV) (P : Int → Int → List AV → Prop) : Prop := match st with
  | .inl y :: .inl x :: st => P x y st
  | _ => False
def popA (st : List AV) (P : Nat → List AV → Prop) : Prop := match st with
  | .inr (.inr (some a)) :: st => P a st
  | _ => False
def popIA (st : List AV) (P : Int → Nat → List AV → Prop) : Prop := match st with
  | .inl x :: .inr (.inr (some a)) :: st => P x a st
  | _ => False
def popIIA (st : List AV) (P : Int → Int → Nat → List AV → Prop) : Prop := match st with
  | .inl x :: .inl i :: .inr (.inr (some a)) :: st => P x i a st
  | _ => False
def popAA (st : List AV) (P : Nat → Nat → List AV → Prop) : Prop := match st with
  | .inr (.inr (some b)) :: .inr (.inr (some a)) :: st => P b a st
  | _ => False
def popAIA (st : List AV) (P : Nat → Int → Nat → List AV → Prop) : Prop := match st with
  | .inr (.inr (some b)) :: .inl i :: .inr (.inr (some a)) :: st => P b i a st
  | _ => False
def popLL (st : List AV) (P : Int → Int → List AV → Prop) : Prop := match st with
  | .inr (.inl y) :: .inr (.inl x) :: st => P x y st
  | _ => False
def popV (st : List AV) (P : AV → List AV → Prop) : Prop := match st with
  | .inl x :: st => P (.inl x) st
  | .inr (.inr r) :: st => P (.inr (.inr r)) st
  | _ => False
def popVV (st : List AV) (P : AV → AV → List AV → Prop) : Prop := popV st (fun x st => popV st (fun y st => P x y st))
def popC (st : List AV) (P : Nat → Int → Nat → Int → Int → List AV → Prop) : Prop := match st with
  | .inl n :: .inl dp :: .inr (.inr (some b)) :: .inl sp :: .inr (.inr (some a)) :: st => P a sp b dp n st
  | _ => False
theorem popI_ex {st : List AV} {P : Int → List AV → Prop} (h : popI st P) : ∃ x st', st = .inl x :: st' ∧ P x st' := by
  unfold popI at h; split at h <;> first | exact ⟨_, _, rfl, h⟩ | exact h.elim
theorem popII_ex {st : List AV} {P : Int → Int → List AV → Prop} (h : popII st P) : ∃ x y st', st = .inl y :: .inl x :: st' ∧ P x y st' := by
  unfold popII at h; split at h <;> first | exact ⟨_, _, _, rfl, h⟩ | exact h.elim
theorem popA_ex {st : List AV} {P : Nat → List AV → Prop} (h : popA st P) : ∃ a st', st = VR a :: st' ∧ P a st' := by
  unfold popA at h; split at h <;> first | exact ⟨_, _, rfl, h⟩ | exact h.elim
theorem popIA_ex {st : List AV} {P : Int → Nat → List AV → Prop} (h : popIA st P) : ∃ x a st', st = .inl x :: VR a :: st' ∧ P x a st' := by
  unfold popIA at h; split at h <;> first | exact ⟨_, _, _, rfl, h⟩ | exact h.elim
theorem popIIA_ex {st : List AV} {P : Int → Int → Nat → List AV → Prop} (h : popIIA st P) : ∃ x i a st', st = .inl x :: .inl i :: VR a :: st' ∧ P x i a st' := by
  unfold popIIA at h; split at h <;> first | exact ⟨_, _, _, _, rfl, h⟩ | exact h.elim
theorem popAA_ex {st : List AV} {P : Nat → Nat → List AV → Prop} (h : popAA st P) : ∃ b a st', st = VR b :: VR a :: st' ∧ P b a st' := by
  unfold popAA at h; split at h <;> first | exact ⟨_, _, _, rfl, h⟩ | exact h.elim
theorem popAIA_ex {st : List AV} {P : Nat → Int → Nat → List AV → Prop} (h : popAIA st P) : ∃ b i a st', st = VR b :: .inl i :: VR a :: st' ∧ P b i a st' := by
  unfold popAIA at h; split at h <;> first | exact ⟨_, _, _, _, rfl, h⟩ | exact h.elim
theorem popLL_ex {st : List AV} {P : Int → Int → List AV → Prop} (h : popLL st P) : ∃ x y st', st = VL y :: VL x :: st' ∧ P x y st' := by
  unfold popLL at h; split at h <;> first | exact ⟨_, _, _, rfl, h⟩ | exact h.elim
theorem popV_ex {st : List AV} {P : AV → List AV → Prop} (h : popV st P) : ∃ v st', st = v :: st' ∧ (∀ Γ, (cV Γ v).category = 1) ∧ P v st' := by
  unfold popV at h
  split at h
  · exact ⟨_, _, rfl, fun _ => rfl, h⟩
  · rename_i r st'
    exact ⟨_, _, rfl, fun _ => by cases r <;> rfl, h⟩
  · exact h.elim
theorem popC_ex {st : List AV} {P : Nat → Int → Nat → Int → Int → List AV → Prop} (h : popC st P) : ∃ a sp b dp n st', st = .inl n :: .inl dp :: VR b :: .inl sp :: VR a :: st' ∧ P a sp b dp n st' := by
  unfold popC at h; split at h <;> first | exact ⟨_, _, _, _, _, _, rfl, h⟩ | exact h.elim
def brk (q : Jvm.ClassFile.Cond) (x y : Int) (A B : Prop) : Prop := match q with
  | .eq => (x = y → A) ∧ (¬ x = y → B)
  | .ne => (¬ x = y → A) ∧ (x = y → B)
  | .lt => (x < y → A) ∧ (y ≤ x → B)
  | .ge => (y ≤ x → A) ∧ (x < y → B)
  | .gt => (y < x → A) ∧ (x ≤ y → B)
  | .le => (x ≤ y → A) ∧ (y < x → B)
def andI (x y : Int) : Int := (Int32.ofInt x &&& Int32.ofInt y).toInt
def orI (x y : Int) : Int := (Int32.ofInt x ||| Int32.ofInt y).toInt
def swT (x : Int) (K : Nat → Prop) : Int → List Nat → Prop
  | _, [] => True
  | v, t :: ts => (x = v → K t) ∧ swT x K (v + 1) ts
def swL (x : Int) (K : Nat → Prop) (d : Nat) : List (Int × Int) → List Nat → Prop
  | [], _ => K d
  | q :: qs, t :: ts => (x = q.1 → K t) ∧ (¬ x = q.1 → swL x K d qs ts)
  | _ :: _, [] => False
def cats : List AV → Nat
  | [] => 0
  | .inr (.inl _) :: st => 2 + cats st
  | _ :: st => 1 + cats st
/-- a test that the numbers of a call decide -/
def gd (b : Bool) (X : Prop) : Prop := bif b then X else False
theorem gd_ex {b : Bool} {X : Prop} (h : gd b X) : b = true ∧ X := by
  cases b
  · exact h.elim
  · exact ⟨rfl, h⟩
def rmk (μ cs sl : Nat) : Bool := Nat.ble cs (mmc μ) && Nat.ble sl (mms μ)
theorem rmk_le {μ cs sl : Nat} (h : rmk μ cs sl = true) : cs ≤ mmc μ ∧ sl ≤ mms μ := by
  unfold rmk at h
  rw [Bool.and_eq_true] at h
  exact ⟨Nat.le_of_ble_eq_true h.1, Nat.le_of_ble_eq_true h.2⟩
def ldI (K : KT) (k n pc : Nat) (ls : LL) (st : List AV) (cs sl : Nat) (w : Wd) (M : MM) : Prop := match getL ls k with
  | some (.inl x) => K (pc + n) ls (.inl x :: st) cs sl w M
  | _ => False
def ldA (K : KT) (k n pc : Nat) (ls : LL) (st : List AV) (cs sl : Nat) (w : Wd) (M : MM) : Prop := match getL ls k with
  | some (.inr (.inr (some a))) => K (pc + n) ls (.inr (.inr (some a)) :: st) cs sl w M
  | _ => False
def akd : ArrayType → Nat
  | .int => 0
  | _ => 1
def isZ (r : Option FieldType) : Bool := match r with
  | some .boolean => true
  | _ => false
def rtI (st : List AV) (P : Int → Prop) : Prop := match st with
  | [.inl x] => P x
  | _ => False
def rtL (st : List AV) (P : Int → Prop) : Prop := match st with
  | [.inr (.inl x)] => P x
  | _ => False
def rtA (st : List AV) (P : Nat → Prop) : Prop := match st with
  | [.inr (.inr (some a))] => P a
  | _ => False
def rt0 (st : List AV) (P : Prop) : Prop := match st with
  | [] => P
  | _ => False
theorem rtI_ex {st : List AV} {P : Int → Prop} (h : rtI st P) : ∃ x, st = [.inl x] ∧ P x := by
  unfold rtI at h; split at h <;> first | exact ⟨_, rfl, h⟩ | exact h.elim
theorem rtL_ex {st : List AV} {P : Int → Prop} (h : rtL st P) : ∃ x, st = [VL x] ∧ P x := by
  unfold rtL at h; split at h <;> first | exact ⟨_, rfl, h⟩ | exact h.elim
theorem rtA_ex {st : List AV} {P : Nat → Prop} (h : rtA st P) : ∃ x, st = [VR x] ∧ P x := by
  unfold rtA at h; split at h <;> first | exact ⟨_, rfl, h⟩ | exact h.elim
theorem rt0_ex {st : List AV} {P : Prop} (h : rt0 st P) : st = [] ∧ P := by
  unfold rt0 at h; split at h <;> first | exact ⟨rfl, h⟩ | exact h.elim
def ax3 (aux : List Nat) (P : Nat → Nat → Nat → Prop) : Prop := match aux with
  | c :: k :: f :: _ => P c k f
  | _ => False
theorem ax3_ex {aux : List Nat} {P : Nat → Nat → Nat → Prop} (h : ax3 aux P) : P (aux.getD 0 0) (aux.getD 1 0) (aux.getD 2 0) := by
  unfold ax3 at h
  split at h
  · exact h
  · exact h.elim
theorem popIA_mono {st : List AV} {P P' : Int → Nat → List AV → Prop} (hp : ∀ x a st, P x a st → P' x a st) (h : popIA st P) : popIA st P' := by
  obtain ⟨x, a, st', rfl, h⟩ := popIA_ex h
  exact hp x a st' h
theorem popIIA_mono {st : List AV} {P P' : Int → Int → Nat → List AV → Prop} (hp : ∀ x i a st, P x i a st → P' x i a st) (h : popIIA st P) : popIIA st P' := by
  obtain ⟨x, i, a, st', rfl, h⟩ := popIIA_ex h
  exact hp x i a st' h
theorem popAIA_mono {st : List AV} {P P' : Nat → Int → Nat → List AV → Prop} (hp : ∀ b i a st, P b i a st → P' b i a st) (h : popAIA st P) : popAIA st P' := by
  obtain ⟨b, i, a, st', rfl, h⟩ := popAIA_ex h
  exact hp b i a st' h
/-- one instruction -/
def stepv (Γ : GG) (μ : Nat) (Q : QT) (K : KT) (i : Instr) (z : Int) (aux : List Nat) (pc : Nat) (ls : LL) (st : List AV) (cs sl : Nat) (w : Wd) (M : MM) : Prop := match i with
  | .iload_n k => ldI K k.val 1 pc ls st cs sl w M
  | .iload k => ldI K k 2 pc ls st cs sl w M
  | .aload_n k => ldA K k.val 1 pc ls st cs sl w M
  | .istore_n k => popI st (fun x st => K (pc + 1) (setL ls k.val (.inl x)) st cs sl w M)
  | .istore k => popI st (fun x st => K (pc + 2) (setL ls k (.inl x)) st cs sl w M)
  | .astore_n k => popA st (fun a st => K (pc + 1) (setL ls k.val (.inr (.inr (some a)))) st cs sl w M)
  | .iconst n => K (pc + 1) ls (.inl n :: st) cs sl w M
  | .bipush n => K (pc + 2) ls (.inl n :: st) cs sl w M
  | .sipush n => K (pc + 3) ls (.inl n :: st) cs sl w M
  | .ldc _ => K (pc + 2) ls (.inl z :: st) cs sl w M
  | .lconst n => K (pc + 1) ls (.inr (.inl (n.val : Int)) :: st) cs sl w M
  | .iadd => popII st (fun x y st => inR (x + y) ∧ K (pc + 1) ls (.inl (x + y) :: st) cs sl w M)
  | .isub => popII st (fun x y st => inR (x - y) ∧ K (pc + 1) ls (.inl (x - y) :: st) cs sl w M)
  | .imul => popII st (fun x y st => inR (x * y) ∧ K (pc + 1) ls (.inl (x * y) :: st) cs sl w M)
  | .ineg => popI st (fun x st => inR (-x) ∧ K (pc + 1) ls (.inl (-x) :: st) cs sl w M)
  | .idiv => popII st (fun x y st => (0 ≤ x ∧ 0 < y) ∧ K (pc + 1) ls (.inl (x / y) :: st) cs sl w M)
  | .irem => popII st (fun x y st => (0 ≤ x ∧ 0 < y) ∧ K (pc + 1) ls (.inl (x % y) :: st) cs sl w M)
  | .ishl => popII st (fun x y st => (0 ≤ x ∧ 0 ≤ y ∧ y < 32 ∧ inR (x * 2 ^ y.toNat)) ∧ K (pc + 1) ls (.inl (x * 2 ^ y.toNat) :: st) cs sl w M)
  | .ishr => popII st (fun x y st => (0 ≤ x ∧ 0 ≤ y ∧ y < 32) ∧ K (pc + 1) ls (.inl (x / 2 ^ y.toNat) :: st) cs sl w M)
  | .iand => popII st (fun x y st => K (pc + 1) ls (.inl (andI x y) :: st) cs sl w M)
  | .ior => popII st (fun x y st => K (pc + 1) ls (.inl (orI x y) :: st) cs sl w M)
  | .i2l => popI st (fun x st => K (pc + 1) ls (.inr (.inl x) :: st) cs sl w M)
  | .lmul => popLL st (fun x y st => inRL (x * y) ∧ K (pc + 1) ls (.inr (.inl (x * y)) :: st) cs sl w M)
  | .lcmp => popLL st (fun x y st => K (pc + 1) ls (.inl (if y < x then 1 else if x = y then 0 else -1) :: st) cs sl w M)
  | .dup => popV st (fun v st => K (pc + 1) ls (v :: v :: st) cs sl w M)
  | .dup2 => popV st (fun v st => popV st (fun u st => K (pc + 1) ls (v :: u :: v :: u :: st) cs sl w M))
  | .pop => popV st (fun _ st => K (pc + 1) ls st cs sl w M)
  | .iinc k n => match getL ls k with
    | some (.inl x) => inR (x + n) ∧ K (pc + 3) (setL ls k (.inl (x + n))) st cs sl w M
    | _ => False
  | .goto _ => K (aux.getD 0 0) ls st cs sl w M
  | .ifCond q _ => popI st (fun x st => brk q x 0 (K (aux.getD 0 0) ls st cs sl w M) (K (pc + 3) ls st cs sl w M))
  | .if_icmp q _ => popII st (fun x y st => brk q x y (K (aux.getD 0 0) ls st cs sl w M) (K (pc + 3) ls st cs sl w M))
  | .getfield _ => ax3 aux (fun ci k fk => popA st (fun a st => w.1 a = 4 + ci ∧ bif Nat.beq fk 2 then ∃ b, w.2.2.1 a k = some b ∧ K (pc + 3) ls (.inr (.inr (some b)) :: st) cs sl w M else K (pc + 3) ls (.inl (M a k) :: st) cs sl w M))
  | .putfield _ => ax3 aux (fun ci k fk => bif Nat.beq fk 2 then popAA st (fun b a st => w.1 a = 4 + ci ∧ K (pc + 3) ls st cs sl (rfW w a k (some b)) M)
    else popIA st (fun x a st => w.1 a = 4 + ci ∧ bif Nat.beq fk 1 then (x = 0 ∨ x = 1) ∧ K (pc + 3) ls st cs sl w (upM M a k x) else K (pc + 3) ls st cs sl w (upM M a k x)))
  | .iaload => popIA st (fun i a st => (w.1 a = 0 ∨ w.1 a = 14) ∧ ∃ n : Nat, i = n ∧ n < w.2.1 a ∧ K (pc + 1) ls (.inl (M a n) :: st) cs sl w M)
  | .iastore => popIIA st (fun x i a st => w.1 a = 0 ∧ ∃ n : Nat, i = n ∧ n < w.2.1 a ∧ K (pc + 1) ls st cs sl w (upM M a n x))
  | .baload => popIA st (fun i a st => w.1 a = 1 ∧ ∃ n : Nat, i = n ∧ n < w.2.1 a ∧ K (pc + 1) ls (.inl (M a n) :: st) cs sl w M)
  | .bastore => popIIA st (fun x i a st => w.1 a = 1 ∧ ∃ n : Nat, i = n ∧ n < w.2.1 a ∧ (x = 0 ∨ x = 1) ∧ K (pc + 1) ls st cs sl w (upM M a n x))
  | .aaload => popIA st (fun i a st => (w.1 a = 2 ∨ w.1 a = 3) ∧ ∃ n : Nat, i = n ∧ n < w.2.1 a ∧ ∃ b, w.2.2.1 a n = some b ∧ K (pc + 1) ls (.inr (.inr (some b)) :: st) cs sl w M)
  | .aastore => popAIA st (fun b i a st => w.1 a = 3 ∧ w.1 b = 5 ∧ ∃ n : Nat, i = n ∧ n < w.2.1 a ∧ K (pc + 1) ls st cs sl (rfW w a n (some b)) M)
  | .newarray t => popI st (fun x st => (0 ≤ x ∧ x ≤ 100000) ∧ gd (rmk μ (cs + 1) (sl + x.toNat)) (K (pc + 2) ls (.inr (.inr (some (w.2.2.2 + 1))) :: st) (cs + 1) (sl + x.toNat) (nwW w (akd t) x.toNat) (zrM M (w.2.2.2 + 1))))
  | .anewarray _ => popI st (fun x st => (0 ≤ x ∧ x ≤ 100000) ∧ gd (rmk μ (cs + 1) (sl + x.toNat)) (K (pc + 3) ls (.inr (.inr (some (w.2.2.2 + 1))) :: st) (cs + 1) (sl + x.toNat) (nwW w 3 x.toNat) M))
  | .multianewarray _ _ => popII st (fun x y st => ((0 ≤ x ∧ x ≤ 1000) ∧ (0 ≤ y ∧ y ≤ 1000)) ∧ gd (rmk μ (cs + (1 + x.toNat)) (sl + (x.toNat + x.toNat * y.toNat))) (K (pc + 4) ls (.inr (.inr (some (w.2.2.2 + 1))) :: st) (cs + (1 + x.toNat)) (sl + (x.toNat + x.toNat * y.toNat)) (mnW w x.toNat y.toNat) (mnM M w.2.2.2 x.toNat)))
  | .new _ => gd (rmk μ (cs + 1) (sl + aux.getD 1 0)) (K (pc + 3) ls (.inr (.inr (some (w.2.2.2 + 1))) :: st) (cs + 1) (sl + aux.getD 1 0) (nwW w (4 + aux.getD 0 0) 0) (zrM M (w.2.2.2 + 1)))
  | .arraylength => popA st (fun a st => w.1 a = 14 ∧ K (pc + 1) ls (.inl (w.2.1 a : Int) :: st) cs sl w M)
  | .invokestatic _ => match aux.getD 0 0 with
    | 5 => popII st (fun x y st => gd (Nat.ble (cats st) 8 && rmk μ cs sl) (K (pc + 3) ls (.inl (max x y) :: st) cs sl w M))
    | 6 => popII st (fun x y st => gd (Nat.ble (cats st) 8 && rmk μ cs sl) (K (pc + 3) ls (.inl (min x y) :: st) cs sl w M))
    | 7 => popI st (fun x st => gd (Nat.ble (cats st) 8 && rmk μ cs sl) (inR (-x) ∧ K (pc + 3) ls (.inl (if x < 0 then -x else x) :: st) cs sl w M))
    | 8 => popC st (fun a sp b dp n st => gd (Nat.ble (cats st) 8 && rmk μ cs sl) ((w.1 a = 0 ∧ w.1 b = 0) ∧ (sp = 0 ∧ dp = 0 ∧ 0 ≤ n ∧ n ≤ w.2.1 a ∧ n ≤ w.2.1 b) ∧ K (pc + 3) ls st cs sl w (cpM M a b n.toNat)))
    | _ => gd (Nat.ble (cats (st.drop (aux.getD 2 0))) 8 && (Nat.ble (aux.getD 2 0) st.length && (Nat.beq (cats (st.take (aux.getD 2 0))) (aux.getD 2 0) && rmk μ cs sl))) (wp Γ (aux.getD 1 0) 0 (argL (aux.getD 2 0) st []) [] 0 0 w M (fun v w' M' => K (pc + 3) ls (rvs v ++ st.drop (aux.getD 2 0)) cs sl w' M'))
  | .invokevirtual _ => popA (st.drop (aux.getD 2 0)) (fun a _ => w.1 a = 4 + aux.getD 6 0 ∧ gd (Nat.ble (cats (st.drop (aux.getD 2 0 + 1))) 8 && (Nat.ble (aux.getD 2 0 + 1) st.length && (Nat.beq (cats (st.take (aux.getD 2 0 + 1))) (aux.getD 2 0 + 1) && rmk μ cs sl))) (wp Γ (aux.getD 1 0) 0 (argL (aux.getD 2 0 + 1) st []) [] 0 0 w M (fun v w' M' => K (pc + 3) ls (rvs v ++ st.drop (aux.getD 2 0 + 1)) cs sl w' M')))
  | .invokespecial _ => match aux.getD 0 0 with
    | 9 => popA st (fun _ st => gd (Nat.ble (cats st) 8 && rmk μ cs sl) (K (pc + 3) ls st cs sl w M))
    | _ => popA (st.drop (aux.getD 2 0)) (fun _ _ => gd (Nat.ble (cats (st.drop (aux.getD 2 0 + 1))) 8 && (Nat.ble (aux.getD 2 0 + 1) st.length && (Nat.beq (cats (st.take (aux.getD 2 0 + 1))) (aux.getD 2 0 + 1) && rmk μ cs sl))) (gd (rmk μ (cs + mmc (aux.getD 1 0)) (sl + mms (aux.getD 1 0))) (wp Γ (aux.getD 1 0) 0 (argL (aux.getD 2 0 + 1) st []) [] 0 0 w M (fun v w' M' => K (pc + 3) ls (rvs v ++ st.drop (aux.getD 2 0 + 1)) (cs + mmc (aux.getD 1 0)) (sl + mms (aux.getD 1 0)) w' M'))))
  | .tableswitch _ lo hi _ => popI st (fun x st => ((x < lo ∨ hi < x) → K (aux.getD 0 0) ls st cs sl w M) ∧ swT x (fun t => K t ls st cs sl w M) lo (aux.drop 1))
  | .lookupswitch _ ps => popI st (fun x st => swL x (fun t => K t ls st cs sl w M) (aux.getD 0 0) ps.toList (aux.drop 1))
  | .ireturn => rtI st (fun x => bif isZ (mret μ) then (x = 0 ∨ x = 1) ∧ gd (rmk μ cs sl) (Q (some (.inl x)) w M) else gd (rmk μ cs sl) (Q (some (.inl x)) w M))
  | .lreturn => rtL st (fun x => gd (rmk μ cs sl) (Q (some (.inr (.inl x))) w M))
  | .areturn => rtA st (fun a => gd (rmk μ cs sl) (Q (some (.inr (.inr (some a)))) w M))
  | .return_ => rt0 st (gd (rmk μ cs sl) (Q none w M))
  | _ => False
/-- the road from pc on, up to the next loop's head, call, return -/
def vc (Γ : GG) (μ : Nat) (B : BK) (Q : QT) (k : Nat) : Bool → KT :=
  Nat.rec (motive := fun _ => Bool → KT) (fun _ pc ls st cs sl w M => wp Γ μ pc ls st cs sl w M Q)
    (fun _ ih first pc ls st cs sl w M => match lk2 pc B with
      | none => False
      | some ai => bif (ai.2.2.1 && !first) then wp Γ μ pc ls st cs sl w M Q else stepv Γ μ Q (ih false) ai.1 ai.2.2.2.1 ai.2.2.2.2 pc ls st cs sl w M) k
end
section
/-! ===== the abstract machine is sound: numbers ===== -/
theorem so_ofI {z : Int} (h : inR z) : (Int32.ofInt z).toInt = z := by
  rw [Int32.toInt_ofInt]
  exact Int.bmod_eq_of_le (by show -(((2 ^ 32 : Nat) : Int) / 2) ≤ z; omega) (by show z < (((2 ^ 32 : Nat) : Int) + 1) / 2; omega)
theorem so_ofL {z : Int} (h : inRL z) : (Int64.ofInt z).toInt = z := by
  rw [Int64.toInt_ofInt]
  exact Int.bmod_eq_of_le (by show -(((2 ^ 64 : Nat) : Int) / 2) ≤ z; omega) (by show z < (((2 ^ 64 : Nat) : Int) + 1) / 2; omega)
theorem so_rng (x : Int32) : inR x.toInt := by
  have h1 := Int32.le_toInt x
  have h2 := Int32.toInt_lt x
  omega
theorem so_nat {n : Nat} (h : n < 2 ^ 31) : Int32.ofInt (n : Int) = nI n := by
  apply Int32.toInt_inj.mp
  rw [so_ofI (by omega), nI_toInt h]
theorem so_lt {x y : Int} (hx : inR x) (hy : inR y) : Int32.ofInt x < Int32.ofInt y ↔ x < y := by
  rw [Int32.lt_iff_toInt_lt, so_ofI hx, so_ofI hy]
theorem so_le {x y : Int} (hx : inR x) (hy : inR y) : Int32.ofInt x ≤ Int32.ofInt y ↔ x ≤ y := by
  rw [Int32.le_iff_toInt_le, so_ofI hx, so_ofI hy]
theorem so_eq {x y : Int} (hx : inR x) (hy : inR y) : Int32.ofInt x = Int32.ofInt y ↔ x = y := by
  rw [← Int32.toInt_inj, so_ofI hx, so_ofI hy]
theorem so_0 : inR 0 := by omega
theorem so_clamp {x : Int} (hx : inR x) (h0 : 0 ≤ x) : (Int32.ofInt x).toNatClampNeg = x.toNat := by
  show (Int32.ofInt x).toInt.toNat = _
  rw [so_ofI hx]
theorem so_in {x : Int} {n : Nat} (hx : inR x) (h : 0 ≤ x ∧ x < n) : ¬ (Int32.ofInt x < 0 ∨ n ≤ (Int32.ofInt x).toNatClampNeg) := by
  rw [so_clamp hx h.1, show (0 : Int32) = Int32.ofInt 0 from rfl, so_lt hx so_0]
  omega
theorem so_div {x y : Int} (hx : inR x) (hy : inR y) (h0 : 0 ≤ x) (h1 : 0 < y) : Int32.ofInt x / Int32.ofInt y = Int32.ofInt (x / y) := by
  obtain ⟨a, rfl⟩ := Int.eq_ofNat_of_zero_le h0
  obtain ⟨b, rfl⟩ := Int.eq_ofNat_of_zero_le (Int.le_of_lt h1)
  have ha : a < 2 ^ 31 := by omega
  have hb : b < 2 ^ 31 := by omega
  have hd : a / b < 2 ^ 31 := Nat.lt_of_le_of_lt (Nat.div_le_self a b) ha
  rw [so_nat ha, so_nat hb, pk_div ha (by omega) hb, ← so_nat hd]
  rfl
theorem so_rem {x y : Int} (hx : inR x) (hy : inR y) (h0 : 0 ≤ x) (h1 : 0 < y) : Int32.ofInt x - Int32.ofInt x / Int32.ofInt y * Int32.ofInt y = Int32.ofInt (x % y) := by
  obtain ⟨a, rfl⟩ := Int.eq_ofNat_of_zero_le h0
  obtain ⟨b, rfl⟩ := Int.eq_ofNat_of_zero_le (Int.le_of_lt h1)
  have ha : a < 2 ^ 31 := by omega
  have hb : b < 2 ^ 31 := by omega
  have hd : a % b < 2 ^ 31 := Nat.lt_of_le_of_lt (Nat.mod_le a b) ha
  rw [so_nat ha, so_nat hb, pk_rem ha (by omega) hb, ← so_nat hd]
  rfl
theorem so_sl : ∀ n, n < 32 → ((nI n &&& 31).toBitVec.smod 32).toNat = n := by decide +kernel
theorem so_shl {x y : Int} (h0 : 0 ≤ x) (h1 : 0 ≤ y) (h2 : y < 32) (hz : inR (x * 2 ^ y.toNat)) : Int32.ofInt x <<< (Int32.ofInt y &&& 31) = Int32.ofInt (x * 2 ^ y.toNat) := by
  obtain ⟨a, rfl⟩ := Int.eq_ofNat_of_zero_le h0
  obtain ⟨b, rfl⟩ := Int.eq_ofNat_of_zero_le h1
  have hb : b < 32 := by omega
  rw [Int.toNat_natCast] at hz ⊢
  have e : (a : Int) * 2 ^ b = ((a * 2 ^ b : Nat) : Int) := by rw [Int.natCast_mul, Int.natCast_pow]; rfl
  rw [e] at hz ⊢
  have h3 : a * 2 ^ b < 2 ^ 31 := by omega
  have h4 : a < 2 ^ 31 := Nat.lt_of_le_of_lt (Nat.le_mul_of_pos_right a (Nat.two_pow_pos b)) h3
  rw [so_nat h4, so_nat (by omega), pk_shlN _ b (so_sl b hb) (by omega), so_nat h3]
theorem so_shr {x y : Int} (hx : inR x) (h0 : 0 ≤ x) (h1 : 0 ≤ y) (h2 : y < 32) : Int32.ofInt x >>> (Int32.ofInt y &&& 31) = Int32.ofInt (x / 2 ^ y.toNat) := by
  obtain ⟨a, rfl⟩ := Int.eq_ofNat_of_zero_le h0
  obtain ⟨b, rfl⟩ := Int.eq_ofNat_of_zero_le h1
  have hb : b < 32 := by omega
  have ha : a < 2 ^ 31 := by omega
  rw [Int.toNat_natCast]
  have e : (a : Int) / 2 ^ b = ((a / 2 ^ b : Nat) : Int) := by rw [Int.natCast_ediv, Int.natCast_pow]; rfl
  have h3 : a / 2 ^ b < 2 ^ 31 := Nat.lt_of_le_of_lt (Nat.div_le_self _ _) ha
  rw [e, so_nat ha, so_nat (by omega), pk_shrN ha _ b (so_sl b hb), so_nat h3]
theorem so_divR {x y : Int} (hx : inR x) (h0 : 0 ≤ x) (h1 : 0 < y) : inR (x / y) ∧ 0 ≤ x / y := by
  have h2 := Int.ediv_le_self y h0
  have h3 := Int.ediv_nonneg h0 (Int.le_of_lt h1)
  omega
theorem so_remR {x y : Int} (hx : inR x) (h0 : 0 ≤ x) (h1 : 0 < y) : inR (x % y) := by
  have h2 := Int.emod_nonneg x (show y ≠ 0 by omega)
  have h3 : x % y ≤ x := by
    have := Int.emod_add_mul_ediv x y
    have h4 := Int.mul_nonneg (Int.le_of_lt h1) (Int.ediv_nonneg h0 (Int.le_of_lt h1))
    omega
  omega
theorem so_and (x y : Int) : Int32.ofInt x &&& Int32.ofInt y = Int32.ofInt (andI x y) := (Int32.ofInt_toInt _).symm
theorem so_or (x y : Int) : Int32.ofInt x ||| Int32.ofInt y = Int32.ofInt (orI x y) := (Int32.ofInt_toInt _).symm
theorem so_andR (x y : Int) : inR (andI x y) := so_rng _
theorem so_orR (x y : Int) : inR (orI x y) := so_rng _
theorem so_i2l {x : Int} (hx : inR x) : (Int32.ofInt x).toInt64 = Int64.ofInt x := by
  apply Int64.toInt_inj.mp
  rw [Int32.toInt_toInt64, so_ofI hx, so_ofL (by omega)]
theorem so_cmp {x y : Int} (hx : inRL x) (hy : inRL y) : lg_cmp (Int64.ofInt x) (Int64.ofInt y) = Int32.ofInt (if y < x then 1 else if x = y then 0 else -1) := by
  have h1 : Int64.ofInt y < Int64.ofInt x ↔ y < x := by rw [Int64.lt_iff_toInt_lt, so_ofL hx, so_ofL hy]
  have h2 : Int64.ofInt x = Int64.ofInt y ↔ x = y := by rw [← Int64.toInt_inj, so_ofL hx, so_ofL hy]
  unfold lg_cmp
  by_cases a : y < x
  · simp [h1, a]
  · by_cases b : x = y
    · subst b; simp
    · simp [h1, h2, a, b]
theorem so_cats : ∀ (Γ : GG) (st : List AV), ((st.map (cV Γ)).map fun v => v.category).sum = cats st
  | _, [] => rfl
  | Γ, .inl _ :: st => by
    have h := so_cats Γ st
    exact congrArg (fun k => 1 + k) h
  | Γ, .inr (.inl _) :: st => by
    have h := so_cats Γ st
    exact congrArg (fun k => 2 + k) h
  | Γ, .inr (.inr none) :: st => by
    have h := so_cats Γ st
    exact congrArg (fun k => 1 + k) h
  | Γ, .inr (.inr (some _)) :: st => by
    have h := so_cats Γ st
    exact congrArg (fun k => 1 + k) h
theorem so_tail {v : AV} {st : List AV} (h : ∀ u ∈ v :: st, okV u) : ∀ u ∈ st, okV u := fun u hu => h u (List.mem_cons_of_mem _ hu)
theorem so_head {v : AV} {st : List AV} (h : ∀ u ∈ v :: st, okV u) : okV v := h v List.mem_cons_self
theorem so_push {v : AV} {st : List AV} (hv : okV v) (h : ∀ u ∈ st, okV u) : ∀ u ∈ v :: st, okV u := List.forall_mem_cons.mpr ⟨hv, h⟩
-- locals
theorem so_getset : ∀ (ls : LL) (i : Nat) (v : AV) (j : Nat), getL (setL ls i v) j = if j = i then some v else getL ls j
  | [], 0, v, 0 => rfl
  | [], 0, v, j + 1 => by simp [setL, getL]
  | [], i + 1, v, 0 => by simp [setL, getL]
  | [], i + 1, v, j + 1 => by
    have h := so_getset [] i v j
    simp only [setL, getL, h, Nat.add_right_cancel_iff]
  | _ :: xs, 0, v, 0 => rfl
  | _ :: xs, 0, v, j + 1 => by simp [setL, getL]
  | x :: xs, i + 1, v, 0 => by simp [setL, getL]
  | x :: xs, i + 1, v, j + 1 => by
    have h := so_getset xs i v j
    simp only [setL, getL, h, Nat.add_right_cancel_iff]
def lvR (Γ : GG) (n : Nat) (ls : LL) : List (Nat × Value) := (List.range n).filterMap (fun i => (getL ls i).map (fun v => (i, cV Γ v)))
theorem so_lvR {Γ : GG} {μ : Nat} {ls : LL} {lc : Array Slot} (hL : LR Γ μ ls lc) : lv_has lc (mxl μ) (lvR Γ (mxl μ) ls) := by
  refine ⟨hL.1, hL.2.1, fun q hq => ?_⟩
  obtain ⟨i, -, hi⟩ := List.mem_filterMap.mp hq
  cases hg : getL ls i with
  | none => rw [hg] at hi; cases hi
  | some v =>
    rw [hg] at hi
    cases hi
    exact (hL.2.2 i v hg).1
/-- a local is set: the slots' own step, as the rows give it -/
theorem so_set {Γ : GG} {μ : Nat} {ls : LL} {lc lc' : Array Slot} {i : Nat} {v : AV} (hL : LR Γ μ ls lc) (hv : okV v) (hc : (cV Γ v).category = 1)
    (h' : lv_has lc' (mxl μ) ((i, cV Γ v) :: (lvR Γ (mxl μ) ls).filter (fun q => !(q.1 == i) && !(q.1 + 1 == i && q.2.category == 2)))) : LR Γ μ (setL ls i v) lc' := by
  refine ⟨h'.1, h'.2.1, fun j u hj => ?_⟩
  rw [so_getset] at hj
  by_cases e : j = i
  · rw [if_pos e] at hj
    cases hj
    subst e
    exact ⟨h'.2.2 (j, cV Γ v) List.mem_cons_self, hv, hc⟩
  · rw [if_neg e] at hj
    obtain ⟨a1, a2, a3⟩ := hL.2.2 j u hj
    refine ⟨h'.2.2 (j, cV Γ u) (List.mem_cons_of_mem _ (List.mem_filter.mpr ⟨List.mem_filterMap.mpr ⟨j, List.mem_range.mpr ?_, by rw [hj]; rfl⟩, ?_⟩)), a2, a3⟩
    · rw [← hL.1]; exact lv_lt a1
    · simp [e, a3]
end
section
/-! ===== the rules, instruction by instruction: numbers, locals, branches ===== -/
abbrev KOK (Γ : GG) (μ : Nat) (Q : QT) (K : KT) : Prop := ∀ pc ls st cs sl w M, K pc ls st cs sl w M → wp Γ μ pc ls st cs sl w M Q
section Rules
variable {Γ : GG} {μ pc : Nat} {ls : LL} {st : List AV} {cs sl : Nat} {w : Wd} {M : MM} {Q : QT} {K : KT}
theorem r_iload_n {k : Fin 4} (hK : KOK Γ μ Q K) (hd : decode (mcode μ) pc = .ok (.iload_n k, 1)) (h : ldI K k.val 1 pc ls st cs sl w M) : wp Γ μ pc ls st cs sl w M Q := by
  unfold ldI at h
  split at h
  · rename_i x hx
    intro p e R s m args below meth c H locs lc Z C hH hL hSt hS hR
    obtain ⟨a1, a2, a3⟩ := hL.2.2 _ _ hx
    exact lv_iload_n C.1 C.2.1 hd rfl a1 (hK _ _ _ _ _ _ _ h p e R s m args below meth c H locs lc Z C hH hL (so_push a2 hSt) hS hR)
  · exact h.elim
theorem r_iload {k : Nat} (hK : KOK Γ μ Q K) (hd : decode (mcode μ) pc = .ok (.iload k, 2)) (h : ldI K k 2 pc ls st cs sl w M) : wp Γ μ pc ls st cs sl w M Q := by
  unfold ldI at h
  split at h
  · rename_i x hx
    intro p e R s m args below meth c H locs lc Z C hH hL hSt hS hR
    obtain ⟨a1, a2, a3⟩ := hL.2.2 _ _ hx
    exact lv_iload C.1 C.2.1 hd a1 (hK _ _ _ _ _ _ _ h p e R s m args below meth c H locs lc Z C hH hL (so_push a2 hSt) hS hR)
  · exact h.elim
theorem r_aload_n {k : Fin 4} (hK : KOK Γ μ Q K) (hd : decode (mcode μ) pc = .ok (.aload_n k, 1)) (h : ldA K k.val 1 pc ls st cs sl w M) : wp Γ μ pc ls st cs sl w M Q := by
  unfold ldA at h
  split at h
  · rename_i x hx
    intro p e R s m args below meth c H locs lc Z C hH hL hSt hS hR
    obtain ⟨a1, a2, a3⟩ := hL.2.2 _ _ hx
    exact lv_aload_n C.1 C.2.1 hd rfl a1 (hK _ _ _ _ _ _ _ h p e R s m args below meth c H locs lc Z C hH hL (so_push a2 hSt) hS hR)
  · exact h.elim
theorem r_istore_n {k : Fin 4} (hK : KOK Γ μ Q K) (hd : decode (mcode μ) pc = .ok (.istore_n k, 1)) (hk : k.val < mxl μ) (h : popI st (fun x st => K (pc + 1) (setL ls k.val (.inl x)) st cs sl w M)) : wp Γ μ pc ls st cs sl w M Q := by
  obtain ⟨x, st, rfl, h⟩ := popI_ex h
  intro p e R s m args below meth c H locs lc Z C hH hL hSt hS hR
  refine lv_istore_n (nL := mxl μ) C.1 C.2.1 hd rfl (so_lvR hL) hk rfl (fun lc' hl => ?_)
  exact hK _ _ _ _ _ _ _ h p e R s m args below meth c H locs lc' Z C hH (so_set (v := .inl x) hL (so_head hSt) rfl hl) (so_tail hSt) hS hR
theorem r_istore {k : Nat} (hK : KOK Γ μ Q K) (hd : decode (mcode μ) pc = .ok (.istore k, 2)) (hk : k < mxl μ) (h : popI st (fun x st => K (pc + 2) (setL ls k (.inl x)) st cs sl w M)) : wp Γ μ pc ls st cs sl w M Q := by
  obtain ⟨x, st, rfl, h⟩ := popI_ex h
  intro p e R s m args below meth c H locs lc Z C hH hL hSt hS hR
  refine lv_istore (nL := mxl μ) C.1 C.2.1 hd (so_lvR hL) hk rfl (fun lc' hl => ?_)
  exact hK _ _ _ _ _ _ _ h p e R s m args below meth c H locs lc' Z C hH (so_set (v := .inl x) hL (so_head hSt) rfl hl) (so_tail hSt) hS hR
theorem r_astore_n {k : Fin 4} (hK : KOK Γ μ Q K) (hd : decode (mcode μ) pc = .ok (.astore_n k, 1)) (hk : k.val < mxl μ) (h : popA st (fun a st => K (pc + 1) (setL ls k.val (.inr (.inr (some a)))) st cs sl w M)) : wp Γ μ pc ls st cs sl w M Q := by
  obtain ⟨x, st, rfl, h⟩ := popA_ex h
  intro p e R s m args below meth c H locs lc Z C hH hL hSt hS hR
  refine lv_astore_n (nL := mxl μ) C.1 C.2.1 hd rfl (so_lvR hL) hk rfl (fun lc' hl => ?_)
  exact hK _ _ _ _ _ _ _ h p e R s m args below meth c H locs lc' Z C hH (so_set (v := VR x) hL (so_head hSt) rfl hl) (so_tail hSt) hS hR
theorem r_iconst {n : Int} (hK : KOK Γ μ Q K) (hd : decode (mcode μ) pc = .ok (.iconst n, 1)) (hn : inR n) (h : K (pc + 1) ls (.inl n :: st) cs sl w M) : wp Γ μ pc ls st cs sl w M Q := by
  intro p e R s m args below meth c H locs lc Z C hH hL hSt hS hR
  exact lv_iconst C.1 C.2.1 hd rfl (hK _ _ _ _ _ _ _ h p e R s m args below meth c H locs lc Z C hH hL (so_push (v := .inl n) hn hSt) hS hR)
theorem r_bipush {n : Int} (hK : KOK Γ μ Q K) (hd : decode (mcode μ) pc = .ok (.bipush n, 2)) (hn : inR n) (hv : (Int8.ofInt n).toInt32 = Int32.ofInt n) (h : K (pc + 2) ls (.inl n :: st) cs sl w M) : wp Γ μ pc ls st cs sl w M Q := by
  intro p e R s m args below meth c H locs lc Z C hH hL hSt hS hR
  exact lv_bipush C.1 C.2.1 hd hv (hK _ _ _ _ _ _ _ h p e R s m args below meth c H locs lc Z C hH hL (so_push (v := .inl n) hn hSt) hS hR)
theorem r_sipush {n : Int} (hK : KOK Γ μ Q K) (hd : decode (mcode μ) pc = .ok (.sipush n, 3)) (hn : inR n) (hv : (Int16.ofInt n).toInt32 = Int32.ofInt n) (h : K (pc + 3) ls (.inl n :: st) cs sl w M) : wp Γ μ pc ls st cs sl w M Q := by
  intro p e R s m args below meth c H locs lc Z C hH hL hSt hS hR
  exact lv_sipush C.1 C.2.1 hd hv (hK _ _ _ _ _ _ _ h p e R s m args below meth c H locs lc Z C hH hL (so_push (v := .inl n) hn hSt) hS hR)
theorem r_ldc {n : Int} {ix : Nat} (hK : KOK Γ μ Q K) (hd : decode (mcode μ) pc = .ok (.ldc ix, 2)) (hn : inR n) (hc : Jvm.Cond.constant (my μ).cls ix (Int32.ofInt n) ∈ gdT) (h : K (pc + 2) ls (.inl n :: st) cs sl w M) : wp Γ μ pc ls st cs sl w M Q := by
  intro p e R s m args below meth c H locs lc Z C hH hL hSt hS hR
  exact lv_ldc C.1 C.2.1 C.2.2.2.2.1 (C.2.2.2.2.2.1 _ hc) hd (hK _ _ _ _ _ _ _ h p e R s m args below meth c H locs lc Z C hH hL (so_push (v := .inl n) hn hSt) hS hR)
theorem so_l2 : ∀ n : Fin 2, Int64.ofNat n.val = Int64.ofInt (n.val : Int) := by decide +kernel
theorem r_lconst {n : Fin 2} (hK : KOK Γ μ Q K) (hd : decode (mcode μ) pc = .ok (.lconst n, 1)) (h : K (pc + 1) ls (.inr (.inl (n.val : Int)) :: st) cs sl w M) : wp Γ μ pc ls st cs sl w M Q := by
  intro p e R s m args below meth c H locs lc Z C hH hL hSt hS hR
  refine lv_lconst C.1 C.2.1 hd (v := Int64.ofInt (n.val : Int)) ?_ (hK _ _ _ _ _ _ _ h p e R s m args below meth c H locs lc Z C hH hL (so_push (v := VL (n.val : Int)) ?_ hSt) hS hR)
  · exact so_l2 n
  · show inRL _
    have := n.isLt
    omega
theorem r_iadd (hK : KOK Γ μ Q K) (hd : decode (mcode μ) pc = .ok (.iadd, 1)) (h : popII st (fun x y st => inR (x + y) ∧ K (pc + 1) ls (.inl (x + y) :: st) cs sl w M)) : wp Γ μ pc ls st cs sl w M Q := by
  obtain ⟨x, y, st, rfl, hr, h⟩ := popII_ex h
  intro p e R s m args below meth c H locs lc Z C hH hL hSt hS hR
  exact lv_iadd C.1 C.2.1 hd (by rw [← Int32.ofInt_add]; exact hK _ _ _ _ _ _ _ h p e R s m args below meth c H locs lc Z C hH hL (so_push (v := .inl _) hr (so_tail (so_tail hSt))) hS hR)
theorem r_isub (hK : KOK Γ μ Q K) (hd : decode (mcode μ) pc = .ok (.isub, 1)) (h : popII st (fun x y st => inR (x - y) ∧ K (pc + 1) ls (.inl (x - y) :: st) cs sl w M)) : wp Γ μ pc ls st cs sl w M Q := by
  obtain ⟨x, y, st, rfl, hr, h⟩ := popII_ex h
  intro p e R s m args below meth c H locs lc Z C hH hL hSt hS hR
  exact lv_isub C.1 C.2.1 hd (by rw [← Int32.ofInt_sub]; exact hK _ _ _ _ _ _ _ h p e R s m args below meth c H locs lc Z C hH hL (so_push (v := .inl _) hr (so_tail (so_tail hSt))) hS hR)
theorem r_imul (hK : KOK Γ μ Q K) (hd : decode (mcode μ) pc = .ok (.imul, 1)) (h : popII st (fun x y st => inR (x * y) ∧ K (pc + 1) ls (.inl (x * y) :: st) cs sl w M)) : wp Γ μ pc ls st cs sl w M Q := by
  obtain ⟨x, y, st, rfl, hr, h⟩ := popII_ex h
  intro p e R s m args below meth c H locs lc Z C hH hL hSt hS hR
  exact lv_imul C.1 C.2.1 hd (by rw [← Int32.ofInt_mul]; exact hK _ _ _ _ _ _ _ h p e R s m args below meth c H locs lc Z C hH hL (so_push (v := .inl _) hr (so_tail (so_tail hSt))) hS hR)
theorem r_ineg (hK : KOK Γ μ Q K) (hd : decode (mcode μ) pc = .ok (.ineg, 1)) (h : popI st (fun x st => inR (-x) ∧ K (pc + 1) ls (.inl (-x) :: st) cs sl w M)) : wp Γ μ pc ls st cs sl w M Q := by
  obtain ⟨x, st, rfl, hr, h⟩ := popI_ex h
  intro p e R s m args below meth c H locs lc Z C hH hL hSt hS hR
  have hw := hK _ _ _ _ _ _ _ h p e R s m args below meth c H locs lc Z C hH hL (so_push (v := .inl (-x)) hr (so_tail hSt)) hS hR
  have ee : Int32.ofInt (-x) = 0 - Int32.ofInt x := by rw [Int32.ofInt_neg, Int32.zero_sub]
  have hw : W p (gl Γ) e R s m args below meth c H locs cs sl Z (F0 m (pc + 1) lc (.int (0 - Int32.ofInt x) :: st.map (cV Γ))) := by rw [← ee]; exact hw
  first | exact lv_ineg C.1 C.2.1 hd hw | exact lv_ineg C.1 C.2.1 hd (by rw [← Int32.zero_sub]; exact hw)
theorem r_idiv (hK : KOK Γ μ Q K) (hd : decode (mcode μ) pc = .ok (.idiv, 1)) (h : popII st (fun x y st => (0 ≤ x ∧ 0 < y) ∧ K (pc + 1) ls (.inl (x / y) :: st) cs sl w M)) : wp Γ μ pc ls st cs sl w M Q := by
  obtain ⟨x, y, st, rfl, ⟨h0, h1⟩, h⟩ := popII_ex h
  intro p e R s m args below meth c H locs lc Z C hH hL hSt hS hR
  have hy : inR y := so_head hSt
  have hx : inR x := so_head (so_tail hSt)
  refine lv_idiv C.1 C.2.1 hd (fun q => ?_) (by rw [so_div hx hy h0 h1]; exact hK _ _ _ _ _ _ _ h p e R s m args below meth c H locs lc Z C hH hL (so_push (v := .inl _) (so_divR hx h0 h1).1 (so_tail (so_tail hSt))) hS hR)
  have := (so_eq hy so_0).mp q
  omega
theorem r_irem (hK : KOK Γ μ Q K) (hd : decode (mcode μ) pc = .ok (.irem, 1)) (h : popII st (fun x y st => (0 ≤ x ∧ 0 < y) ∧ K (pc + 1) ls (.inl (x % y) :: st) cs sl w M)) : wp Γ μ pc ls st cs sl w M Q := by
  obtain ⟨x, y, st, rfl, ⟨h0, h1⟩, h⟩ := popII_ex h
  intro p e R s m args below meth c H locs lc Z C hH hL hSt hS hR
  have hy : inR y := so_head hSt
  have hx : inR x := so_head (so_tail hSt)
  refine lv_irem C.1 C.2.1 hd (fun q => ?_) (by rw [so_rem hx hy h0 h1]; exact hK _ _ _ _ _ _ _ h p e R s m args below meth c H locs lc Z C hH hL (so_push (v := .inl _) (so_remR hx h0 h1) (so_tail (so_tail hSt))) hS hR)
  have := (so_eq hy so_0).mp q
  omega
theorem r_ishl (hK : KOK Γ μ Q K) (hd : decode (mcode μ) pc = .ok (.ishl, 1)) (h : popII st (fun x y st => (0 ≤ x ∧ 0 ≤ y ∧ y < 32 ∧ inR (x * 2 ^ y.toNat)) ∧ K (pc + 1) ls (.inl (x * 2 ^ y.toNat) :: st) cs sl w M)) : wp Γ μ pc ls st cs sl w M Q := by
  obtain ⟨x, y, st, rfl, ⟨h0, h1, h2, h3⟩, h⟩ := popII_ex h
  intro p e R s m args below meth c H locs lc Z C hH hL hSt hS hR
  exact lv_ishl C.1 C.2.1 hd (by rw [so_shl h0 h1 h2 h3]; exact hK _ _ _ _ _ _ _ h p e R s m args below meth c H locs lc Z C hH hL (so_push (v := .inl _) h3 (so_tail (so_tail hSt))) hS hR)
theorem r_ishr (hK : KOK Γ μ Q K) (hd : decode (mcode μ) pc = .ok (.ishr, 1)) (h : popII st (fun x y st => (0 ≤ x ∧ 0 ≤ y ∧ y < 32) ∧ K (pc + 1) ls (.inl (x / 2 ^ y.toNat) :: st) cs sl w M)) : wp Γ μ pc ls st cs sl w M Q := by
  obtain ⟨x, y, st, rfl, ⟨h0, h1, h2⟩, h⟩ := popII_ex h
  intro p e R s m args below meth c H locs lc Z C hH hL hSt hS hR
  have hx : inR x := so_head (so_tail hSt)
  have hp : (0 : Int) < 2 ^ y.toNat := Int.pow_pos (by decide)
  exact lv_ishr C.1 C.2.1 hd (by rw [so_shr hx h0 h1 h2]; exact hK _ _ _ _ _ _ _ h p e R s m args below meth c H locs lc Z C hH hL (so_push (v := .inl _) (so_divR hx h0 hp).1 (so_tail (so_tail hSt))) hS hR)
theorem r_iand (hK : KOK Γ μ Q K) (hd : decode (mcode μ) pc = .ok (.iand, 1)) (h : popII st (fun x y st => K (pc + 1) ls (.inl (andI x y) :: st) cs sl w M)) : wp Γ μ pc ls st cs sl w M Q := by
  obtain ⟨x, y, st, rfl, h⟩ := popII_ex h
  intro p e R s m args below meth c H locs lc Z C hH hL hSt hS hR
  exact lv_iand C.1 C.2.1 hd (by rw [so_and]; exact hK _ _ _ _ _ _ _ h p e R s m args below meth c H locs lc Z C hH hL (so_push (v := .inl _) (so_andR x y) (so_tail (so_tail hSt))) hS hR)
theorem r_ior (hK : KOK Γ μ Q K) (hd : decode (mcode μ) pc = .ok (.ior, 1)) (h : popII st (fun x y st => K (pc + 1) ls (.inl (orI x y) :: st) cs sl w M)) : wp Γ μ pc ls st cs sl w M Q := by
  obtain ⟨x, y, st, rfl, h⟩ := popII_ex h
  intro p e R s m args below meth c H locs lc Z C hH hL hSt hS hR
  exact lv_ior C.1 C.2.1 hd (by rw [so_or]; exact hK _ _ _ _ _ _ _ h p e R s m args below meth c H locs lc Z C hH hL (so_push (v := .inl _) (so_orR x y) (so_tail (so_tail hSt))) hS hR)
theorem r_i2l (hK : KOK Γ μ Q K) (hd : decode (mcode μ) pc = .ok (.i2l, 1)) (h : popI st (fun x st => K (pc + 1) ls (.inr (.inl x) :: st) cs sl w M)) : wp Γ μ pc ls st cs sl w M Q := by
  obtain ⟨x, st, rfl, h⟩ := popI_ex h
  intro p e R s m args below meth c H locs lc Z C hH hL hSt hS hR
  have hx : inR x := so_head hSt
  exact lv_i2l C.1 C.2.1 hd (so_i2l hx) (hK _ _ _ _ _ _ _ h p e R s m args below meth c H locs lc Z C hH hL (so_push (v := VL x) (show inRL x by omega) (so_tail hSt)) hS hR)
theorem r_lmul (hK : KOK Γ μ Q K) (hd : decode (mcode μ) pc = .ok (.lmul, 1)) (h : popLL st (fun x y st => inRL (x * y) ∧ K (pc + 1) ls (.inr (.inl (x * y)) :: st) cs sl w M)) : wp Γ μ pc ls st cs sl w M Q := by
  obtain ⟨x, y, st, rfl, hr, h⟩ := popLL_ex h
  intro p e R s m args below meth c H locs lc Z C hH hL hSt hS hR
  exact lv_lmul C.1 C.2.1 hd (by rw [← Int64.ofInt_mul]; exact hK _ _ _ _ _ _ _ h p e R s m args below meth c H locs lc Z C hH hL (so_push (v := VL _) hr (so_tail (so_tail hSt))) hS hR)
theorem r_lcmp (hK : KOK Γ μ Q K) (hd : decode (mcode μ) pc = .ok (.lcmp, 1)) (h : popLL st (fun x y st => K (pc + 1) ls (.inl (if y < x then 1 else if x = y then 0 else -1) :: st) cs sl w M)) : wp Γ μ pc ls st cs sl w M Q := by
  obtain ⟨x, y, st, rfl, h⟩ := popLL_ex h
  intro p e R s m args below meth c H locs lc Z C hH hL hSt hS hR
  have hy : inRL y := so_head hSt
  have hx : inRL x := so_head (so_tail hSt)
  exact W.lcmp C.1 C.2.1 hd (by rw [so_cmp hx hy]; exact hK _ _ _ _ _ _ _ h p e R s m args below meth c H locs lc Z C hH hL (so_push (v := .inl _) (show inR _ by split <;> (try split) <;> omega) (so_tail (so_tail hSt))) hS hR)
theorem r_dup (hK : KOK Γ μ Q K) (hd : decode (mcode μ) pc = .ok (.dup, 1)) (h : popV st (fun v st => K (pc + 1) ls (v :: v :: st) cs sl w M)) : wp Γ μ pc ls st cs sl w M Q := by
  obtain ⟨v, st, rfl, hc, h⟩ := popV_ex h
  intro p e R s m args below meth c H locs lc Z C hH hL hSt hS hR
  exact lv_dup C.1 C.2.1 hd (hc Γ) (hK _ _ _ _ _ _ _ h p e R s m args below meth c H locs lc Z C hH hL (so_push (so_head hSt) hSt) hS hR)
theorem r_dup2 (hK : KOK Γ μ Q K) (hd : decode (mcode μ) pc = .ok (.dup2, 1)) (h : popV st (fun v st => popV st (fun u st => K (pc + 1) ls (v :: u :: v :: u :: st) cs sl w M))) : wp Γ μ pc ls st cs sl w M Q := by
  obtain ⟨v, st, rfl, hc, h⟩ := popV_ex h
  obtain ⟨u, st, rfl, hc2, h⟩ := popV_ex h
  intro p e R s m args below meth c H locs lc Z C hH hL hSt hS hR
  exact lv_dup2_11 C.1 C.2.1 hd (hc Γ) (hc2 Γ) (hK _ _ _ _ _ _ _ h p e R s m args below meth c H locs lc Z C hH hL (so_push (so_head hSt) (so_push (so_head (so_tail hSt)) hSt)) hS hR)
theorem r_pop (hK : KOK Γ μ Q K) (hd : decode (mcode μ) pc = .ok (.pop, 1)) (h : popV st (fun _ st => K (pc + 1) ls st cs sl w M)) : wp Γ μ pc ls st cs sl w M Q := by
  obtain ⟨v, st, rfl, hc, h⟩ := popV_ex h
  intro p e R s m args below meth c H locs lc Z C hH hL hSt hS hR
  exact lv_pop C.1 C.2.1 hd (hc Γ) (hK _ _ _ _ _ _ _ h p e R s m args below meth c H locs lc Z C hH hL (so_tail hSt) hS hR)
theorem r_iinc {k : Nat} {n : Int} (hK : KOK Γ μ Q K) (hd : decode (mcode μ) pc = .ok (.iinc k n, 3)) (hk : k < mxl μ) (h : match getL ls k with
    | some (.inl x) => inR (x + n) ∧ K (pc + 3) (setL ls k (.inl (x + n))) st cs sl w M
    | _ => False) : wp Γ μ pc ls st cs sl w M Q := by
  split at h
  · rename_i x hx
    intro p e R s m args below meth c H locs lc Z C hH hL hSt hS hR
    obtain ⟨a1, a2, a3⟩ := hL.2.2 _ _ hx
    have hm : (k, Value.int (Int32.ofInt x)) ∈ lvR Γ (mxl μ) ls := List.mem_filterMap.mpr ⟨k, List.mem_range.mpr hk, by rw [hx]; rfl⟩
    obtain ⟨j, hj⟩ := List.getElem?_of_mem hm
    refine lv_iinc (nL := mxl μ) (v := Int32.ofInt (x + n)) C.1 C.2.1 hd (so_lvR hL) hj (by rw [← Int32.ofInt_add]) hk rfl (fun lc' hl => ?_)
    exact hK _ _ _ _ _ _ _ h.2 p e R s m args below meth c H locs lc' Z C hH (so_set (v := .inl (x + n)) hL h.1 rfl hl) hSt hS hR
  · exact h.elim
theorem r_goto {off : Int} {t : Nat} (hK : KOK Γ μ Q K) (hd : decode (mcode μ) pc = .ok (.goto off, 3)) (ht : (pc : Int) + off = (t : Nat)) (h : K t ls st cs sl w M) : wp Γ μ pc ls st cs sl w M Q := by
  intro p e R s m args below meth c H locs lc Z C hH hL hSt hS hR
  exact lv_goto C.1 C.2.1 hd ht (hK _ _ _ _ _ _ _ h p e R s m args below meth c H locs lc Z C hH hL hSt hS hR)
theorem r_icmp {q : Jvm.ClassFile.Cond} {off : Int} {t : Nat} (hK : KOK Γ μ Q K) (hd : decode (mcode μ) pc = .ok (.if_icmp q off, 3)) (ht : (pc : Int) + off = (t : Nat)) (h : popII st (fun x y st => brk q x y (K t ls st cs sl w M) (K (pc + 3) ls st cs sl w M))) : wp Γ μ pc ls st cs sl w M Q := by
  obtain ⟨x, y, st, rfl, h⟩ := popII_ex h
  intro p e R s m args below meth c H locs lc Z C hH hL hSt hS hR
  have hy : inR y := so_head hSt
  have hx : inR x := so_head (so_tail hSt)
  have go : ∀ pc', K pc' ls st cs sl w M → W p (gl Γ) e R s m args below meth c H locs cs sl Z (F0 m pc' lc (st.map (cV Γ))) := fun pc' h => hK _ _ _ _ _ _ _ h p e R s m args below meth c H locs lc Z C hH hL (so_tail (so_tail hSt)) hS hR
  cases q with
  | eq => exact lv_icmp_eq C.1 C.2.1 hd ht (fun a => go _ (h.1 ((so_eq hx hy).mp a))) (fun a => go _ (h.2 (fun b => a ((so_eq hx hy).mpr b))))
  | ne => exact lv_icmp_ne C.1 C.2.1 hd ht (fun a => go _ (h.1 (fun b => a ((so_eq hx hy).mpr b)))) (fun a => go _ (h.2 ((so_eq hx hy).mp a)))
  | lt => exact lv_icmp_lt C.1 C.2.1 hd ht (fun a => go _ (h.1 ((so_lt hx hy).mp a))) (fun a => go _ (h.2 (Int.not_lt.mp (fun b => a ((so_lt hx hy).mpr b)))))
  | ge => exact lv_icmp_ge C.1 C.2.1 hd ht (fun a => go _ (h.1 ((so_le hy hx).mp a))) (fun a => go _ (h.2 (Int.not_le.mp (fun b => a ((so_le hy hx).mpr b)))))
  | gt => exact lv_icmp_gt C.1 C.2.1 hd ht (fun a => go _ (h.1 ((so_lt hy hx).mp a))) (fun a => go _ (h.2 (Int.not_lt.mp (fun b => a ((so_lt hy hx).mpr b)))))
  | le => exact lv_icmp_le C.1 C.2.1 hd ht (fun a => go _ (h.1 ((so_le hx hy).mp a))) (fun a => go _ (h.2 (Int.not_le.mp (fun b => a ((so_le hx hy).mpr b)))))
theorem r_if {q : Jvm.ClassFile.Cond} {off : Int} {t : Nat} (hK : KOK Γ μ Q K) (hd : decode (mcode μ) pc = .ok (.ifCond q off, 3)) (ht : (pc : Int) + off = (t : Nat)) (h : popI st (fun x st => brk q x 0 (K t ls st cs sl w M) (K (pc + 3) ls st cs sl w M))) : wp Γ μ pc ls st cs sl w M Q := by
  obtain ⟨x, st, rfl, h⟩ := popI_ex h
  intro p e R s m args below meth c H locs lc Z C hH hL hSt hS hR
  have hy : inR 0 := so_0
  have hx : inR x := so_head hSt
  have go : ∀ pc', K pc' ls st cs sl w M → W p (gl Γ) e R s m args below meth c H locs cs sl Z (F0 m pc' lc (st.map (cV Γ))) := fun pc' h => hK _ _ _ _ _ _ _ h p e R s m args below meth c H locs lc Z C hH hL (so_tail hSt) hS hR
  cases q with
  | eq => exact lv_if_eq C.1 C.2.1 hd ht (fun a => go _ (h.1 ((so_eq hx hy).mp a))) (fun a => go _ (h.2 (fun b => a ((so_eq hx hy).mpr b))))
  | ne => exact lv_if_ne C.1 C.2.1 hd ht (fun a => go _ (h.1 (fun b => a ((so_eq hx hy).mpr b)))) (fun a => go _ (h.2 ((so_eq hx hy).mp a)))
  | lt => exact lv_if_lt C.1 C.2.1 hd ht (fun a => go _ (h.1 ((so_lt hx hy).mp a))) (fun a => go _ (h.2 (Int.not_lt.mp (fun b => a ((so_lt hx hy).mpr b)))))
  | ge => exact lv_if_ge C.1 C.2.1 hd ht (fun a => go _ (h.1 ((so_le hy hx).mp a))) (fun a => go _ (h.2 (Int.not_le.mp (fun b => a ((so_le hy hx).mpr b)))))
  | gt => exact lv_if_gt C.1 C.2.1 hd ht (fun a => go _ (h.1 ((so_lt hy hx).mp a))) (fun a => go _ (h.2 (Int.not_lt.mp (fun b => a ((so_lt hy hx).mpr b)))))
  | le => exact lv_if_le C.1 C.2.1 hd ht (fun a => go _ (h.1 ((so_le hx hy).mp a))) (fun a => go _ (h.2 (Int.not_le.mp (fun b => a ((so_le hx hy).mpr b)))))
theorem swT_go {x : Int} {K : Nat → Prop} : ∀ {v : Int} {ts : List Nat}, swT x K v ts → ∀ (j t : Nat), ts[j]? = some t → x = v + (j : Int) → K t
  | _, [], _, j, t, hj, _ => by cases hj
  | v, u :: ts, h, 0, t, hj, hx => by
    cases hj
    exact h.1 (by omega)
  | v, u :: ts, h, j + 1, t, hj, hx => swT_go h.2 j t hj (by omega)
theorem r_table {d lo hi : Int} {os : Array Int} {len : Nat} {aux : List Nat} (hK : KOK Γ μ Q K) (hd : decode (mcode μ) pc = .ok (.tableswitch d lo hi os, len)) (h1 : (pc : Int) + d = (aux.getD 0 0 : Nat)) (h2 : os.toList.map (fun o => (pc : Int) + o) = (aux.drop 1).map Int.ofNat) (h3 : lo + os.size = hi + 1)
    (h : popI st (fun x st => ((x < lo ∨ hi < x) → K (aux.getD 0 0) ls st cs sl w M) ∧ swT x (fun t => K t ls st cs sl w M) lo (aux.drop 1))) : wp Γ μ pc ls st cs sl w M Q := by
  obtain ⟨x, st, rfl, h⟩ := popI_ex h
  intro p e R s m args below meth c H locs lc Z C hH hL hSt hS hR
  have hx : inR x := so_head hSt
  have go : ∀ pc', K pc' ls st cs sl w M → W p (gl Γ) e R s m args below meth c H locs cs sl Z (F0 m pc' lc (st.map (cV Γ))) := fun pc' h => hK _ _ _ _ _ _ _ h p e R s m args below meth c H locs lc Z C hH hL (so_tail hSt) hS hR
  by_cases ho : x < lo ∨ hi < x
  · exact lv_tableOut C.1 C.2.1 hd (by rw [so_ofI hx]; exact ho) h1 (go _ (h.1 ho))
  · have hj : (x - lo).toNat < os.toList.length := by rw [Array.length_toList]; omega
    have e1 : (os.toList.map (fun o => (pc : Int) + o))[(x - lo).toNat]? = some ((pc : Int) + os.toList[(x - lo).toNat]) := by rw [List.getElem?_map, List.getElem?_eq_getElem hj]; rfl
    rw [h2, List.getElem?_map] at e1
    cases ht : (aux.drop 1)[(x - lo).toNat]? with
    | none => rw [ht] at e1; cases e1
    | some t =>
      rw [ht] at e1
      have e2 : (pc : Int) + os.toList[(x - lo).toNat] = (t : Int) := (Option.some.inj e1).symm
      exact lv_tableIn C.1 C.2.1 hd (by rw [so_ofI hx]; omega) (by rw [so_ofI hx]; omega) (by rw [so_ofI hx, ← Array.getElem?_toList]; exact List.getElem?_eq_getElem hj) e2 (go _ (swT_go h.2 _ t ht (by omega)))
theorem swL_go {x : Int} {K : Nat → Prop} {d : Nat} {dflt : Int} {pc : Nat} (hd : (pc : Int) + dflt = (d : Int)) : ∀ {ps : List (Int × Int)} {ts : List Nat}, swL x K d ps ts → ps.map (fun o => (pc : Int) + o.2) = ts.map Int.ofNat → ∃ t : Nat, (pc : Int) + Op.lookupswitch.offset ps dflt x = (t : Int) ∧ K t
  | [], _, h, _ => ⟨d, hd, h⟩
  | _ :: _, [], h, _ => h.elim
  | (a, o) :: ps, t :: ts, h, e => by
    rw [List.map_cons, List.map_cons] at e
    injection e with e1 e2
    rw [Op.lookupswitch.offset_cons]
    by_cases hq : a = x
    · rw [if_pos (by first | exact hq | exact hq.symm)]
      exact ⟨t, e1, h.1 hq.symm⟩
    · rw [if_neg (by first | exact hq | exact fun z => hq z.symm)]
      exact swL_go hd (h.2 (fun z => hq z.symm)) e2
theorem r_lookup {d : Int} {ps : Array (Int × Int)} {len : Nat} {aux : List Nat} (hK : KOK Γ μ Q K) (hd : decode (mcode μ) pc = .ok (.lookupswitch d ps, len)) (h1 : (pc : Int) + d = (aux.getD 0 0 : Nat)) (h2 : ps.toList.map (fun o => (pc : Int) + o.2) = (aux.drop 1).map Int.ofNat) (h3 : (ps.toList.zip (ps.toList.drop 1)).all (fun (a, next) => a.1 < next.1) = true)
    (h : popI st (fun x st => swL x (fun t => K t ls st cs sl w M) (aux.getD 0 0) ps.toList (aux.drop 1))) : wp Γ μ pc ls st cs sl w M Q := by
  obtain ⟨x, st, rfl, h⟩ := popI_ex h
  intro p e R s m args below meth c H locs lc Z C hH hL hSt hS hR
  have hx : inR x := so_head hSt
  obtain ⟨t, e1, h⟩ := swL_go h1 h h2
  exact lv_lookup C.1 C.2.1 hd h3 (by rw [so_ofI hx]) e1 (hK _ _ _ _ _ _ _ h p e R s m args below meth c H locs lc Z C hH hL (so_tail hSt) hS hR)
end Rules
end
section
/-! ===== the rules: fields and arrays ===== -/
theorem adr_ne {Γ : GG} {i a : Nat} (ha : a ≠ 0) (h : i + 1 ≠ a) : adr Γ (i + 1) ≠ adr Γ a := by
  cases a with
  | zero => exact absurd rfl ha
  | succ j =>
    show gB Γ + i ≠ gB Γ + j
    omega
theorem adr_ge {Γ : GG} {a : Nat} (ha : a ≠ 0) : gB Γ ≤ adr Γ a := by
  cases a with
  | zero => exact absurd rfl ha
  | succ j => exact Nat.le_add_right _ _
theorem cellAt_kept {Γ : GG} {kd n : Nat} {rf : Nat → Option Nat} {f : Nat → Int} {H H' : Heap} {i : Nat} (h : cellAt Γ kd n rf f H i) (e : H'[adr Γ i]? = H[adr Γ i]?) : cellAt Γ kd n rf f H' i := by
  match kd, h with
  | 0, h => exact e.trans h
  | 1, h => exact e.trans h
  | 2, h => exact e.trans h
  | 3, h => exact e.trans h
  | c + 4, ⟨r, h1, h2⟩ => exact ⟨r, h1, h2.kept e⟩
theorem HR_at {Γ : GG} {w : Wd} {M : MM} {H : Heap} {a kd : Nat} (h : HR Γ w M H) (hk : w.1 a = kd) (h1 : kd ≠ 14) (h2 : kd ≠ 15) : a ≠ 0 ∧ cellAt Γ kd (w.2.1 a) (w.2.2.1 a) (M a) H a := by
  obtain ⟨hs, hR, h15, hc, h0, -⟩ := h
  cases a with
  | zero => rw [hk] at h0; exact absurd h0 h1
  | succ i =>
    have hi : i < w.2.2.2 := Nat.lt_of_not_le fun q => h2 (by rw [← hk]; exact h15 (i + 1) (by omega))
    refine ⟨Nat.succ_ne_zero i, ?_⟩
    have := hc i hi
    rw [hk] at this
    exact this
/-- one cell changes -/
theorem HR_chg {Γ : GG} {w w' : Wd} {M M' : MM} {H H' : Heap} {a kd : Nat} (h : HR Γ w M H) (ha : a ≠ 0) (hkd : w.1 a = kd) (hz : H'.size = H.size) (ho : ∀ q, q ≠ adr Γ a → H'[q]? = H[q]?) (hn : w'.2.2.2 = w.2.2.2) (hk : w'.1 = w.1) (hl : w'.2.1 = w.2.1) (hrf : ∀ j, j ≠ a → w'.2.2.1 j = w.2.2.1 j) (hM : ∀ j, j ≠ a → M' j = M j) (hR : ∀ a k, inR (M' a k))
    (hc : cellAt Γ kd (w.2.1 a) (w'.2.2.1 a) (M' a) H' a) : HR Γ w' M' H' := by
  obtain ⟨hs, -, h15, hcs, h0, hs1, hs2, hs3⟩ := h
  refine ⟨by rw [hz, hn]; exact hs, hR, by rw [hn, hk]; exact h15, fun i hi => ?_, by rw [hk]; exact h0, by rw [hl]; exact hs1, by rw [hl]; exact hs2, fun j hj => ?_⟩
  · rw [hk, hl]
    by_cases e : i + 1 = a
    · subst e
      rw [hkd]
      exact hc
    · rw [hrf _ e, hM _ e]
      exact cellAt_kept (hcs i (by rw [← hn]; exact hi)) (ho _ (adr_ne ha e))
  · rw [hM 0 (Ne.symm ha)]
    exact hs3 j (by rw [← hl]; exact hj)
theorem upM_same (M : MM) (a k : Nat) (x : Int) : upM M a k x a = fun j => if j = k then x else M a j := by
  funext j; simp [upM]
theorem upM_ne {M : MM} {a k : Nat} {x : Int} {b : Nat} (h : b ≠ a) : upM M a k x b = M b := by
  funext j; simp [upM, h]
theorem upM_R {M : MM} {a k : Nat} {x : Int} (hM : ∀ a k, inR (M a k)) (hx : inR x) : ∀ b j, inR (upM M a k x b j) := by
  intro b j
  unfold upM
  split
  · exact hx
  · exact hM b j
theorem ar_upd (Γ : GG) (t n k : Nat) (f : Nat → Int) (x : Int) : (arI Γ t n f).setSlot k (.int (Int32.ofInt x)) = arI Γ t n (fun j => if j = k then x else f j) := by
  unfold arI
  rw [arrV_store]
  congr 1
  funext j
  by_cases e : j = k
  · simp [updV, e]
  · simp [updV, e]
section Rules
variable {Γ : GG} {μ pc : Nat} {ls : LL} {st : List AV} {cs sl : Nat} {w : Wd} {M : MM} {Q : QT} {K : KT}
theorem r_iaload (hK : KOK Γ μ Q K) (hd : decode (mcode μ) pc = .ok (.iaload, 1)) (h : popIA st (fun i a st => (w.1 a = 0 ∨ w.1 a = 14) ∧ (0 ≤ i ∧ i < w.2.1 a) ∧ K (pc + 1) ls (.inl (M a i.toNat) :: st) cs sl w M)) : wp Γ μ pc ls st cs sl w M Q := by
  obtain ⟨i, a, st, rfl, hk, hi, h⟩ := popIA_ex h
  intro p e R s m args below meth c H locs lc Z C hH hL hSt hS hR
  have hx : inR i := so_head hSt
  have hw := hK _ _ _ _ _ _ _ h p e R s m args below meth c H locs lc Z C hH hL (so_push (v := .inl (M a i.toNat)) (hH.2.1 a _) (so_tail (so_tail hSt))) hS hR
  rcases hk with hk | hk
  · obtain ⟨ha, hc⟩ := HR_at hH hk (by decide) (by decide)
    refine W.iald (v := .int (Int32.ofInt (M a i.toNat))) C.1 C.2.1 (a := adr Γ a) hc ((C.2.2.2.2.2.2.2.2.1.1.2 0 _ rfl).1 _ _) (fun q => by cases q) (by show ¬ (_ ∨ (arrV _ _ _).slots.size ≤ _); rw [arrV_size]; exact so_in hx hi) ?_ rfl rfl hd hw
    show (arrV _ _ _).slots[_]? = _
    rw [so_clamp hx hi.1, arrV_read _ _ (by omega)]
  · have ha : a = 0 := by
      apply Decidable.byContradiction
      intro q
      cases a with
      | zero => exact q rfl
      | succ j =>
        obtain ⟨hs, hR', h15, hc, h0, -⟩ := hH
        by_cases hj : j < w.2.2.2
        · have := hc j hj
          rw [hk] at this
          obtain ⟨r, hr, -⟩ := this
          cases hr
        · rw [h15 (j + 1) (by omega)] at hk
          cases hk
    subst ha
    obtain ⟨-, -, -, -, -, hs1, hs2, hs3⟩ := hH
    obtain ⟨-, -, -, -, -, -, -, -, hKF, -, hun, hb1, hb2, hb3⟩ := id C
    have hcell : H[gb Γ]? = some (gs Γ) := by
      rw [hS.2.1 (gb Γ) (Nat.lt_of_lt_of_le hb2 hb1) (Nat.not_le.mpr hb2)]
      exact hb3
    refine W.iald (v := .int (Int32.ofInt (M 0 i.toNat))) C.1 C.2.1 (a := adr Γ 0) hcell hKF.2.1 hun (by rw [hs1]; exact so_in hx hi) ?_ rfl rfl hd hw
    rw [so_clamp hx hi.1]
    exact hs3 _ (by omega)
theorem r_iastore (hK : KOK Γ μ Q K) (hd : decode (mcode μ) pc = .ok (.iastore, 1)) (h : popIIA st (fun x i a st => w.1 a = 0 ∧ (0 ≤ i ∧ i < w.2.1 a) ∧ K (pc + 1) ls st cs sl w (upM M a i.toNat x))) : wp Γ μ pc ls st cs sl w M Q := by
  obtain ⟨x, i, a, st, rfl, hk, hi, h⟩ := popIIA_ex h
  intro p e R s m args below meth c H locs lc Z C hH hL hSt hS hR
  have hx : inR x := so_head hSt
  have hj : inR i := so_head (so_tail hSt)
  obtain ⟨ha, hc⟩ := HR_at hH hk (by decide) (by decide)
  refine W.iast C.1 C.2.1 (a := adr Γ a) hc ((C.2.2.2.2.2.2.2.2.1.1.2 0 _ rfl).1 _ _) (fun q => by cases q) (by show ¬ (_ ∨ (arrV _ _ _).slots.size ≤ _); rw [arrV_size]; exact so_in hj hi) rfl rfl hd (fun H' e1 z oq => ?_)
  refine hK _ _ _ _ _ _ _ h p e R s m args below meth c H' _ lc Z C ?_ hL (so_tail (so_tail (so_tail hSt))) (hS.put z oq (adr_ge ha)) hR
  refine HR_chg hH ha hk z oq rfl rfl rfl (fun _ _ => rfl) (fun j hj => upM_ne hj) (upM_R hH.2.1 hx) ?_
  show H'[adr Γ a]? = some (arI Γ 0 _ (upM M a i.toNat x a))
  rw [e1, so_clamp hj hi.1, upM_same, ← ar_upd]
theorem r_baload (hK : KOK Γ μ Q K) (hd : decode (mcode μ) pc = .ok (.baload, 1)) (h : popIA st (fun i a st => w.1 a = 1 ∧ (0 ≤ i ∧ i < w.2.1 a) ∧ K (pc + 1) ls (.inl (M a i.toNat) :: st) cs sl w M)) : wp Γ μ pc ls st cs sl w M Q := by
  obtain ⟨i, a, st, rfl, hk, hi, h⟩ := popIA_ex h
  intro p e R s m args below meth c H locs lc Z C hH hL hSt hS hR
  have hx : inR i := so_head hSt
  have hw := hK _ _ _ _ _ _ _ h p e R s m args below meth c H locs lc Z C hH hL (so_push (v := .inl (M a i.toNat)) (hH.2.1 a _) (so_tail (so_tail hSt))) hS hR
  obtain ⟨ha, hc⟩ := HR_at hH hk (by decide) (by decide)
  refine W.zald (v := .int (Int32.ofInt (M a i.toNat))) C.1 C.2.1 (a := adr Γ a) hc ((C.2.2.2.2.2.2.2.2.1.1.2 1 _ rfl).1 _ _) (fun q => by cases q) (by show ¬ (_ ∨ (arrV _ _ _).slots.size ≤ _); rw [arrV_size]; exact so_in hx hi) ?_ rfl rfl hd hw
  show (arrV _ _ _).slots[_]? = _
  rw [so_clamp hx hi.1, arrV_read _ _ (by omega)]
theorem so_bool {x : Int} (h : x = 0 ∨ x = 1) : narrow .boolean (.int (Int32.ofInt x)) = .int (Int32.ofInt x) := by
  rcases h with rfl | rfl <;> decide +kernel
theorem so_boolF {x : Int} (h : x = 0 ∨ x = 1) : fits .boolean (.int (Int32.ofInt x)) = true := by
  rcases h with rfl | rfl <;> decide +kernel
theorem r_bastore (hK : KOK Γ μ Q K) (hd : decode (mcode μ) pc = .ok (.bastore, 1)) (h : popIIA st (fun x i a st => w.1 a = 1 ∧ (0 ≤ i ∧ i < w.2.1 a) ∧ (x = 0 ∨ x = 1) ∧ K (pc + 1) ls st cs sl w (upM M a i.toNat x))) : wp Γ μ pc ls st cs sl w M Q := by
  obtain ⟨x, i, a, st, rfl, hk, hi, h01, h⟩ := popIIA_ex h
  intro p e R s m args below meth c H locs lc Z C hH hL hSt hS hR
  have hx : inR x := so_head hSt
  have hj : inR i := so_head (so_tail hSt)
  obtain ⟨ha, hc⟩ := HR_at hH hk (by decide) (by decide)
  refine W.zast C.1 C.2.1 (a := adr Γ a) hc ((C.2.2.2.2.2.2.2.2.1.1.2 1 _ rfl).1 _ _) (fun q => by cases q) (by show ¬ (_ ∨ (arrV _ _ _).slots.size ≤ _); rw [arrV_size]; exact so_in hj hi) rfl rfl hd (fun H' e1 z oq => ?_)
  refine hK _ _ _ _ _ _ _ h p e R s m args below meth c H' _ lc Z C ?_ hL (so_tail (so_tail (so_tail hSt))) (hS.put z oq (adr_ge ha)) hR
  refine HR_chg hH ha hk z oq rfl rfl rfl (fun _ _ => rfl) (fun j hj => upM_ne hj) (upM_R hH.2.1 hx) ?_
  show H'[adr Γ a]? = some (arI Γ 1 _ (upM M a i.toNat x a))
  rw [e1, so_clamp hj hi.1, upM_same, ← ar_upd, so_bool h01]
theorem r_aaload (hK : KOK Γ μ Q K) (hd : decode (mcode μ) pc = .ok (.aaload, 1)) (h : popIA st (fun i a st => (w.1 a = 2 ∨ w.1 a = 3) ∧ (0 ≤ i ∧ i < w.2.1 a) ∧ ∃ b, w.2.2.1 a i.toNat = some b ∧ K (pc + 1) ls (.inr (.inr (some b)) :: st) cs sl w M)) : wp Γ μ pc ls st cs sl w M Q := by
  obtain ⟨i, a, st, rfl, hk, hi, b, hb, h⟩ := popIA_ex h
  intro p e R s m args below meth c H locs lc Z C hH hL hSt hS hR
  have hx : inR i := so_head hSt
  have hw := hK _ _ _ _ _ _ _ h p e R s m args below meth c H locs lc Z C hH hL (so_push (v := VR b) trivial (so_tail (so_tail hSt))) hS hR
  rcases hk with hk | hk
  · obtain ⟨ha, hc⟩ := HR_at hH hk (by decide) (by decide)
    refine W.aald (v := .ref (adr Γ b)) (ty := .array .int) C.1 C.2.1 (a := adr Γ a) hc ((C.2.2.2.2.2.2.2.2.1.1.2 2 _ rfl).1 _ _) rfl (fun q => by cases q) (by show ¬ (_ ∨ (arrV _ _ _).slots.size ≤ _); rw [arrV_size]; exact so_in hx hi) ?_ rfl rfl hd hw
    show (arrV _ _ _).slots[_]? = _
    rw [so_clamp hx hi.1, arrV_read _ _ (by omega), hb]
    rfl
  · obtain ⟨ha, hc⟩ := HR_at hH hk (by decide) (by decide)
    refine W.aald (v := .ref (adr Γ b)) (ty := .object "ShiftAdds$Graph") C.1 C.2.1 (a := adr Γ a) hc ((C.2.2.2.2.2.2.2.2.1.1.2 3 _ rfl).1 _ _) rfl (fun q => by cases q) (by show ¬ (_ ∨ (arrV _ _ _).slots.size ≤ _); rw [arrV_size]; exact so_in hx hi) ?_ rfl rfl hd hw
    show (arrV _ _ _).slots[_]? = _
    rw [so_clamp hx hi.1, arrV_read _ _ (by omega), hb]
    rfl
theorem r_arraylength (hK : KOK Γ μ Q K) (hd : decode (mcode μ) pc = .ok (.arraylength, 1)) (h : popA st (fun a st => w.1 a = 14 ∧ K (pc + 1) ls (.inl (w.2.1 a : Int) :: st) cs sl w M)) : wp Γ μ pc ls st cs sl w M Q := by
  obtain ⟨a, st, rfl, hk, h⟩ := popA_ex h
  intro p e R s m args below meth c H locs lc Z C hH hL hSt hS hR
  have ha : a = 0 := by
    apply Decidable.byContradiction
    intro q
    cases a with
    | zero => exact q rfl
    | succ j =>
      obtain ⟨hs, hR', h15, hc, h0, -⟩ := hH
      by_cases hj : j < w.2.2.2
      · have := hc j hj
        rw [hk] at this
        obtain ⟨r, hr, -⟩ := this
        cases hr
      · rw [h15 (j + 1) (by omega)] at hk
        cases hk
  subst ha
  have hlen : w.2.1 0 < 2147483648 := hH.2.2.2.2.2.2.1
  have hw := hK _ _ _ _ _ _ _ h p e R s m args below meth c H locs lc Z C hH hL (so_push (v := .inl (w.2.1 0 : Int)) (show inR _ by omega) (so_tail hSt)) hS hR
  obtain ⟨-, -, -, -, -, hs1, hs2, hs3⟩ := hH
  obtain ⟨-, -, -, -, -, -, -, -, hKF, -, hun, hb1, hb2, hb3⟩ := id C
  have hcell : H[gb Γ]? = some (gs Γ) := by
    rw [hS.2.1 (gb Γ) (Nat.lt_of_lt_of_le hb2 hb1) (Nat.not_le.mpr hb2)]
    exact hb3
  refine W.alen (n := Int32.ofInt (w.2.1 0 : Int)) C.1 C.2.1 (a := adr Γ 0) hcell hKF.2.1 ?_ rfl rfl hd hw
  rw [hs1, so_nat (by omega)]
  rfl
/-- a reference field or number field is read -/
theorem r_getfield {ix ci k fk : Nat} (hK : KOK Γ μ Q K) (hd : decode (mcode μ) pc = .ok (.getfield ix, 3)) (hci : ci < 10) (hk : k < clS ci) (hfk : fk = fkOf ci k) (hl : Jvm.Cond.fieldLink (my μ).cls ix (clT ci k).1 (clT ci k).2.1 (clT ci k).2.2.1 ∈ gdT)
    (h : popA st (fun a st => w.1 a = 4 + ci ∧ bif Nat.beq fk 2 then ∃ b, w.2.2.1 a k = some b ∧ K (pc + 3) ls (.inr (.inr (some b)) :: st) cs sl w M else K (pc + 3) ls (.inl (M a k) :: st) cs sl w M)) : wp Γ μ pc ls st cs sl w M Q := by
  obtain ⟨a, st, rfl, hkd, h⟩ := popA_ex h
  intro p e R s m args below meth c H locs lc Z C hH hL hSt hS hR
  obtain ⟨hx, hb, hr, hml, hown, hts, hlk, hnm, hKF, -⟩ := id C
  obtain ⟨ha, hc⟩ := HR_at hH hkd (by omega) (by omega)
  rw [Nat.add_comm 4 ci] at hc
  obtain ⟨r, hr1, hob⟩ := hc
  rw [cl_at ci hci] at hr1
  cases hr1
  have hP : va_P (gD Γ) vwCl [(adr Γ a, .inr (ci, (List.range (clS ci)).map (obV Γ ci (w.2.2.1 a) (M a))))] H := by
    intro j q hq
    cases j with
    | zero =>
      cases hq
      refine ⟨_, cl_at ci hci, hob.to (fun k hk => ?_)⟩
      have hk : k < clS ci := hk
      show _ = List.getD _ _ _
      rw [List.getD_eq_getElem?_getD, List.getElem?_map, List.getElem?_range hk]
      rfl
    | succ j => cases hq
  have hv : ((List.range (clS ci)).map (obV Γ ci (w.2.2.1 a) (M a)))[k]? = some (obV Γ ci (w.2.2.1 a) (M a) k) := by
    rw [List.getElem?_map, List.getElem?_range hk]
    rfl
  refine va_get (D := gD Γ) (cl := vwCl) (Ts := gdT) (C := clN ci) (T := clT ci) (N := clS ci) hx hb hts (cl_in ci hci) hown hKF.1 hP 0 rfl (cl_at ci hci) k hk (hts _ hl) (fun _ h9 => h9) hv hd ?_
  subst hfk
  unfold obV
  cases hq : Nat.beq (fkOf ci k) 2 with
  | true =>
    rw [hq] at h
    obtain ⟨b, hb2, h⟩ := h
    show W _ _ _ _ _ _ _ _ _ _ _ _ _ _ _ (F0 m (pc + 3) lc (va_rf ((w.2.2.1 a k).map (adr Γ)) :: _))
    rw [hb2]
    exact hK _ _ _ _ _ _ _ h p e R s m args below meth c H locs lc Z C hH hL (so_push (v := VR b) trivial (so_tail hSt)) hS hR
  | false =>
    rw [hq] at h
    exact hK _ _ _ _ _ _ _ h p e R s m args below meth c H locs lc Z C hH hL (so_push (v := .inl (M a k)) (hH.2.1 a k) (so_tail hSt)) hS hR
end Rules
end
section
/-! ===== the rules: fields written, cells made, the JDK's own ===== -/
section Puts
variable {Γ : GG} {μ : Nat} {p : Program} {l : Launch} {e : Env} {R : Room} {s : State} {m : MethodId} {args : Array Value} {below : List Frame} {meth : Method} {c : Code} {H : Heap} {locs : List Loc} {cells slots : Nat} {Z : State → Prop} {pc : Nat} {lc : Array Slot} {rest : List Value}
theorem so_put (C : Cx Γ μ p R s m args meth c) {ix ci k a : Nat} {V : Nat → Value} {v : Value} (hd : decode (mcode μ) pc = .ok (.putfield ix, 3)) (hci : ci < 10) (hk : k < clS ci) (hl : Jvm.Cond.fieldLink (my μ).cls ix (clT ci k).1 (clT ci k).2.1 (clT ci k).2.2.1 ∈ gdT)
    (hfin : (clT ci k).2.2.2 = true → (my μ).name = "<init>" ∧ (clT ci k).1 = (my μ).cls) (hob : t_OB a ((gD Γ).1 ci) (clS ci) ((gD Γ).2 ci) H V) (hn : narrow (clY ci k) v = v) (hfit : fits (clY ci k) v = true)
    (kk : ∀ H' : Heap, t_OB a ((gD Γ).1 ci) (clS ci) ((gD Γ).2 ci) H' (updV V k v) → H'.size = H.size → (∀ q, q ≠ a → H'[q]? = H[q]?) → W p l e R s m args below meth c H' (locs ++ [⟨a, (gD Γ).2 ci k⟩]) cells slots Z (F0 m (pc + 3) lc rest)) :
    W p l e R s m args below meth c H locs cells slots Z (F0 m pc lc (v :: .ref a :: rest)) := by
  obtain ⟨hx, hb, hr, hml, hown, hts, hlk, hnm, hKF, -⟩ := C
  have hK := hKF.1
  have hc := cl_at ci hci
  have hin := cl_in ci hci
  have hap := va_apart (own := (my μ).cls) hts hin (clY ci) (cl_ty ci hci) (cl_nm ci hci) hK hc
  obtain ⟨cell, q1, q2, q3, q4⟩ := hob
  obtain ⟨hS, hfc, kC, hkC, hkind⟩ := hK.1 ci _ hc
  obtain ⟨cf, kf, fi, f, hi, hsl⟩ := hS k hk
  have hst := (u_facts hfc hkC (u_lays hts hin hk) hi).1
  have hlay := hts _ (hin _ (u_in_lay hk))
  unfold u_lay at hlay
  cases hq : (clT ci k).2.2.2 with
  | false =>
    rw [if_neg (by rw [hq]; decide)] at hlay
    have h6 := u_store hfc hkC hkind hlay hi (cl_ty ci hci k hk) hn hfit
    refine W.putK hx hb (f := f) ⟨hown, hts _ hl, ⟨_, _, _, hi⟩, hst⟩ (by rw [q2]; exact h6) q1 q3 (by rw [hsl]; exact k2_hasslot (q4 k hk)) rfl rfl hd fun H' e1 e2 e3 => ?_
    rw [hsl] at e1 ⊢
    exact kk H' ⟨_, e1, q2, q3, t_set q4 hap hk v⟩ e2 e3
  | true =>
    rw [if_pos hq] at hlay
    obtain ⟨hi1, hdecl⟩ := hfin hq
    have hcf : m.cls = cf := by
      obtain ⟨_, _, c', _, _, _, -, -, hf', -, -, -, hown2, -⟩ := Cond.laysFinal_spec hlay
      have e1 : c' = cf := by have := hi.symm.trans hf'; simp at this; exact this.1.symm
      rw [hdecl] at hown2
      rw [← e1]; exact Option.some.inj (hown.symm.trans hown2)
    have h6 := u_fits hfc hkC hkind (Or.inr hlay) hi (cl_ty ci hci k hk) hn hfit
    refine W.putFinK hx hb hown (hts _ hl) hi hst hcf (hnm hi1) (by rw [q2]; exact h6) q1 q3 (by rw [hsl]; exact k2_hasslot (q4 k hk)) rfl rfl hd fun H' e1 e2 e3 => ?_
    rw [hsl] at e1 ⊢
    exact kk H' ⟨_, e1, q2, q3, t_set q4 hap hk v⟩ e2 e3
end Puts
theorem va_S_new {A : Nat → Prop} {H0 H H' : Heap} {locs : List Loc} (h : va_S A H0 H locs) (hz : H.size ≤ H'.size) (ho : ∀ q, q < H.size → H'[q]? = H[q]?) : va_S A H0 H' locs :=
  ⟨Nat.le_trans h.1 hz, fun q h1 h2 => (ho q (Nat.lt_of_lt_of_le h1 h.1)).trans (h.2.1 q h1 h2), h.2.2⟩
theorem adr_lt {Γ : GG} {w : Wd} {M : MM} {H : Heap} (h : HR Γ w M H) {i : Nat} (hi : i < w.2.2.2) : adr Γ (i + 1) < H.size := by
  rw [h.1]
  show gB Γ + i < _
  omega
/-- one cell comes -/
theorem HR_new {Γ : GG} {w : Wd} {M M' : MM} {H H' : Heap} {kd ln : Nat} (h : HR Γ w M H) (hz : H'.size = H.size + 1) (ho : ∀ q, q < H.size → H'[q]? = H[q]?) (hM : ∀ j, j ≠ w.2.2.2 + 1 → M' j = M j) (hR : ∀ a k, inR (M' a k))
    (hc : cellAt Γ kd ln (fun _ => none) (M' (w.2.2.2 + 1)) H' (w.2.2.2 + 1)) : HR Γ (nwW w kd ln) M' H' := by
  have h9 := h
  obtain ⟨hs, -, h15, hcs, h0, hs1, hs2, hs3⟩ := h
  have n0 : ¬ (0 = w.2.2.2 + 1) := by omega
  refine ⟨?_, hR, fun a ha => ?_, fun i hi => ?_, ?_, ?_, ?_, fun j hj => ?_⟩
  · show H'.size = gB Γ + (w.2.2.2 + 1)
    rw [hz, hs]; omega
  · have ha : w.2.2.2 + 1 < a := ha
    show upN w.1 (w.2.2.2 + 1) kd a = 15
    unfold upN
    rw [if_neg (by omega)]
    exact h15 a (by omega)
  · have hi : i < w.2.2.2 + 1 := hi
    show cellAt Γ (upN w.1 (w.2.2.2 + 1) kd (i + 1)) (upN w.2.1 (w.2.2.2 + 1) ln (i + 1)) (upN w.2.2.1 (w.2.2.2 + 1) (fun _ => none) (i + 1)) (M' (i + 1)) H' (i + 1)
    unfold upN
    by_cases e : i = w.2.2.2
    · subst e
      rw [if_pos rfl, if_pos rfl, if_pos rfl]
      exact hc
    · rw [if_neg (by omega), if_neg (by omega), if_neg (by omega), hM _ (by omega)]
      exact cellAt_kept (hcs i (by omega)) (ho _ (adr_lt h9 (by omega)))
  · show upN w.1 (w.2.2.2 + 1) kd 0 = 14
    unfold upN
    rw [if_neg n0]; exact h0
  · show _ = upN w.2.1 (w.2.2.2 + 1) ln 0
    unfold upN
    rw [if_neg n0]; exact hs1
  · show upN w.2.1 (w.2.2.2 + 1) ln 0 < _
    unfold upN
    rw [if_neg n0]; exact hs2
  · have hj : j < upN w.2.1 (w.2.2.2 + 1) ln 0 := hj
    unfold upN at hj
    rw [if_neg n0] at hj
    rw [hM 0 n0]
    exact hs3 j hj
theorem zrM_R {M : MM} {a : Nat} (hM : ∀ a k, inR (M a k)) : ∀ b j, inR (zrM M a b j) := by
  intro b j
  unfold zrM
  split
  · exact so_0
  · exact hM b j
theorem zrM_ne {M : MM} {a b : Nat} (h : b ≠ a) : zrM M a b = M b := by
  funext j; simp [zrM, h]
theorem zrM_same {M : MM} {a : Nat} : zrM M a a = fun _ => 0 := by
  funext j; simp [zrM]
section Rules
variable {Γ : GG} {μ pc : Nat} {ls : LL} {st : List AV} {cs sl : Nat} {w : Wd} {M : MM} {Q : QT} {K : KT}
theorem r_putfield {ix ci k fk : Nat} (hK : KOK Γ μ Q K) (hd : decode (mcode μ) pc = .ok (.putfield ix, 3)) (hci : ci < 10) (hk : k < clS ci) (hfk : fk = fkOf ci k) (hl : Jvm.Cond.fieldLink (my μ).cls ix (clT ci k).1 (clT ci k).2.1 (clT ci k).2.2.1 ∈ gdT)
    (hfin : (clT ci k).2.2.2 = true → (my μ).name = "<init>" ∧ (clT ci k).1 = (my μ).cls)
    (h : bif Nat.beq fk 2 then popAA st (fun b a st => w.1 a = 4 + ci ∧ K (pc + 3) ls st cs sl (rfW w a k (some b)) M)
    else popIA st (fun x a st => w.1 a = 4 + ci ∧ bif Nat.beq fk 1 then (x = 0 ∨ x = 1) ∧ K (pc + 3) ls st cs sl w (upM M a k x) else K (pc + 3) ls st cs sl w (upM M a k x))) : wp Γ μ pc ls st cs sl w M Q := by
  rcases fk_cases (cl_fk ci hci k hk) with ⟨f1, f2⟩ | ⟨f1, f2⟩ | ⟨f1, f2⟩
  · rw [hfk, f1] at h
    obtain ⟨x, a, st, rfl, hkd, h⟩ := popIA_ex h
    have h : K (pc + 3) ls st cs sl w (upM M a k x) := h
    intro p e R s m args below meth c H locs lc Z C hH hL hSt hS hR
    have hx : inR x := so_head hSt
    obtain ⟨ha, hc⟩ := HR_at hH hkd (by omega) (by omega)
    rw [Nat.add_comm 4 ci] at hc
    obtain ⟨r, hr1, hob⟩ := hc
    rw [cl_at ci hci] at hr1
    cases hr1
    refine so_put C hd hci hk hl hfin hob (by rw [f2]; rfl) (by rw [f2]; rfl) (fun H' o1 z oq => ?_)
    refine hK _ _ _ _ _ _ _ h p e R s m args below meth c H' _ lc Z C ?_ hL (so_tail (so_tail hSt)) (hS.put z oq (adr_ge ha)) hR
    refine HR_chg hH ha hkd z oq rfl rfl rfl (fun _ _ => rfl) (fun j hj => upM_ne hj) (upM_R hH.2.1 hx) ?_
    rw [Nat.add_comm 4 ci, upM_same]
    refine ⟨_, cl_at ci hci, o1.to (fun j hj => ?_)⟩
    by_cases e9 : j = k
    · subst e9
      unfold obV updV; rw [if_pos rfl, f1]; simp; rfl
    · simp [updV, obV, e9]
  · rw [hfk, f1] at h
    obtain ⟨x, a, st, rfl, hkd, h01, h⟩ := popIA_ex h
    intro p e R s m args below meth c H locs lc Z C hH hL hSt hS hR
    have hx : inR x := so_head hSt
    obtain ⟨ha, hc⟩ := HR_at hH hkd (by omega) (by omega)
    rw [Nat.add_comm 4 ci] at hc
    obtain ⟨r, hr1, hob⟩ := hc
    rw [cl_at ci hci] at hr1
    cases hr1
    refine so_put C hd hci hk hl hfin hob (by rw [f2]; exact so_bool h01) (by rw [f2]; exact so_boolF h01) (fun H' o1 z oq => ?_)
    refine hK _ _ _ _ _ _ _ h p e R s m args below meth c H' _ lc Z C ?_ hL (so_tail (so_tail hSt)) (hS.put z oq (adr_ge ha)) hR
    refine HR_chg hH ha hkd z oq rfl rfl rfl (fun _ _ => rfl) (fun j hj => upM_ne hj) (upM_R hH.2.1 hx) ?_
    rw [Nat.add_comm 4 ci, upM_same]
    refine ⟨_, cl_at ci hci, o1.to (fun j hj => ?_)⟩
    by_cases e9 : j = k
    · subst e9
      unfold obV updV; rw [if_pos rfl, f1]; simp; rfl
    · simp [updV, obV, e9]
  · rw [hfk, f1] at h
    obtain ⟨b, a, st, rfl, hkd, h⟩ := popAA_ex h
    intro p e R s m args below meth c H locs lc Z C hH hL hSt hS hR
    obtain ⟨ha, hc⟩ := HR_at hH hkd (by omega) (by omega)
    rw [Nat.add_comm 4 ci] at hc
    obtain ⟨r, hr1, hob⟩ := hc
    rw [cl_at ci hci] at hr1
    cases hr1
    refine so_put C hd hci hk hl hfin hob (v := .ref (adr Γ b)) (by rcases f2 with ⟨n, f2⟩ | ⟨n, f2⟩ <;> (rw [f2]; rfl)) (by rcases f2 with ⟨n, f2⟩ | ⟨n, f2⟩ <;> (rw [f2]; rfl)) (fun H' o1 z oq => ?_)
    refine hK _ _ _ _ _ _ _ h p e R s m args below meth c H' _ lc Z C ?_ hL (so_tail (so_tail hSt)) (hS.put z oq (adr_ge ha)) hR
    refine HR_chg hH ha hkd z oq rfl rfl rfl (fun j hj => ?_) (fun j hj => rfl) hH.2.1 ?_
    · funext q
      show upR w.2.2.1 a k (some b) j q = _
      unfold upR
      rw [if_neg (fun z => hj z.1)]
    rw [Nat.add_comm 4 ci]
    refine ⟨_, cl_at ci hci, o1.to (fun j hj => ?_)⟩
    by_cases e9 : j = k
    · subst e9
      unfold obV updV rfW upR; rw [if_pos rfl, f1]; simp [va_rf]
    · simp [updV, obV, e9, rfW, upR]
theorem r_aastore (hK : KOK Γ μ Q K) (hd : decode (mcode μ) pc = .ok (.aastore, 1)) (h : popAIA st (fun b i a st => w.1 a = 3 ∧ w.1 b = 5 ∧ (0 ≤ i ∧ i < w.2.1 a) ∧ K (pc + 1) ls st cs sl (rfW w a i.toNat (some b)) M)) : wp Γ μ pc ls st cs sl w M Q := by
  obtain ⟨b, i, a, st, rfl, hka, hkb, hi, h⟩ := popAIA_ex h
  intro p e R s m args below meth c H locs lc Z C hH hL hSt hS hR
  have hx : inR i := so_head (so_tail hSt)
  obtain ⟨ha, hc⟩ := HR_at hH hka (by decide) (by decide)
  obtain ⟨hb, r, hr1, cellV, g1, g2, g3, -⟩ := HR_at hH hkb (by decide) (by decide)
  have hK9 := C.2.2.2.2.2.2.2.2.1.1
  have hcls := (hK9.1 1 _ rfl).2
  obtain ⟨kA, comp, k1, k2, k3, -⟩ := (hK9.2 3 _ rfl).2
  have hcomp : comp = (gD Γ).1 1 := Option.some.inj (k3.symm.trans hcls.1)
  subst hcomp
  obtain ⟨kC, hkC, -⟩ := hcls.2
  refine W.aast C.1 C.2.1 (a := adr Γ a) (v := adr Γ b) hc (fun q h => by cases h) (fun h => by cases h) k1 k2 rfl hkC ⟨fun q => so_in hx hi (Or.inl q), ?_⟩ g1 (fun q h => by rw [g3] at h; cases h) (by rw [g2]; exact hkC) (by rw [g2]; exact va_assign hcls) rfl rfl hd fun H' e1 z oq => ?_
  · show _ < (arrV _ _ _).slots.size
    rw [arrV_size, so_clamp hx hi.1]
    omega
  refine hK _ _ _ _ _ _ _ h p e R s m args below meth c H' _ lc Z C ?_ hL (so_tail (so_tail (so_tail hSt))) (hS.put z oq (adr_ge ha)) hR
  refine HR_chg hH ha hka z oq rfl rfl rfl (fun j hj => ?_) (fun j hj => rfl) hH.2.1 ?_
  · funext q
    show upR w.2.2.1 a i.toNat (some b) j q = _
    unfold upR
    rw [if_neg (fun z => hj z.1)]
  show H'[adr Γ a]? = some (arR Γ 3 _ _)
  rw [e1]
  unfold arR
  rw [arrV_store, so_clamp hx hi.1]
  congr 2
  funext q
  by_cases e9 : q = i.toNat
  · subst e9
    simp [updV, rfW, upR, va_rf]
  · simp [updV, e9, rfW, upR]
theorem r_new {ix ci N : Nat} (hK : KOK Γ μ Q K) (hd : decode (mcode μ) pc = .ok (.new ix, 3)) (hci : ci < 10) (hN : N = clS ci) (h1 : Jvm.Cond.classLink (my μ).cls ix (clN ci) ∈ gdT) (h2 : Jvm.Cond.instantiable (clN ci) N ∈ gdT) (h3 : Jvm.Cond.initialized (clN ci) ∈ gdT)
    (h : gd (rmk μ (cs + 1) (sl + N)) (K (pc + 3) ls (.inr (.inr (some (w.2.2.2 + 1))) :: st) (cs + 1) (sl + N) (nwW w (4 + ci) 0) (zrM M (w.2.2.2 + 1)))) : wp Γ μ pc ls st cs sl w M Q := by
  obtain ⟨hg, h⟩ := gd_ex h
  obtain ⟨hg1, hg2⟩ := rmk_le hg
  intro p e R s m args below meth c H locs lc Z C hH hL hSt hS hR
  obtain ⟨hx, hb, hr, hml, hown, hts, hlk, hnm, hKF, ⟨-, -, hrc, hrs⟩, -⟩ := id C
  have hKn := hKF.1.1 ci _ (cl_at ci hci)
  refine W.newcK hx hb hown (hts _ h1) (hts _ h2) (hts _ h3) rfl hd (by omega) (by omega) hKn.2.1 rfl fun H' kC hkC e1 z o => ?_
  have e9 : H.size = adr Γ (w.2.2.2 + 1) := hH.1
  have hw := hK _ _ _ _ _ _ _ h p e R s m args below meth c H' locs lc Z C (HR_new hH z o (fun j hj => zrM_ne hj) (zrM_R hH.2.1) ?_) hL (so_push (v := VR (w.2.2.2 + 1)) trivial hSt) (va_S_new hS (by omega) o) hR
  · rw [e9]
    exact hw
  · rw [Nat.add_comm 4 ci, zrM_same]
    rw [e9] at e1
    refine ⟨_, cl_at ci hci, (u_born (clY ci) hts (cl_in ci hci) hKn hkC e1 (cl_ty ci hci)).to (fun j hj => ?_)⟩
    rcases fk_cases (cl_fk ci hci j hj) with ⟨f1, f2⟩ | ⟨f1, f2⟩ | ⟨f1, f2⟩
    · unfold obV; rw [f2, f1]; rfl
    · unfold obV; rw [f2, f1]; rfl
    · rcases f2 with ⟨n, f2⟩ | ⟨n, f2⟩ <;> (unfold obV; rw [f2, f1]; rfl)
theorem r_newarray {t : ArrayType} (hK : KOK Γ μ Q K) (hd : decode (mcode μ) pc = .ok (.newarray t, 2)) (h1 : Jvm.Cond.arrayClass (newarray.typeOf t) ∈ gdT) (h2 : t = .int ∨ t = .boolean)
    (h : popI st (fun x st => (0 ≤ x ∧ x ≤ 100000) ∧ gd (rmk μ (cs + 1) (sl + x.toNat)) (K (pc + 2) ls (.inr (.inr (some (w.2.2.2 + 1))) :: st) (cs + 1) (sl + x.toNat) (nwW w (akd t) x.toNat) (zrM M (w.2.2.2 + 1))))) : wp Γ μ pc ls st cs sl w M Q := by
  obtain ⟨x, st, rfl, hxx, h⟩ := popI_ex h
  obtain ⟨hg, h⟩ := gd_ex h
  obtain ⟨hg1, hg2⟩ := rmk_le hg
  intro p e R s m args below meth c H locs lc Z C hH hL hSt hS hR
  have hx0 : inR x := so_head hSt
  obtain ⟨hx, hb, hr, hml, hown, hts, hlk, hnm, hKF, ⟨-, -, hrc, hrs⟩, -⟩ := id C
  have e9 : H.size = adr Γ (w.2.2.2 + 1) := hH.1
  refine va_newaK (g := F0 m pc lc (.int (Int32.ofInt x) :: st.map (cV Γ))) hx hb (hts _ h1) rfl hd rfl (by rw [show (0 : Int32) = Int32.ofInt 0 from rfl, so_lt hx0 so_0]; omega) (so_clamp hx0 hxx.1) (by rcases h2 with rfl | rfl <;> (show x.toNat * _ ≤ _; simp only [newarray.typeOf, componentBytes]; omega)) (by omega) (by omega) rfl (fun H' cA e1 z o hAr hNm => ?_)
  have hw := hK _ _ _ _ _ _ _ h p e R s m args below meth c H' locs lc Z C (HR_new hH z o (fun j hj => zrM_ne hj) (zrM_R hH.2.1) ?_) hL (so_push (v := VR (w.2.2.2 + 1)) trivial (so_tail hSt)) (va_S_new hS (by omega) o) hR
  · show W _ _ _ _ _ _ _ _ _ _ _ _ _ _ _ (F0 m (pc + 2) lc (.ref H.size :: _))
    rw [e9]
    exact hw
  · rw [zrM_same]
    rw [e9] at e1
    rcases h2 with rfl | rfl
    · have hc0 : some (gA Γ 0) = some cA := (hKF.1.2 0 _ rfl).2.symm.trans hNm
      cases hc0
      exact e1
    · have hc0 : some (gA Γ 1) = some cA := (hKF.1.2 1 _ rfl).2.symm.trans hNm
      cases hc0
      exact e1
theorem r_anewarray {ix : Nat} (hK : KOK Γ μ Q K) (hd : decode (mcode μ) pc = .ok (.anewarray ix, 3)) (h1 : Jvm.Cond.classLink (my μ).cls ix "ShiftAdds$Graph" ∈ gdT)
    (h : popI st (fun x st => (0 ≤ x ∧ x ≤ 100000) ∧ gd (rmk μ (cs + 1) (sl + x.toNat)) (K (pc + 3) ls (.inr (.inr (some (w.2.2.2 + 1))) :: st) (cs + 1) (sl + x.toNat) (nwW w 3 x.toNat) M))) : wp Γ μ pc ls st cs sl w M Q := by
  obtain ⟨x, st, rfl, hxx, h⟩ := popI_ex h
  obtain ⟨hg, h⟩ := gd_ex h
  obtain ⟨hg1, hg2⟩ := rmk_le hg
  intro p e R s m args below meth c H locs lc Z C hH hL hSt hS hR
  have hx0 : inR x := so_head hSt
  obtain ⟨hx, hb, hr, hml, hown, hts, hlk, hnm, hKF, ⟨-, -, hrc, hrs⟩, -⟩ := id C
  have e9 : H.size = adr Γ (w.2.2.2 + 1) := hH.1
  have ec := so_clamp hx0 hxx.1
  refine W.anew (g := F0 m pc lc (.int (Int32.ofInt x) :: st.map (cV Γ))) hx hb hown (hts _ h1) (va_AO.use hKF.2.2.2) rfl hd rfl (by rw [show (0 : Int32) = Int32.ofInt 0 from rfl, so_lt hx0 so_0]; omega) (by rw [ec]; omega) (by omega) (by rw [ec]; omega) fun cA kA comp f1 f2 f3 f4 => ?_
  rw [ec]
  generalize hH1 : H.push ({ cls := cA, slots := Array.replicate x.toNat .null, vm := .none } : Cell) = H'
  have z1 : H'.size = H.size + 1 := by rw [← hH1, Array.size_push]
  have e1 : H'[H.size]? = some (arrV cA x.toNat (fun _ => .null)) := by rw [← hH1, Array.getElem?_push_size, ← arrV_new]
  have o1 : ∀ q : Nat, q < H.size → H'[q]? = H[q]? := fun q hq => by rw [← hH1, Array.getElem?_push, if_neg (Nat.ne_of_lt hq)]
  have hw := hK _ _ _ _ _ _ _ h p e R s m args below meth c H' locs lc Z C (HR_new hH z1 o1 (fun j hj => rfl) hH.2.1 ?_) hL (so_push (v := VR (w.2.2.2 + 1)) trivial (so_tail hSt)) (va_S_new hS (by omega) o1) hR
  · show W _ _ _ _ _ _ _ _ _ _ _ _ _ _ _ (F0 m (pc + 3) lc (.ref H.size :: _))
    rw [e9]
    exact hw
  · rw [e9] at e1
    obtain ⟨kA', comp', -, -, -, k4⟩ := (hKF.1.2 3 _ rfl).2
    have hc0 : some (gA Γ 3) = some cA := k4.symm.trans f1
    cases hc0
    exact e1
theorem r_max {ix : Nat} (hK : KOK Γ μ Q K) (hd : decode (mcode μ) pc = .ok (.invokestatic ix, 3)) (hdp : 1 ≤ mdp μ) (h1 : Jvm.Cond.methodLink (my μ).cls ix Lib.Math.max.name ∈ gdT) (h2 : Jvm.Cond.static Lib.Math.max.name ∈ gdT) (h3 : Jvm.Cond.code Lib.Math.max.name Lib.Math.max.code 2 (some .int) ∈ gdT) (h4 : Jvm.Cond.initialized "java/lang/Math" ∈ gdT)
    (h : popII st (fun x y st => gd (Nat.ble (cats st) 8 && rmk μ cs sl) (K (pc + 3) ls (.inl (max x y) :: st) cs sl w M))) : wp Γ μ pc ls st cs sl w M Q := by
  obtain ⟨x, y, st, rfl, h⟩ := popII_ex h
  obtain ⟨hg, h⟩ := gd_ex h
  rw [Bool.and_eq_true] at hg
  obtain ⟨hg1, hg2⟩ := rmk_le hg.2
  have hg0 := Nat.le_of_ble_eq_true hg.1
  intro p e R s m args below meth c H locs lc Z C hH hL hSt hS hR
  have hy : inR y := so_head hSt
  have hx : inR x := so_head (so_tail hSt)
  obtain ⟨hx9, hb, hr, hml, hown, hts, hlk, hnm, hKF, ⟨hfr, hlo, hrc, hrs⟩, -⟩ := id C
  refine va_mmax hx9 hb (by rw [hml, hL.1]) hown (hts _ h1) (hts _ h2) (hts _ h4) (hts _ h3) (by omega) (by have := so_cats Γ st; omega) (by omega) (by omega) hd ?_
  have hw := hK _ _ _ _ _ _ _ h p e R s m args below meth c H locs lc Z C hH hL (so_push (v := .inl (max x y)) (show inR _ by omega) (so_tail (so_tail hSt))) hS hR
  have e9 : (if Int32.ofInt x < Int32.ofInt y then Int32.ofInt y else Int32.ofInt x) = Int32.ofInt (max x y) := by
    by_cases q : x < y
    · rw [if_pos ((so_lt hx hy).mpr q), show max x y = y by omega]
    · rw [if_neg (fun z => q ((so_lt hx hy).mp z)), show max x y = x by omega]
  rw [e9]
  exact hw
theorem r_min {ix : Nat} (hK : KOK Γ μ Q K) (hd : decode (mcode μ) pc = .ok (.invokestatic ix, 3)) (hdp : 1 ≤ mdp μ) (h1 : Jvm.Cond.methodLink (my μ).cls ix Lib.Math.min.name ∈ gdT) (h2 : Jvm.Cond.static Lib.Math.min.name ∈ gdT) (h3 : Jvm.Cond.code Lib.Math.min.name Lib.Math.min.code 2 (some .int) ∈ gdT) (h4 : Jvm.Cond.initialized "java/lang/Math" ∈ gdT)
    (h : popII st (fun x y st => gd (Nat.ble (cats st) 8 && rmk μ cs sl) (K (pc + 3) ls (.inl (min x y) :: st) cs sl w M))) : wp Γ μ pc ls st cs sl w M Q := by
  obtain ⟨x, y, st, rfl, h⟩ := popII_ex h
  obtain ⟨hg, h⟩ := gd_ex h
  rw [Bool.and_eq_true] at hg
  obtain ⟨hg1, hg2⟩ := rmk_le hg.2
  have hg0 := Nat.le_of_ble_eq_true hg.1
  intro p e R s m args below meth c H locs lc Z C hH hL hSt hS hR
  have hy : inR y := so_head hSt
  have hx : inR x := so_head (so_tail hSt)
  obtain ⟨hx9, hb, hr, hml, hown, hts, hlk, hnm, hKF, ⟨hfr, hlo, hrc, hrs⟩, -⟩ := id C
  refine va_mmin hx9 hb (by rw [hml, hL.1]) hown (hts _ h1) (hts _ h2) (hts _ h4) (hts _ h3) (by omega) (by have := so_cats Γ st; omega) (by omega) (by omega) hd ?_
  have hw := hK _ _ _ _ _ _ _ h p e R s m args below meth c H locs lc Z C hH hL (so_push (v := .inl (min x y)) (show inR _ by omega) (so_tail (so_tail hSt))) hS hR
  have e9 : (if Int32.ofInt y < Int32.ofInt x then Int32.ofInt y else Int32.ofInt x) = Int32.ofInt (min x y) := by
    by_cases q : y < x
    · rw [if_pos ((so_lt hy hx).mpr q), show min x y = y by omega]
    · rw [if_neg (fun z => q ((so_lt hy hx).mp z)), show min x y = x by omega]
  rw [e9]
  exact hw
theorem r_abs {ix : Nat} (hK : KOK Γ μ Q K) (hd : decode (mcode μ) pc = .ok (.invokestatic ix, 3)) (hdp : 1 ≤ mdp μ) (h1 : Jvm.Cond.methodLink (my μ).cls ix Lib.Math.abs.name ∈ gdT) (h2 : Jvm.Cond.static Lib.Math.abs.name ∈ gdT) (h3 : Jvm.Cond.code Lib.Math.abs.name Lib.Math.abs.code 1 (some .int) ∈ gdT) (h4 : Jvm.Cond.initialized "java/lang/Math" ∈ gdT)
    (h : popI st (fun x st => gd (Nat.ble (cats st) 8 && rmk μ cs sl) (inR (-x) ∧ K (pc + 3) ls (.inl (if x < 0 then -x else x) :: st) cs sl w M))) : wp Γ μ pc ls st cs sl w M Q := by
  obtain ⟨x, st, rfl, h⟩ := popI_ex h
  obtain ⟨hg, hxr, h⟩ := gd_ex h
  rw [Bool.and_eq_true] at hg
  obtain ⟨hg1, hg2⟩ := rmk_le hg.2
  have hg0 := Nat.le_of_ble_eq_true hg.1
  intro p e R s m args below meth c H locs lc Z C hH hL hSt hS hR
  have hx : inR x := so_head hSt
  obtain ⟨hx9, hb, hr, hml, hown, hts, hlk, hnm, hKF, ⟨hfr, hlo, hrc, hrs⟩, -⟩ := id C
  refine va_mabs hx9 hb (by rw [hml, hL.1]) hown (hts _ h1) (hts _ h2) (hts _ h4) (hts _ h3) (by omega) (by have := so_cats Γ st; omega) (by omega) (by omega) hd ?_
  have hw := hK _ _ _ _ _ _ _ h p e R s m args below meth c H locs lc Z C hH hL (so_push (v := .inl (if x < 0 then -x else x)) (show inR _ by split <;> omega) (so_tail hSt)) hS hR
  have e9 : (if 0 ≤ Int32.ofInt x then Int32.ofInt x else 0 - Int32.ofInt x) = Int32.ofInt (if x < 0 then -x else x) := by
    by_cases q : x < 0
    · rw [if_neg (fun z => by have := (so_le so_0 hx).mp z; omega), if_pos q, Int32.ofInt_neg, Int32.zero_sub]
    · rw [if_pos (show (0 : Int32) ≤ Int32.ofInt x from (so_le so_0 hx).mpr (by omega)), if_neg q]
  rw [e9]
  exact hw
theorem r_objInit {ix : Nat} (hK : KOK Γ μ Q K) (hd : decode (mcode μ) pc = .ok (.invokespecial ix, 3)) (hdp : 1 ≤ mdp μ) (h1 : Jvm.Cond.methodLink (my μ).cls ix objectInit ∈ gdT) (h2 : Jvm.Cond.instanceMethod objectInit ∈ gdT) (h3 : Jvm.Cond.code objectInit ⟨#[0xb1]⟩ 1 none ∈ gdT)
    (h : popA st (fun _ st => gd (Nat.ble (cats st) 8 && rmk μ cs sl) (K (pc + 3) ls st cs sl w M))) : wp Γ μ pc ls st cs sl w M Q := by
  obtain ⟨a, st, rfl, h⟩ := popA_ex h
  obtain ⟨hg, h⟩ := gd_ex h
  rw [Bool.and_eq_true] at hg
  have hg0 := Nat.le_of_ble_eq_true hg.1
  intro p e R s m args below meth c H locs lc Z C hH hL hSt hS hR
  obtain ⟨hx9, hb, hr, hml, hown, hts, hlk, hnm, hKF, ⟨hfr, hlo, hrc, hrs⟩, -⟩ := id C
  refine W.objInit (g := F0 m pc lc (.ref (adr Γ a) :: st.map (cV Γ))) hx9 hb hown (hts _ h1) (hts _ h2) (hts _ h3) rfl (by rw [hml]; exact hL.1) rfl hd (by omega) (by show 2 * 0 + _ + 12 ≤ _; have := so_cats Γ st; omega) ?_
  exact hK _ _ _ _ _ _ _ h p e R s m args below meth c H locs lc Z C hH hL (so_tail hSt) hS hR
end Rules
end
section
/-! ===== the rules: arraycopy, returns, calls ===== -/
theorem cpM_b (M : MM) (a b n : Nat) : cpM M a b n b = va_cpy (M a) (M b) 0 0 n := by
  funext k
  simp [cpM, va_cpy]
theorem cpM_ne {M : MM} {a b n j : Nat} (h : j ≠ b) : cpM M a b n j = M j := by
  funext k
  simp [cpM, h]
theorem cpM_R {M : MM} {a b n : Nat} (hM : ∀ a k, inR (M a k)) : ∀ c j, inR (cpM M a b n c j) := by
  intro c j
  unfold cpM
  split <;> exact hM _ _
section Rules
variable {Γ : GG} {μ pc : Nat} {ls : LL} {st : List AV} {cs sl : Nat} {w : Wd} {M : MM} {Q : QT} {K : KT}
theorem r_copy {ix : Nat} (hK : KOK Γ μ Q K) (hd : decode (mcode μ) pc = .ok (.invokestatic ix, 3)) (hdp : 1 ≤ mdp μ) (h1 : Jvm.Cond.methodLink (my μ).cls ix arraycopyName ∈ gdT) (h2 : Jvm.Cond.static arraycopyName ∈ gdT) (h3 : Jvm.Cond.native arraycopyName ∈ gdT) (h4 : Jvm.Cond.initialized "java/lang/System" ∈ gdT)
    (h : popC st (fun a sp b dp n st => gd (Nat.ble (cats st) 8 && rmk μ cs sl) ((w.1 a = 0 ∧ w.1 b = 0) ∧ (sp = 0 ∧ dp = 0 ∧ 0 ≤ n ∧ n ≤ w.2.1 a ∧ n ≤ w.2.1 b) ∧ K (pc + 3) ls st cs sl w (cpM M a b n.toNat)))) : wp Γ μ pc ls st cs sl w M Q := by
  obtain ⟨a, sp, b, dp, n, st, rfl, h⟩ := popC_ex h
  obtain ⟨hg, ⟨hka, hkb⟩, ⟨rfl, rfl, hn0, hna, hnb⟩, h7⟩ := gd_ex h
  rw [Bool.and_eq_true] at hg
  have hg0 := Nat.le_of_ble_eq_true hg.1
  intro p e R s m args below meth c H locs lc Z C hH hL hSt hS hR
  have hn : inR n := so_head hSt
  obtain ⟨hx9, hb, hr, hml, hown, hts, hlk, hnm, hKF, ⟨hfr, hlo, hrc, hrs⟩, -⟩ := id C
  obtain ⟨ha, hca⟩ := HR_at hH hka (by decide) (by decide)
  obtain ⟨hb0, hcb⟩ := HR_at hH hkb (by decide) (by decide)
  have hca : H[adr Γ a]? = some (arI Γ 0 (w.2.1 a) (M a)) := hca
  have hcb : H[adr Γ b]? = some (arI Γ 0 (w.2.1 b) (M b)) := hcb
  obtain ⟨-, k0, hk0, cm0, hkk0⟩ := (hKF.1.2 0 _ rfl).1 (w.2.1 a) (fun j => .int (Int32.ofInt (M a j)))
  have ec := so_clamp hn hn0
  have e0 : (Int32.ofInt 0).toNatClampNeg = 0 := by decide +kernel
  intro T hT X
  obtain ⟨vm', X', step⟩ := X.arraycopy hx9 hown (hts _ h1) (hts _ h3) (hts _ h2) (hts _ h4) (src := adr Γ a) (dst := adr Γ b) (cs := arI Γ 0 (w.2.1 a) (M a)) (cd := arI Γ 0 (w.2.1 b) (M b)) (srcPos := Int32.ofInt 0) (destPos := Int32.ofInt 0) (n := Int32.ofInt n) (by rw [hT]; exact hca) (by rw [hT]; exact hcb)
    (fun _ h => by cases h) (fun _ h => by cases h) (fun h => by cases h) (fun h => by cases h) hk0 hk0 hkk0 hkk0 rfl (by decide +kernel) (by decide +kernel) (by rw [show (0 : Int32) = Int32.ofInt 0 from rfl, so_lt hn so_0]; omega)
    (by rw [so_ofI so_0, so_ofI hn]; show ¬ _ > ((arrV _ _ _).slots.size : Int); rw [arrV_size]; omega)
    (by rw [so_ofI so_0, so_ofI hn]; show ¬ _ > ((arrV _ _ _).slots.size : Int); rw [arrV_size]; omega)
    (fun vm₁ _ i hi => by
      rw [ec] at hi
      have e : (arI Γ 0 (w.2.1 a) (M a)).slots.getD ((Int32.ofInt 0).toNatClampNeg + i) .null = .int (Int32.ofInt (M a i)) := by
        show (arrV _ _ _).slots.getD _ _ = _
        rw [e0, Nat.zero_add, Array.getD_eq_getD_getElem?, arrV_read _ _ (by omega)]
        rfl
      refine ⟨?_, ?_⟩
      · rw [e]; rfl
      · rw [e]; exact trivial)
    (g := F0 m pc lc (.int (Int32.ofInt n) :: .int (Int32.ofInt 0) :: .ref (adr Γ b) :: .int (Int32.ofInt 0) :: .ref (adr Γ a) :: st.map (cV Γ))) rfl (by rw [hml]; exact hL.1) (rest := st.map (cV Γ)) rfl (by rw [hb]; exact hd) (by omega) (by show 2 * 0 + _ + (7 + 11) ≤ _; have := so_cats Γ st; omega)
  have e1 : copied (arI Γ 0 (w.2.1 a) (M a)) (arI Γ 0 (w.2.1 b) (M b)) (Int32.ofInt 0) (Int32.ofInt 0) (Int32.ofInt n) = arI Γ 0 (w.2.1 b) (va_cpy (M a) (M b) 0 0 n.toNat) := by
    have := va_copied (fun z : Int => Value.int (Int32.ofInt z)) (gA Γ 0) (gA Γ 0) (n0 := w.2.1 a) (n1 := w.2.1 b) (sp := 0) (dp := 0) (n := n.toNat) (M a) (M b) (by omega)
    unfold copied
    rw [e0, ec]
    exact this
  rw [e1] at X' step
  have hl : adr Γ b < H.size := (Array.getElem?_eq_some_iff.mp hcb).1
  generalize hH' : H.setIfInBounds (adr Γ b) (arI Γ 0 (w.2.1 b) (va_cpy (M a) (M b) 0 0 n.toNat)) = H'
  have hheap : ((T.setVm vm').setCell (adr Γ b) (arI Γ 0 (w.2.1 b) (va_cpy (M a) (M b) 0 0 n.toNat))).heap = H' := by rw [← hH', ← hT]; rfl
  have oq : ∀ q : Nat, q ≠ adr Γ b → H'[q]? = H[q]? := fun q hq => by rw [← hH']; simp [Array.getElem?_setIfInBounds, Ne.symm hq]
  have z : H'.size = H.size := by rw [← hH']; simp
  obtain ⟨t, a1, b1⟩ := hK _ _ _ _ _ _ _ h7 p e R s m args below meth c H' _ lc Z C (HR_chg hH hb0 hkb z oq rfl rfl rfl (fun _ _ => rfl) (fun j hj => cpM_ne hj) (cpM_R hH.2.1) (by
      show H'[adr Γ b]? = some (arI Γ 0 _ (cpM M a b n.toNat b))
      rw [cpM_b, ← hH']
      simp [Array.getElem?_setIfInBounds, hl])) hL (so_tail (so_tail (so_tail (so_tail (so_tail hSt))))) ⟨by rw [z]; exact hS.1, fun q g1 g2 => by
      rw [oq q (fun e => g2 (by rw [e]; exact adr_ge hb0))]
      exact hS.2.1 q g1 g2, fun q hq => by
      rcases List.mem_append.mp hq with h | h
      · exact hS.2.2 q h
      · obtain ⟨z, -, hz⟩ := List.mem_map.mp h
        rw [← hz]
        exact adr_ge hb0⟩ hR _ hheap X'
  exact ⟨t, step t a1, b1⟩
theorem r_ret {v : Option AV} (hd : decode (mcode μ) pc = .ok (rins v, 1)) (hr : (∀ u ∈ rvs v, okV u) → okR (mret μ) v) (hg : rmk μ cs sl = true) (h : Q v w M) : wp Γ μ pc ls (rvs v) cs sl w M Q := by
  obtain ⟨hg1, hg2⟩ := rmk_le hg
  intro p e R s m args below meth c H locs lc Z C hH hL hSt hS hR
  exact W.widen hg1 hg2 (hR v w M H locs pc lc h (hr hSt) hH hS hd)
end Rules
-- calls: the callee's contract
theorem KF_moved {Γ : GG} {s U : State} (h : KF Γ s) (hW : s.WarmedH U.vm) : KF Γ U := by
  obtain ⟨h1, h2, h3, h4⟩ := h
  refine ⟨va_K.moved hW.alike h1, State.isArrayOf_alike hW.alike h2, fun w hw hn => ?_, h4.moved hW.alike⟩
  have h5 := h3 w hw hn
  unfold neW at hn
  split at hn
  · exact va_Nw.warmM hW h5
  · cases hn
theorem KF_vm {Γ : GG} {s U : State} (h : KF Γ s) (hv : s.vm = U.vm) : KF Γ U := by
  obtain ⟨h1, h2, h3, h4⟩ := h
  have ha : s.vm.Alike U.vm := by rw [← hv]; exact Vm.Alike.refl _
  refine ⟨va_K.moved ha h1, State.isArrayOf_alike ha h2, fun w hw hn => ?_, h4.moved ha⟩
  have h5 := h3 w hw hn
  unfold neW at hn
  split at hn
  · exact va_Nw.same rfl hv h5
  · cases hn
abbrev cws (μ : Nat) : List Jvm.Cond := Jvm.Cond.code (my μ) (mcode μ) (mxl μ) (mret μ) :: gdT
abbrev crm (μ : Nat) : Room := { frames := mdp μ, cells := mmc μ, slots := mms μ, locals := 37 * mdp μ }
def cPc (Γ : GG) (as : List AV) (w : Wd) (M : MM) : Array Value → State → Prop := fun v U => v = (as.map (cV Γ)).toArray ∧ HR Γ w M U.heap ∧ KF Γ U ∧ (gs Γ).vm ≠ .unknown ∧ gB Γ ≤ U.heap.size ∧ gb Γ < gB Γ ∧ U.heap[gb Γ]? = some (gs Γ)
def cQc (Γ : GG) (μ : Nat) (Q : QT) : Array Value → State → Outcome → State → Prop := fun _ st o t => ∃ v w M, Q v w M ∧ okR (mret μ) v ∧ o = .returned (v.map (cV Γ)) ∧ HR Γ w M t.heap ∧ va_F (gQ Γ) st t
theorem so_args : ∀ (Γ : GG) (as : List AV) (k : Nat), (∀ v ∈ as, (cV Γ v).category = 1) → ∀ (i : Nat) (v : AV), as[i]? = some v → (k + i, cV Γ v) ∈ lv_args k (as.map (cV Γ))
  | Γ, [], k, _, i, v, h => by cases h
  | Γ, a :: as, k, hc, 0, v, h => by
    cases h
    exact List.mem_cons_self
  | Γ, a :: as, k, hc, i + 1, v, h => by
    have h1 := so_args Γ as (k + 1) (fun u hu => hc u (List.mem_cons_of_mem _ hu)) i v h
    have h2 := hc a List.mem_cons_self
    show _ ∈ (k, cV Γ a) :: lv_args (if (cV Γ a).category = 2 then k + 2 else k + 1) (as.map (cV Γ))
    rw [h2, if_neg (by decide), show k + (i + 1) = k + 1 + i by omega]
    exact List.mem_cons_of_mem _ h1
theorem so_getmap : ∀ (as : List AV) (i : Nat) (v : AV), getL (as.map some) i = some v → as[i]? = some v
  | [], _, _, h => by cases h
  | a :: as, 0, v, h => by
    show some a = some v
    exact h
  | a :: as, i + 1, v, h => so_getmap as i v h
theorem so_sl1 : ∀ (Γ : GG) (as : List AV), (∀ v ∈ as, (cV Γ v).category = 1) → (lg_sl (as.map (cV Γ))).length = as.length
  | Γ, [], _ => rfl
  | Γ, a :: as, hc => by
    have h1 := so_sl1 Γ as (fun u hu => hc u (List.mem_cons_of_mem _ hu))
    have h2 := hc a List.mem_cons_self
    have e : lg_sl (cV Γ a :: as.map (cV Γ)) = (if (cV Γ a).category = 2 then [.val (cV Γ a), .second] else [.val (cV Γ a)]) ++ lg_sl (as.map (cV Γ)) := rfl
    rw [List.map_cons, e, if_neg (by rw [h2]; decide), List.length_append, h1, List.length_cons, List.length_cons, List.length_nil]
    omega
theorem okR_ret {ret : Option FieldType} {v : Option AV} (h : okR ret v) : True := trivial
/-- a method's road gives its contract -/
theorem so_met {Γ : GG} {μ : Nat} {as : List AV} {w : Wd} {M : MM} {Q : QT} (hw : wp Γ μ 0 (as.map some) [] 0 0 w M Q) (hok : ∀ v ∈ as, okV v) (hcat : ∀ v ∈ as, (cV Γ v).category = 1) (hlen : as.length ≤ mxl μ) (hpl : plainName (my μ).cls = true) :
    Met (gl Γ) (my μ) (cws μ) (crm μ) (cPc Γ as w M) (cQc Γ μ Q) (mmc μ) (mms μ) (gQ Γ) := by
  refine Met.ofW (cc := mcode μ) (maxL := mxl μ) (ret := mret μ) hpl rfl ?_
  intro p e s m args below meth c s₁ B hml hv
  obtain ⟨rfl, hH, hK, hun, hb1, hb2, hb3⟩ := hv
  have hts := atoms_spec (ws := cws μ) B.pre
  have hown : s.vm.findClass (my μ).cls = some m.cls := findClass_of_methodNamed B.named
  have C : Cx Γ μ p (crm μ) s m (as.map (cV Γ)).toArray meth c :=
    ⟨B.exec, B.bytes, B.returns, hml, hown, fun w hw => hts w (List.mem_cons_of_mem _ hw), B.notSynchronized, fun h => (name_of_methodNamed B.named B.method).1.trans h, hK, ⟨Nat.le_refl _, Nat.le_refl _, Nat.le_refl _, Nat.le_refl _⟩, hun, hb1, hb2, hb3⟩
  have hl := lv_entry (as.map (cV Γ)) (n := mxl μ) (by rw [so_sl1 Γ as hcat]; exact hlen)
  rw [lg_entry_eq]
  generalize (lg_sl (as.map (cV Γ)) ++ List.replicate (mxl μ - (lg_sl (as.map (cV Γ))).length) Slot.unset).toArray = lc at hl ⊢
  refine hw p e (crm μ) s m _ below meth c s.heap [] lc _ C hH ⟨hl.1, hl.2.1, fun i v hi => ?_⟩ (fun v hv => by cases hv) va_S.rf ?_
  · have h1 := so_getmap as i v hi
    have h2 := List.mem_of_getElem? h1
    refine ⟨?_, hok v h2, hcat v h2⟩
    have h3 := so_args Γ as 0 hcat i v h1
    rw [Nat.zero_add] at h3
    exact hl.2.2 _ h3
  · intro v w' M' H' locs' pc' lc' hQ hok' hH' hS' hd'
    have hr := B.returns
    have hx := B.exec
    have hb := B.bytes
    match v, hok', hQ, hd' with
    | none, hok', hQ, hd' =>
      have hret : meth.sig.returnType = none := hr.trans hok'
      exact W.vret hx hb hret (fun t ht hW => ⟨none, w', M', hQ, hok', rfl, by rw [ht]; exact hH', hS'.F ht⟩) hS'.2.2 hd'
    | some (.inl x), hok', hQ, hd' =>
      rcases id hok' with ⟨h1, h2⟩ | ⟨h1, h2⟩
      · have hret : meth.sig.returnType = some .int := hr.trans h1
        exact W.iret hx hb hret (fun t ht hW => ⟨some (.inl x), w', M', hQ, hok', rfl, by rw [ht]; exact hH', hS'.F ht⟩) hS'.2.2 hd'
      · have hret : meth.sig.returnType = some .boolean := hr.trans h1
        exact W.zret hx hb hret (so_bool h2) (fun t ht hW => ⟨some (.inl x), w', M', hQ, hok', rfl, by rw [ht]; exact hH', hS'.F ht⟩) hS'.2.2 hd'
    | some (.inr (.inl x)), hok', hQ, hd' =>
      have hret : meth.sig.returnType = some .long := hr.trans hok'.1
      exact W.lret hx hb hret (fun t ht hW => ⟨some (.inr (.inl x)), w', M', hQ, hok', rfl, by rw [ht]; exact hH', hS'.F ht⟩) hS'.2.2 hd'
    | some (.inr (.inr (some a))), hok', hQ, hd' =>
      obtain ⟨n, hn⟩ := id hok'
      have hret : meth.sig.returnType = some (.object n) := hr.trans hn
      exact W.aret hx hb hret (Or.inl ⟨n, rfl⟩) (Or.inr ⟨adr Γ a, rfl⟩) (fun t ht hW => ⟨some (.inr (.inr (some a))), w', M', hQ, hok', rfl, by rw [ht]; exact hH', hS'.F ht⟩) hS'.2.2 hd'
    | some (.inr (.inr none)), hok', hQ, hd' => exact hok'.elim
end
section
/-! ===== the rules: calls, and one step ===== -/
theorem cats_ge : ∀ st : List AV, st.length ≤ cats st
  | [] => Nat.le_refl _
  | .inl _ :: st => by have := cats_ge st; show _ + 1 ≤ 1 + cats st; omega
  | .inr (.inl _) :: st => by have := cats_ge st; show _ + 1 ≤ 2 + cats st; omega
  | .inr (.inr _) :: st => by have := cats_ge st; show _ + 1 ≤ 1 + cats st; omega
theorem cats_one : ∀ (Γ : GG) (st : List AV), cats st = st.length → ∀ v ∈ st, (cV Γ v).category = 1
  | _, [], _, v, h => by cases h
  | Γ, .inl x :: st, h, v, hv => by
    have h : 1 + cats st = st.length + 1 := h
    rcases List.mem_cons.mp hv with rfl | hv
    · rfl
    · exact cats_one Γ st (by omega) v hv
  | Γ, .inr (.inl x) :: st, h, v, hv => by
    have h : 2 + cats st = st.length + 1 := h
    have := cats_ge st
    omega
  | Γ, .inr (.inr x) :: st, h, v, hv => by
    have h : 1 + cats st = st.length + 1 := h
    rcases List.mem_cons.mp hv with rfl | hv
    · cases x <;> rfl
    · exact cats_one Γ st (by omega) v hv
theorem argL_eq : ∀ (n : Nat) (st : List AV) (acc : LL), argL n st acc = ((st.take n).reverse.map some) ++ acc
  | 0, _, _ => rfl
  | _ + 1, [], _ => rfl
  | n + 1, x :: xs, acc => by
    show argL n xs (some x :: acc) = _
    rw [argL_eq n xs, List.take_succ_cons, List.reverse_cons, List.map_append, List.append_assoc]
    rfl
theorem mchk_ex {μ n : Nat} (h : mchk μ n = true) : Jvm.Cond.code (my μ) (mcode μ) (mxl μ) (mret μ) ∈ gdT ∧ Jvm.Cond.initialized (my μ).cls ∈ gdT ∧ plainName (my μ).cls = true ∧ ((my μ).cls ≠ "java/lang/invoke/MethodHandle" ∧ (my μ).cls ≠ "java/lang/invoke/VarHandle") ∧ (parseMethodDescriptor (my μ).desc).map (fun d => d.parameters.length) = some n := by
  unfold mchk at h
  simp only [Bool.and_eq_true] at h
  obtain ⟨h1, h2, h3, h4, h5⟩ := h
  exact ⟨tq_in h1, tq_in h2, h3, of_decide_eq_true h4, of_decide_eq_true h5⟩
theorem callk_ex {μ n : Nat} {aux : List Nat} (h : callk μ aux n = true) : mchk (aux.getD 1 0) (aux.getD 2 0) = true ∧ mdp (aux.getD 1 0) < mdp μ ∧ n ≤ mxl (aux.getD 1 0) ∧ mxl (aux.getD 1 0) ≤ 18 := by
  unfold callk at h
  simp only [Bool.and_eq_true] at h
  obtain ⟨h1, h2, h3, h4⟩ := h
  exact ⟨h1, Nat.le_of_ble_eq_true h2, Nat.le_of_ble_eq_true h3, Nat.le_of_ble_eq_true h4⟩
theorem cws_good {μ : Nat} (h : Jvm.Cond.code (my μ) (mcode μ) (mxl μ) (mret μ) ∈ gdT) : GoodIn gdT (cws μ) := by
  intro w hw
  rcases List.mem_cons.mp hw with rfl | hw
  · exact ⟨h, good_of_word (gdT_good _ h).2⟩
  · exact ⟨hw, good_of_word (gdT_good _ hw).2⟩
theorem cPc_blind {Γ : GG} {as : List AV} {w : Wd} {M : MM} : FrameBlind (cPc Γ as w M) := fun a U g mk q => by
  obtain ⟨q1, q2, q3, q4⟩ := q
  exact ⟨q1, q2, KF_vm (s := U) (U := U.calling g mk a) q3 rfl, q4⟩
theorem rvs_map (Γ : GG) (v : Option AV) : (rvs v).map (cV Γ) = (v.map (cV Γ)).toList := by cases v <;> rfl
theorem okR_ok {ret : Option FieldType} {v : Option AV} (h : okR ret v) : ∀ u ∈ rvs v, okV u := by
  intro u hu
  match v, h with
  | none, _ => cases hu
  | some (.inl x), h =>
    rw [List.mem_singleton.mp hu]
    rcases h with ⟨-, h⟩ | ⟨-, h⟩
    · exact h
    · show inR x
      omega
  | some (.inr (.inl x)), h =>
    rw [List.mem_singleton.mp hu]
    exact h.2
  | some (.inr (.inr r)), h =>
    rw [List.mem_singleton.mp hu]
    trivial
section After
variable {Γ : GG} {μ' : Nat} {Q' : QT} {p : Program} {l : Launch} {e : Env} {R : Room} {s : State} {m : MethodId} {args : Array Value} {below : List Frame} {meth : Method} {c : Code} {H : Heap} {locs : List Loc} {cells slots mc ms : Nat} {Z : State → Prop} {pc : Nat} {lc : Array Slot} {rest st0 : List Value} {A : Array Value}
theorem so_after (hr : va_Run p l e R s m args below meth c H locs cells slots mc ms (F0 m pc lc st0) rest (cQc Γ μ' Q' A) (gQ Γ)) (hS : va_S (gQ Γ) s.heap H locs)
    (kk : ∀ v w' M' H1 locs1, Q' v w' M' → okR (mret μ') v → HR Γ w' M' H1 → va_S (gQ Γ) s.heap H1 locs1 → W p l e R s m args below meth c H1 locs1 (cells + mc) (slots + ms) Z (F0 m (pc + 3) lc ((v.map (cV Γ)).toList ++ rest))) :
    W p l e R s m args below meth c H locs cells slots Z (F0 m pc lc st0) := by
  intro T hT X
  obtain ⟨v, st₀, t, T', L, h0, X', hL, e1, e2, ⟨u, w', M', hQ, hok, hv, hH', hz, hk⟩, st⟩ := hr T hT X
  injection hv with hv
  subst hv
  rw [h0] at hz hk
  obtain ⟨t2, a1, b1⟩ := kk u w' M' T'.heap (locs ++ L) hQ hok (by rw [e1]; exact hH') ⟨Nat.le_trans hS.1 (by rw [e1]; exact hz), fun q h1 h2 => by
      rw [e1, hk q (Nat.lt_of_lt_of_le h1 hS.1) h2]
      exact hS.2.1 q h1 h2, fun q hq => by
      rcases List.mem_append.mp hq with h | h
      · exact hS.2.2 q h
      · exact hL q h⟩ T' rfl X'
  exact ⟨t2, st t2 a1, b1⟩
end After
section Rules
variable {Γ : GG} {μ pc : Nat} {ls : LL} {st : List AV} {cs sl : Nat} {w : Wd} {M : MM} {Q : QT} {K : KT}
/-- what every call needs -/
theorem so_call {μ' n : Nat} {as : List AV} {Q' : QT} {p : Program} {R : Room} {s : State} {m : MethodId} {args : Array Value} {meth : Method} {c : Code} {H : Heap} {locs : List Loc} (C : Cx Γ μ p R s m args meth c) (hH : HR Γ w M H) (hS : va_S (gQ Γ) s.heap H locs) (hk : mchk μ' n = true) (hdp : mdp μ' < mdp μ) (hml : mxl μ' ≤ 18) (hlen : as.length ≤ mxl μ') (hok : ∀ v ∈ as, okV v) (hcat : ∀ v ∈ as, (cV Γ v).category = 1) (hw : wp Γ μ' 0 (as.map some) [] 0 0 w M Q') :
    Met (gl Γ) (my μ') (cws μ') (crm μ') (cPc Γ as w M) (cQc Γ μ' Q') (mmc μ') (mms μ') (gQ Γ) ∧ GoodIn gdT (cws μ') ∧ ((crm μ').frames + 1 ≤ R.frames ∧ 8 + (mxl μ' + 11) + (crm μ').locals ≤ R.locals) ∧ (∀ U : State, U.heap = H → s.WarmedH U.vm → cPc Γ as w M (as.map (cV Γ)).toArray U) := by
  obtain ⟨k1, k2, k3, k4, k5⟩ := mchk_ex hk
  obtain ⟨hx9, hb, hr, hml9, hown, hts, hlk, hnm, hKF, ⟨hfr, hlo, hrc, hrs⟩, hun, hb1, hb2, hb3⟩ := id C
  refine ⟨so_met hw hok hcat hlen k3, cws_good k1, ⟨by show mdp μ' + 1 ≤ _; omega, by show 8 + (mxl μ' + 11) + 37 * mdp μ' ≤ _; omega⟩, fun U hU hW => ⟨rfl, by rw [hU]; exact hH, KF_moved hKF hW, hun, by rw [hU]; exact Nat.le_trans hb1 hS.1, hb2, ?_⟩⟩
  rw [hU, hS.2.1 (gb Γ) (Nat.lt_of_lt_of_le hb2 hb1) (Nat.not_le.mpr hb2)]
  exact hb3
theorem so_gd {b1 b2 b3 b4 : Bool} (h : (b1 && (b2 && (b3 && b4))) = true) : b1 = true ∧ b2 = true ∧ b3 = true ∧ b4 = true := by
  simp only [Bool.and_eq_true] at h
  exact h
theorem so_next {Q' : QT} {μ' n : Nat} {p : Program} {e : Env} {R : Room} {s : State} {m : MethodId} {args : Array Value} {below : List Frame} {meth : Method} {c : Code} {lc : Array Slot} {Z : State → Prop} {cs' sl' : Nat} (hK : KOK Γ μ Q K) (C : Cx Γ μ p R s m args meth c) (hL : LR Γ μ ls lc) (hSt : ∀ v ∈ st, okV v) (hR : RetP Γ μ p e R s m args below meth c Z Q) (hQ' : ∀ v w' M', Q' v w' M' → K (pc + 3) ls (rvs v ++ st.drop n) cs' sl' w' M') :
    ∀ v w' M' H1 locs1, Q' v w' M' → okR (mret μ') v → HR Γ w' M' H1 → va_S (gQ Γ) s.heap H1 locs1 → W p (gl Γ) e R s m args below meth c H1 locs1 cs' sl' Z (F0 m (pc + 3) lc ((v.map (cV Γ)).toList ++ (st.drop n).map (cV Γ))) := by
  intro v w' M' H1 locs1 hq hok hH' hS'
  rw [← rvs_map, ← List.map_append]
  refine hK _ _ _ _ _ _ _ (hQ' v w' M' hq) p e R s m args below meth c H1 locs1 lc Z C hH' hL (fun u hu => ?_) hS' hR
  rcases List.mem_append.mp hu with h | h
  · exact okR_ok hok u h
  · exact hSt u (List.mem_of_mem_drop h)
theorem r_static {ix μ' n : Nat} (hK : KOK Γ μ Q K) (hd : decode (mcode μ) pc = .ok (.invokestatic ix, 3)) (hk : mchk μ' n = true) (hdp : mdp μ' < mdp μ) (hnl : n ≤ mxl μ') (hml : mxl μ' ≤ 18) (hl : Jvm.Cond.methodLink (my μ).cls ix (my μ') ∈ gdT ∨ Jvm.Cond.methodLinkNest (my μ).cls ix (my μ') "ShiftAdds" ∈ lw_tbl) (h2 : Jvm.Cond.static (my μ') ∈ gdT) (hz1 : mmc μ' = 0) (hz2 : mms μ' = 0)
    (h : gd (Nat.ble (cats (st.drop n)) 8 && (Nat.ble n st.length && (Nat.beq (cats (st.take n)) n && rmk μ cs sl))) (wp Γ μ' 0 (argL n st []) [] 0 0 w M (fun v w' M' => K (pc + 3) ls (rvs v ++ st.drop n) cs sl w' M'))) : wp Γ μ pc ls st cs sl w M Q := by
  obtain ⟨hg, h⟩ := gd_ex h
  obtain ⟨g1, g2, g3, g4⟩ := so_gd hg
  have g1 := Nat.le_of_ble_eq_true g1
  have g2 := Nat.le_of_ble_eq_true g2
  have g3 := Nat.eq_of_beq_eq_true g3
  obtain ⟨g4, g5⟩ := rmk_le g4
  intro p e R s m args below meth c H locs lc Z C hH hL hSt hS hR
  have hlen : (st.take n).length = n := by rw [List.length_take]; omega
  rw [argL_eq, List.append_nil] at h
  have hcat : ∀ v ∈ (st.take n).reverse, (cV Γ v).category = 1 := fun v hv => cats_one Γ (st.take n) (by rw [g3, hlen]) v (List.mem_reverse.mp hv)
  have hok : ∀ v ∈ (st.take n).reverse, okV v := fun v hv => hSt v (List.mem_of_mem_take (List.mem_reverse.mp hv))
  obtain ⟨hM, hG, hRm, hPc⟩ := so_call C hH hS hk hdp hml (by rw [List.length_reverse, hlen]; exact hnl) hok hcat h
  obtain ⟨k1, k2, k3, k4, k5⟩ := mchk_ex hk
  obtain ⟨hx9, hb, hr, hml9, hown, hts, hlk, hnm, hKF, ⟨hfr, hlo, hrc, hrs⟩, -⟩ := id C
  have hstk : st.map (cV Γ) = ((st.take n).reverse.map (cV Γ)).reverse ++ (st.drop n).map (cV Γ) := by
    rw [← List.map_reverse, List.reverse_reverse, ← List.map_append, List.take_append_drop]
  have hf : cs + mmc μ' ≤ R.cells ∧ sl + mms μ' ≤ R.slots := by rw [hz1, hz2]; omega
  have hcat8 : 2 * (F0 m pc lc (st.map (cV Γ))).monitorRoom + (((st.drop n).map (cV Γ)).map fun v => v.category).sum ≤ 8 := by
    show 2 * 0 + _ ≤ 8
    rw [so_cats]; omega
  have kk := so_next (Q' := fun v w' M' => K (pc + 3) ls (rvs v ++ st.drop n) cs sl w' M') (μ' := μ') (cs' := cs + mmc μ') (sl' := sl + mms μ') hK C hL hSt hR (fun v w' M' hq => by rw [hz1, hz2]; exact hq)
  have hnn : ((st.take n).reverse.map (cV Γ)).length = n := by rw [List.length_map, List.length_reverse, hlen]
  rcases hl with hl | hl
  · have hr := va_runS (As := (st.take n).reverse.map (cV Γ)) (rest := (st.drop n).map (cV Γ)) (g := F0 m pc lc (st.map (cV Γ))) (H := H) (locs := locs) (cells := cs) (slots := sl) (e := e) (below := below) (meth := meth) (Ts := gdT) ⟨hx9, hb, hml9, hown, hts⟩ hM ⟨callB_of n hts hG rfl rfl rfl (hts _ k2) (hts _ hl) ⟨k4.1, k4.2, k5⟩ hRm, hts _ h2⟩ ⟨cPc_blind, hPc⟩ rfl hnn hL.1 hstk hcat8 hd hf
    exact so_after hr hS kk
  · have hr := va_runSN (As := (st.take n).reverse.map (cV Γ)) (rest := (st.drop n).map (cV Γ)) (g := F0 m pc lc (st.map (cV Γ))) (H := H) (locs := locs) (cells := cs) (slots := sl) (e := e) (below := below) (meth := meth) (Ts := gdT) ⟨hx9, hb, hml9, hown, hts⟩ hM ⟨va_cnB n hts hG rfl rfl rfl (hKF.2.2.1 _ hl rfl) (hts _ k2) ⟨k4.1, k4.2, k5⟩ hRm, hts _ h2, trivial⟩ ⟨cPc_blind, hPc⟩ rfl hnn hL.1 hstk hcat8 hd hf
    exact so_after hr hS kk
theorem so_take1 {n a : Nat} {st rest : List AV} (h : st.drop n = VR a :: rest) : st.take (n + 1) = st.take n ++ [VR a] ∧ st.drop (n + 1) = rest ∧ n < st.length := by
  have h1 : n < st.length := by
    apply Nat.lt_of_not_le
    intro q
    rw [List.drop_eq_nil_of_le q] at h
    cases h
  have h2 : st[n] = VR a := by
    have := List.drop_eq_getElem_cons h1
    rw [h] at this
    injection this with e1 e2
    exact e1.symm
  refine ⟨?_, ?_, h1⟩
  · rw [List.take_succ_eq_append_getElem h1, h2]
  · have := List.drop_eq_getElem_cons h1
    rw [h] at this
    injection this with e1 e2
    exact e2.symm
theorem r_virtual {ix μ' n ci : Nat} (hK : KOK Γ μ Q K) (hd : decode (mcode μ) pc = .ok (.invokevirtual ix, 3)) (hk : mchk μ' n = true) (hdp : mdp μ' < mdp μ) (hnl : n + 1 ≤ mxl μ') (hml : mxl μ' ≤ 18) (hl : Jvm.Cond.methodLink (my μ).cls ix (my μ') ∈ gdT) (h2 : Jvm.Cond.instanceMethod (my μ') ∈ gdT) (h3 : Jvm.Cond.selects (clN ci) (my μ') (my μ') ∈ gdT) (hci : ci < 10) (hz1 : mmc μ' = 0) (hz2 : mms μ' = 0)
    (h : popA (st.drop n) (fun a _ => w.1 a = 4 + ci ∧ gd (Nat.ble (cats (st.drop (n + 1))) 8 && (Nat.ble (n + 1) st.length && (Nat.beq (cats (st.take (n + 1))) (n + 1) && rmk μ cs sl))) (wp Γ μ' 0 (argL (n + 1) st []) [] 0 0 w M (fun v w' M' => K (pc + 3) ls (rvs v ++ st.drop (n + 1)) cs sl w' M')))) : wp Γ μ pc ls st cs sl w M Q := by
  obtain ⟨a, rest, hst, hkd, h⟩ := popA_ex h
  obtain ⟨t1, t2, t3⟩ := so_take1 hst
  obtain ⟨hg, h⟩ := gd_ex h
  obtain ⟨g1, g2, g3, g4⟩ := so_gd hg
  have g1 := Nat.le_of_ble_eq_true g1
  have g2 := Nat.le_of_ble_eq_true g2
  have g3 := Nat.eq_of_beq_eq_true g3
  obtain ⟨g4, g5⟩ := rmk_le g4
  intro p e R s m args below meth c H locs lc Z C hH hL hSt hS hR
  have hlen : (st.take (n + 1)).length = n + 1 := by rw [List.length_take]; omega
  have hlen0 : (st.take n).length = n := by rw [List.length_take]; omega
  rw [argL_eq, List.append_nil] at h
  have hcat : ∀ v ∈ (st.take (n + 1)).reverse, (cV Γ v).category = 1 := fun v hv => cats_one Γ (st.take (n + 1)) (by rw [g3, hlen]) v (List.mem_reverse.mp hv)
  have hok : ∀ v ∈ (st.take (n + 1)).reverse, okV v := fun v hv => hSt v (List.mem_of_mem_take (List.mem_reverse.mp hv))
  obtain ⟨hM, hG, hRm, hPc⟩ := so_call C hH hS hk hdp hml (by rw [List.length_reverse, hlen]; exact hnl) hok hcat h
  obtain ⟨k1, k2, k3, k4, k5⟩ := mchk_ex hk
  obtain ⟨hx9, hb, hr, hml9, hown, hts, hlk, hnm, hKF, ⟨hfr, hlo, hrc, hrs⟩, -⟩ := id C
  have has : (st.take (n + 1)).reverse.map (cV Γ) = .ref (adr Γ a) :: (st.take n).reverse.map (cV Γ) := by rw [t1, List.reverse_append]; rfl
  rw [has] at hPc
  have hstk : st.map (cV Γ) = ((st.take n).reverse.map (cV Γ)).reverse ++ .ref (adr Γ a) :: (st.drop (n + 1)).map (cV Γ) := by
    rw [← List.map_reverse, List.reverse_reverse, show Value.ref (adr Γ a) = cV Γ (VR a) from rfl, ← List.map_cons, t2, ← hst, ← List.map_append, List.take_append_drop]
  have hf : cs + mmc μ' ≤ R.cells ∧ sl + mms μ' ≤ R.slots := by rw [hz1, hz2]; omega
  have hcat8 : 2 * (F0 m pc lc (st.map (cV Γ))).monitorRoom + (((st.drop (n + 1)).map (cV Γ)).map fun v => v.category).sum ≤ 8 := by
    show 2 * 0 + _ ≤ 8
    rw [so_cats]; omega
  have kk := so_next (Q' := fun v w' M' => K (pc + 3) ls (rvs v ++ st.drop (n + 1)) cs sl w' M') (μ' := μ') (cs' := cs + mmc μ') (sl' := sl + mms μ') hK C hL hSt hR (fun v w' M' hq => by rw [hz1, hz2]; exact hq)
  have hnn : ((st.take n).reverse.map (cV Γ)).length = n := by rw [List.length_map, List.length_reverse, hlen0]
  obtain ⟨ha, hc⟩ := HR_at hH hkd (by omega) (by omega)
  rw [Nat.add_comm 4 ci] at hc
  obtain ⟨r, hr1, cellB, c1, c2, c3, -⟩ := hc
  have hrecv : ∃ cellB : Cell, H[adr Γ a]? = some cellB ∧ cellB.vm.isStatics = false ∧ s.vm.findClass (clN ci) = some cellB.cls := ⟨cellB, c1, by rw [c3]; rfl, by rw [c2]; exact (hKF.1.1 ci _ (cl_at ci hci)).2.1⟩
  have hr := va_runV (As := (st.take n).reverse.map (cV Γ)) (rest := (st.drop (n + 1)).map (cV Γ)) (g := F0 m pc lc (st.map (cV Γ))) (H := H) (locs := locs) (cells := cs) (slots := sl) (e := e) (below := below) (meth := meth) (Ts := gdT) ⟨hx9, hb, hml9, hown, hts⟩ hM ⟨callB_of n hts hG rfl rfl rfl (hts _ k2) (hts _ hl) ⟨k4.1, k4.2, k5⟩ hRm, hts _ h2, hts _ h3⟩ ⟨cPc_blind, hrecv, hPc⟩ rfl hnn hL.1 hstk hcat8 hd hf
  exact so_after hr hS kk
theorem r_special {ix μ' n : Nat} (hK : KOK Γ μ Q K) (hd : decode (mcode μ) pc = .ok (.invokespecial ix, 3)) (hk : mchk μ' n = true) (hdp : mdp μ' < mdp μ) (hnl : n + 1 ≤ mxl μ') (hml : mxl μ' ≤ 18) (hl : Jvm.Cond.methodLink (my μ).cls ix (my μ') ∈ gdT ∨ Jvm.Cond.methodLinkNest (my μ).cls ix (my μ') "ShiftAdds" ∈ lw_tbl) (h2 : Jvm.Cond.instanceMethod (my μ') ∈ gdT) (hn1 : (my μ').name = "<init>") (hn2 : mret μ' = none)
    (h : gd (Nat.ble (cats (st.drop (n + 1))) 8 && (Nat.ble (n + 1) st.length && (Nat.beq (cats (st.take (n + 1))) (n + 1) && rmk μ cs sl))) (gd (rmk μ (cs + mmc μ') (sl + mms μ')) (wp Γ μ' 0 (argL (n + 1) st []) [] 0 0 w M (fun v w' M' => K (pc + 3) ls (rvs v ++ st.drop (n + 1)) (cs + mmc μ') (sl + mms μ') w' M')))) (hrecv : ∃ a rest, st.drop n = VR a :: rest) : wp Γ μ pc ls st cs sl w M Q := by
  obtain ⟨a, rest, hst⟩ := hrecv
  obtain ⟨t1, t2, t3⟩ := so_take1 hst
  obtain ⟨hg, h⟩ := gd_ex h
  obtain ⟨hg9, h⟩ := gd_ex h
  obtain ⟨g1, g2, g3, g4⟩ := so_gd hg
  have g1 := Nat.le_of_ble_eq_true g1
  have g2 := Nat.le_of_ble_eq_true g2
  have g3 := Nat.eq_of_beq_eq_true g3
  obtain ⟨g4, g5⟩ := rmk_le hg9
  intro p e R s m args below meth c H locs lc Z C hH hL hSt hS hR
  have hlen : (st.take (n + 1)).length = n + 1 := by rw [List.length_take]; omega
  have hlen0 : (st.take n).length = n := by rw [List.length_take]; omega
  rw [argL_eq, List.append_nil] at h
  have hcat : ∀ v ∈ (st.take (n + 1)).reverse, (cV Γ v).category = 1 := fun v hv => cats_one Γ (st.take (n + 1)) (by rw [g3, hlen]) v (List.mem_reverse.mp hv)
  have hok : ∀ v ∈ (st.take (n + 1)).reverse, okV v := fun v hv => hSt v (List.mem_of_mem_take (List.mem_reverse.mp hv))
  obtain ⟨hM, hG, hRm, hPc⟩ := so_call C hH hS hk hdp hml (by rw [List.length_reverse, hlen]; exact hnl) hok hcat h
  obtain ⟨k1, k2, k3, k4, k5⟩ := mchk_ex hk
  obtain ⟨hx9, hb, hr, hml9, hown, hts, hlk, hnm, hKF, ⟨hfr, hlo, hrc, hrs⟩, -⟩ := id C
  have has : (st.take (n + 1)).reverse.map (cV Γ) = .ref (adr Γ a) :: (st.take n).reverse.map (cV Γ) := by rw [t1, List.reverse_append]; rfl
  rw [has] at hPc
  have hstk : st.map (cV Γ) = ((st.take n).reverse.map (cV Γ)).reverse ++ .ref (adr Γ a) :: (st.drop (n + 1)).map (cV Γ) := by
    rw [← List.map_reverse, List.reverse_reverse, show Value.ref (adr Γ a) = cV Γ (VR a) from rfl, ← List.map_cons, t2, ← hst, ← List.map_append, List.take_append_drop]
  have hf : cs + mmc μ' ≤ R.cells ∧ sl + mms μ' ≤ R.slots := by omega
  have hcat8 : 2 * (F0 m pc lc (st.map (cV Γ))).monitorRoom + (((st.drop (n + 1)).map (cV Γ)).map fun v => v.category).sum ≤ 8 := by
    show 2 * 0 + _ ≤ 8
    rw [so_cats]; omega
  have kk := so_next (Q' := fun v w' M' => K (pc + 3) ls (rvs v ++ st.drop (n + 1)) (cs + mmc μ') (sl + mms μ') w' M') (μ' := μ') (cs' := cs + mmc μ') (sl' := sl + mms μ') hK C hL hSt hR (fun v w' M' hq => hq)
  have hnn : ((st.take n).reverse.map (cV Γ)).length = n := by rw [List.length_map, List.length_reverse, hlen0]
  have hw0 : cws μ' = Jvm.Cond.code (my μ') (mcode μ') (mxl μ') none :: gdT := by rw [← hn2]
  rcases hl with hl | hl
  · have hr := va_runI (As := (st.take n).reverse.map (cV Γ)) (rest := (st.drop (n + 1)).map (cV Γ)) (g := F0 m pc lc (st.map (cV Γ))) (H := H) (locs := locs) (cells := cs) (slots := sl) (e := e) (below := below) (meth := meth) (Ts := gdT) ⟨hx9, hb, hml9, hown, hts⟩ hM ⟨callB_of n hts hG hw0 rfl rfl (hts _ k2) (hts _ hl) ⟨k4.1, k4.2, k5⟩ hRm, hn1, hts _ h2⟩ ⟨cPc_blind, hPc⟩ rfl hnn hL.1 hstk hcat8 hd hf
    exact so_after hr hS kk
  · have hr := va_runIN (As := (st.take n).reverse.map (cV Γ)) (rest := (st.drop (n + 1)).map (cV Γ)) (g := F0 m pc lc (st.map (cV Γ))) (H := H) (locs := locs) (cells := cs) (slots := sl) (e := e) (below := below) (meth := meth) (Ts := gdT) ⟨hx9, hb, hml9, hown, hts⟩ hM ⟨va_cnB n hts hG hw0 rfl rfl (hKF.2.2.1 _ hl rfl) (hts _ k2) ⟨k4.1, k4.2, k5⟩ hRm, hn1, hts _ h2⟩ ⟨cPc_blind, hPc⟩ rfl hnn hL.1 hstk hcat8 hd hf
    exact so_after hr hS kk
end Rules
end
section
/-! ===== one step is sound; so is a road ===== -/
theorem so_and2 {a b : Bool} (h : (a && b) = true) : a = true ∧ b = true := by
  rw [Bool.and_eq_true] at h
  exact h
theorem so_len {μ pc : Nat} {i : Instr} {n k : Nat} (h : decode (mcode μ) pc = .ok (i, n)) (hn : Nat.beq n k = true) : decode (mcode μ) pc = .ok (i, k) := by
  rw [← Nat.eq_of_beq_eq_true hn]
  exact h
theorem rtk_v {r : Option FieldType} (h : rtk .return_ r = true) : r = none := by
  rcases r with _ | r
  · rfl
  · cases h
theorem rtk_l {r : Option FieldType} (h : rtk .lreturn r = true) : r = some .long := by
  rcases r with _ | r
  · cases h
  · cases r <;> first | rfl | cases h
theorem rtk_a {r : Option FieldType} (h : rtk .areturn r = true) : ∃ n, r = some (.object n) := by
  rcases r with _ | r
  · cases h
  · cases r <;> first | exact ⟨_, rfl⟩ | cases h
theorem rtk_i {r : Option FieldType} (h : rtk .ireturn r = true) (hb : isZ r = false) : r = some .int := by
  rcases r with _ | r
  · cases h
  · cases r <;> first | rfl | (cases h; done) | (cases hb; done)
theorem isZ_b {r : Option FieldType} (hb : isZ r = true) : r = some .boolean := by
  rcases r with _ | r
  · cases hb
  · cases r <;> first | rfl | cases hb
/-- the rule of 'new int[n][k]', proved apart -/
def r_mna_open (Γ : GG) : Prop := ∀ {μ pc : Nat} {ls : LL} {st : List AV} {cs sl : Nat} {w : Wd} {M : MM} {Q : QT} {K : KT} {ix : Nat}, KOK Γ μ Q K → decode (mcode μ) pc = .ok (.multianewarray ix 2, 4) → Jvm.Cond.classLink (my μ).cls ix "[[I" ∈ gdT → Jvm.Cond.arrayOver (.array .int) ∈ lw_tbl → Jvm.Cond.arrayClass .int ∈ gdT →
  popII st (fun x y st => ((0 ≤ x ∧ x ≤ 1000) ∧ (0 ≤ y ∧ y ≤ 1000)) ∧ gd (rmk μ (cs + (1 + x.toNat)) (sl + (x.toNat + x.toNat * y.toNat))) (K (pc + 4) ls (.inr (.inr (some (w.2.2.2 + 1))) :: st) (cs + (1 + x.toNat)) (sl + (x.toNat + x.toNat * y.toNat)) (mnW w x.toNat y.toNat) (mnM M w.2.2.2 x.toNat))) → wp Γ μ pc ls st cs sl w M Q
set_option maxHeartbeats 4000000 in
theorem step_ok {Γ : GG} {μ pc : Nat} {ls : LL} {st : List AV} {cs sl : Nat} {w : Wd} {M : MM} {Q : QT} {K : KT} (hmna : r_mna_open Γ) (hK : KOK Γ μ Q K) {i : Instr} {len : Nat} {hd : Bool} {z : Int} {aux : List Nat} (hc : ichk μ pc (i, len, hd, z, aux) = true) (h : stepv Γ μ Q K i z aux pc ls st cs sl w M) : wp Γ μ pc ls st cs sl w M Q := by
  unfold ichk at hc
  obtain ⟨hd0, hc⟩ := so_and2 hc
  have hd := of_decide_eq_true hd0
  dsimp only at hd hc
  cases i with
  | iload_n k => exact r_iload_n hK (so_len hd hc) h
  | iload k => exact r_iload hK (so_len hd hc) h
  | aload_n k => exact r_aload_n hK (so_len hd hc) h
  | istore_n k => obtain ⟨c1, c2⟩ := so_and2 hc; exact r_istore_n hK (so_len hd c1) (Nat.le_of_ble_eq_true c2) h
  | istore k => obtain ⟨c1, c2⟩ := so_and2 hc; exact r_istore hK (so_len hd c1) (Nat.le_of_ble_eq_true c2) h
  | astore_n k => obtain ⟨c1, c2⟩ := so_and2 hc; exact r_astore_n hK (so_len hd c1) (Nat.le_of_ble_eq_true c2) h
  | iconst n => obtain ⟨c1, c2⟩ := so_and2 hc; exact r_iconst hK (so_len hd c1) (of_decide_eq_true c2) h
  | bipush n => obtain ⟨c1, c2⟩ := so_and2 hc; obtain ⟨c2, c3⟩ := so_and2 c2; exact r_bipush hK (so_len hd c1) (of_decide_eq_true c2) (of_decide_eq_true c3) h
  | sipush n => obtain ⟨c1, c2⟩ := so_and2 hc; obtain ⟨c2, c3⟩ := so_and2 c2; exact r_sipush hK (so_len hd c1) (of_decide_eq_true c2) (of_decide_eq_true c3) h
  | ldc ix => obtain ⟨c1, c2⟩ := so_and2 hc; obtain ⟨c2, c3⟩ := so_and2 c2; exact r_ldc hK (so_len hd c1) (of_decide_eq_true c2) (tq_in c3) h
  | lconst n => exact r_lconst hK (so_len hd hc) h
  | iadd => exact r_iadd hK (so_len hd hc) h
  | isub => exact r_isub hK (so_len hd hc) h
  | imul => exact r_imul hK (so_len hd hc) h
  | ineg => exact r_ineg hK (so_len hd hc) h
  | idiv => exact r_idiv hK (so_len hd hc) h
  | irem => exact r_irem hK (so_len hd hc) h
  | ishl => exact r_ishl hK (so_len hd hc) h
  | ishr => exact r_ishr hK (so_len hd hc) h
  | iand => exact r_iand hK (so_len hd hc) h
  | ior => exact r_ior hK (so_len hd hc) h
  | i2l => exact r_i2l hK (so_len hd hc) h
  | lmul => exact r_lmul hK (so_len hd hc) h
  | lcmp => exact r_lcmp hK (so_len hd hc) h
  | dup => exact r_dup hK (so_len hd hc) h
  | dup2 => exact r_dup2 hK (so_len hd hc) h
  | pop => exact r_pop hK (so_len hd hc) h
  | iinc k n => obtain ⟨c1, c2⟩ := so_and2 hc; obtain ⟨c2, c3⟩ := so_and2 c2; exact r_iinc hK (so_len hd c1) (Nat.le_of_ble_eq_true c2) h
  | goto off => obtain ⟨c1, c2⟩ := so_and2 hc; exact r_goto hK (so_len hd c1) (of_decide_eq_true c2) h
  | ifCond q off => obtain ⟨c1, c2⟩ := so_and2 hc; exact r_if hK (so_len hd c1) (of_decide_eq_true c2) h
  | if_icmp q off => obtain ⟨c1, c2⟩ := so_and2 hc; exact r_icmp hK (so_len hd c1) (of_decide_eq_true c2) h
  | iaload => exact r_iaload hK (so_len hd hc) (popIA_mono (fun i a st h => by obtain ⟨h1, n, rfl, h2, h3⟩ := h; exact ⟨h1, ⟨by omega, by omega⟩, h3⟩) h)
  | iastore => exact r_iastore hK (so_len hd hc) (popIIA_mono (fun x i a st h => by obtain ⟨h1, n, rfl, h2, h3⟩ := h; exact ⟨h1, ⟨by omega, by omega⟩, h3⟩) h)
  | baload => exact r_baload hK (so_len hd hc) (popIA_mono (fun i a st h => by obtain ⟨h1, n, rfl, h2, h3⟩ := h; exact ⟨h1, ⟨by omega, by omega⟩, h3⟩) h)
  | bastore => exact r_bastore hK (so_len hd hc) (popIIA_mono (fun x i a st h => by obtain ⟨h1, n, rfl, h2, h3⟩ := h; exact ⟨h1, ⟨by omega, by omega⟩, h3⟩) h)
  | aaload => exact r_aaload hK (so_len hd hc) (popIA_mono (fun i a st h => by obtain ⟨h1, n, rfl, h2, h3⟩ := h; exact ⟨h1, ⟨by omega, by omega⟩, h3⟩) h)
  | aastore => exact r_aastore hK (so_len hd hc) (popAIA_mono (fun b i a st h => by obtain ⟨h1, h0, n, rfl, h2, h3⟩ := h; exact ⟨h1, h0, ⟨by omega, by omega⟩, h3⟩) h)
  | arraylength => exact r_arraylength hK (so_len hd hc) h
  | getfield ix =>
    obtain ⟨c1, c2⟩ := so_and2 hc; obtain ⟨c2, c3⟩ := so_and2 c2; obtain ⟨c3, c4⟩ := so_and2 c3; obtain ⟨c4, c5⟩ := so_and2 c4
    exact r_getfield hK (so_len hd c1) (Nat.le_of_ble_eq_true c4) (Nat.le_of_ble_eq_true c3) (Nat.eq_of_beq_eq_true c5) (tq_in c2) (ax3_ex h)
  | putfield ix =>
    obtain ⟨c1, c2⟩ := so_and2 hc; obtain ⟨c2, c3⟩ := so_and2 c2; obtain ⟨c3, c4⟩ := so_and2 c3; obtain ⟨c4, c5⟩ := so_and2 c4; obtain ⟨c5, c6⟩ := so_and2 c5
    refine r_putfield hK (so_len hd c1) (Nat.le_of_ble_eq_true c4) (Nat.le_of_ble_eq_true c3) (Nat.eq_of_beq_eq_true c5) (tq_in c2) (fun hf => ?_) (ax3_ex h)
    rw [hf] at c6
    obtain ⟨c6, c7⟩ := so_and2 c6
    exact ⟨of_decide_eq_true c6, of_decide_eq_true c7⟩
  | newarray t =>
    obtain ⟨c1, c2⟩ := so_and2 hc; obtain ⟨c2, c3⟩ := so_and2 c2
    refine r_newarray hK (so_len hd c1) (tq_in c2) ?_ h
    cases t <;> first | exact Or.inl rfl | exact Or.inr rfl | cases c3
  | anewarray ix =>
    obtain ⟨c1, c2⟩ := so_and2 hc; obtain ⟨c2, c3⟩ := so_and2 c2
    exact r_anewarray hK (so_len hd c1) (tq_in c2) h
  | multianewarray ix d =>
    obtain ⟨c1, c2⟩ := so_and2 hc; obtain ⟨c2, c3⟩ := so_and2 c2; obtain ⟨c3, c4⟩ := so_and2 c3; obtain ⟨c4, c5⟩ := so_and2 c4
    have e2 := Nat.eq_of_beq_eq_true c2
    subst e2
    exact hmna hK (so_len hd c1) (tq_in c3) (tn_in c4) (tq_in c5) h
  | new ix =>
    obtain ⟨c1, c2⟩ := so_and2 hc; obtain ⟨c2, c3⟩ := so_and2 c2; obtain ⟨c3, c4⟩ := so_and2 c3; obtain ⟨c4, c5⟩ := so_and2 c4; obtain ⟨c5, c6⟩ := so_and2 c5
    exact r_new hK (so_len hd c1) (Nat.le_of_ble_eq_true c2) (Nat.eq_of_beq_eq_true c3) (tq_in c4) (tq_in c5) (tq_in c6) h
  | invokestatic ix =>
    obtain ⟨c1, c2⟩ := so_and2 hc
    have hd := so_len hd c1
    have h : (match aux.getD 0 0 with
      | 5 => popII st (fun x y st => gd (Nat.ble (cats st) 8 && rmk μ cs sl) (K (pc + 3) ls (.inl (max x y) :: st) cs sl w M))
      | 6 => popII st (fun x y st => gd (Nat.ble (cats st) 8 && rmk μ cs sl) (K (pc + 3) ls (.inl (min x y) :: st) cs sl w M))
      | 7 => popI st (fun x st => gd (Nat.ble (cats st) 8 && rmk μ cs sl) (inR (-x) ∧ K (pc + 3) ls (.inl (if x < 0 then -x else x) :: st) cs sl w M))
      | 8 => popC st (fun a sp b dp n st => gd (Nat.ble (cats st) 8 && rmk μ cs sl) ((w.1 a = 0 ∧ w.1 b = 0) ∧ (sp = 0 ∧ dp = 0 ∧ 0 ≤ n ∧ n ≤ w.2.1 a ∧ n ≤ w.2.1 b) ∧ K (pc + 3) ls st cs sl w (cpM M a b n.toNat)))
      | _ => gd (Nat.ble (cats (st.drop (aux.getD 2 0))) 8 && (Nat.ble (aux.getD 2 0) st.length && (Nat.beq (cats (st.take (aux.getD 2 0))) (aux.getD 2 0) && rmk μ cs sl))) (wp Γ (aux.getD 1 0) 0 (argL (aux.getD 2 0) st []) [] 0 0 w M (fun v w' M' => K (pc + 3) ls (rvs v ++ st.drop (aux.getD 2 0)) cs sl w' M'))) := h
    generalize aux.getD 0 0 = q at c2 h
    match q, c2, h with
    | 5, c2, h =>
      obtain ⟨c2, c3⟩ := so_and2 c2; obtain ⟨c3, c4⟩ := so_and2 c3; obtain ⟨c4, c5⟩ := so_and2 c4; obtain ⟨c5, c6⟩ := so_and2 c5
      exact r_max hK hd (Nat.le_of_ble_eq_true c2) (tq_in c3) (tq_in c4) (tq_in c5) (tq_in c6) h
    | 6, c2, h =>
      obtain ⟨c2, c3⟩ := so_and2 c2; obtain ⟨c3, c4⟩ := so_and2 c3; obtain ⟨c4, c5⟩ := so_and2 c4; obtain ⟨c5, c6⟩ := so_and2 c5
      exact r_min hK hd (Nat.le_of_ble_eq_true c2) (tq_in c3) (tq_in c4) (tq_in c5) (tq_in c6) h
    | 7, c2, h =>
      obtain ⟨c2, c3⟩ := so_and2 c2; obtain ⟨c3, c4⟩ := so_and2 c3; obtain ⟨c4, c5⟩ := so_and2 c4; obtain ⟨c5, c6⟩ := so_and2 c5
      exact r_abs hK hd (Nat.le_of_ble_eq_true c2) (tq_in c3) (tq_in c4) (tq_in c5) (tq_in c6) h
    | 8, c2, h =>
      obtain ⟨c2, c3⟩ := so_and2 c2; obtain ⟨c3, c4⟩ := so_and2 c3; obtain ⟨c4, c5⟩ := so_and2 c4; obtain ⟨c5, c6⟩ := so_and2 c5
      exact r_copy hK hd (Nat.le_of_ble_eq_true c2) (tq_in c3) (tq_in c4) (tq_in c5) (tq_in c6) h
    | 1, c2, h =>
      obtain ⟨c2, c3⟩ := so_and2 c2; obtain ⟨c3, c4⟩ := so_and2 c3; obtain ⟨c4, c5⟩ := so_and2 c4; obtain ⟨c5, c6⟩ := so_and2 c5
      obtain ⟨k1, k2, k3, k4⟩ := callk_ex c2
      exact r_static hK hd k1 k2 k3 k4 (Or.inl (tq_in c3)) (tq_in c4) (Nat.eq_of_beq_eq_true c5) (Nat.eq_of_beq_eq_true c6) h
    | 2, c2, h =>
      obtain ⟨c2, c3⟩ := so_and2 c2; obtain ⟨c3, c4⟩ := so_and2 c3; obtain ⟨c4, c5⟩ := so_and2 c4; obtain ⟨c5, c6⟩ := so_and2 c5
      obtain ⟨k1, k2, k3, k4⟩ := callk_ex c2
      exact r_static hK hd k1 k2 k3 k4 (Or.inr (tn_in c3)) (tq_in c4) (Nat.eq_of_beq_eq_true c5) (Nat.eq_of_beq_eq_true c6) h
    | 0, c2, h => cases c2
    | 3, c2, h => cases c2
    | 4, c2, h => cases c2
    | q + 9, c2, h => cases c2
  | invokevirtual ix =>
    obtain ⟨c1, c2⟩ := so_and2 hc; obtain ⟨c2, c3⟩ := so_and2 c2; obtain ⟨c3, c4⟩ := so_and2 c3; obtain ⟨c4, c5⟩ := so_and2 c4; obtain ⟨c5, c6⟩ := so_and2 c5; obtain ⟨c6, c7⟩ := so_and2 c6; obtain ⟨c7, c8⟩ := so_and2 c7
    obtain ⟨k1, k2, k3, k4⟩ := callk_ex c2
    exact r_virtual hK (so_len hd c1) k1 k2 k3 k4 (tq_in c3) (tq_in c4) (tq_in c5) (Nat.le_of_ble_eq_true c6) (Nat.eq_of_beq_eq_true c7) (Nat.eq_of_beq_eq_true c8) h
  | invokespecial ix =>
    obtain ⟨c1, c2⟩ := so_and2 hc
    have hd := so_len hd c1
    have h : (match aux.getD 0 0 with
      | 9 => popA st (fun _ st => gd (Nat.ble (cats st) 8 && rmk μ cs sl) (K (pc + 3) ls st cs sl w M))
      | _ => popA (st.drop (aux.getD 2 0)) (fun _ _ => gd (Nat.ble (cats (st.drop (aux.getD 2 0 + 1))) 8 && (Nat.ble (aux.getD 2 0 + 1) st.length && (Nat.beq (cats (st.take (aux.getD 2 0 + 1))) (aux.getD 2 0 + 1) && rmk μ cs sl))) (gd (rmk μ (cs + mmc (aux.getD 1 0)) (sl + mms (aux.getD 1 0))) (wp Γ (aux.getD 1 0) 0 (argL (aux.getD 2 0 + 1) st []) [] 0 0 w M (fun v w' M' => K (pc + 3) ls (rvs v ++ st.drop (aux.getD 2 0 + 1)) (cs + mmc (aux.getD 1 0)) (sl + mms (aux.getD 1 0)) w' M'))))) := h
    generalize aux.getD 0 0 = q at c2 h
    match q, c2, h with
    | 9, c2, h =>
      obtain ⟨c2, c3⟩ := so_and2 c2; obtain ⟨c3, c4⟩ := so_and2 c3; obtain ⟨c4, c5⟩ := so_and2 c4
      exact r_objInit hK hd (Nat.le_of_ble_eq_true c2) (tq_in c3) (tq_in c4) (tq_in c5) h
    | 3, c2, h =>
      obtain ⟨c2, c3⟩ := so_and2 c2; obtain ⟨c3, c4⟩ := so_and2 c3; obtain ⟨c4, c5⟩ := so_and2 c4; obtain ⟨c5, c6⟩ := so_and2 c5
      obtain ⟨k1, k2, k3, k4⟩ := callk_ex c2
      obtain ⟨a, rest, hst, h⟩ := popA_ex h
      exact r_special hK hd k1 k2 k3 k4 (Or.inl (tq_in c3)) (tq_in c4) (of_decide_eq_true c5) (of_decide_eq_true c6) h ⟨a, rest, hst⟩
    | 4, c2, h =>
      obtain ⟨c2, c3⟩ := so_and2 c2; obtain ⟨c3, c4⟩ := so_and2 c3; obtain ⟨c4, c5⟩ := so_and2 c4; obtain ⟨c5, c6⟩ := so_and2 c5
      obtain ⟨k1, k2, k3, k4⟩ := callk_ex c2
      obtain ⟨a, rest, hst, h⟩ := popA_ex h
      exact r_special hK hd k1 k2 k3 k4 (Or.inr (tn_in c3)) (tq_in c4) (of_decide_eq_true c5) (of_decide_eq_true c6) h ⟨a, rest, hst⟩
    | 0, c2, h => cases c2
    | 1, c2, h => cases c2
    | 2, c2, h => cases c2
    | 5, c2, h => cases c2
    | 6, c2, h => cases c2
    | 7, c2, h => cases c2
    | 8, c2, h => cases c2
    | q + 10, c2, h => cases c2
  | tableswitch d lo hi os =>
    obtain ⟨c1, c2⟩ := so_and2 hc; obtain ⟨c2, c3⟩ := so_and2 c2
    exact r_table hK hd (of_decide_eq_true c1) (of_decide_eq_true c2) (of_decide_eq_true c3) h
  | lookupswitch d ps =>
    obtain ⟨c1, c2⟩ := so_and2 hc; obtain ⟨c2, c3⟩ := so_and2 c2
    exact r_lookup hK hd (of_decide_eq_true c1) (of_decide_eq_true c2) c3 h
  | ireturn =>
    obtain ⟨c1, c2⟩ := so_and2 hc
    have hd := so_len hd c1
    obtain ⟨x, rfl, h7⟩ := rtI_ex h
    cases hb : isZ (mret μ) with
    | true =>
      rw [hb] at h7
      obtain ⟨h01, h7⟩ := h7
      obtain ⟨hg, h7⟩ := gd_ex h7
      exact r_ret (v := some (.inl x)) hd (fun _ => Or.inr ⟨isZ_b hb, h01⟩) hg h7
    | false =>
      rw [hb] at h7
      obtain ⟨hg, h7⟩ := gd_ex h7
      exact r_ret (v := some (.inl x)) hd (fun h9 => Or.inl ⟨rtk_i c2 hb, so_head h9⟩) hg h7
  | lreturn =>
    obtain ⟨c1, c2⟩ := so_and2 hc
    have hd := so_len hd c1
    obtain ⟨x, rfl, h7⟩ := rtL_ex h
    obtain ⟨hg, h7⟩ := gd_ex h7
    exact r_ret (v := some (.inr (.inl x))) hd (fun h9 => ⟨rtk_l c2, so_head h9⟩) hg h7
  | areturn =>
    obtain ⟨c1, c2⟩ := so_and2 hc
    have hd := so_len hd c1
    obtain ⟨x, rfl, h7⟩ := rtA_ex h
    obtain ⟨hg, h7⟩ := gd_ex h7
    exact r_ret (v := some (.inr (.inr (some x)))) hd (fun h9 => rtk_a c2) hg h7
  | return_ =>
    obtain ⟨c1, c2⟩ := so_and2 hc
    have hd := so_len hd c1
    obtain ⟨rfl, h7⟩ := rt0_ex h
    obtain ⟨hg, h7⟩ := gd_ex h7
    exact r_ret (v := none) hd (fun h9 => rtk_v c2) hg h7
  | _ => exact False.elim h
theorem lkB_in : ∀ {pc : Nat} {l : List (Nat × AI)} {ai : AI}, lkB pc l = some ai → (pc, ai) ∈ l
  | _, [], _, h => by cases h
  | pc, x :: xs, ai, h => by
    have h : (bif Nat.beq pc x.1 then some x.2 else lkB pc xs) = some ai := h
    cases hq : Nat.beq pc x.1 with
    | true =>
      rw [hq] at h
      have e := Nat.eq_of_beq_eq_true hq
      have h := Option.some.inj h
      rw [e, ← h]
      exact List.mem_cons_self
    | false =>
      rw [hq] at h
      exact List.mem_cons_of_mem _ (lkB_in h)
theorem lk2_in : ∀ {pc : Nat} {B : BK} {ai : AI}, lk2 pc B = some ai → ∃ b ∈ B, (pc, ai) ∈ b.2
  | _, [], _, h => by cases h
  | pc, x :: xs, ai, h => by
    have h : (bif Nat.ble pc x.1 then lkB pc x.2 else lk2 pc xs) = some ai := h
    cases hq : Nat.ble pc x.1 with
    | true =>
      rw [hq] at h
      exact ⟨x, List.mem_cons_self, lkB_in h⟩
    | false =>
      rw [hq] at h
      obtain ⟨b, hb, h2⟩ := lk2_in h
      exact ⟨b, List.mem_cons_of_mem _ hb, h2⟩
theorem vc_ok {Γ : GG} {μ : Nat} {Q : QT} (hmna : r_mna_open Γ) (hck : bchk μ = true) : ∀ (k : Nat) (first : Bool) (pc : Nat) (ls : LL) (st : List AV) (cs sl : Nat) (w : Wd) (M : MM), vc Γ μ (PL μ) Q k first pc ls st cs sl w M → wp Γ μ pc ls st cs sl w M Q := by
  intro k
  induction k with
  | zero => intro first pc ls st cs sl w M h; exact h
  | succ k ih =>
    intro first pc ls st cs sl w M h
    have h : (match lk2 pc (PL μ) with
      | none => False
      | some ai => bif (ai.2.2.1 && !first) then wp Γ μ pc ls st cs sl w M Q else stepv Γ μ Q (vc Γ μ (PL μ) Q k false) ai.1 ai.2.2.2.1 ai.2.2.2.2 pc ls st cs sl w M) := h
    split at h
    · exact h.elim
    · rename_i ai hai
      obtain ⟨b, hb, hin⟩ := lk2_in hai
      unfold bchk at hck
      have hc1 := List.all_eq_true.mp hck b hb
      have hc : ichk μ pc ai = true := List.all_eq_true.mp hc1 (pc, ai) hin
      cases hq : (ai.2.2.1 && !first) with
      | true => rw [hq] at h; exact h
      | false => rw [hq] at h; exact step_ok hmna (ih false) hc h
end
section
/-! THE CLAIM OUT OF ONE WALK OF THE LAW'S BODY. Your part is whole_start (and what it stands on); all else here is the same for every law, but numbers. -/
def R_law : String := "ShiftAddsLaw"
def lw_P (b : Addr) (xs : List Int32) (args : Array Value) (s : State) : Prop := args = #[.ref b] ∧ s.IntsAt b xs ∧ xs.length ≤ 2560 ∧ (Jvm.Cond.and given_1 narrow_1).before args s = true
def lw_Q (_ : Array Value) (s : State) (o : Outcome) (t : State) : Prop := o = .returned (some (.int 1)) ∧ Framed s o t [] 600000 7302250
def lw_Z (below : List Frame) (a : Array Value) (s : State) : State → Prop := fun t => ∃ o, t.status = .running ∧ Ended t below o ∧ lw_Q a s o t
/-- the law's own end, with 1 on the stack, nothing written that was there before, its room as the claim has it -/
theorem lw_ret {p : Program} {l : Launch} {e : Env} {s : State} {m : MethodId} {below : List Frame} {meth : Method} {c : Code} {b : Nat} (hx : p.tables.exec = Jvm.exec) (hb : c.code = code) (hr : meth.sig.returnType = ret) (hlocks : meth.locks = false) {pc : Nat} {H : Heap} {ls : Array Slot} (hdg : decode code pc = .ok (.ireturn, 1)) : W p l e room_1 s m #[Value.ref b] below meth c H [] 600000 7302250 (lw_Z below #[Value.ref b] s) (F0 m pc ls [.int 1]) := by
  intro T hT X
  obtain ⟨fs, hret, hrun, hended, hW, hframe⟩ := X.leave (v := some (.int 1)) (hlocks := hlocks) (fun h => by rw [hr] at h; cases h)
  have hmeth' : T.vm.method? m = some meth := X.method'
  refine ⟨T.setFrames fs, ?_, .returned (some (.int 1)), hrun, hended, rfl, ⟨_, rfl⟩, hW, hframe⟩
  jvm_step X.here [X.here.top, hx, hb, hdg, hmeth', hr, ret, narrow_b1]
  (try refine ⟨rfl, ?_⟩); (try refine ⟨rfl, ?_⟩)
  first | (intro acts; rw [hret _ acts rfl rfl rfl]) | rw [hret _ _ rfl rfl rfl]
  exact Steps.refl _
/-- what holds at the law's entry: the machine, the code, the tables' words (any of lw_tbl by 'hts w (by decide +kernel)'), the script of L ints xs at the cell b, what the Statement gives of the start (any of its parts by flat_of_before) -/
def lw_At (p : Program) (s : State) (m : MethodId) (meth : Method) (c : Code) (b L : Nat) (xs : Nat → Int32) : Prop :=
  p.tables.exec = Jvm.exec ∧ c.code = code ∧ meth.sig.returnType = ret ∧ c.maxLocals = 4 ∧ s.vm.findClass R_law = some m.cls ∧ (∀ w ∈ lw_tbl, w.before #[Value.ref b] s = true) ∧ va_X b L xs s s.heap ∧ b < s.heap.size ∧ meth.locks = false ∧ (Jvm.Cond.and given_1 narrow_1).before #[Value.ref b] s = true
/-! ===== the law's start: the abstract machine's first world ===== -/
def wd0 (L : Nat) : Wd := (fun a => if a = 0 then 14 else 15, fun a => if a = 0 then L else 0, fun _ _ => none, 0)
def mm0 (xs : Nat → Int) : MM := fun a k => if a = 0 then xs k else 0
theorem so_classes {s : State} {args : Array Value} (hts : ∀ w ∈ lw_tbl, w.before args s = true) : ∃ D : va_G, ∀ (k : Nat) (q : vw_C), vwCl[k]? = some q → u_Kn s q.1 q.2.1 q.2.2 (D.1 k) (D.2 k) := by
  have h : ∀ c, ∃ (cC : ClassId) (iS : Nat → Nat), c < 10 → u_Kn s (clN c) (clT c) (clS c) cC iS := by
    intro c
    by_cases hc : c < 10
    · have hi : ∃ n, Jvm.Cond.instantiable (clN c) n ∈ lw_tbl := by
        revert c
        exact cl_10 ⟨3, by decide +kernel⟩ ⟨5, by decide +kernel⟩ ⟨3, by decide +kernel⟩ ⟨2, by decide +kernel⟩ ⟨2, by decide +kernel⟩ ⟨3, by decide +kernel⟩ ⟨4, by decide +kernel⟩ ⟨6, by decide +kernel⟩ ⟨11, by decide +kernel⟩ ⟨26, by decide +kernel⟩
      obtain ⟨n, hn⟩ := hi
      obtain ⟨cC, iS, hK⟩ := u_known (C := clN c) (T := clT c) (N := clS c) hts (cl_in0 c hc) (hts _ hn)
      exact ⟨cC, iS, fun _ => hK⟩
    · exact ⟨0, fun _ => 0, fun h => absurd h hc⟩
  refine ⟨(fun c => Classical.choose (h c), fun c => Classical.choose (Classical.choose_spec (h c))), fun k q hq => ?_⟩
  have hk : k < 10 := (List.getElem?_eq_some_iff.mp hq).1
  rw [cl_at k hk] at hq
  cases hq
  exact Classical.choose_spec (Classical.choose_spec (h k)) hk
theorem so_arrs {s : State} {args : Array Value} (hts : ∀ w ∈ lw_tbl, w.before args s = true) : ∃ cA : Nat → ClassId, (ArrOfT s (cA 0) .int ∧ va_RA s (cA 0) .int) ∧ (ArrOfT s (cA 1) .boolean ∧ va_RA s (cA 1) .boolean) ∧ (ArrOfT s (cA 2) (.array .int) ∧ va_RA s (cA 2) (.array .int)) ∧ (ArrOfT s (cA 3) (.object "ShiftAdds$Graph") ∧ va_RA s (cA 3) (.object "ShiftAdds$Graph")) := by
  obtain ⟨c0, k0, p0, f0, g0, h0⟩ := Cond.arrayClass_spec (show (Jvm.Cond.arrayClass .int).holds args s none s [] = true from hts _ (by decide +kernel))
  obtain ⟨c1, k1, p1, f1, g1, h1⟩ := Cond.arrayClass_spec (show (Jvm.Cond.arrayClass .boolean).holds args s none s [] = true from hts _ (by decide +kernel))
  obtain ⟨p2, c2, k2, e2, -, g2, h2, f2⟩ := arrayOverA_spec (show (Jvm.Cond.arrayOver (.array .int)).holds args s none s [] = true from hts _ (by decide +kernel))
  obtain ⟨p3, c3, k3, e3, -, g3, h3, f3⟩ := Cond.arrayOver_spec (show (Jvm.Cond.arrayOver (.object "ShiftAdds$Graph")).holds args s none s [] = true from hts _ (by decide +kernel))
  refine ⟨fun k => match k with | 0 => c0 | 1 => c1 | 2 => c2 | _ => c3, ⟨?_, f0⟩, ⟨?_, f1⟩, ⟨?_, f2⟩, ⟨?_, k3, p3, g3, h3, e3, f3⟩⟩
  · exact fun n z => ⟨fun k h => (by cases h), k0, g0, p0, h0⟩
  · exact fun n z => ⟨fun k h => (by cases h), k1, g1, p1, h1⟩
  · exact fun n z => ⟨fun k h => (by cases h), k2, g2, p2, h2⟩
  · exact fun n z => ⟨fun k h => (by cases h), k3, g3, p3, h3⟩
set_option maxHeartbeats 4000000 in
theorem law_start (hwp : ∀ (Γ : GG) (L : Nat) (xs : Nat → Int), L ≤ 2560 → (∀ k, inR (xs k)) → wp Γ mL_law 0 [some (VR 0)] [] 0 0 (wd0 L) (mm0 xs) (fun v _ _ => v = some (VI 1)))
    {p : Program} {e : Env} {s : State} {m : MethodId} {below : List Frame} {meth : Method} {c : Code} (l : Launch) {b L : Nat} {xs : Nat → Int32} (hL : L ≤ 2560) (C0 : lw_At p s m meth c b L xs) : W p l e room_1 s m #[Value.ref b] below meth c s.heap [] 0 0 (lw_Z below #[Value.ref b] s) (entryFrame m ([Value.ref b] : List Value).toArray 4) := by
  obtain ⟨hx, hb, hr, hml, hown, hts, hX, hbl, hlocks, hgv⟩ := id C0
  obtain ⟨scr, x1, x2, x3, x4, x5⟩ := hX
  obtain ⟨D, hD⟩ := so_classes hts
  obtain ⟨cA, hA0, hA1, hA2, hA3⟩ := so_arrs hts
  have hw := hwp (l, D, cA, b, s.heap.size, scr) L (fun k => (xs k).toInt) hL (fun k => so_rng _)
  have hKF : KF (l, D, cA, b, s.heap.size, scr) s := by
    refine ⟨⟨hD, fun k q hk => ?_⟩, x2, fun w hw hn => ?_, va_AO.of (hts (Jvm.Cond.arrayOver (.object "ShiftAdds$Graph")) (by decide +kernel))⟩
    · match k, hk with
      | 0, hk => cases hk; exact hA0
      | 1, hk => cases hk; exact hA1
      | 2, hk => cases hk; exact hA2
      | 3, hk => cases hk; exact hA3
      | k + 4, hk => cases hk
    · have h5 := hts w hw
      unfold neW at hn
      split at hn
      · exact va_Nw.of rfl h5
      · cases hn
  have C : Cx (l, D, cA, b, s.heap.size, scr) mL_law p room_1 s m #[Value.ref b] meth c :=
    ⟨hx, hb, hr, hml, hown, fun w hw => hts w (gdT_good w hw).1, hlocks, fun h => absurd h (by decide +kernel), hKF, ⟨by decide +kernel, by decide +kernel, Nat.le_refl _, Nat.le_refl _⟩, x3, Nat.le_refl _, hbl, x1⟩
  have hl := lv_entry ([.ref b]) (n := 4) (Nat.le_of_ble_eq_true rfl)
  rw [lg_entry_eq]
  generalize (lg_sl ([.ref b]) ++ List.replicate (4 - (lg_sl ([.ref b])).length) Slot.unset).toArray = lc at hl ⊢
  have hl : lv_has lc 4 [(0, .ref b)] := hl
  refine hw p e room_1 s m _ below meth c s.heap [] lc _ C ⟨rfl, ?_, ?_, ?_, rfl, ?_, ?_, ?_⟩ ⟨hl.1, hl.2.1, fun i v hi => ?_⟩ (fun v hv => by cases hv) va_S.rf ?_
  · intro a k
    unfold mm0
    split
    · exact so_rng _
    · exact so_0
  · intro a ha
    have ha : 0 < a := ha
    show (if a = 0 then 14 else 15) = 15
    rw [if_neg (by omega)]
  · intro i hi
    exact absurd hi (Nat.not_lt_zero i)
  · exact x4
  · show L < _
    omega
  · intro j hj
    have hj : j < L := hj
    show scr.slots[j]? = some (.int (Int32.ofInt (xs j).toInt))
    rw [Int32.ofInt_toInt]
    exact x5 j hj
  · match i, hi with
    | 0, hi => cases hi; exact ⟨hl.2.2 _ List.mem_cons_self, trivial, rfl⟩
    | i + 1, hi => cases hi
  · intro v w' M' H' locs' pc' lc' hQ hok' hH' hS' hd'
    have hQ : v = some (VI 1) := hQ
    subst hQ
    refine va_forget (fun q hq => hS'.2.2 q hq) ?_
    exact lw_ret hx hb hr hlocks hd'
end
section
/-! ===== what the contracts stand on ===== -/
/-- the tables are faithful (kernel), and the rule of 'new int[n][k]' -/
def GOK (Γ : GG) : Prop := r_mna_open Γ ∧ ∀ μ, bchk μ = true
theorem vc_go {Γ : GG} (hG : GOK Γ) {μ pc : Nat} {ls : LL} {st : List AV} {cs sl : Nat} {w : Wd} {M : MM} {Q : QT} (k : Nat) {B : BK} (hB : PL μ = B) (h : vc Γ μ B Q k true pc ls st cs sl w M) : wp Γ μ pc ls st cs sl w M Q := by
  subst hB
  exact vc_ok hG.1 (hG.2 μ) k true pc ls st cs sl w M h
theorem wp_mono {Γ : GG} {μ pc : Nat} {ls : LL} {st : List AV} {cs sl : Nat} {w : Wd} {M : MM} {Q Q' : QT} (h : wp Γ μ pc ls st cs sl w M Q) (hq : ∀ v w' M', Q v w' M' → Q' v w' M') : wp Γ μ pc ls st cs sl w M Q' :=
  fun p e R s m args below meth c H locs lc Z C hH hL hSt hS hR => h p e R s m args below meth c H locs lc Z C hH hL hSt hS (fun v w M H locs pc lc hQ hok hH hS hd => hR v w M H locs pc lc (hq v w M hQ) hok hH hS hd)
/-- a world that is the same as far as its cells go -/
theorem wp_congr {Γ : GG} {μ pc : Nat} {ls : LL} {st : List AV} {cs sl : Nat} {w w' : Wd} {M M' : MM} {Q : QT} (hn : w.2.2.2 = w'.2.2.2) (hk : ∀ a, w.1 a = w'.1 a) (hl : ∀ a, a ≤ w.2.2.2 → w.2.1 a = w'.2.1 a) (hr : ∀ a, a ≤ w.2.2.2 → ∀ k, w.2.2.1 a k = w'.2.2.1 a k) (hM : ∀ a k, M a k = M' a k)
    (h : wp Γ μ pc ls st cs sl w' M' Q) : wp Γ μ pc ls st cs sl w M Q := by
  intro p e R s m args below meth c H locs lc Z C hH hL hSt hS hR
  have e1 : w'.1 = w.1 := funext (fun a => (hk a).symm)
  have e2 : M' = M := funext (fun a => funext (fun k => (hM a k).symm))
  subst e2
  refine h p e R s m args below meth c H locs lc Z C ?_ hL hSt hS hR
  obtain ⟨a1, a2, a3, a4, a5, a6, a7, a8⟩ := hH
  refine ⟨by rw [← hn]; exact a1, a2, by rw [← hn, e1]; exact a3, fun i hi => ?_, by rw [e1]; exact a5, by rw [← hl 0 (Nat.zero_le _)]; exact a6, by rw [← hl 0 (Nat.zero_le _)]; exact a7, by rw [← hl 0 (Nat.zero_le _)]; exact a8⟩
  rw [← hn] at hi
  have h9 := a4 i hi
  rw [hl (i + 1) hi, show w.2.2.1 (i + 1) = w'.2.2.1 (i + 1) from funext (hr (i + 1) hi), ← e1] at h9
  exact h9
theorem upM_eq {M : MM} {a k : Nat} {x : Int} : upM M a k x a k = x := by simp [upM]
theorem upM_a {M : MM} {a k : Nat} {x : Int} {b j : Nat} (h : b ≠ a) : upM M a k x b j = M b j := by simp [upM, h]
theorem upM_k {M : MM} {a k : Nat} {x : Int} {b j : Nat} (h : j ≠ k) : upM M a k x b j = M b j := by simp [upM, h]
-- numbers
theorem andI_1 {x : Int} (h0 : 0 ≤ x) (h : x ≤ 2147483647) : andI x 1 = x % 2 := by
  obtain ⟨n, rfl⟩ := Int.eq_ofNat_of_zero_le h0
  unfold andI
  rw [so_nat (by omega), show Int32.ofInt 1 = (1 : Int32) from rfl, pk_andN (by omega) 1 (by decide), nI_toInt (by have := Nat.mod_lt n (show 0 < 2 ^ 1 by decide); omega)]
  omega
theorem andI_1N {n : Nat} (h : n ≤ 2147483647) : andI (n : Int) 1 = ((n % 2 : Nat) : Int) := by
  rw [andI_1 (by omega) (by omega)]
  rfl
theorem andI_3 {x : Int} (h0 : 0 ≤ x) (h : x ≤ 2147483647) : andI x 3 = x % 4 := by
  obtain ⟨n, rfl⟩ := Int.eq_ofNat_of_zero_le h0
  unfold andI
  rw [so_nat (by omega), show Int32.ofInt 3 = (3 : Int32) from rfl, pk_andN (by omega) 2 (by decide), nI_toInt (by have := Nat.mod_lt n (show 0 < 2 ^ 2 by decide); omega)]
  omega
theorem andI_15 {x : Int} (h0 : 0 ≤ x) (h : x ≤ 2147483647) : andI x 15 = x % 16 := by
  obtain ⟨n, rfl⟩ := Int.eq_ofNat_of_zero_le h0
  unfold andI
  rw [so_nat (by omega), show Int32.ofInt 15 = (15 : Int32) from rfl, pk_andN (by omega) 4 (by decide), nI_toInt (by have := Nat.mod_lt n (show 0 < 2 ^ 4 by decide); omega)]
  omega
theorem andI_31 (x : Int) : ∃ j : Nat, j < 32 ∧ andI x 31 = j := by
  obtain ⟨j, h1, h2⟩ := pk_andE (Int32.ofInt x) (m := (31 : Int32)) 5 (by decide)
  refine ⟨j, h1, ?_⟩
  unfold andI
  rw [show Int32.ofInt 31 = (31 : Int32) from rfl, h2, nI_toInt (by omega)]
theorem orI_add {a b k : Nat} (h : b < 2 ^ k) (hk : 2 ^ k * a + b < 2 ^ 31) : orI ((2 ^ k * a : Nat) : Int) (b : Int) = ((2 ^ k * a + b : Nat) : Int) := by
  unfold orI
  have e : nI (2 ^ k * a) ||| nI b = nI (2 ^ k * a + b) := by
    apply Int32.toBitVec_inj.mp
    apply BitVec.eq_of_toNat_eq
    show ((nI (2 ^ k * a)).toBitVec ||| (nI b).toBitVec).toNat = _
    rw [BitVec.toNat_or, pk_tn (by omega), pk_tn (by omega), pk_tn (by omega), Nat.two_pow_add_eq_or_of_lt h]
  rw [so_nat (by omega), so_nat (by omega), e, nI_toInt hk]
theorem pw9 {s : Nat} (h : s ≤ 9) : 1 ≤ 2 ^ s ∧ 2 ^ s ≤ 512 := ⟨Nat.one_le_two_pow, Nat.pow_le_pow_right (by decide) h⟩
theorem pw31 {s : Nat} (h : s ≤ 30) : 1 ≤ 2 ^ s ∧ 2 ^ s ≤ 1073741824 := ⟨Nat.one_le_two_pow, Nat.pow_le_pow_right (by decide) h⟩
theorem shN (p s : Nat) : (p : Int) * 2 ^ ((s : Int).toNat) = ((p * 2 ^ s : Nat) : Int) := by
  rw [Int.toNat_natCast, Int.natCast_mul, Int.natCast_pow]; rfl
theorem srN (p s : Nat) : (p : Int) / 2 ^ ((s : Int).toNat) = ((p / 2 ^ s : Nat) : Int) := by
  rw [Int.toNat_natCast, Int.natCast_ediv, Int.natCast_pow]; rfl
/-- what comes of an adder of two values -/
def cms (p s q f : Nat) : Nat := if f = 0 then p * 2 ^ s + q else if f = 1 then (p * 2 ^ s - q) + (q - p * 2 ^ s) else if f = 2 then p + q * 2 ^ s else (p - q * 2 ^ s) + (q * 2 ^ s - p)
def hvF : Nat → Nat → Nat
  | 0, _ => 0
  | k + 1, n => if n % 2 = 0 ∧ n ≠ 0 then hvF k (n / 2) + 1 else 0
/-- how often a number is halved till it is odd (below 2048) -/
def hv (n : Nat) : Nat := hvF 11 n
def odp (n : Nat) : Nat := n / 2 ^ hv n
theorem hvF_le : ∀ k n, hvF k n ≤ k
  | 0, _ => Nat.le_refl _
  | k + 1, n => by
    have := hvF_le k (n / 2)
    unfold hvF
    split <;> omega
theorem hv_le (n : Nat) : hv n ≤ 11 := hvF_le 11 n
theorem hvF_div : ∀ k n, n / 2 ^ hvF k n * 2 ^ hvF k n = n
  | 0, n => by simp [hvF]
  | k + 1, n => by
    unfold hvF
    split
    · rename_i h
      have ih := hvF_div k (n / 2)
      have h2 : n = n / 2 * 2 := by omega
      generalize hvF k (n / 2) = j at ih ⊢
      rw [Nat.pow_succ, Nat.mul_comm (2 ^ j) 2, ← Nat.div_div_eq_div_mul, Nat.mul_comm 2, ← Nat.mul_assoc, ih]
      omega
    · simp
theorem odp_mul (n : Nat) : odp n * 2 ^ hv n = n := hvF_div 11 n
theorem hvF_odd : ∀ k n, n ≠ 0 → n < 2 ^ k → (n / 2 ^ hvF k n) % 2 = 1
  | 0, n, h0, h => by simp at h; omega
  | k + 1, n, h0, h => by
    unfold hvF
    split
    · rename_i h9
      have ih := hvF_odd k (n / 2) (by omega) (by rw [Nat.pow_succ] at h; omega)
      generalize hvF k (n / 2) = j at ih ⊢
      rw [Nat.pow_succ, Nat.mul_comm (2 ^ j) 2, ← Nat.div_div_eq_div_mul]
      exact ih
    · simp; omega
theorem odp_odd {n : Nat} (h0 : n ≠ 0) (h : n < 2048) : odp n % 2 = 1 := hvF_odd 11 n h0 h
theorem odp_le (n : Nat) : odp n ≤ n := Nat.div_le_self _ _
theorem odp_0 : odp 0 = 0 := by decide
theorem odp_pos {n : Nat} (h0 : n ≠ 0) : 1 ≤ odp n := by
  have h1 := odp_mul n
  apply Nat.pos_of_ne_zero
  intro q
  rw [q] at h1
  omega
/-- the odd part is the only odd number that makes the number by doubling -/
theorem odd_uniq : ∀ {i j a b : Nat}, a % 2 = 1 → b % 2 = 1 → a * 2 ^ i = b * 2 ^ j → a = b ∧ i = j
  | 0, 0, a, b, _, _, h => by simp at h; exact ⟨h, rfl⟩
  | 0, j + 1, a, b, ha, _, h => by
    rw [Nat.pow_zero, Nat.pow_succ, ← Nat.mul_assoc] at h
    omega
  | i + 1, 0, a, b, _, hb, h => by
    rw [Nat.pow_zero, Nat.pow_succ, ← Nat.mul_assoc] at h
    omega
  | i + 1, j + 1, a, b, ha, hb, h => by
    rw [Nat.pow_succ, Nat.pow_succ, ← Nat.mul_assoc, ← Nat.mul_assoc] at h
    obtain ⟨h1, h2⟩ := odd_uniq (i := i) (j := j) ha hb (by omega)
    exact ⟨h1, by omega⟩
theorem odp_iff {n v : Nat} (h0 : n ≠ 0) (h : n < 2048) (hv1 : v % 2 = 1) : odp n = v ↔ ∃ d, n = v * 2 ^ d := by
  constructor
  · intro e
    exact ⟨hv n, by rw [← e, odp_mul]⟩
  · rintro ⟨d, hd⟩
    exact (odd_uniq (odp_odd h0 h) hv1 ((odp_mul n).trans hd)).1
-- the class's own numbers
section Leaf
variable {Γ : GG} {w : Wd} {M : MM} {Q : QT}
set_option maxRecDepth 20000 in
theorem c_comes (hG : GOK Γ) {pI sI qI fI : Int} {p s q f : Nat} (ep : pI = p) (es : sI = s) (eq : qI = q) (ef : fI = f) (hp : p ≤ 1023) (hs : s ≤ 9) (hq : q ≤ 1023) (hf : f ≤ 3) (h : Q (some (VI (cms p s q f : Nat))) w M) : wp Γ mX9_comes 0 [some (VI pI), some (VI sI), some (VI qI), some (VI fI)] [] 0 0 w M Q := by
  subst ep es eq ef
  have h1 := pw9 hs
  have h2 : p * 2 ^ s ≤ 1023 * 512 := Nat.mul_le_mul hp h1.2
  have h3 : q * 2 ^ s ≤ 1023 * 512 := Nat.mul_le_mul hq h1.2
  have e2 := shN p s
  have e3 := shN q s
  unfold cms at h
  refine vc_go hG 40 (B := bX9_comes) rfl ?_
  refine And.intro (fun a => ?_) (And.intro (fun a => ?_) (And.intro (fun a => ?_) (And.intro (fun a => ?_) trivial)))
  · have hf3 : f = 3 := by omega
    rw [hf3] at h
    refine And.intro ⟨by omega, by omega, by omega, by rw [e3]; omega⟩ ?_
    rw [e3]
    refine And.intro (by omega) ?_
    refine And.intro (by omega) ?_
    have e : (if (p : Int) - ((q * 2 ^ s : Nat) : Int) < 0 then -((p : Int) - ((q * 2 ^ s : Nat) : Int)) else (p : Int) - ((q * 2 ^ s : Nat) : Int)) = (((p - q * 2 ^ s) + (q * 2 ^ s - p) : Nat) : Int) := by split <;> omega
    rw [e]
    exact h
  · have hf3 : f = 0 := by omega
    rw [hf3] at h
    refine And.intro ⟨by omega, by omega, by omega, by rw [e2]; omega⟩ ?_
    rw [e2]
    refine And.intro (by omega) ?_
    exact h
  · have hf3 : f = 1 := by omega
    rw [hf3] at h
    refine And.intro ⟨by omega, by omega, by omega, by rw [e2]; omega⟩ ?_
    rw [e2]
    refine And.intro (by omega) ?_
    refine And.intro (by omega) ?_
    have e : (if ((p * 2 ^ s : Nat) : Int) - (q : Int) < 0 then -(((p * 2 ^ s : Nat) : Int) - (q : Int)) else ((p * 2 ^ s : Nat) : Int) - (q : Int)) = (((p * 2 ^ s - q) + (q - p * 2 ^ s) : Nat) : Int) := by split <;> omega
    rw [e]
    exact h
  · have hf3 : f = 2 := by omega
    rw [hf3] at h
    refine And.intro ⟨by omega, by omega, by omega, by rw [e3]; omega⟩ ?_
    rw [e3]
    refine And.intro (by omega) ?_
    exact h
theorem l_halvings (hG : GOK Γ) {n : Nat} (hn : n ≤ 2147483647) : ∀ (j k : Nat), k + j = 11 → n / 2 ^ k * 2 ^ k = n → Q (some (VI ((k + hvF j (n / 2 ^ k) : Nat)))) w M → wp Γ mX9_halvings 2 [some (VI n), some (VI k)] [] 0 0 w M Q := by
  intro j
  induction j with
  | zero =>
    intro k hk hd h
    refine vc_go hG 40 (B := bX9_halvings) rfl ?_
    refine And.intro (fun a => ?_) (fun a => by omega)
    have e : k + hvF 0 (n / 2 ^ k) = k := rfl
    rw [e] at h
    exact h
  | succ j ih =>
    intro k hk hd h
    have hs := srN n k
    have hle : n / 2 ^ k ≤ n := Nat.div_le_self _ _
    refine vc_go hG 40 (B := bX9_halvings) rfl ?_
    refine And.intro (fun a => by omega) (fun a => ?_)
    refine And.intro (fun b => ?_) (fun b => ?_)
    · have hn0 : n = 0 := by omega
      subst hn0
      have e : k + hvF (j + 1) (0 / 2 ^ k) = k := by simp [hvF]
      rw [e] at h
      exact h
    · have hnz : n / 2 ^ k ≠ 0 := by
        intro q
        rw [q] at hd
        omega
      refine And.intro ⟨by omega, by omega, by omega⟩ ?_
      rw [hs]
      refine And.intro (fun c => ?_) (fun c => ?_)
      · rw [andI_1N (Nat.le_trans hle hn)] at c
        have e : k + hvF (j + 1) (n / 2 ^ k) = k := by
          unfold hvF
          rw [if_neg (fun z => c (by rw [z.1]; rfl))]
          rfl
        rw [e] at h
        exact h
      · rw [andI_1N (Nat.le_trans hle hn)] at c
        refine And.intro (by omega) ?_
        refine ih (k + 1) (by omega) ?_ ?_
        · rw [Nat.pow_succ, ← Nat.div_div_eq_div_mul, Nat.mul_comm (2 ^ k) 2, ← Nat.mul_assoc]
          have c1 : n / 2 ^ k % 2 = 0 := Int.ofNat.inj c
          have : n / 2 ^ k / 2 * 2 = n / 2 ^ k := by omega
          rw [this]
          exact hd
        · have e : k + hvF (j + 1) (n / 2 ^ k) = k + 1 + hvF j (n / 2 ^ (k + 1)) := by
            rw [hvF, if_pos ⟨Int.ofNat.inj c, hnz⟩, Nat.pow_succ, ← Nat.div_div_eq_div_mul]
            omega
          rw [e] at h
          exact h
theorem c_halvings (hG : GOK Γ) {nI : Int} {n : Nat} (en : nI = n) (hn : n ≤ 2147483647) (h : Q (some (VI (hv n : Nat))) w M) : wp Γ mX9_halvings 0 [some (VI nI)] [] 0 0 w M Q := by
  subst en
  refine vc_go hG 40 (B := bX9_halvings) rfl ?_
  refine l_halvings hG hn 11 0 rfl (by simp) ?_
  rw [Nat.zero_add, Nat.pow_zero, Nat.div_one]
  exact h
theorem c_oddPart (hG : GOK Γ) {nI : Int} {n : Nat} (en : nI = n) (hn : n ≤ 2147483647) (h : Q (some (VI (odp n : Nat))) w M) : wp Γ mX9_oddPart 0 [some (VI nI)] [] 0 0 w M Q := by
  subst en
  refine vc_go hG 40 (B := bX9_oddPart) rfl ?_
  refine c_halvings hG rfl hn ?_
  have h1 := hv_le n
  refine And.intro ⟨by omega, by omega, by omega⟩ ?_
  rw [srN]
  exact h
def isOddN (v : Int) : Prop := 1 ≤ v ∧ v ≤ 1023 ∧ v % 2 = 1
theorem c_isOddNumber (hG : GOK Γ) {v : Int} (h1 : isOddN v → Q (some (VI 1)) w M) (h0 : ¬ isOddN v → Q (some (VI 0)) w M) : wp Γ mX9_isOddNumber 0 [some (VI v)] [] 0 0 w M Q := by
  unfold isOddN at h1 h0
  refine vc_go hG 40 (B := bX9_isOddNumber) rfl ?_
  refine And.intro (fun a => And.intro (Or.inl rfl) (h0 (by omega))) (fun a => ?_)
  refine And.intro (fun b => And.intro (Or.inl rfl) (h0 (by omega))) (fun b => ?_)
  refine And.intro (fun c => And.intro (Or.inl rfl) (h0 ?_)) (fun c => And.intro (Or.inr rfl) (h1 ?_))
  · rw [andI_1 (by omega) (by omega)] at c; omega
  · rw [andI_1 (by omega) (by omega)] at c; omega
-- Way: an adder as one number
def cdw (p q s f : Nat) : Nat := 1024 * p + 64 * q + 4 * s + f
theorem c_wayOf (hG : GOK Γ) {pI qI sI fI : Int} {p q s f : Nat} (ep : pI = p) (eq : qI = q) (es : sI = s) (ef : fI = f) (hp : p ≤ 12) (hq : q ≤ 12) (hs : s ≤ 9) (hf : f ≤ 3) (h : Q (some (VI (cdw p q s f : Nat))) w M) : wp Γ mX8_of 0 [some (VI pI), some (VI qI), some (VI sI), some (VI fI)] [] 0 0 w M Q := by
  subst ep eq es ef
  have e1 := shN p 10
  have e2 := shN q 6
  have e3 := shN s 2
  refine vc_go hG 40 (B := bX8_of) rfl ?_
  refine And.intro ⟨by omega, by omega, by omega, ?_⟩ ?_
  · have : (p : Int) * 2 ^ ((10 : Int).toNat) = ((p * 2 ^ 10 : Nat) : Int) := e1
    rw [this]; omega
  refine And.intro ⟨by omega, by omega, by omega, ?_⟩ ?_
  · have : (q : Int) * 2 ^ ((6 : Int).toNat) = ((q * 2 ^ 6 : Nat) : Int) := e2
    rw [this]; omega
  refine And.intro ⟨by omega, by omega, by omega, ?_⟩ ?_
  · have : (s : Int) * 2 ^ ((2 : Int).toNat) = ((s * 2 ^ 2 : Nat) : Int) := e3
    rw [this]; omega
  have o1 : orI ((p : Int) * 2 ^ ((10 : Int).toNat)) ((q : Int) * 2 ^ ((6 : Int).toNat)) = ((1024 * p + 64 * q : Nat) : Int) := by
    have := orI_add (a := p) (b := 64 * q) (k := 10) (by omega) (by omega)
    rw [show (p : Int) * 2 ^ ((10 : Int).toNat) = ((2 ^ 10 * p : Nat) : Int) from e1.trans (by rw [Nat.mul_comm]), show (q : Int) * 2 ^ ((6 : Int).toNat) = ((64 * q : Nat) : Int) from e2.trans (by rw [Nat.mul_comm])]
    exact this
  have o2 : orI ((1024 * p + 64 * q : Nat) : Int) ((s : Int) * 2 ^ ((2 : Int).toNat)) = ((1024 * p + 64 * q + 4 * s : Nat) : Int) := by
    have := orI_add (a := 16 * p + q) (b := 4 * s) (k := 6) (by omega) (by omega)
    rw [show (s : Int) * 2 ^ ((2 : Int).toNat) = ((4 * s : Nat) : Int) from e3.trans (by rw [Nat.mul_comm])]
    rw [show 2 ^ 6 * (16 * p + q) = 1024 * p + 64 * q by omega] at this
    exact this
  have o3 : orI ((1024 * p + 64 * q + 4 * s : Nat) : Int) (f : Int) = ((cdw p q s f : Nat) : Int) := by
    have := orI_add (a := 256 * p + 16 * q + s) (b := f) (k := 2) (by omega) (by omega)
    rw [show 2 ^ 2 * (256 * p + 16 * q + s) = 1024 * p + 64 * q + 4 * s by omega] at this
    exact this
  show Q (some (VI (orI (orI (orI ((p : Int) * 2 ^ ((10 : Int).toNat)) ((q : Int) * 2 ^ ((6 : Int).toNat))) ((s : Int) * 2 ^ ((2 : Int).toNat))) (f : Int)))) w M
  rw [o1, o2, o3]
  exact h
theorem c_wayP (hG : GOK Γ) {cI : Int} {c : Nat} (ec : cI = c) (hc : c ≤ 2147483647) (h : Q (some (VI (c / 1024 : Nat))) w M) : wp Γ mX8_p 0 [some (VI cI)] [] 0 0 w M Q := by
  subst ec
  refine vc_go hG 40 (B := bX8_p) rfl ?_
  refine And.intro ⟨by omega, by omega, by omega⟩ ?_
  rw [show (c : Int) / 2 ^ ((10 : Int).toNat) = ((c / 1024 : Nat) : Int) from srN c 10]
  exact h
theorem c_wayQ (hG : GOK Γ) {cI : Int} {c : Nat} (ec : cI = c) (hc : c ≤ 2147483647) (h : Q (some (VI (c / 64 % 16 : Nat))) w M) : wp Γ mX8_q 0 [some (VI cI)] [] 0 0 w M Q := by
  subst ec
  refine vc_go hG 40 (B := bX8_q) rfl ?_
  refine And.intro ⟨by omega, by omega, by omega⟩ ?_
  show Q (some (VI (andI ((c : Int) / 2 ^ ((6 : Int).toNat)) 15))) w M
  rw [show (c : Int) / 2 ^ ((6 : Int).toNat) = ((c / 64 : Nat) : Int) from srN c 6, andI_15 (by omega) (by omega)]
  exact h
theorem c_wayS (hG : GOK Γ) {cI : Int} {c : Nat} (ec : cI = c) (hc : c ≤ 2147483647) (h : Q (some (VI (c / 4 % 16 : Nat))) w M) : wp Γ mX8_shift 0 [some (VI cI)] [] 0 0 w M Q := by
  subst ec
  refine vc_go hG 40 (B := bX8_shift) rfl ?_
  refine And.intro ⟨by omega, by omega, by omega⟩ ?_
  show Q (some (VI (andI ((c : Int) / 2 ^ ((2 : Int).toNat)) 15))) w M
  rw [show (c : Int) / 2 ^ ((2 : Int).toNat) = ((c / 4 : Nat) : Int) from srN c 2, andI_15 (by omega) (by omega)]
  exact h
theorem c_wayF (hG : GOK Γ) {cI : Int} {c : Nat} (ec : cI = c) (hc : c ≤ 2147483647) (h : Q (some (VI (c % 4 : Nat))) w M) : wp Γ mX8_form 0 [some (VI cI)] [] 0 0 w M Q := by
  subst ec
  refine vc_go hG 40 (B := bX8_form) rfl ?_
  show Q (some (VI (andI (c : Int) 3))) w M
  rw [andI_3 (by omega) (by omega)]
  exact h
end Leaf
end
section
/-! ===== the class's Graph ===== -/
/-- a graph, as mathematics: adders n, their p, s, q, form, the values and depths of ODDS, how many are wanted, which, the limit -/
abbrev GT : Type := Nat × (Nat → Nat) × (Nat → Nat) × (Nat → Nat) × (Nat → Nat) × (Nat → Nat) × (Nat → Nat) × Nat × (Nat → Nat) × Nat
abbrev qn (G : GT) : Nat := G.1
abbrev qP (G : GT) : Nat → Nat := G.2.1
abbrev qS (G : GT) : Nat → Nat := G.2.2.1
abbrev qQ (G : GT) : Nat → Nat := G.2.2.2.1
abbrev qF (G : GT) : Nat → Nat := G.2.2.2.2.1
abbrev qV (G : GT) : Nat → Nat := G.2.2.2.2.2.1
abbrev qD (G : GT) : Nat → Nat := G.2.2.2.2.2.2.1
abbrev qm (G : GT) : Nat := G.2.2.2.2.2.2.2.1
abbrev qC (G : GT) : Nat → Nat := G.2.2.2.2.2.2.2.2.1
abbrev qL (G : GT) : Nat := G.2.2.2.2.2.2.2.2.2
/-- what comes of adder k -/
abbrev qX (G : GT) (k : Nat) : Nat := cms (qV G (qP G k)) (qS G k) (qV G (qQ G k)) (qF G k)
def WFG (G : GT) : Prop := qn G ≤ 12 ∧ qm G ≤ 6 ∧ (1 ≤ qL G ∧ qL G ≤ 9) ∧ qV G 0 = 1 ∧ qD G 0 = 0 ∧
  (∀ k, k < qn G → qP G k ≤ k ∧ qQ G k ≤ k ∧ qS G k ≤ 9 ∧ qF G k ≤ 3 ∧ 1 ≤ qX G k ∧ qX G k ≤ 1023 ∧ qV G (k + 1) = odp (qX G k) ∧ qD G (k + 1) = max (qD G (qP G k)) (qD G (qQ G k)) + 1) ∧
  (∀ k, k < qm G → 1 ≤ qC G k ∧ qC G k ≤ 1023) ∧ ∀ i j, i < qm G → j < qm G → qC G i = qC G j → i = j
theorem WFG_V {G : GT} (h : WFG G) : ∀ k, k ≤ qn G → 1 ≤ qV G k ∧ qV G k ≤ 1023 ∧ qV G k % 2 = 1 := by
  obtain ⟨h1, h2, h3, h4, h5, h6, -⟩ := h
  intro k hk
  cases k with
  | zero => rw [h4]; decide
  | succ k =>
    obtain ⟨-, -, -, -, a1, a2, a3, -⟩ := h6 k hk
    have b1 := odp_le (qX G k)
    have b2 := odp_pos (n := qX G k) (by omega)
    have b3 := odp_odd (n := qX G k) (by omega) (by omega)
    rw [a3]
    omega
theorem WFG_D {G : GT} (h : WFG G) : ∀ k, k ≤ qn G → qD G k ≤ k := by
  obtain ⟨h1, h2, h3, h4, h5, h6, -⟩ := h
  intro k
  induction k using Nat.strongRecOn with
  | ind k ih =>
    intro hk
    cases k with
    | zero => rw [h5]; exact Nat.le_refl _
    | succ k =>
      obtain ⟨a1, a2, -, -, -, -, -, a4⟩ := h6 k hk
      have b1 := ih (qP G k) (by omega) (by omega)
      have b2 := ih (qQ G k) (by omega) (by omega)
      rw [a4]
      omega
/-- a graph's cells: the object, the array of rows, seven rows, the constants -/
def GrL (w : Wd) (g : Nat) : Prop := w.1 g = 5 ∧ w.2.2.1 g 0 = some (g + 1) ∧ w.2.2.1 g 1 = some (g + 9) ∧ w.1 (g + 1) = 2 ∧ w.2.1 (g + 1) = 7 ∧ (∀ j, j < 7 → w.2.2.1 (g + 1) j = some (g + 2 + j) ∧ w.1 (g + 2 + j) = 0 ∧ w.2.1 (g + 2 + j) = 13) ∧ w.1 (g + 9) = 0 ∧ w.2.1 (g + 9) = 6
theorem GrL.k {w : Wd} {g : Nat} (h : GrL w g) : w.1 g = 5 := h.1
theorem GrL.o {w : Wd} {g : Nat} (h : GrL w g) : w.2.2.1 g 0 = some (g + 1) := h.2.1
theorem GrL.c {w : Wd} {g : Nat} (h : GrL w g) : w.2.2.1 g 1 = some (g + 9) := h.2.2.1
theorem GrL.ok {w : Wd} {g : Nat} (h : GrL w g) : w.1 (g + 1) = 2 := h.2.2.2.1
theorem GrL.ol {w : Wd} {g : Nat} (h : GrL w g) : w.2.1 (g + 1) = 7 := h.2.2.2.2.1
theorem GrL.r {w : Wd} {g : Nat} (h : GrL w g) (j : Nat) (hj : j < 7) : w.2.2.1 (g + 1) j = some (g + 2 + j) := (h.2.2.2.2.2.1 j hj).1
theorem GrL.rk {w : Wd} {g : Nat} (h : GrL w g) (j : Nat) (hj : j < 7) : w.1 (g + 2 + j) = 0 := (h.2.2.2.2.2.1 j hj).2.1
theorem GrL.rl {w : Wd} {g : Nat} (h : GrL w g) (j : Nat) (hj : j < 7) : w.2.1 (g + 2 + j) = 13 := (h.2.2.2.2.2.1 j hj).2.2
theorem GrL.r0 {w : Wd} {g : Nat} (h : GrL w g) : w.2.2.1 (g + 1) 0 = some (g + 2) := h.r 0 (by decide)
theorem GrL.k0 {w : Wd} {g : Nat} (h : GrL w g) : w.1 (g + 2) = 0 := h.rk 0 (by decide)
theorem GrL.l0 {w : Wd} {g : Nat} (h : GrL w g) : w.2.1 (g + 2) = 13 := h.rl 0 (by decide)
theorem GrL.r1 {w : Wd} {g : Nat} (h : GrL w g) : w.2.2.1 (g + 1) 1 = some (g + 3) := h.r 1 (by decide)
theorem GrL.k1 {w : Wd} {g : Nat} (h : GrL w g) : w.1 (g + 3) = 0 := h.rk 1 (by decide)
theorem GrL.l1 {w : Wd} {g : Nat} (h : GrL w g) : w.2.1 (g + 3) = 13 := h.rl 1 (by decide)
theorem GrL.r2 {w : Wd} {g : Nat} (h : GrL w g) : w.2.2.1 (g + 1) 2 = some (g + 4) := h.r 2 (by decide)
theorem GrL.k2 {w : Wd} {g : Nat} (h : GrL w g) : w.1 (g + 4) = 0 := h.rk 2 (by decide)
theorem GrL.l2 {w : Wd} {g : Nat} (h : GrL w g) : w.2.1 (g + 4) = 13 := h.rl 2 (by decide)
theorem GrL.r3 {w : Wd} {g : Nat} (h : GrL w g) : w.2.2.1 (g + 1) 3 = some (g + 5) := h.r 3 (by decide)
theorem GrL.k3 {w : Wd} {g : Nat} (h : GrL w g) : w.1 (g + 5) = 0 := h.rk 3 (by decide)
theorem GrL.l3 {w : Wd} {g : Nat} (h : GrL w g) : w.2.1 (g + 5) = 13 := h.rl 3 (by decide)
theorem GrL.r4 {w : Wd} {g : Nat} (h : GrL w g) : w.2.2.1 (g + 1) 4 = some (g + 6) := h.r 4 (by decide)
theorem GrL.k4 {w : Wd} {g : Nat} (h : GrL w g) : w.1 (g + 6) = 0 := h.rk 4 (by decide)
theorem GrL.l4 {w : Wd} {g : Nat} (h : GrL w g) : w.2.1 (g + 6) = 13 := h.rl 4 (by decide)
theorem GrL.r5 {w : Wd} {g : Nat} (h : GrL w g) : w.2.2.1 (g + 1) 5 = some (g + 7) := h.r 5 (by decide)
theorem GrL.k5 {w : Wd} {g : Nat} (h : GrL w g) : w.1 (g + 7) = 0 := h.rk 5 (by decide)
theorem GrL.l5 {w : Wd} {g : Nat} (h : GrL w g) : w.2.1 (g + 7) = 13 := h.rl 5 (by decide)
theorem GrL.r6 {w : Wd} {g : Nat} (h : GrL w g) : w.2.2.1 (g + 1) 6 = some (g + 8) := h.r 6 (by decide)
theorem GrL.k6 {w : Wd} {g : Nat} (h : GrL w g) : w.1 (g + 8) = 0 := h.rk 6 (by decide)
theorem GrL.l6 {w : Wd} {g : Nat} (h : GrL w g) : w.2.1 (g + 8) = 13 := h.rl 6 (by decide)
theorem GrL.ck {w : Wd} {g : Nat} (h : GrL w g) : w.1 (g + 9) = 0 := h.2.2.2.2.2.2.1
theorem GrL.cl {w : Wd} {g : Nat} (h : GrL w g) : w.2.1 (g + 9) = 6 := h.2.2.2.2.2.2.2
def GrR (M : MM) (g : Nat) (G : GT) : Prop := M g 2 = qn G ∧ M g 3 = qm G ∧ M g 4 = qL G ∧ (∀ k, k ≤ qn G → M (g + 2) k = qV G k ∧ M (g + 3) k = qD G k) ∧ (M (g + 4) 0 = -9 ∧ M (g + 5) 0 = -9 ∧ M (g + 6) 0 = -9 ∧ M (g + 7) 0 = -9 ∧ M (g + 8) 0 = 0) ∧
  (∀ k, k < qn G → M (g + 4) (k + 1) = qP G k ∧ M (g + 5) (k + 1) = qQ G k ∧ M (g + 6) (k + 1) = qS G k ∧ M (g + 7) (k + 1) = qF G k ∧ M (g + 8) (k + 1) = hv (qX G k)) ∧ ∀ k, k < qm G → M (g + 9) k = qC G k
/-- nothing but a graph's ten cells has changed -/
def frG (M M' : MM) (g : Nat) : Prop := ∀ a, a < g ∨ g + 9 < a → M' a = M a
theorem GrR.keep {M M' : MM} {g : Nat} {G : GT} (h : GrR M g G) (hf : ∀ a, g ≤ a → a ≤ g + 9 → M' a = M a) : GrR M' g G := by
  unfold GrR
  rw [hf g (by omega) (by omega), hf (g + 2) (by omega) (by omega), hf (g + 3) (by omega) (by omega), hf (g + 4) (by omega) (by omega), hf (g + 5) (by omega) (by omega), hf (g + 6) (by omega) (by omega), hf (g + 7) (by omega) (by omega), hf (g + 8) (by omega) (by omega), hf (g + 9) (by omega) (by omega)]
  exact h
section Graph
variable {Γ : GG} {w : Wd} {M : MM} {Q : QT} {g : Nat} {G : GT}
theorem c_isThere (hG : GOK Γ) (hg : GrL w g) (hr : GrR M g G) {k : Int} (h1 : 0 ≤ k ∧ k ≤ qn G → Q (some (VI 1)) w M) (h0 : ¬ (0 ≤ k ∧ k ≤ qn G) → Q (some (VI 0)) w M) : wp Γ mX1_isThere 0 [some (VR g), some (VI k)] [] 0 0 w M Q := by
  have e := hr.1
  refine vc_go hG 40 (B := bX1_isThere) rfl ?_
  refine And.intro (fun a => And.intro (Or.inl rfl) (h0 (by omega))) (fun a => ?_)
  refine And.intro hg.k ?_
  refine And.intro (fun b => And.intro (Or.inl rfl) (h0 (by omega))) (fun b => And.intro (Or.inr rfl) (h1 (by omega)))
theorem c_value (hG : GOK Γ) (hg : GrL w g) (hr : GrR M g G) (hw : WFG G) {kI : Int} {k : Nat} (ek : kI = k) (hk : k ≤ qn G) (h : Q (some (VI (qV G k))) w M) : wp Γ mX1_value 0 [some (VR g), some (VI kI)] [] 0 0 w M Q := by
  subst ek
  have e := hr.1
  have e2 := (hr.2.2.2.1 k hk).1
  have e3 := hw.1
  refine vc_go hG 40 (B := bX1_value) rfl ?_
  refine And.intro (fun a => by omega) (fun a => ?_)
  refine And.intro hg.k ?_
  refine And.intro (fun b => by omega) (fun b => ?_)
  refine And.intro hg.k (Exists.intro _ (And.intro hg.o ?_))
  refine And.intro (Or.inl hg.ok) (Exists.intro 0 (And.intro rfl (And.intro (by rw [hg.ol]; omega) (Exists.intro _ (And.intro hg.r0 ?_)))))
  refine And.intro (Or.inl hg.k0) (Exists.intro k (And.intro rfl (And.intro (by rw [hg.l0]; omega) ?_)))
  rw [← e2] at h
  exact h
theorem c_depth (hG : GOK Γ) (hg : GrL w g) (hr : GrR M g G) (hw : WFG G) {kI : Int} {k : Nat} (ek : kI = k) (hk : k ≤ qn G) (h : Q (some (VI (qD G k))) w M) : wp Γ mX1_depth 0 [some (VR g), some (VI kI)] [] 0 0 w M Q := by
  subst ek
  have e := hr.1
  have e2 := (hr.2.2.2.1 k hk).2
  have e3 := hw.1
  refine vc_go hG 40 (B := bX1_depth) rfl ?_
  refine And.intro (fun a => by omega) (fun a => ?_)
  refine And.intro hg.k ?_
  refine And.intro (fun b => by omega) (fun b => ?_)
  refine And.intro hg.k (Exists.intro _ (And.intro hg.o ?_))
  refine And.intro (Or.inl hg.ok) (Exists.intro 1 (And.intro rfl (And.intro (by rw [hg.ol]; omega) (Exists.intro _ (And.intro hg.r1 ?_)))))
  refine And.intro (Or.inl hg.k1) (Exists.intro k (And.intro rfl (And.intro (by rw [hg.l1]; omega) ?_)))
  rw [← e2] at h
  exact h
theorem c_depthOver (hG : GOK Γ) (hg : GrL w g) (hr : GrR M g G) (hw : WFG G) {pI qI : Int} {p q : Nat} (ep : pI = p) (eq : qI = q) (hp : p ≤ qn G) (hq : q ≤ qn G) (h : Q (some (VI ((max (qD G p) (qD G q) + 1 : Nat)))) w M) : wp Γ mX1_depthOver 0 [some (VR g), some (VI pI), some (VI qI)] [] 0 0 w M Q := by
  have h1 := WFG_D hw p hp
  have h2 := WFG_D hw q hq
  have h3 := hw.1
  refine vc_go hG 40 (B := bX1_depthOver) rfl ?_
  refine And.intro hg.k ?_
  refine c_depth hG hg hr hw ep hp ?_
  refine And.intro hg.k ?_
  refine c_depth hG hg hr hw eq hq ?_
  refine And.intro (by omega) ?_
  have e : (max (qD G p : Int) (qD G q : Int)) + 1 = ((max (qD G p) (qD G q) + 1 : Nat) : Int) := by omega
  show Q (some (VI ((max (qD G p : Int) (qD G q : Int)) + 1))) w M
  rw [e]
  exact h
/-- an adder may be -/
def mayB (G : GT) (p s q f : Nat) : Prop := 1 ≤ cms (qV G p) s (qV G q) f ∧ cms (qV G p) s (qV G q) f ≤ 1023 ∧ max (qD G p) (qD G q) + 1 ≤ qL G
theorem c_mayBe (hG : GOK Γ) (hg : GrL w g) (hr : GrR M g G) (hw : WFG G) {pI sI qI fI : Int} {p s q f : Nat} (ep : pI = p) (es : sI = s) (eq : qI = q) (ef : fI = f) (hp : p ≤ qn G) (hs : s ≤ 9) (hq : q ≤ qn G) (hf : f ≤ 3) (h1 : mayB G p s q f → Q (some (VI 1)) w M) (h0 : ¬ mayB G p s q f → Q (some (VI 0)) w M) : wp Γ mX1_mayBe 0 [some (VR g), some (VI pI), some (VI sI), some (VI qI), some (VI fI)] [] 0 0 w M Q := by
  have v1 := WFG_V hw p hp
  have v2 := WFG_V hw q hq
  have e4 := hr.2.2.1
  unfold mayB at h1 h0
  refine vc_go hG 60 (B := bX1_mayBe) rfl ?_
  refine And.intro hg.k ?_
  refine c_value hG hg hr hw ep hp ?_
  refine And.intro hg.k ?_
  refine c_value hG hg hr hw eq hq ?_
  refine c_comes hG rfl es rfl ef v1.2.1 hs v2.2.1 hf ?_
  generalize cms (qV G p) s (qV G q) f = x at h1 h0
  refine And.intro (fun a => And.intro (Or.inl rfl) (h0 (by omega))) (fun a => ?_)
  refine And.intro (fun b => And.intro (Or.inl rfl) (h0 (by omega))) (fun b => ?_)
  refine And.intro hg.k ?_
  refine c_depthOver hG hg hr hw ep eq hp hq ?_
  refine And.intro hg.k ?_
  refine And.intro (fun c => And.intro (Or.inl rfl) (h0 (by omega))) (fun c => And.intro (Or.inr rfl) (h1 (by omega)))
/-- an adder more -/
def addG (G : GT) (p s q f : Nat) : GT := (qn G + 1, upN (qP G) (qn G) p, upN (qS G) (qn G) s, upN (qQ G) (qn G) q, upN (qF G) (qn G) f, upN (qV G) (qn G + 1) (odp (cms (qV G p) s (qV G q) f)), upN (qD G) (qn G + 1) (max (qD G p) (qD G q) + 1), qm G, qC G, qL G)
theorem upN_ne {α : Type} {f : Nat → α} {a b : Nat} {x : α} (h : b ≠ a) : upN f a x b = f b := if_neg h
theorem upN_eq {α : Type} {f : Nat → α} {a : Nat} {x : α} : upN f a x a = x := if_pos rfl
theorem addG_X {G : GT} {p s q f : Nat} (hp : p ≤ qn G) (hq : q ≤ qn G) : qX (addG G p s q f) (qn G) = cms (qV G p) s (qV G q) f := by
  show cms (upN (qV G) (qn G + 1) (odp (cms (qV G p) s (qV G q) f)) (upN (qP G) (qn G) p (qn G))) (upN (qS G) (qn G) s (qn G)) (upN (qV G) (qn G + 1) (odp (cms (qV G p) s (qV G q) f)) (upN (qQ G) (qn G) q (qn G))) (upN (qF G) (qn G) f (qn G)) = _
  rw [upN_eq (f := qP G), upN_eq (f := qS G), upN_eq (f := qQ G), upN_eq (f := qF G), upN_ne (f := qV G) (by omega), upN_ne (f := qV G) (by omega)]
theorem addG_X' {G : GT} (hw : WFG G) {p s q f k : Nat} (hk : k < qn G) : qX (addG G p s q f) k = qX G k := by
  obtain ⟨a1, a2, -⟩ := hw.2.2.2.2.2.1 k hk
  show cms (upN (qV G) (qn G + 1) (odp (cms (qV G p) s (qV G q) f)) (upN (qP G) (qn G) p k)) (upN (qS G) (qn G) s k) (upN (qV G) (qn G + 1) (odp (cms (qV G p) s (qV G q) f)) (upN (qQ G) (qn G) q k)) (upN (qF G) (qn G) f k) = _
  rw [upN_ne (f := qP G) (by omega), upN_ne (f := qS G) (by omega), upN_ne (f := qQ G) (by omega), upN_ne (f := qF G) (by omega), upN_ne (f := qV G) (by omega), upN_ne (f := qV G) (by omega)]
theorem addG_wf {G : GT} (hw : WFG G) {p s q f : Nat} (hp : p ≤ qn G) (hs : s ≤ 9) (hq : q ≤ qn G) (hf : f ≤ 3) (hn : qn G < 12) (hm : mayB G p s q f) : WFG (addG G p s q f) := by
  have hx := addG_X (s := s) (f := f) hp hq
  have hx' := fun k => addG_X' hw (p := p) (s := s) (q := q) (f := f) (k := k)
  obtain ⟨h1, h2, h3, h4, h5, h6, h7⟩ := hw
  refine ⟨hn, h2, h3, ?_, ?_, fun k hk => ?_, h7⟩
  · show upN (qV G) (qn G + 1) (odp (cms (qV G p) s (qV G q) f)) 0 = 1
    rw [upN_ne (by omega)]; exact h4
  · show upN (qD G) (qn G + 1) (max (qD G p) (qD G q) + 1) 0 = 0
    rw [upN_ne (by omega)]; exact h5
  · have hk : k < qn G + 1 := hk
    by_cases e : k = qn G
    · subst e
      rw [hx]
      refine ⟨?_, ?_, ?_, ?_, hm.1, hm.2.1, ?_, ?_⟩
      · show upN (qP G) (qn G) p (qn G) ≤ _; rw [upN_eq]; exact hp
      · show upN (qQ G) (qn G) q (qn G) ≤ _; rw [upN_eq]; exact hq
      · show upN (qS G) (qn G) s (qn G) ≤ _; rw [upN_eq]; exact hs
      · show upN (qF G) (qn G) f (qn G) ≤ _; rw [upN_eq]; exact hf
      · show upN (qV G) (qn G + 1) (odp (cms (qV G p) s (qV G q) f)) (qn G + 1) = _; rw [upN_eq]
      · show upN (qD G) (qn G + 1) (max (qD G p) (qD G q) + 1) (qn G + 1) = max (upN (qD G) (qn G + 1) (max (qD G p) (qD G q) + 1) (upN (qP G) (qn G) p (qn G))) (upN (qD G) (qn G + 1) (max (qD G p) (qD G q) + 1) (upN (qQ G) (qn G) q (qn G))) + 1
        rw [upN_eq (f := qD G), upN_eq (f := qP G), upN_eq (f := qQ G), upN_ne (f := qD G) (by omega), upN_ne (f := qD G) (by omega)]
    · obtain ⟨a1, a2, a3, a4, a5, a6, a7, a8⟩ := h6 k (by omega)
      rw [hx' k (by omega)]
      refine ⟨?_, ?_, ?_, ?_, a5, a6, ?_, ?_⟩
      · show upN (qP G) (qn G) p k ≤ _; rw [upN_ne e]; exact a1
      · show upN (qQ G) (qn G) q k ≤ _; rw [upN_ne e]; exact a2
      · show upN (qS G) (qn G) s k ≤ _; rw [upN_ne e]; exact a3
      · show upN (qF G) (qn G) f k ≤ _; rw [upN_ne e]; exact a4
      · show upN (qV G) (qn G + 1) (odp (cms (qV G p) s (qV G q) f)) (k + 1) = _; rw [upN_ne (by omega)]; exact a7
      · show upN (qD G) (qn G + 1) (max (qD G p) (qD G q) + 1) (k + 1) = max (upN (qD G) (qn G + 1) (max (qD G p) (qD G q) + 1) (upN (qP G) (qn G) p k)) (upN (qD G) (qn G + 1) (max (qD G p) (qD G q) + 1) (upN (qQ G) (qn G) q k)) + 1
        rw [upN_ne (f := qP G) (by omega), upN_ne (f := qQ G) (by omega), upN_ne (f := qD G) (by omega), upN_ne (f := qD G) (by omega), upN_ne (f := qD G) (by omega)]; exact a8
/-- the cells of a graph behind an adder more -/
theorem GrR_add {M M' : MM} {g : Nat} {G : GT} (hr : GrR M g G) (hw : WFG G) {p s q f : Nat} (hp : p ≤ qn G) (hq : q ≤ qn G)
    (h0 : M' g = fun j => if j = 2 then (qn G : Int) + 1 else M g j) (h2 : M' (g + 2) = fun j => if j = qn G + 1 then ((odp (cms (qV G p) s (qV G q) f) : Nat) : Int) else M (g + 2) j) (h3 : M' (g + 3) = fun j => if j = qn G + 1 then ((max (qD G p) (qD G q) + 1 : Nat) : Int) else M (g + 3) j)
    (h4 : M' (g + 4) = fun j => if j = qn G + 1 then (p : Int) else M (g + 4) j) (h5 : M' (g + 5) = fun j => if j = qn G + 1 then (q : Int) else M (g + 5) j) (h6 : M' (g + 6) = fun j => if j = qn G + 1 then (s : Int) else M (g + 6) j) (h7 : M' (g + 7) = fun j => if j = qn G + 1 then (f : Int) else M (g + 7) j) (h8 : M' (g + 8) = fun j => if j = qn G + 1 then ((hv (cms (qV G p) s (qV G q) f) : Nat) : Int) else M (g + 8) j) (h9 : M' (g + 9) = M (g + 9)) : GrR M' g (addG G p s q f) := by
  have hx := addG_X (s := s) (f := f) hp hq
  have hx' := fun k => addG_X' hw (p := p) (s := s) (q := q) (f := f) (k := k)
  obtain ⟨r1, r2, r3, r4, ⟨r5a, r5b, r5c, r5d, r5e⟩, r6, r7⟩ := hr
  unfold GrR
  rw [h0, h2, h3, h4, h5, h6, h7, h8, h9]
  refine ⟨rfl, r2, r3, fun k hk => ?_, ⟨r5a, r5b, r5c, r5d, r5e⟩, fun k hk => ?_, r7⟩
  · have hk : k ≤ qn G + 1 := hk
    show (if k = qn G + 1 then _ else _) = ((upN (qV G) (qn G + 1) (odp (cms (qV G p) s (qV G q) f)) k : Nat) : Int) ∧ (if k = qn G + 1 then _ else _) = ((upN (qD G) (qn G + 1) (max (qD G p) (qD G q) + 1) k : Nat) : Int)
    unfold upN
    by_cases e : k = qn G + 1
    · rw [if_pos e, if_pos e, if_pos e, if_pos e]; exact ⟨rfl, rfl⟩
    · rw [if_neg e, if_neg e, if_neg e, if_neg e]; exact r4 k (by omega)
  · have hk : k < qn G + 1 := hk
    by_cases e : k = qn G
    · subst e
      rw [hx]
      refine ⟨?_, ?_, ?_, ?_, if_pos rfl⟩
      · show (if qn G + 1 = qn G + 1 then _ else _) = ((upN (qP G) (qn G) p (qn G) : Nat) : Int); rw [if_pos rfl, upN_eq]
      · show (if qn G + 1 = qn G + 1 then _ else _) = ((upN (qQ G) (qn G) q (qn G) : Nat) : Int); rw [if_pos rfl, upN_eq]
      · show (if qn G + 1 = qn G + 1 then _ else _) = ((upN (qS G) (qn G) s (qn G) : Nat) : Int); rw [if_pos rfl, upN_eq]
      · show (if qn G + 1 = qn G + 1 then _ else _) = ((upN (qF G) (qn G) f (qn G) : Nat) : Int); rw [if_pos rfl, upN_eq]
    · obtain ⟨a1, a2, a3, a4, a5⟩ := r6 k (by omega)
      rw [hx' k (by omega)]
      have ne : ¬ (k + 1 = qn G + 1) := by omega
      refine ⟨?_, ?_, ?_, ?_, (if_neg ne).trans a5⟩
      · show (if k + 1 = qn G + 1 then _ else _) = ((upN (qP G) (qn G) p k : Nat) : Int); rw [if_neg ne, upN_ne e]; exact a1
      · show (if k + 1 = qn G + 1 then _ else _) = ((upN (qQ G) (qn G) q k : Nat) : Int); rw [if_neg ne, upN_ne e]; exact a2
      · show (if k + 1 = qn G + 1 then _ else _) = ((upN (qS G) (qn G) s k : Nat) : Int); rw [if_neg ne, upN_ne e]; exact a3
      · show (if k + 1 = qn G + 1 then _ else _) = ((upN (qF G) (qn G) f k : Nat) : Int); rw [if_neg ne, upN_ne e]; exact a4
end Graph
end
section
/-! ===== the class's Graph, what writes and what goes through ===== -/
section Graph
variable {Γ : GG} {w : Wd} {M : MM} {Q : QT} {g : Nat} {G : GT}
set_option maxRecDepth 20000 in
set_option maxHeartbeats 4000000 in
theorem c_append (hG : GOK Γ) (hg : GrL w g) (hr : GrR M g G) (hw : WFG G) {pI sI qI fI : Int} {p s q f : Nat} (ep : pI = p) (es : sI = s) (eq : qI = q) (ef : fI = f) (hp : p ≤ qn G) (hs : s ≤ 9) (hq : q ≤ qn G) (hf : f ≤ 3) (hn : qn G < 12) (hx : cms (qV G p) s (qV G q) f ≤ 1023) (h : ∀ M', GrR M' g (addG G p s q f) → frG M M' g → Q none w M') : wp Γ mX1_append 0 [some (VR g), some (VI pI), some (VI sI), some (VI qI), some (VI fI)] [] 0 0 w M Q := by
  have v1 := WFG_V hw p hp
  have v2 := WFG_V hw q hq
  have e1 := hr.1
  subst ep es eq ef
  refine vc_go hG 120 (B := bX1_append) rfl ?_
  refine And.intro hg.k ?_
  refine And.intro (fun a => ?_) (fun a => by omega)
  refine And.intro hg.k ?_
  refine c_value hG hg hr hw rfl hp ?_
  refine And.intro hg.k ?_
  refine c_value hG hg hr hw rfl hq ?_
  refine c_comes hG rfl rfl rfl rfl v1.2.1 hs v2.2.1 hf ?_
  refine And.intro hg.k ?_
  refine c_depthOver hG hg hr hw rfl rfl hp hq ?_
  refine And.intro hg.k ?_
  refine And.intro (by omega) ?_
  refine And.intro hg.k ?_
  -- VALUE
  refine And.intro hg.k (Exists.intro _ (And.intro hg.o ?_))
  refine And.intro (Or.inl hg.ok) (Exists.intro 0 (And.intro rfl (And.intro (by rw [hg.ol]; omega) (Exists.intro _ (And.intro hg.r0 ?_)))))
  refine And.intro hg.k ?_
  refine c_oddPart hG rfl (by omega) ?_
  refine And.intro hg.k0 (Exists.intro (qn G + 1) (And.intro (by simp [upM, e1]) (And.intro (by rw [hg.l0]; omega) ?_)))
  -- DEPTH
  refine And.intro hg.k (Exists.intro _ (And.intro hg.o ?_))
  refine And.intro (Or.inl hg.ok) (Exists.intro 1 (And.intro rfl (And.intro (by rw [hg.ol]; omega) (Exists.intro _ (And.intro hg.r1 ?_)))))
  refine And.intro hg.k ?_
  refine And.intro hg.k1 (Exists.intro (qn G + 1) (And.intro (by simp [upM, e1]) (And.intro (by rw [hg.l1]; omega) ?_)))
  -- P
  refine And.intro hg.k (Exists.intro _ (And.intro hg.o ?_))
  refine And.intro (Or.inl hg.ok) (Exists.intro 2 (And.intro rfl (And.intro (by rw [hg.ol]; omega) (Exists.intro _ (And.intro hg.r2 ?_)))))
  refine And.intro hg.k ?_
  refine And.intro hg.k2 (Exists.intro (qn G + 1) (And.intro (by simp [upM, e1]) (And.intro (by rw [hg.l2]; omega) ?_)))
  -- Q
  refine And.intro hg.k (Exists.intro _ (And.intro hg.o ?_))
  refine And.intro (Or.inl hg.ok) (Exists.intro 3 (And.intro rfl (And.intro (by rw [hg.ol]; omega) (Exists.intro _ (And.intro hg.r3 ?_)))))
  refine And.intro hg.k ?_
  refine And.intro hg.k3 (Exists.intro (qn G + 1) (And.intro (by simp [upM, e1]) (And.intro (by rw [hg.l3]; omega) ?_)))
  -- SHIFT
  refine And.intro hg.k (Exists.intro _ (And.intro hg.o ?_))
  refine And.intro (Or.inl hg.ok) (Exists.intro 4 (And.intro rfl (And.intro (by rw [hg.ol]; omega) (Exists.intro _ (And.intro hg.r4 ?_)))))
  refine And.intro hg.k ?_
  refine And.intro hg.k4 (Exists.intro (qn G + 1) (And.intro (by simp [upM, e1]) (And.intro (by rw [hg.l4]; omega) ?_)))
  -- FORM
  refine And.intro hg.k (Exists.intro _ (And.intro hg.o ?_))
  refine And.intro (Or.inl hg.ok) (Exists.intro 5 (And.intro rfl (And.intro (by rw [hg.ol]; omega) (Exists.intro _ (And.intro hg.r5 ?_)))))
  refine And.intro hg.k ?_
  refine And.intro hg.k5 (Exists.intro (qn G + 1) (And.intro (by simp [upM, e1]) (And.intro (by rw [hg.l5]; omega) ?_)))
  -- HALVED
  refine And.intro hg.k (Exists.intro _ (And.intro hg.o ?_))
  refine And.intro (Or.inl hg.ok) (Exists.intro 6 (And.intro rfl (And.intro (by rw [hg.ol]; omega) (Exists.intro _ (And.intro hg.r6 ?_)))))
  refine And.intro hg.k ?_
  refine c_halvings hG rfl (by omega) ?_
  refine And.intro hg.k6 (Exists.intro (qn G + 1) (And.intro (by simp [upM, e1]) (And.intro (by rw [hg.l6]; omega) ?_)))
  refine h _ (GrR_add hr hw hp hq ?_ ?_ ?_ ?_ ?_ ?_ ?_ ?_ ?_) (fun a ha => ?_)
  · funext j; simp [upM, e1]
  · funext j; simp [upM]
  · funext j; simp [upM]
  · funext j; simp [upM]
  · funext j; simp [upM]
  · funext j; simp [upM]
  · funext j; simp [upM]
  · funext j; simp [upM]
  · funext j; simp [upM]
  · funext j
    have n0 : a ≠ g := by omega
    have n2 : a ≠ g + 2 := by omega
    have n3 : a ≠ g + 3 := by omega
    have n4 : a ≠ g + 4 := by omega
    have n5 : a ≠ g + 5 := by omega
    have n6 : a ≠ g + 6 := by omega
    have n7 : a ≠ g + 7 := by omega
    have n8 : a ≠ g + 8 := by omega
    rw [upM_a n8, upM_a n7, upM_a n6, upM_a n5, upM_a n4, upM_a n3, upM_a n2, upM_a n0]
theorem c_appendW (hG : GOK Γ) (hg : GrL w g) (hr : GrR M g G) (hw : WFG G) {cI : Int} {p s q f : Nat} (ec : cI = (cdw p q s f : Nat)) (hp : p ≤ qn G) (hs : s ≤ 9) (hq : q ≤ qn G) (hf : f ≤ 3) (hn : qn G < 12) (hx : cms (qV G p) s (qV G q) f ≤ 1023) (h : ∀ M', GrR M' g (addG G p s q f) → frG M M' g → Q none w M') : wp Γ mX1_append_ 0 [some (VR g), some (VI cI)] [] 0 0 w M Q := by
  have hc : cdw p q s f ≤ 2147483647 := by unfold cdw; omega
  have e1 : cdw p q s f / 1024 = p := by unfold cdw; omega
  have e2 : cdw p q s f / 64 % 16 = q := by unfold cdw; omega
  have e3 : cdw p q s f / 4 % 16 = s := by unfold cdw; omega
  have e4 : cdw p q s f % 4 = f := by unfold cdw; omega
  refine vc_go hG 40 (B := bX1_append_) rfl ?_
  refine c_wayP hG ec hc ?_
  refine c_wayS hG ec hc ?_
  refine c_wayQ hG ec hc ?_
  refine c_wayF hG ec hc ?_
  rw [e1, e2, e3, e4]
  refine And.intro hg.k ?_
  refine c_append hG hg hr hw rfl rfl rfl rfl hp hs hq hf hn hx (fun M' hr' hf' => ?_)
  exact h M' hr' hf'
/-- a number is among the values -/
def isV (G : GT) (v : Nat) : Prop := ∃ k, k ≤ qn G ∧ qV G k = v
theorem l_hasValue (hG : GOK Γ) (hg : GrL w g) (hr : GrR M g G) (hw : WFG G) {vI : Int} {v : Nat} (ev : vI = v) (h1 : isV G v → Q (some (VI 1)) w M) (h0 : ¬ isV G v → Q (some (VI 0)) w M) : ∀ (j k : Nat), k + j = qn G + 1 → (∀ i, i < k → qV G i ≠ v) → wp Γ mX1_hasValue 2 [some (VR g), some (VI vI), some (VI k)] [] 0 0 w M Q := by
  subst ev
  have e1 := hr.1
  have e3 := hw.1
  intro j
  induction j with
  | zero =>
    intro k hk hi
    refine vc_go hG 40 (B := bX1_hasValue) rfl ?_
    refine And.intro hg.k ?_
    refine And.intro (fun a => And.intro (Or.inl rfl) (h0 ?_)) (fun a => by omega)
    rintro ⟨i, hi1, hi2⟩
    exact hi i (by omega) hi2
  | succ j ih =>
    intro k hk hi
    have e2 := (hr.2.2.2.1 k (by omega)).1
    refine vc_go hG 40 (B := bX1_hasValue) rfl ?_
    refine And.intro hg.k ?_
    refine And.intro (fun a => by omega) (fun a => ?_)
    refine And.intro hg.k (Exists.intro _ (And.intro hg.o ?_))
    refine And.intro (Or.inl hg.ok) (Exists.intro 0 (And.intro rfl (And.intro (by rw [hg.ol]; omega) (Exists.intro _ (And.intro hg.r0 ?_)))))
    refine And.intro (Or.inl hg.k0) (Exists.intro k (And.intro rfl (And.intro (by rw [hg.l0]; omega) ?_)))
    refine And.intro (fun b => ?_) (fun b => And.intro (Or.inr rfl) (h1 ⟨k, by omega, ?_⟩))
    · have b : ¬ M (g + 2) k = v := b
      refine And.intro (by omega) ?_
      refine ih (k + 1) (by omega) (fun i hi2 => ?_)
      by_cases e : i = k
      · subst e; rw [e2] at b; omega
      · exact hi i (by omega)
    · have b : M (g + 2) k = v := b
      rw [e2] at b; omega
theorem c_hasValue (hG : GOK Γ) (hg : GrL w g) (hr : GrR M g G) (hw : WFG G) {vI : Int} {v : Nat} (ev : vI = v) (h1 : isV G v → Q (some (VI 1)) w M) (h0 : ¬ isV G v → Q (some (VI 0)) w M) : wp Γ mX1_hasValue 0 [some (VR g), some (VI vI)] [] 0 0 w M Q := by
  refine vc_go hG 40 (B := bX1_hasValue) rfl ?_
  exact l_hasValue hG hg hr hw ev h1 h0 (qn G + 1) 0 (by omega) (fun i hi => by omega)
def isMt (G : GT) (c : Nat) : Prop := isV G (odp c)
theorem c_isMet (hG : GOK Γ) (hg : GrL w g) (hr : GrR M g G) (hw : WFG G) {cI : Int} {c : Nat} (ec : cI = c) (hc : c ≤ 1023) (h1 : isMt G c → Q (some (VI 1)) w M) (h0 : ¬ isMt G c → Q (some (VI 0)) w M) : wp Γ mX1_isMet 0 [some (VR g), some (VI cI)] [] 0 0 w M Q := by
  refine vc_go hG 40 (B := bX1_isMet) rfl ?_
  refine c_oddPart hG ec (by omega) ?_
  refine And.intro hg.k ?_
  exact c_hasValue hG hg hr hw rfl (fun a => And.intro (Or.inr rfl) (h1 a)) (fun a => And.intro (Or.inl rfl) (h0 a))
/-- the greatest depth of the first k -/
def mxD (D : Nat → Nat) : Nat → Nat
  | 0 => 0
  | k + 1 => max (mxD D k) (D k)
theorem l_greatest (hG : GOK Γ) (hg : GrL w g) (hr : GrR M g G) (hw : WFG G) (h : Q (some (VI (mxD (qD G) (qn G + 1) : Nat))) w M) : ∀ (j k : Nat), k + j = qn G + 1 → wp Γ mX1_greatestDepth 4 [some (VR g), some (VI (mxD (qD G) k : Nat)), some (VI k)] [] 0 0 w M Q := by
  have e1 := hr.1
  have e3 := hw.1
  intro j
  induction j with
  | zero =>
    intro k hk
    have ek : k = qn G + 1 := by omega
    subst ek
    refine vc_go hG 40 (B := bX1_greatestDepth) rfl ?_
    refine And.intro hg.k ?_
    refine And.intro (fun a => h) (fun a => by omega)
  | succ j ih =>
    intro k hk
    have e2 := (hr.2.2.2.1 k (by omega)).2
    refine vc_go hG 40 (B := bX1_greatestDepth) rfl ?_
    refine And.intro hg.k ?_
    refine And.intro (fun a => by omega) (fun a => ?_)
    refine And.intro hg.k (Exists.intro _ (And.intro hg.o ?_))
    refine And.intro (Or.inl hg.ok) (Exists.intro 1 (And.intro rfl (And.intro (by rw [hg.ol]; omega) (Exists.intro _ (And.intro hg.r1 ?_)))))
    refine And.intro (Or.inl hg.k1) (Exists.intro k (And.intro rfl (And.intro (by rw [hg.l1]; omega) ?_)))
    refine And.intro (by omega) ?_
    have e : max (mxD (qD G) k : Int) (M (g + 3) k) = ((mxD (qD G) (k + 1) : Nat) : Int) := by
      rw [e2]
      show _ = ((max (mxD (qD G) k) (qD G k) : Nat) : Int)
      omega
    have := ih (k + 1) (by omega)
    rw [← e] at this
    exact this
theorem c_greatest (hG : GOK Γ) (hg : GrL w g) (hr : GrR M g G) (hw : WFG G) (h : Q (some (VI (mxD (qD G) (qn G + 1) : Nat))) w M) : wp Γ mX1_greatestDepth 0 [some (VR g)] [] 0 0 w M Q := by
  refine vc_go hG 40 (B := bX1_greatestDepth) rfl ?_
  exact l_greatest hG hg hr hw h (qn G + 1) 0 (by omega)
/-- how many of the first k wanted are not met -/
noncomputable def nMt (G : GT) : Nat → Nat
  | 0 => 0
  | k + 1 => nMt G k + (@ite _ (isMt G (qC G k)) (Classical.propDecidable _) 0 1)
end Graph
end
section
/-! ===== the class's Graph: wanted, copies ===== -/
theorem nMt_y {G : GT} {k : Nat} (h : isMt G (qC G k)) : nMt G (k + 1) = nMt G k := by
  show nMt G k + (@ite _ (isMt G (qC G k)) (Classical.propDecidable _) 0 1) = _
  rw [if_pos h]; rfl
theorem nMt_n {G : GT} {k : Nat} (h : ¬ isMt G (qC G k)) : nMt G (k + 1) = nMt G k + 1 := by
  show nMt G k + (@ite _ (isMt G (qC G k)) (Classical.propDecidable _) 0 1) = _
  rw [if_neg h]
theorem nMt_le (G : GT) : ∀ k, nMt G k ≤ k
  | 0 => Nat.le_refl _
  | k + 1 => by
    have := nMt_le G k
    by_cases h : isMt G (qC G k)
    · rw [nMt_y h]; omega
    · rw [nMt_n h]; omega
section Graph
variable {Γ : GG} {w : Wd} {M : MM} {Q : QT} {g : Nat} {G : GT}
theorem l_notMet (hG : GOK Γ) (hg : GrL w g) (hr : GrR M g G) (hw : WFG G) (h : Q (some (VI (nMt G (qm G) : Nat))) w M) : ∀ (j k : Nat), k + j = qm G → wp Γ mX1_notMet 4 [some (VR g), some (VI (nMt G k : Nat)), some (VI k)] [] 0 0 w M Q := by
  have e1 := hr.2.1
  have e3 := hw.2.1
  intro j
  induction j with
  | zero =>
    intro k hk
    have ek : k = qm G := by omega
    subst ek
    refine vc_go hG 40 (B := bX1_notMet) rfl ?_
    refine And.intro hg.k ?_
    refine And.intro (fun a => h) (fun a => by omega)
  | succ j ih =>
    intro k hk
    have e2 := hr.2.2.2.2.2.2 k (by omega)
    have e4 := hw.2.2.2.2.2.2.1 k (by omega)
    have e5 := nMt_le G k
    refine vc_go hG 40 (B := bX1_notMet) rfl ?_
    refine And.intro hg.k ?_
    refine And.intro (fun a => by omega) (fun a => ?_)
    refine And.intro hg.k (Exists.intro _ (And.intro hg.c ?_))
    refine And.intro (Or.inl hg.ck) (Exists.intro k (And.intro rfl (And.intro (by rw [hg.cl]; omega) ?_)))
    refine And.intro hg.k ?_
    refine c_isMet hG hg hr hw e2 e4.2 (fun b => ?_) (fun b => ?_)
    · refine And.intro (fun c => ?_) (fun c => absurd c (by decide))
      refine And.intro (by omega) ?_
      have := ih (k + 1) (by omega)
      rw [nMt_y b] at this
      exact this
    · refine And.intro (fun c => absurd rfl c) (fun c => ?_)
      refine And.intro (by omega) ?_
      refine And.intro (by omega) ?_
      have := ih (k + 1) (by omega)
      rw [nMt_n b] at this
      exact this
theorem c_notMet (hG : GOK Γ) (hg : GrL w g) (hr : GrR M g G) (hw : WFG G) (h : Q (some (VI (nMt G (qm G) : Nat))) w M) : wp Γ mX1_notMet 0 [some (VR g)] [] 0 0 w M Q := by
  refine vc_go hG 40 (B := bX1_notMet) rfl ?_
  exact l_notMet hG hg hr hw h (qm G) 0 (by omega)
theorem l_placeOf (hG : GOK Γ) (hg : GrL w g) (hr : GrR M g G) (hw : WFG G) {c : Nat} (h1 : ∀ k, k < qm G → qC G k = c → Q (some (VI k)) w M) (h0 : (∀ k, k < qm G → qC G k ≠ c) → Q (some (VI (-1))) w M) : ∀ (j k : Nat), k + j = qm G → (∀ i, i < k → qC G i ≠ c) → wp Γ mX1_placeOf 2 [some (VR g), some (VI c), some (VI k)] [] 0 0 w M Q := by
  have e1 := hr.2.1
  have e3 := hw.2.1
  intro j
  induction j with
  | zero =>
    intro k hk hi
    refine vc_go hG 40 (B := bX1_placeOf) rfl ?_
    refine And.intro hg.k ?_
    refine And.intro (fun a => h0 (fun i hi2 => hi i (by omega))) (fun a => by omega)
  | succ j ih =>
    intro k hk hi
    have e2 := hr.2.2.2.2.2.2 k (by omega)
    refine vc_go hG 40 (B := bX1_placeOf) rfl ?_
    refine And.intro hg.k ?_
    refine And.intro (fun a => by omega) (fun a => ?_)
    refine And.intro hg.k (Exists.intro _ (And.intro hg.c ?_))
    refine And.intro (Or.inl hg.ck) (Exists.intro k (And.intro rfl (And.intro (by rw [hg.cl]; omega) ?_)))
    refine And.intro (fun b => ?_) (fun b => h1 k (by omega) (by rw [e2] at b; omega))
    rw [e2] at b
    refine And.intro (by omega) ?_
    refine ih (k + 1) (by omega) (fun i hi2 => ?_)
    by_cases e : i = k
    · subst e; omega
    · exact hi i (by omega)
theorem c_placeOf (hG : GOK Γ) (hg : GrL w g) (hr : GrR M g G) (hw : WFG G) {cI : Int} {c : Nat} (ec : cI = c) (h1 : ∀ k, k < qm G → qC G k = c → Q (some (VI k)) w M) (h0 : (∀ k, k < qm G → qC G k ≠ c) → Q (some (VI (-1))) w M) : wp Γ mX1_placeOf 0 [some (VR g), some (VI cI)] [] 0 0 w M Q := by
  subst ec
  refine vc_go hG 40 (B := bX1_placeOf) rfl ?_
  exact l_placeOf hG hg hr hw h1 h0 (qm G) 0 (by omega) (fun i hi => by omega)
/-- one wanted more; one less -/
def wshG (G : GT) (c : Nat) : GT := (qn G, qP G, qS G, qQ G, qF G, qV G, qD G, qm G + 1, upN (qC G) (qm G) c, qL G)
def drpG (G : GT) (i : Nat) : GT := (qn G, qP G, qS G, qQ G, qF G, qV G, qD G, qm G - 1, fun k => if k < i then qC G k else qC G (k + 1), qL G)
def limG (G : GT) (l : Nat) : GT := (qn G, qP G, qS G, qQ G, qF G, qV G, qD G, qm G, qC G, l)
def tkG (G : GT) : GT := (qn G - 1, qP G, qS G, qQ G, qF G, qV G, qD G, qm G, qC G, qL G)
def empG (G : GT) : GT := (0, qP G, qS G, qQ G, qF G, qV G, qD G, 0, qC G, 6)
theorem wshG_wf {G : GT} (hw : WFG G) {c : Nat} (hm : qm G < 6) (hc : 1 ≤ c ∧ c ≤ 1023) (hn : ∀ k, k < qm G → qC G k ≠ c) : WFG (wshG G c) := by
  obtain ⟨h1, h2, h3, h4, h5, h6, h7, h8⟩ := hw
  refine ⟨h1, hm, h3, h4, h5, h6, fun k hk => ?_, fun i j hi hj e => ?_⟩
  · have hk : k < qm G + 1 := hk
    show 1 ≤ upN (qC G) (qm G) c k ∧ upN (qC G) (qm G) c k ≤ 1023
    unfold upN
    split
    · exact hc
    · exact h7 k (by omega)
  · have hi : i < qm G + 1 := hi
    have hj : j < qm G + 1 := hj
    have e : upN (qC G) (qm G) c i = upN (qC G) (qm G) c j := e
    unfold upN at e
    by_cases a : i = qm G <;> by_cases b : j = qm G
    · omega
    · rw [if_pos a, if_neg b] at e; exact absurd e.symm (hn j (by omega))
    · rw [if_neg a, if_pos b] at e; exact absurd e (hn i (by omega))
    · rw [if_neg a, if_neg b] at e; exact h8 i j (by omega) (by omega) e
theorem drpG_wf {G : GT} (hw : WFG G) {p : Nat} (hp : p < qm G) : WFG (drpG G p) := by
  obtain ⟨h1, h2, h3, h4, h5, h6, h7, h8⟩ := hw
  refine ⟨h1, by show qm G - 1 ≤ 6; omega, h3, h4, h5, h6, fun k hk => ?_, fun i j hi hj e => ?_⟩
  · have hk : k < qm G - 1 := hk
    show 1 ≤ (if k < p then qC G k else qC G (k + 1)) ∧ (if k < p then qC G k else qC G (k + 1)) ≤ 1023
    split
    · exact h7 k (by omega)
    · exact h7 (k + 1) (by omega)
  · have hi : i < qm G - 1 := hi
    have hj : j < qm G - 1 := hj
    have e : (if i < p then qC G i else qC G (i + 1)) = (if j < p then qC G j else qC G (j + 1)) := e
    by_cases a : i < p <;> by_cases b : j < p
    · rw [if_pos a, if_pos b] at e; exact h8 i j (by omega) (by omega) e
    · rw [if_pos a, if_neg b] at e; have := h8 i (j + 1) (by omega) (by omega) e; omega
    · rw [if_neg a, if_pos b] at e; have := h8 (i + 1) j (by omega) (by omega) e; omega
    · rw [if_neg a, if_neg b] at e; have := h8 (i + 1) (j + 1) (by omega) (by omega) e; omega
theorem limG_wf {G : GT} (hw : WFG G) {l : Nat} (hl : 1 ≤ l ∧ l ≤ 9) : WFG (limG G l) := by
  obtain ⟨h1, h2, h3, h4, h5, h6, h7, h8⟩ := hw
  exact ⟨h1, h2, hl, h4, h5, h6, h7, h8⟩
theorem tkG_wf {G : GT} (hw : WFG G) : WFG (tkG G) := by
  obtain ⟨h1, h2, h3, h4, h5, h6, h7, h8⟩ := hw
  exact ⟨by show qn G - 1 ≤ 12; omega, h2, h3, h4, h5, fun k hk => h6 k (by have hk : k < qn G - 1 := hk; omega), h7, h8⟩
theorem empG_wf {G : GT} (hw : WFG G) : WFG (empG G) := by
  obtain ⟨h1, h2, h3, h4, h5, h6, h7, h8⟩ := hw
  exact ⟨by show 0 ≤ 12; decide, by show 0 ≤ 6; decide, by show 1 ≤ 6 ∧ 6 ≤ 9; decide, h4, h5, fun k hk => absurd hk (Nat.not_lt_zero k), fun k hk => absurd hk (Nat.not_lt_zero k), fun i j hi => absurd hi (Nat.not_lt_zero i)⟩
theorem c_wish (hG : GOK Γ) (hg : GrL w g) (hr : GrR M g G) (hw : WFG G) {cI : Int} {c : Nat} (ec : cI = c) (hm : qm G < 6) (h : ∀ M', GrR M' g (wshG G c) → frG M M' g → Q none w M') : wp Γ mX1_wish 0 [some (VR g), some (VI cI)] [] 0 0 w M Q := by
  subst ec
  have e1 := hr.2.1
  refine vc_go hG 40 (B := bX1_wish) rfl ?_
  refine And.intro hg.k ?_
  refine And.intro (fun a => by omega) (fun a => ?_)
  refine And.intro hg.k (Exists.intro _ (And.intro hg.c ?_))
  refine And.intro hg.k ?_
  refine And.intro hg.ck (Exists.intro (qm G) (And.intro e1 (And.intro (by rw [hg.cl]; exact hm) ?_)))
  refine And.intro hg.k ?_
  refine And.intro (by simp [upM]; omega) ?_
  refine And.intro hg.k ?_
  refine h _ ?_ (fun a ha => ?_)
  · obtain ⟨r1, r2, r3, r4, r5, r6, r7⟩ := hr
    refine ⟨by simp [upM]; exact r1, by simp [upM, e1]; rfl, by simp [upM]; exact r3, fun k hk => by simp [upM]; exact r4 k hk, by simp [upM]; exact r5, fun k hk => by simp [upM]; exact r6 k hk, fun k hk => ?_⟩
    have hk : k < qm G + 1 := hk
    show _ = ((upN (qC G) (qm G) c k : Nat) : Int)
    unfold upN
    by_cases e : k = qm G
    · simp [upM, e]
    · rw [if_neg e]
      simp [upM, e]
      exact r7 k (by omega)
  · funext j
    rw [upM_a (by omega), upM_a (by omega)]
theorem l_dropWish (hG : GOK Γ) (hg : GrL w g) {p mm : Nat} (hm : mm < 6) (M0 : MM) (h : ∀ M', (∀ j, M' (g + 9) j = if p ≤ j ∧ j < mm then M0 (g + 9) (j + 1) else M0 (g + 9) j) → (∀ a, a ≠ g + 9 → M' a = M0 a) → Q none w M') : ∀ (j k : Nat) (M : MM), k + j = mm → p ≤ k → M0 g 3 = mm → (∀ i, M (g + 9) i = if p ≤ i ∧ i < k then M0 (g + 9) (i + 1) else M0 (g + 9) i) → (∀ a, a ≠ g + 9 → M a = M0 a) → wp Γ mX1_dropWish 12 [some (VR g), some (VI p), some (VI k)] [] 0 0 w M Q := by
  intro j
  induction j with
  | zero =>
    intro k M hk hp h3 hi hf
    have ek : k = mm := by omega
    subst ek
    have e3 : M g 3 = k := by rw [hf g (by omega)]; exact h3
    refine vc_go hG 40 (B := bX1_dropWish) rfl ?_
    refine And.intro hg.k ?_
    refine And.intro (fun a => h M hi hf) (fun a => by omega)
  | succ j ih =>
    intro k M hk hp h3 hi hf
    have e3 : M g 3 = mm := by rw [hf g (by omega)]; exact h3
    refine vc_go hG 40 (B := bX1_dropWish) rfl ?_
    refine And.intro hg.k ?_
    refine And.intro (fun a => by omega) (fun a => ?_)
    refine And.intro hg.k (Exists.intro _ (And.intro hg.c ?_))
    refine And.intro hg.k (Exists.intro _ (And.intro hg.c ?_))
    refine And.intro (by omega) ?_
    refine And.intro (Or.inl hg.ck) (Exists.intro (k + 1) (And.intro rfl (And.intro (by rw [hg.cl]; omega) ?_)))
    refine And.intro hg.ck (Exists.intro k (And.intro rfl (And.intro (by rw [hg.cl]; omega) ?_)))
    refine And.intro (by omega) ?_
    refine ih (k + 1) _ (by omega) (by omega) h3 (fun i => ?_) (fun a ha => ?_)
    · by_cases e : i = k
      · subst e
        rw [upM_eq, hi, if_neg (by omega), if_pos (by omega)]
      · rw [upM_k e, hi]
        by_cases q : p ≤ i ∧ i < k
        · rw [if_pos q, if_pos (by omega)]
        · rw [if_neg q, if_neg (by omega)]
    · funext i
      rw [upM_a ha, hf a ha]
theorem c_dropWish (hG : GOK Γ) (hg : GrL w g) (hr : GrR M g G) (hw : WFG G) {pI : Int} {p : Nat} (ep : pI = p) (hp : p < qm G) (h : ∀ M', GrR M' g (drpG G p) → frG M M' g → Q none w M') : wp Γ mX1_dropWish 0 [some (VR g), some (VI pI)] [] 0 0 w M Q := by
  subst ep
  have e1 := hr.2.1
  have e2 := hw.2.1
  refine vc_go hG 40 (B := bX1_dropWish) rfl ?_
  refine And.intro hg.k ?_
  refine And.intro (by omega) ?_
  refine And.intro hg.k ?_
  refine l_dropWish hG hg (mm := qm G - 1) (by omega) (upM M g 3 (M g 3 - 1)) (fun M' hc hf => h M' ?_ (fun a ha => ?_)) (qm G - 1 - p) p (upM M g 3 (M g 3 - 1)) (by omega) (Nat.le_refl _) (by rw [upM_eq]; omega) (fun i => by rw [if_neg (by omega)]) (fun a ha => rfl)
  · obtain ⟨r1, r2, r3, r4, r5, r6, r7⟩ := hr
    have f0 : M' g = upM M g 3 (M g 3 - 1) g := hf g (by omega)
    have f2 : M' (g + 2) = M (g + 2) := (hf _ (by omega)).trans (upM_ne (by omega))
    have f3 : M' (g + 3) = M (g + 3) := (hf _ (by omega)).trans (upM_ne (by omega))
    have f4 : M' (g + 4) = M (g + 4) := (hf _ (by omega)).trans (upM_ne (by omega))
    have f5 : M' (g + 5) = M (g + 5) := (hf _ (by omega)).trans (upM_ne (by omega))
    have f6 : M' (g + 6) = M (g + 6) := (hf _ (by omega)).trans (upM_ne (by omega))
    have f7 : M' (g + 7) = M (g + 7) := (hf _ (by omega)).trans (upM_ne (by omega))
    have f8 : M' (g + 8) = M (g + 8) := (hf _ (by omega)).trans (upM_ne (by omega))
    unfold GrR
    rw [f0, f2, f3, f4, f5, f6, f7, f8]
    refine ⟨by rw [upM_k (by decide)]; exact r1, ?_, by rw [upM_k (by decide)]; exact r3, r4, r5, r6, fun k hk => ?_⟩
    · rw [upM_eq]
      show _ = ((qm G - 1 : Nat) : Int)
      omega
    · have hk : k < qm G - 1 := hk
      rw [hc]
      show _ = ((if k < p then qC G k else qC G (k + 1) : Nat) : Int)
      by_cases q : k < p
      · rw [if_neg (by omega), if_pos q, upM_a (by omega)]; exact r7 k (by omega)
      · rw [if_pos (by omega), if_neg q, upM_a (by omega)]; exact r7 (k + 1) (by omega)
  · rw [hf a (by omega), upM_ne (by omega)]
theorem c_empty (hG : GOK Γ) (hg : GrL w g) (hr : GrR M g G) (h : ∀ M', GrR M' g (empG G) → frG M M' g → Q none w M') : wp Γ mX1_empty 0 [some (VR g)] [] 0 0 w M Q := by
  refine vc_go hG 40 (B := bX1_empty) rfl ?_
  refine And.intro hg.k (And.intro hg.k (And.intro hg.k ?_))
  refine h _ ?_ (fun a ha => ?_)
  · obtain ⟨r1, r2, r3, r4, r5, r6, r7⟩ := hr
    refine ⟨by simp [upM, empG], by simp [upM, empG], by simp [upM, empG], fun k hk => ?_, by simp [upM]; exact r5, fun k hk => absurd hk (Nat.not_lt_zero k), fun k hk => absurd hk (Nat.not_lt_zero k)⟩
    have hk : k ≤ 0 := hk
    simp [upM]
    exact r4 k (by omega)
  · funext j
    rw [upM_a (by omega), upM_a (by omega), upM_a (by omega)]
theorem l_copy (hG : GOK Γ) {o : Nat} (hg : GrL w g) (ho : GrL w o) (hd : o + 9 < g ∨ g + 9 < o) (hr : GrR M o G) (hn : qn G ≤ 12) (hm : qm G ≤ 6) (h : ∀ M', GrR M' g G → frG M M' g → Q none w M') : ∀ (j k : Nat) (M1 : MM), k + j = 7 → (∀ i, i < k → ∀ x, x < 13 → M1 (g + 2 + i) x = M (o + 2 + i) x) → (∀ a, a < g + 2 ∨ g + 2 + k ≤ a → M1 a = M a) → wp Γ mX1_copy 2 [some (VR g), some (VR o), some (VI k)] [] 0 0 w M1 Q := by
  intro j
  induction j with
  | zero =>
    intro k M1 hk hc hf
    have ek : k = 7 := by omega
    subst ek
    refine vc_go hG 60 (B := bX1_copy) rfl ?_
    refine And.intro (fun a => ?_) (fun a => by omega)
    refine And.intro ho.k (Exists.intro _ (And.intro ho.c ?_))
    refine And.intro hg.k (Exists.intro _ (And.intro hg.c ?_))
    refine And.intro ⟨ho.ck, hg.ck⟩ (And.intro ⟨rfl, rfl, by omega, by rw [ho.cl]; decide, by rw [hg.cl]; decide⟩ ?_)
    refine And.intro ho.k (And.intro hg.k ?_)
    refine And.intro ho.k (And.intro hg.k ?_)
    refine And.intro ho.k (And.intro hg.k ?_)
    obtain ⟨r1, r2, r3, r4, ⟨s4, s5, s6, s7, s8⟩, r6, r7⟩ := hr
    have c0 := hc 0 (by omega)
    have c1 := hc 1 (by omega)
    have c2 := hc 2 (by omega)
    have c3 := hc 3 (by omega)
    have c4 := hc 4 (by omega)
    have c5 := hc 5 (by omega)
    have c6 := hc 6 (by omega)
    have fo : M1 o = M o := hf o (by omega)
    have fc : M1 (o + 9) = M (o + 9) := hf (o + 9) (by omega)
    have n1 : o ≠ g := by omega
    have n2 : o ≠ g + 9 := by omega
    have n3 : ∀ i, i < 7 → g + 2 + i ≠ g + 9 ∧ g + 2 + i ≠ g := fun i hi => by omega
    refine h _ ⟨?_, ?_, ?_, fun k hk => ⟨?_, ?_⟩, ⟨?_, ?_, ?_, ?_, ?_⟩, fun k hk => ⟨?_, ?_, ?_, ?_, ?_⟩, fun k hk => ?_⟩ (fun a ha => ?_)
    · simp [upM, cpM, n1, n2, fo]; exact r1
    · simp [upM, cpM, n1, n2, fo]; exact r2
    · simp [upM, cpM, n1, n2, fo]; exact r3
    · simp [upM, cpM]; rw [c0 k (by omega)]; exact (r4 k hk).1
    · simp [upM, cpM]; rw [c1 k (by omega)]; exact (r4 k hk).2
    · simp [upM, cpM]; rw [c2 0 (by omega)]; exact s4
    · simp [upM, cpM]; rw [c3 0 (by omega)]; exact s5
    · simp [upM, cpM]; rw [c4 0 (by omega)]; exact s6
    · simp [upM, cpM]; rw [c5 0 (by omega)]; exact s7
    · simp [upM, cpM]; rw [c6 0 (by omega)]; exact s8
    · simp [upM, cpM]; rw [c2 (k + 1) (by omega)]; exact (r6 k hk).1
    · simp [upM, cpM]; rw [c3 (k + 1) (by omega)]; exact (r6 k hk).2.1
    · simp [upM, cpM]; rw [c4 (k + 1) (by omega)]; exact (r6 k hk).2.2.1
    · simp [upM, cpM]; rw [c5 (k + 1) (by omega)]; exact (r6 k hk).2.2.2.1
    · simp [upM, cpM]; rw [c6 (k + 1) (by omega)]; exact (r6 k hk).2.2.2.2
    · simp [upM, cpM, show k < 6 by omega, fc]; exact r7 k hk
    · funext x
      rw [upM_a (by omega), upM_a (by omega), upM_a (by omega), cpM_ne (by omega), hf a (by omega)]
  | succ j ih =>
    intro k M1 hk hc hf
    refine vc_go hG 60 (B := bX1_copy) rfl ?_
    refine And.intro (fun a => by omega) (fun a => ?_)
    refine And.intro ho.k (Exists.intro _ (And.intro ho.o ?_))
    refine And.intro (Or.inl ho.ok) (Exists.intro k (And.intro rfl (And.intro (by rw [ho.ol]; omega) (Exists.intro _ (And.intro (ho.r k (by omega)) ?_)))))
    refine And.intro hg.k (Exists.intro _ (And.intro hg.o ?_))
    refine And.intro (Or.inl hg.ok) (Exists.intro k (And.intro rfl (And.intro (by rw [hg.ol]; omega) (Exists.intro _ (And.intro (hg.r k (by omega)) ?_)))))
    refine And.intro ⟨ho.rk k (by omega), hg.rk k (by omega)⟩ (And.intro ⟨rfl, rfl, by omega, by rw [ho.rl k (by omega)]; decide, by rw [hg.rl k (by omega)]; decide⟩ ?_)
    refine And.intro (by omega) ?_
    refine ih (k + 1) _ (by omega) (fun i hi x hx => ?_) (fun a ha => ?_)
    · by_cases e : i = k
      · subst e
        unfold cpM
        rw [if_pos ⟨rfl, hx⟩, hf (o + 2 + i) (by omega)]
      · rw [cpM_ne (by omega)]
        exact hc i (by omega) x hx
    · rw [cpM_ne (by omega)]
      exact hf a (by omega)
theorem c_copy (hG : GOK Γ) {o : Nat} (hg : GrL w g) (ho : GrL w o) (hd : o + 9 < g ∨ g + 9 < o) (hr : GrR M o G) (hw : WFG G) (h : ∀ M', GrR M' g G → frG M M' g → Q none w M') : wp Γ mX1_copy 0 [some (VR g), some (VR o)] [] 0 0 w M Q := by
  refine vc_go hG 40 (B := bX1_copy) rfl ?_
  exact l_copy hG hg ho hd hr hw.1 hw.2.1 h 7 0 M rfl (fun i hi => by omega) (fun a ha => rfl)
end Graph
end
section
/-! ===== the world behind the constructors (by gen24.py) ===== -/
def kdT : List (List Nat) := [[14, 12, 5, 2, 0, 0, 0, 0, 0, 0, 0, 0, 5, 2, 0, 0], [0, 0, 0, 0, 0, 0, 11, 0, 6, 3, 5, 2, 0, 0, 0, 0], [0, 0, 0, 0, 5, 2, 0, 0, 0, 0, 0, 0, 0, 0, 5, 2], [0, 0, 0, 0, 0, 0, 0, 0, 5, 2, 0, 0, 0, 0, 0, 0], [0, 0, 5, 2, 0, 0, 0, 0, 0, 0, 0, 0, 5, 2, 0, 0], [0, 0, 0, 0, 0, 0, 5, 2, 0, 0, 0, 0, 0, 0, 0, 0], [5, 2, 0, 0, 0, 0, 0, 0, 0, 0, 5, 2, 0, 0, 0, 0], [0, 0, 0, 0, 5, 2, 0, 0, 0, 0, 0, 0, 0, 0, 7, 3], [1, 5, 2, 0, 0, 0, 0, 0, 0, 0, 0, 5, 2, 0, 0, 0], [0, 0, 0, 0, 0, 10, 0, 0, 0, 8, 0, 0, 9, 5, 2, 0], [0, 0, 0, 0, 0, 0, 0, 8, 0, 0, 4, 5, 2, 0, 0, 0], [0, 0, 0, 0, 0, 8, 0, 0, 8, 0, 0, 13, 0, 0, 0, 0], [0, 1, 0, 0, 0, 0, 0, 0, 0, 0, 0]]
def lnT : List (List Nat) := [[0, 0, 0, 7, 13, 13, 13, 13, 13, 13, 13, 6, 0, 7, 13, 13], [13, 13, 13, 13, 13, 6, 0, 80, 0, 10, 0, 7, 13, 13, 13, 13], [13, 13, 13, 6, 0, 7, 13, 13, 13, 13, 13, 13, 13, 6, 0, 7], [13, 13, 13, 13, 13, 13, 13, 6, 0, 7, 13, 13, 13, 13, 13, 13], [13, 6, 0, 7, 13, 13, 13, 13, 13, 13, 13, 6, 0, 7, 13, 13], [13, 13, 13, 13, 13, 6, 0, 7, 13, 13, 13, 13, 13, 13, 13, 6], [0, 7, 13, 13, 13, 13, 13, 13, 13, 6, 0, 7, 13, 13, 13, 13], [13, 13, 13, 6, 0, 7, 13, 13, 13, 13, 13, 13, 13, 6, 0, 2], [2, 0, 7, 13, 13, 13, 13, 13, 13, 13, 6, 0, 7, 13, 13, 13], [13, 13, 13, 13, 6, 0, 6, 6, 9, 0, 512, 512, 0, 0, 7, 13], [13, 13, 13, 13, 13, 13, 6, 0, 512, 512, 0, 0, 7, 13, 13, 13], [13, 13, 13, 13, 6, 0, 512, 512, 0, 512, 512, 0, 80, 57, 57, 57], [114, 2, 570, 6, 6, 14, 14, 1024, 12, 1024, 1024]]
def rfT : List (List (List (Option Nat))) := [[[], [some 2, some 12, some 22, some 24, some 126, some 149, some 153, some 156, some 170], [some 3, some 11], [some 4, some 5, some 6, some 7, some 8, some 9, some 10], [], [], [], [], [], [], [], [], [some 13, some 21], [some 14, some 15, some 16, some 17, some 18, some 19, some 20], [], []], [[], [], [], [], [], [], [some 23], [], [some 25], [some 26, some 36, some 46, some 56, some 66, some 76, some 86, some 96, some 106, some 116], [some 27, some 35], [some 28, some 29, some 30, some 31, some 32, some 33, some 34], [], [], [], []], [[], [], [], [], [some 37, some 45], [some 38, some 39, some 40, some 41, some 42, some 43, some 44], [], [], [], [], [], [], [], [], [some 47, some 55], [some 48, some 49, some 50, some 51, some 52, some 53, some 54]], [[], [], [], [], [], [], [], [], [some 57, some 65], [some 58, some 59, some 60, some 61, some 62, some 63, some 64], [], [], [], [], [], []], [[], [], [some 67, some 75], [some 68, some 69, some 70, some 71, some 72, some 73, some 74], [], [], [], [], [], [], [], [], [some 77, some 85], [some 78, some 79, some 80, some 81, some 82, some 83, some 84], [], []], [[], [], [], [], [], [], [some 87, some 95], [some 88, some 89, some 90, some 91, some 92, some 93, some 94], [], [], [], [], [], [], [], []], [[some 97, some 105], [some 98, some 99, some 100, some 101, some 102, some 103, some 104], [], [], [], [], [], [], [], [], [some 107, some 115], [some 108, some 109, some 110, some 111, some 112, some 113, some 114], [], [], [], []], [[], [], [], [], [some 117, some 125], [some 118, some 119, some 120, some 121, some 122, some 123, some 124], [], [], [], [], [], [], [], [], [some 127, some 128], [some 129, some 139]], [[], [some 130, some 138], [some 131, some 132, some 133, some 134, some 135, some 136, some 137], [], [], [], [], [], [], [], [], [some 140, some 148], [some 141, some 142, some 143, some 144, some 145, some 146, some 147], [], [], []], [[], [], [], [], [], [some 150, some 151, some 152], [], [], [], [some 154, some 155], [], [], [some 157, some 167], [some 158, some 166], [some 159, some 160, some 161, some 162, some 163, some 164, some 165], []], [[], [], [], [], [], [], [], [some 168, some 169], [], [], [some 171, some 181, some 184], [some 172, some 180], [some 173, some 174, some 175, some 176, some 177, some 178, some 179], [], [], []], [[], [], [], [], [], [some 182, some 183], [], [], [some 185, some 186], [], [], [none, some 188, none, none, none, none, none, none, some 189, some 190, some 191, some 192, some 193, some 194, none, some 195, some 196, none, some 197, some 198, none, some 199, some 200, none, some 201, some 202], [], [], [], []], [[], [], [], [], [], [], [], [], [], [], []]]
def W0 (L : Nat) : Wd := (fun a => (kdT.getD (a / 16) []).getD (a % 16) 15, fun a => bif Nat.beq a 0 then L else (lnT.getD (a / 16) []).getD (a % 16) 0, fun a k => ((rfT.getD (a / 16) []).getD (a % 16) []).getD k none, 202)
theorem GrL_of {w : Wd} {g : Nat} (h1 : w.1 g = 5) (h2 : w.2.2.1 g 0 = some (g + 1)) (h3 : w.2.2.1 g 1 = some (g + 9)) (h4 : w.1 (g + 1) = 2) (h5 : w.2.1 (g + 1) = 7) (h6 : ∀ j, j < 7 → w.2.2.1 (g + 1) j = some (g + 2 + j)) (h7 : ∀ j, j < 7 → w.1 (g + 2 + j) = 0) (h8 : ∀ j, j < 7 → w.2.1 (g + 2 + j) = 13) (h9 : w.1 (g + 9) = 0) (h10 : w.2.1 (g + 9) = 6) : GrL w g := ⟨h1, h2, h3, h4, h5, fun j hj => ⟨h6 j hj, h7 j hj, h8 j hj⟩, h9, h10⟩
theorem lt7 {P : Nat → Prop} (h0 : P 0) (h1 : P 1) (h2 : P 2) (h3 : P 3) (h4 : P 4) (h5 : P 5) (h6 : P 6) : ∀ j, j < 7 → P j := by
  intro j hj
  match j, hj with
  | 0, _ => exact h0
  | 1, _ => exact h1
  | 2, _ => exact h2
  | 3, _ => exact h3
  | 4, _ => exact h4
  | 5, _ => exact h5
  | 6, _ => exact h6
  | j + 7, h => omega
theorem W0_g2 (L : Nat) : GrL (W0 L) 2 := GrL_of rfl rfl rfl rfl rfl (lt7 rfl rfl rfl rfl rfl rfl rfl) (lt7 rfl rfl rfl rfl rfl rfl rfl) (lt7 rfl rfl rfl rfl rfl rfl rfl) rfl rfl
theorem W0_g12 (L : Nat) : GrL (W0 L) 12 := GrL_of rfl rfl rfl rfl rfl (lt7 rfl rfl rfl rfl rfl rfl rfl) (lt7 rfl rfl rfl rfl rfl rfl rfl) (lt7 rfl rfl rfl rfl rfl rfl rfl) rfl rfl
theorem W0_g26 (L : Nat) : GrL (W0 L) 26 := GrL_of rfl rfl rfl rfl rfl (lt7 rfl rfl rfl rfl rfl rfl rfl) (lt7 rfl rfl rfl rfl rfl rfl rfl) (lt7 rfl rfl rfl rfl rfl rfl rfl) rfl rfl
theorem W0_g36 (L : Nat) : GrL (W0 L) 36 := GrL_of rfl rfl rfl rfl rfl (lt7 rfl rfl rfl rfl rfl rfl rfl) (lt7 rfl rfl rfl rfl rfl rfl rfl) (lt7 rfl rfl rfl rfl rfl rfl rfl) rfl rfl
theorem W0_g46 (L : Nat) : GrL (W0 L) 46 := GrL_of rfl rfl rfl rfl rfl (lt7 rfl rfl rfl rfl rfl rfl rfl) (lt7 rfl rfl rfl rfl rfl rfl rfl) (lt7 rfl rfl rfl rfl rfl rfl rfl) rfl rfl
theorem W0_g56 (L : Nat) : GrL (W0 L) 56 := GrL_of rfl rfl rfl rfl rfl (lt7 rfl rfl rfl rfl rfl rfl rfl) (lt7 rfl rfl rfl rfl rfl rfl rfl) (lt7 rfl rfl rfl rfl rfl rfl rfl) rfl rfl
theorem W0_g66 (L : Nat) : GrL (W0 L) 66 := GrL_of rfl rfl rfl rfl rfl (lt7 rfl rfl rfl rfl rfl rfl rfl) (lt7 rfl rfl rfl rfl rfl rfl rfl) (lt7 rfl rfl rfl rfl rfl rfl rfl) rfl rfl
theorem W0_g76 (L : Nat) : GrL (W0 L) 76 := GrL_of rfl rfl rfl rfl rfl (lt7 rfl rfl rfl rfl rfl rfl rfl) (lt7 rfl rfl rfl rfl rfl rfl rfl) (lt7 rfl rfl rfl rfl rfl rfl rfl) rfl rfl
theorem W0_g86 (L : Nat) : GrL (W0 L) 86 := GrL_of rfl rfl rfl rfl rfl (lt7 rfl rfl rfl rfl rfl rfl rfl) (lt7 rfl rfl rfl rfl rfl rfl rfl) (lt7 rfl rfl rfl rfl rfl rfl rfl) rfl rfl
theorem W0_g96 (L : Nat) : GrL (W0 L) 96 := GrL_of rfl rfl rfl rfl rfl (lt7 rfl rfl rfl rfl rfl rfl rfl) (lt7 rfl rfl rfl rfl rfl rfl rfl) (lt7 rfl rfl rfl rfl rfl rfl rfl) rfl rfl
theorem W0_g106 (L : Nat) : GrL (W0 L) 106 := GrL_of rfl rfl rfl rfl rfl (lt7 rfl rfl rfl rfl rfl rfl rfl) (lt7 rfl rfl rfl rfl rfl rfl rfl) (lt7 rfl rfl rfl rfl rfl rfl rfl) rfl rfl
theorem W0_g116 (L : Nat) : GrL (W0 L) 116 := GrL_of rfl rfl rfl rfl rfl (lt7 rfl rfl rfl rfl rfl rfl rfl) (lt7 rfl rfl rfl rfl rfl rfl rfl) (lt7 rfl rfl rfl rfl rfl rfl rfl) rfl rfl
theorem W0_g129 (L : Nat) : GrL (W0 L) 129 := GrL_of rfl rfl rfl rfl rfl (lt7 rfl rfl rfl rfl rfl rfl rfl) (lt7 rfl rfl rfl rfl rfl rfl rfl) (lt7 rfl rfl rfl rfl rfl rfl rfl) rfl rfl
theorem W0_g139 (L : Nat) : GrL (W0 L) 139 := GrL_of rfl rfl rfl rfl rfl (lt7 rfl rfl rfl rfl rfl rfl rfl) (lt7 rfl rfl rfl rfl rfl rfl rfl) (lt7 rfl rfl rfl rfl rfl rfl rfl) rfl rfl
theorem W0_g157 (L : Nat) : GrL (W0 L) 157 := GrL_of rfl rfl rfl rfl rfl (lt7 rfl rfl rfl rfl rfl rfl rfl) (lt7 rfl rfl rfl rfl rfl rfl rfl) (lt7 rfl rfl rfl rfl rfl rfl rfl) rfl rfl
theorem W0_g171 (L : Nat) : GrL (W0 L) 171 := GrL_of rfl rfl rfl rfl rfl (lt7 rfl rfl rfl rfl rfl rfl rfl) (lt7 rfl rfl rfl rfl rfl rfl rfl) (lt7 rfl rfl rfl rfl rfl rfl rfl) rfl rfl
theorem W0_h (L : Nat) : ∀ i, i < 10 → GrL (W0 L) (26 + 10 * i) := by
  intro i hi
  match i, hi with
  | 0, _ => exact W0_g26 L
  | 1, _ => exact W0_g36 L
  | 2, _ => exact W0_g46 L
  | 3, _ => exact W0_g56 L
  | 4, _ => exact W0_g66 L
  | 5, _ => exact W0_g76 L
  | 6, _ => exact W0_g86 L
  | 7, _ => exact W0_g96 L
  | 8, _ => exact W0_g106 L
  | 9, _ => exact W0_g116 L
  | i + 10, h => omega
theorem W0_hr (L : Nat) : ∀ i, i < 10 → (W0 L).2.2.1 25 i = some (26 + 10 * i) := by
  intro i hi
  match i, hi with
  | 0, _ => rfl
  | 1, _ => rfl
  | 2, _ => rfl
  | 3, _ => rfl
  | 4, _ => rfl
  | 5, _ => rfl
  | 6, _ => rfl
  | 7, _ => rfl
  | 8, _ => rfl
  | 9, _ => rfl
  | i + 10, h => omega
theorem W0_i (L : Nat) : ∀ i, i < 2 → GrL (W0 L) (129 + 10 * i) := by
  intro i hi
  match i, hi with
  | 0, _ => exact W0_g129 L
  | 1, _ => exact W0_g139 L
  | i + 2, h => omega
theorem W0_ir (L : Nat) : ∀ i, i < 2 → (W0 L).2.2.1 127 i = some (129 + 10 * i) := by
  intro i hi
  match i, hi with
  | 0, _ => rfl
  | 1, _ => rfl
  | i + 2, h => omega
end
section
/-! ===== the class's History, Images, Seen, Text: what is kept ===== -/
theorem GrR.frm {M M' : MM} {g o : Nat} {G : GT} (h : GrR M o G) (hf : frG M M' g) (hd : o + 9 < g ∨ g + 9 < o) : GrR M' o G := h.keep (fun a h1 h2 => hf a (by omega))
def csH (G : GT) (Hs : Nat → GT) : Nat → GT
  | 0 => G
  | i + 1 => Hs i
def HsR (M : MM) (hk : Nat) (Hs : Nat → GT) : Prop := ∃ r, r < 10 ∧ M 24 1 = (r : Nat) ∧ M 24 2 = hk ∧ hk ≤ 10 ∧ ∀ i, i < hk → GrR M (26 + 10 * ((r + 10 - i) % 10)) (Hs i) ∧ WFG (Hs i)
theorem HsR.keep {M M' : MM} {hk : Nat} {Hs : Nat → GT} (h : HsR M hk Hs) (hf : ∀ a, 24 ≤ a → a ≤ 125 → M' a = M a) : HsR M' hk Hs := by
  obtain ⟨r, h1, h2, h3, h4, h5⟩ := h
  refine ⟨r, h1, by rw [hf 24 (by omega) (by omega)]; exact h2, by rw [hf 24 (by omega) (by omega)]; exact h3, h4, fun i hi => ⟨(h5 i hi).1.keep (fun a a1 a2 => hf a (by omega) (by omega)), (h5 i hi).2⟩⟩
section Hist
variable {Γ : GG} {L : Nat} {M : MM} {Q : QT} {G : GT}
theorem c_remember (hG : GOK Γ) {hk : Nat} {Hs : Nat → GT} (hh : HsR M hk Hs) (hr : GrR M 2 G) (hw : WFG G) (h : ∀ M', HsR M' (min (hk + 1) 10) (csH G Hs) → (∀ a, a < 24 ∨ 125 < a → M' a = M a) → Q none (W0 L) M') : wp Γ mX2_remember 0 [some (VR 24), some (VR 2)] [] 0 0 (W0 L) M Q := by
  obtain ⟨r, h1, h2, h3, h4, h5⟩ := hh
  have key : ∀ r' : Nat, r' < 10 → r' = (r + 1) % 10 → wp Γ mX1_copy 0 [some (VR (26 + 10 * r')), some (VR 2)] [] 0 0 (W0 L) (upM M 24 1 r') (fun v w' M' => w' = W0 L ∧ v = none ∧ GrR M' (26 + 10 * r') G ∧ frG (upM M 24 1 r') M' (26 + 10 * r')) := by
    intro r' hr' _
    refine c_copy hG (W0_h L r' hr') (W0_g2 L) (by omega) (hr.keep (fun a a1 a2 => upM_ne (by omega))) hw (fun M' g1 g2 => ⟨rfl, rfl, g1, g2⟩)
  have fin : ∀ (r' : Nat) (M' : MM), r' < 10 → r' = (r + 1) % 10 → GrR M' (26 + 10 * r') G → frG (upM M 24 1 r') M' (26 + 10 * r') → Q none (W0 L) (upM M' 24 2 (min (M' 24 2 + 1) 10)) := by
    intro r' M' hr' er g1 g2
    have f24 : M' 24 = upM M 24 1 r' 24 := g2 24 (by omega)
    have e2 : M' 24 2 = hk := by rw [f24, upM_k (by decide)]; exact h3
    refine h _ ⟨r', hr', ?_, ?_, by omega, fun i hi => ?_⟩ (fun a ha => ?_)
    · rw [upM_k (by decide), f24, upM_eq]
    · rw [upM_eq, e2]; omega
    · cases i with
      | zero =>
        rw [show (r' + 10 - 0) % 10 = r' by omega]
        exact ⟨g1.keep (fun a a1 a2 => upM_ne (by omega)), hw⟩
      | succ i =>
        have hi : i + 1 < min (hk + 1) 10 := hi
        rw [show (r' + 10 - (i + 1)) % 10 = (r + 10 - i) % 10 by omega]
        refine ⟨(h5 i (by omega)).1.keep (fun a a1 a2 => ?_), (h5 i (by omega)).2⟩
        rw [upM_ne (by omega), g2 a (by omega), upM_ne (by omega)]
    · rw [upM_ne (by omega), g2 a (by omega), upM_ne (by omega)]
  refine vc_go hG 60 (B := bX2_remember) rfl ?_
  refine And.intro rfl (And.intro (by omega) ?_)
  refine And.intro (fun a => ?_) (fun a => ?_)
  · have er : r = 9 := by omega
    refine And.intro rfl ?_
    refine And.intro rfl (Exists.intro _ (And.intro rfl ?_))
    refine And.intro rfl ?_
    refine And.intro (Or.inr rfl) (Exists.intro 0 (And.intro (by rw [upM_eq]; rfl) (And.intro (show 0 < 10 by decide) (Exists.intro _ (And.intro (W0_hr L 0 (by decide)) ?_)))))
    refine And.intro (W0_h L 0 (by decide)).k ?_
    refine wp_mono (key 0 (by decide) (by omega)) (fun v w' M' hq => ?_)
    obtain ⟨rfl, rfl, g1, g2⟩ := hq
    refine And.intro rfl (And.intro ?_ (And.intro rfl ?_))
    · rw [show M' 24 2 = M 24 2 by rw [g2 24 (by omega), upM_k (by decide)]]; omega
    · exact fin 0 M' (by decide) (by omega) g1 g2
  · refine And.intro rfl (And.intro (by omega) (And.intro rfl ?_))
    refine And.intro rfl (Exists.intro _ (And.intro rfl ?_))
    refine And.intro rfl ?_
    refine And.intro (Or.inr rfl) (Exists.intro (r + 1) (And.intro (by rw [upM_eq]; omega) (And.intro (show r + 1 < 10 by omega) (Exists.intro _ (And.intro (W0_hr L (r + 1) (by omega)) ?_)))))
    refine And.intro (W0_h L (r + 1) (by omega)).k ?_
    have e1 : M 24 1 + 1 = ((r + 1 : Nat) : Int) := by omega
    rw [e1]
    refine wp_mono (key (r + 1) (by omega) (by omega)) (fun v w' M' hq => ?_)
    obtain ⟨rfl, rfl, g1, g2⟩ := hq
    refine And.intro rfl (And.intro ?_ (And.intro rfl ?_))
    · rw [show M' 24 2 = M 24 2 by rw [g2 24 (by omega), upM_k (by decide)]]; omega
    · exact fin (r + 1) M' (by omega) (by omega) g1 g2
theorem c_restore (hG : GOK Γ) {hk : Nat} {Hs : Nat → GT} (hh : HsR M hk Hs) (hk0 : 0 < hk) (h : ∀ M', HsR M' (hk - 1) (fun i => Hs (i + 1)) → GrR M' 2 (Hs 0) → (∀ a, a < 2 ∨ (11 < a ∧ a ≠ 24) → M' a = M a) → Q none (W0 L) M') : wp Γ mX2_restore 0 [some (VR 24), some (VR 2)] [] 0 0 (W0 L) M Q := by
  obtain ⟨r, h1, h2, h3, h4, h5⟩ := hh
  have fin : ∀ (r' : Nat) (M' : MM), r' < 10 → r' = (r + 9) % 10 → GrR M' 2 (Hs 0) → frG M M' 2 → Q none (W0 L) (upM (upM M' 24 1 r') 24 2 (upM M' 24 1 r' 24 2 - 1)) := by
    intro r' M' hr' er g1 g2
    have f24 : M' 24 = M 24 := g2 24 (by omega)
    refine h _ ⟨r', hr', ?_, ?_, by omega, fun i hi => ?_⟩ ?_ (fun a ha => ?_)
    · rw [upM_k (by decide), upM_eq]
    · rw [upM_eq, upM_k (by decide), f24, h3]; omega
    · rw [show (r' + 10 - i) % 10 = (r + 10 - (i + 1)) % 10 by omega]
      refine ⟨(h5 (i + 1) (by omega)).1.keep (fun a a1 a2 => ?_), (h5 (i + 1) (by omega)).2⟩
      rw [upM_ne (by omega), upM_ne (by omega), g2 a (by omega)]
    · exact g1.keep (fun a a1 a2 => by rw [upM_ne (by omega), upM_ne (by omega)])
    · rw [upM_ne (by omega), upM_ne (by omega), g2 a (by omega)]
  have h0 := h5 0 hk0
  rw [show (r + 10 - 0) % 10 = r by omega] at h0
  refine vc_go hG 60 (B := bX2_restore) rfl ?_
  refine And.intro rfl (And.intro (fun a => by omega) (fun a => ?_))
  refine And.intro rfl (Exists.intro _ (And.intro rfl ?_))
  refine And.intro rfl ?_
  refine And.intro (Or.inr rfl) (Exists.intro r (And.intro h2 (And.intro (show r < 10 from h1) (Exists.intro _ (And.intro (W0_hr L r h1) ?_)))))
  refine And.intro rfl ?_
  refine c_copy hG (W0_g2 L) (W0_h L r h1) (by omega) h0.1 h0.2 (fun M' g1 g2 => ?_)
  have f24 : M' 24 = M 24 := g2 24 (by omega)
  refine And.intro rfl ?_
  refine And.intro (fun b => ?_) (fun b => ?_)
  · rw [f24] at b
    have : r = 0 := by omega
    refine And.intro rfl (And.intro rfl (And.intro ?_ (And.intro rfl ?_)))
    · rw [upM_k (by decide), f24, h3]; omega
    · exact fin 9 M' (by decide) (by omega) g1 g2
  · rw [f24] at b
    refine And.intro rfl (And.intro (by rw [f24, h2]; omega) (And.intro rfl (And.intro rfl (And.intro ?_ (And.intro rfl ?_)))))
    · rw [upM_k (by decide), f24, h3]; omega
    · have e1 : M' 24 1 - 1 = ((r - 1 : Nat) : Int) := by rw [f24]; omega
      have := fin (r - 1) M' (by omega) (by omega) g1 g2
      rw [← e1] at this
      exact this
theorem c_hlose (hG : GOK Γ) {hk : Nat} {Hs : Nat → GT} (hh : HsR M hk Hs) (h : HsR (upM M 24 2 0) 0 Hs → Q none (W0 L) (upM M 24 2 0)) : wp Γ mX2_lose 0 [some (VR 24)] [] 0 0 (W0 L) M Q := by
  obtain ⟨r, h1, h2, h3, h4, h5⟩ := hh
  refine vc_go hG 60 (B := bX2_lose) rfl ?_
  refine And.intro rfl (h ⟨r, h1, by rw [upM_k (by decide)]; exact h2, upM_eq, by omega, fun i hi => absurd hi (Nat.not_lt_zero i)⟩)
-- images: kept or not, and what
def ImR (M : MM) (ik : Nat → Nat) (Im : Nat → GT) : Prop := ∀ i, i < 2 → M 128 i = ik i ∧ ik i ≤ 1 ∧ (ik i = 1 → GrR M (129 + 10 * i) (Im i) ∧ WFG (Im i))
theorem ImR.keep {M M' : MM} {ik : Nat → Nat} {Im : Nat → GT} (h : ImR M ik Im) (hf : ∀ a, 126 ≤ a → a ≤ 148 → M' a = M a) : ImR M' ik Im := by
  intro i hi
  obtain ⟨h1, h2, h3⟩ := h i hi
  exact ⟨by rw [hf 128 (by omega) (by omega)]; exact h1, h2, fun e => ⟨(h3 e).1.keep (fun a a1 a2 => hf a (by omega) (by omega)), (h3 e).2⟩⟩
theorem c_iput (hG : GOK Γ) {ik : Nat → Nat} {Im : Nat → GT} (hh : ImR M ik Im) (hr : GrR M 2 G) (hw : WFG G) {iI : Int} {i : Nat} (ei : iI = i) (hi : i < 2) (h : ∀ M', ImR M' (upN ik i 1) (upN Im i G) → (∀ a, a < 126 ∨ 148 < a → M' a = M a) → Q none (W0 L) M') : wp Γ mX3_put 0 [some (VR 126), some (VI iI), some (VR 2)] [] 0 0 (W0 L) M Q := by
  subst ei
  refine vc_go hG 60 (B := bX3_put) rfl ?_
  refine And.intro rfl (Exists.intro _ (And.intro rfl ?_))
  refine And.intro (Or.inr rfl) (Exists.intro i (And.intro rfl (And.intro (show i < 2 from hi) (Exists.intro _ (And.intro (W0_ir L i hi) ?_)))))
  refine And.intro (W0_i L i hi).k ?_
  refine c_copy hG (W0_i L i hi) (W0_g2 L) (by omega) hr hw (fun M' g1 g2 => ?_)
  refine And.intro rfl (Exists.intro _ (And.intro rfl ?_))
  refine And.intro rfl (Exists.intro i (And.intro rfl (And.intro (show i < 2 from hi) (And.intro (Or.inr rfl) ?_))))
  refine h _ (fun j hj => ?_) (fun a ha => ?_)
  · unfold upN
    by_cases e : j = i
    · subst e
      rw [if_pos rfl, if_pos rfl, upM_eq]
      exact ⟨rfl, Nat.le_refl _, fun _ => ⟨g1.keep (fun a a1 a2 => upM_ne (by omega)), hw⟩⟩
    · rw [if_neg e, if_neg e, upM_k e, g2 128 (by omega)]
      obtain ⟨h1, h2, h3⟩ := hh j hj
      refine ⟨h1, h2, fun e9 => ⟨(h3 e9).1.keep (fun a a1 a2 => ?_), (h3 e9).2⟩⟩
      rw [upM_ne (by omega), g2 a (by omega)]
  · rw [upM_ne (by omega), g2 a (by omega)]
theorem c_ilose (hG : GOK Γ) {ik : Nat → Nat} {Im : Nat → GT} (hh : ImR M ik Im) (h : ∀ M', ImR M' (fun _ => 0) Im → (∀ a, a ≠ 128 → M' a = M a) → Q none (W0 L) M') : wp Γ mX3_lose 0 [some (VR 126)] [] 0 0 (W0 L) M Q := by
  refine vc_go hG 60 (B := bX3_lose) rfl ?_
  refine vc_go hG 60 (B := bX3_lose) rfl ?_
  refine And.intro (fun a => absurd a (by decide)) (fun a => ?_)
  refine And.intro rfl (Exists.intro _ (And.intro rfl ?_))
  refine And.intro rfl (Exists.intro 0 (And.intro rfl (And.intro (show 0 < 2 by decide) (And.intro (Or.inl rfl) ?_))))
  refine And.intro (by decide) ?_
  refine vc_go hG 60 (B := bX3_lose) rfl ?_
  refine And.intro (fun a => absurd a (by decide)) (fun a => ?_)
  refine And.intro rfl (Exists.intro _ (And.intro rfl ?_))
  refine And.intro rfl (Exists.intro 1 (And.intro rfl (And.intro (show 1 < 2 by decide) (And.intro (Or.inl rfl) ?_))))
  refine And.intro (by decide) ?_
  refine vc_go hG 60 (B := bX3_lose) rfl ?_
  refine And.intro (fun a => ?_) (fun a => absurd a (by decide))
  refine h _ (fun j hj => ⟨?_, Nat.zero_le _, fun e => absurd e Nat.zero_ne_one⟩) (fun a ha => ?_)
  · match j, hj with
    | 0, _ => rw [upM_k (by decide), upM_eq]; rfl
    | 1, _ => rw [upM_eq]; rfl
    | j + 2, hj => omega
  · rw [upM_ne ha, upM_ne ha]
-- what was seen
def SnR (M : MM) (n : Nat) (sm sr : Nat → Nat) : Prop := M 149 3 = n ∧ n ≤ 6 ∧ ∀ k, k < n → M 150 k = sm k ∧ M 151 k = sr k ∧ 2 ≤ sm k ∧ sm k ≤ 9 ∧ sr k < sm k
theorem SnR.keep {M M' : MM} {n : Nat} {sm sr : Nat → Nat} (h : SnR M n sm sr) (hf : ∀ a, 149 ≤ a → a ≤ 151 → M' a = M a) : SnR M' n sm sr := by
  unfold SnR
  rw [hf 149 (by omega) (by omega), hf 150 (by omega) (by omega), hf 151 (by omega) (by omega)]
  exact h
theorem c_snap (hG : GOK Γ) {n : Nat} {sm sr : Nat → Nat} (hh : SnR M n sm sr) {mI rI : Int} {m r : Nat} (em : mI = m) (er : rI = r) (h1 : 2 ≤ m ∧ m ≤ 9 ∧ r < m) (h6 : n = 6 → Q (some (VI (-3))) (W0 L) M) (h : n < 6 → ∀ M', SnR M' (n + 1) (upN sm n m) (upN sr n r) → (∀ a, a < 149 ∨ 151 < a → M' a = M a) → Q (some (VI ((n + 1 : Nat) : Int))) (W0 L) M') : wp Γ mX6_append 0 [some (VR 149), some (VI mI), some (VI rI)] [] 0 0 (W0 L) M Q := by
  subst em er
  obtain ⟨s1, s2, s3⟩ := hh
  refine vc_go hG 60 (B := bX6_append) rfl ?_
  refine And.intro rfl (And.intro (fun a => ?_) (fun a => h6 (by omega)))
  have hn : n < 6 := by omega
  refine And.intro rfl (Exists.intro _ (And.intro rfl (And.intro rfl ?_)))
  refine And.intro rfl (Exists.intro n (And.intro s1 (And.intro (show n < 6 from hn) ?_)))
  refine And.intro rfl (Exists.intro _ (And.intro rfl (And.intro rfl ?_)))
  refine And.intro rfl (Exists.intro n (And.intro (by rw [upM_a (by decide)]; exact s1) (And.intro (show n < 6 from hn) ?_)))
  refine And.intro rfl (And.intro ?_ (And.intro rfl (And.intro rfl ?_)))
  · rw [upM_a (by decide), upM_a (by decide), s1]; omega
  have e : upM (upM (upM M 150 n m) 151 n r) 149 3 (upM (upM M 150 n m) 151 n r 149 3 + 1) 149 3 = ((n + 1 : Nat) : Int) := by
    rw [upM_eq, upM_a (by decide), upM_a (by decide), s1]; omega
  have := h hn (upM (upM (upM M 150 n m) 151 n r) 149 3 (upM (upM M 150 n m) 151 n r 149 3 + 1)) ⟨e, by omega, fun k hk => ?_⟩ (fun a ha => ?_)
  · rw [← e] at this
    exact this
  · unfold upN
    by_cases q : k = n
    · subst q
      rw [if_pos rfl, if_pos rfl, upM_a (by decide), upM_a (by decide), upM_eq, upM_a (by decide), upM_eq]
      exact ⟨rfl, rfl, h1⟩
    · rw [if_neg q, if_neg q, upM_a (by decide), upM_a (by decide), upM_k q, upM_a (by decide), upM_k q, upM_a (by decide)]
      exact s3 k (by omega)
  · rw [upM_ne (by omega), upM_ne (by omega), upM_ne (by omega)]
theorem c_snlose (hG : GOK Γ) {n : Nat} {sm sr : Nat → Nat} (hh : SnR M n sm sr) (h : SnR (upM M 149 3 0) 0 sm sr → Q (some (VI n)) (W0 L) (upM M 149 3 0)) : wp Γ mX6_lose 0 [some (VR 149)] [] 0 0 (W0 L) M Q := by
  obtain ⟨s1, s2, s3⟩ := hh
  refine vc_go hG 60 (B := bX6_lose) rfl ?_
  refine And.intro rfl (And.intro rfl ?_)
  have := h ⟨upM_eq, by omega, fun k hk => absurd hk (Nat.not_lt_zero k)⟩
  rw [← s1] at this
  exact this
-- the text
def TxR (M : MM) (n : Nat) (T : Nat → Nat) : Prop := M 22 1 = n ∧ n ≤ 80 ∧ ∀ k, k < n → M 23 k = T k ∧ T k ≤ 255
theorem TxR.keep {M M' : MM} {n : Nat} {T : Nat → Nat} (h : TxR M n T) (h1 : M' 22 1 = M 22 1) (h2 : M' 23 = M 23) : TxR M' n T := by
  unfold TxR
  rw [h1, h2]
  exact h
theorem c_txap (hG : GOK Γ) {n : Nat} {T : Nat → Nat} (hh : TxR M n T) {lI : Int} {l : Nat} (el : lI = l) (hl : l ≤ 255) (h6 : n = 80 → Q (some (VI (-3))) (W0 L) M) (h : n < 80 → ∀ M', TxR M' (n + 1) (upN T n l) → (∀ a, a < 22 ∨ 23 < a → M' a = M a) → Q (some (VI ((n + 1 : Nat) : Int))) (W0 L) M') : wp Γ mX7_append 0 [some (VR 22), some (VI lI)] [] 0 0 (W0 L) M Q := by
  subst el
  obtain ⟨s1, s2, s3⟩ := hh
  refine vc_go hG 60 (B := bX7_append) rfl ?_
  refine And.intro rfl (And.intro (fun a => ?_) (fun a => h6 (by omega)))
  have hn : n < 80 := by omega
  refine And.intro rfl (Exists.intro _ (And.intro rfl (And.intro rfl ?_)))
  refine And.intro rfl (Exists.intro n (And.intro s1 (And.intro (show n < 80 from hn) ?_)))
  refine And.intro rfl (And.intro ?_ (And.intro rfl (And.intro rfl ?_)))
  · rw [upM_a (by decide), s1]; omega
  have e : upM (upM M 23 n l) 22 1 (upM M 23 n l 22 1 + 1) 22 1 = ((n + 1 : Nat) : Int) := by
    rw [upM_eq, upM_a (by decide), s1]; omega
  have := h hn (upM (upM M 23 n l) 22 1 (upM M 23 n l 22 1 + 1)) ⟨e, by omega, fun k hk => ?_⟩ (fun a ha => ?_)
  · rw [← e] at this
    exact this
  · unfold upN
    by_cases q : k = n
    · subst q
      rw [if_pos rfl, upM_a (by decide), upM_eq]
      exact ⟨rfl, hl⟩
    · rw [if_neg q, upM_a (by decide), upM_k q]
      exact s3 k (by omega)
  · rw [upM_ne (by omega), upM_ne (by omega)]
theorem c_txem (hG : GOK Γ) {n : Nat} {T : Nat → Nat} (hh : TxR M n T) (h : TxR (upM M 22 1 0) 0 T → Q (some (VI n)) (W0 L) (upM M 22 1 0)) : wp Γ mX7_empty 0 [some (VR 22)] [] 0 0 (W0 L) M Q := by
  obtain ⟨s1, s2, s3⟩ := hh
  refine vc_go hG 60 (B := bX7_empty) rfl ?_
  refine And.intro rfl (And.intro rfl ?_)
  have := h ⟨upM_eq, by omega, fun k hk => absurd hk (Nat.not_lt_zero k)⟩
  rw [← s1] at this
  exact this
end Hist
end
section
/-! ===== the class's Near: how the table is made ===== -/
theorem getL_app : ∀ (ls ex : LL) (i : Nat) (v : AV), getL ls i = some v → getL (ls ++ ex) i = some v
  | [], _, _, _, h => by cases h
  | x :: xs, ex, 0, v, h => h
  | x :: xs, ex, i + 1, v, h => getL_app xs ex i v h
/-- locals that are not needed any more -/
theorem wp_pre {Γ : GG} {μ pc : Nat} (ls ex : LL) {st : List AV} {cs sl : Nat} {w : Wd} {M : MM} {Q : QT} (h : wp Γ μ pc ls st cs sl w M Q) : wp Γ μ pc (ls ++ ex) st cs sl w M Q :=
  fun p e R s m args below meth c H locs lc Z C hH hL hSt hS hR => h p e R s m args below meth c H locs lc Z C hH ⟨hL.1, hL.2.1, fun i v hi => hL.2.2 i v (getL_app ls ex i v hi)⟩ hSt hS hR
def NrL (w : Wd) (a : Nat) : Prop := w.1 a = 8 ∧ w.2.2.1 a 0 = some (a + 1) ∧ w.2.2.1 a 1 = some (a + 2) ∧ w.1 (a + 1) = 0 ∧ w.2.1 (a + 1) = 512 ∧ w.1 (a + 2) = 0 ∧ w.2.1 (a + 2) = 512
theorem NrL.k {w : Wd} {a : Nat} (h : NrL w a) : w.1 a = 8 := h.1
theorem NrL.r0 {w : Wd} {a : Nat} (h : NrL w a) : w.2.2.1 a 0 = some (a + 1) := h.2.1
theorem NrL.r1 {w : Wd} {a : Nat} (h : NrL w a) : w.2.2.1 a 1 = some (a + 2) := h.2.2.1
theorem NrL.k1 {w : Wd} {a : Nat} (h : NrL w a) : w.1 (a + 1) = 0 := h.2.2.2.1
theorem NrL.l1 {w : Wd} {a : Nat} (h : NrL w a) : w.2.1 (a + 1) = 512 := h.2.2.2.2.1
theorem NrL.k2 {w : Wd} {a : Nat} (h : NrL w a) : w.1 (a + 2) = 0 := h.2.2.2.2.2.1
theorem NrL.l2 {w : Wd} {a : Nat} (h : NrL w a) : w.2.1 (a + 2) = 512 := h.2.2.2.2.2.2
abbrev XP : Type := Nat → Nat → Nat → Nat → Prop
/-- what the adder p, q, s, f makes -/
abbrev mkV (G : GT) (p q s f : Nat) : Nat := odp (cms (qV G p) s (qV G q) f)
abbrev dpt (G : GT) (p q : Nat) : Nat := max (qD G p) (qD G q) + 1
/-- the table of ways: there, far, or the first of the offered adders -/
def NrT (M : MM) (a : Nat) (G : GT) (Th : Nat → Prop) (X : XP) : Prop := ∀ i, i < 512 → (Th (2 * i + 1) ∧ M (a + 1) i = -2) ∨ (¬ Th (2 * i + 1) ∧ ((M (a + 1) i = -1 ∧ ∀ p q s f, X p q s f → mkV G p q s f ≠ 2 * i + 1) ∨
  ∃ p q s f, X p q s f ∧ mkV G p q s f = 2 * i + 1 ∧ M (a + 1) i = (cdw p q s f : Nat) ∧ M (a + 2) i = (dpt G p q : Nat) ∧ ∀ p' q' s' f', X p' q' s' f' → mkV G p' q' s' f' = 2 * i + 1 → cdw p q s f ≤ cdw p' q' s' f'))
theorem NrT.congr {M : MM} {a : Nat} {G : GT} {Th Th' : Nat → Prop} {X X' : XP} (h : NrT M a G Th X) (ht : ∀ v, Th v ↔ Th' v) (hx : ∀ p q s f, X p q s f ↔ X' p q s f) : NrT M a G Th' X' := by
  have e1 : Th = Th' := funext (fun v => propext (ht v))
  have e2 : X = X' := funext (fun p => funext (fun q => funext (fun s => funext (fun f => propext (hx p q s f)))))
  rw [← e1, ← e2]
  exact h
theorem NrT.keep {M M' : MM} {a : Nat} {G : GT} {Th : Nat → Prop} {X : XP} (h : NrT M a G Th X) (h1 : M' (a + 1) = M (a + 1)) (h2 : M' (a + 2) = M (a + 2)) : NrT M' a G Th X := by
  unfold NrT
  rw [h1, h2]
  exact h
/-- another graph with the same values and depths as far as the offers go -/
theorem NrT.graph {M : MM} {a : Nat} {G G' : GT} {Th : Nat → Prop} {X : XP} (h : NrT M a G Th X) (hv : ∀ p q s f, X p q s f → mkV G p q s f = mkV G' p q s f ∧ dpt G p q = dpt G' p q) : NrT M a G' Th X := by
  intro i hi
  rcases h i hi with h1 | ⟨h0, h1 | ⟨p, q, s, f, a1, a2, a3, a4, a5⟩⟩
  · exact Or.inl h1
  · exact Or.inr ⟨h0, Or.inl ⟨h1.1, fun p q s f hx => by rw [← (hv p q s f hx).1]; exact h1.2 p q s f hx⟩⟩
  · refine Or.inr ⟨h0, Or.inr ⟨p, q, s, f, a1, by rw [← (hv p q s f a1).1]; exact a2, a3, by rw [← (hv p q s f a1).2]; exact a4, fun p' q' s' f' hx e => a5 p' q' s' f' hx (by rw [(hv p' q' s' f' hx).1]; exact e)⟩⟩
/-- nothing but the two rows has changed -/
def frN (M M' : MM) (a : Nat) : Prop := ∀ b, b ≠ a + 1 → b ≠ a + 2 → M' b = M b
theorem frN.t {M M' M2 : MM} {a : Nat} (h1 : frN M M' a) (h2 : frN M' M2 a) : frN M M2 a := fun b b1 b2 => (h2 b b1 b2).trans (h1 b b1 b2)
section Near
variable {Γ : GG} {w : Wd} {M : MM} {Q : QT} {a g : Nat} {G : GT}
theorem c_offer (hG : GOK Γ) (ha : NrL w a) {Th : Nat → Prop} {X : XP} (ht : NrT M a G Th X) {vI cI dI : Int} {p q s f i : Nat} (hi : i < 512) (ev : vI = ((2 * i + 1 : Nat) : Int)) (ec : cI = (cdw p q s f : Nat)) (ed : dI = (dpt G p q : Nat)) (hv : mkV G p q s f = 2 * i + 1)
    (h : ∀ M', NrT M' a G Th (fun p' q' s' f' => X p' q' s' f' ∨ (p' = p ∧ q' = q ∧ s' = s ∧ f' = f)) → frN M M' a → Q none w M') : wp Γ mX4_offer 0 [some (VR a), some (VI vI), some (VI cI), some (VI dI)] [] 0 0 w M Q := by
  subst ev ec ed
  have e1 : ((2 * i + 1 : Nat) : Int) / 2 ^ ((1 : Int).toNat) = (i : Int) := by
    rw [show ((2 * i + 1 : Nat) : Int) / 2 ^ ((1 : Int).toNat) = (((2 * i + 1) / 2 : Nat) : Int) from srN (2 * i + 1) 1]
    omega
  have hold : M (a + 1) i ≠ -1 → ¬ ((cdw p q s f : Nat) : Int) < M (a + 1) i → Q none w M := by
    intro n1 n2
    refine h M (fun j hj => ?_) (fun b _ _ => rfl)
    rcases ht j hj with h1 | ⟨h0, h1 | ⟨p', q', s', f', a1, a2, a3, a4, a5⟩⟩
    · exact Or.inl h1
    · refine Or.inr ⟨h0, Or.inl ⟨h1.1, fun p2 q2 s2 f2 hx => ?_⟩⟩
      rcases hx with hx | ⟨rfl, rfl, rfl, rfl⟩
      · exact h1.2 p2 q2 s2 f2 hx
      · rw [hv]
        intro e
        have : i = j := by omega
        subst this
        exact n1 h1.1
    · refine Or.inr ⟨h0, Or.inr ⟨p', q', s', f', Or.inl a1, a2, a3, a4, fun p2 q2 s2 f2 hx e => ?_⟩⟩
      rcases hx with hx | ⟨rfl, rfl, rfl, rfl⟩
      · exact a5 p2 q2 s2 f2 hx e
      · rw [hv] at e
        have : i = j := by omega
        subst this
        rw [a3] at n2
        omega
  have hnew : (M (a + 1) i = -1 ∨ ((cdw p q s f : Nat) : Int) < M (a + 1) i) → Q none w (upM (upM M (a + 1) i (cdw p q s f : Nat)) (a + 2) i (dpt G p q : Nat)) := by
    intro n1
    refine h _ (fun j hj => ?_) (fun b b1 b2 => by rw [upM_ne b2, upM_ne b1])
    by_cases e : j = i
    · subst e
      rcases ht j hj with h1 | ⟨h0, h1⟩
      · rw [h1.2] at n1; omega
      · refine Or.inr ⟨h0, Or.inr ⟨p, q, s, f, Or.inr ⟨rfl, rfl, rfl, rfl⟩, hv, by rw [upM_a (by omega), upM_eq], by rw [upM_eq], fun p2 q2 s2 f2 hx e => ?_⟩⟩
        rcases hx with hx | ⟨rfl, rfl, rfl, rfl⟩
        · rcases h1 with h1 | ⟨p', q', s', f', a1, a2, a3, a4, a5⟩
          · exact absurd e (h1.2 p2 q2 s2 f2 hx)
          · have := a5 p2 q2 s2 f2 hx e
            rw [a3] at n1
            omega
        · exact Nat.le_refl _
    · rw [upM_a (by omega), upM_k e, upM_k e, upM_a (by omega)]
      rcases ht j hj with h1 | ⟨h0, h1 | ⟨p', q', s', f', a1, a2, a3, a4, a5⟩⟩
      · exact Or.inl h1
      · refine Or.inr ⟨h0, Or.inl ⟨h1.1, fun p2 q2 s2 f2 hx => ?_⟩⟩
        rcases hx with hx | ⟨rfl, rfl, rfl, rfl⟩
        · exact h1.2 p2 q2 s2 f2 hx
        · rw [hv]; omega
      · refine Or.inr ⟨h0, Or.inr ⟨p', q', s', f', Or.inl a1, a2, a3, a4, fun p2 q2 s2 f2 hx e => ?_⟩⟩
        rcases hx with hx | ⟨rfl, rfl, rfl, rfl⟩
        · exact a5 p2 q2 s2 f2 hx e
        · rw [hv] at e; omega
  refine vc_go hG 60 (B := bX4_offer) rfl ?_
  refine And.intro ⟨by omega, by decide, by decide⟩ ?_
  rw [e1]
  refine And.intro ha.k (Exists.intro _ (And.intro ha.r0 ?_))
  refine And.intro (Or.inl ha.k1) (Exists.intro i (And.intro rfl (And.intro (by rw [ha.l1]; exact hi) ?_)))
  refine And.intro (fun b => ?_) (fun b => ?_)
  · refine And.intro ha.k (Exists.intro _ (And.intro ha.r0 ?_))
    refine And.intro ha.k1 (Exists.intro i (And.intro rfl (And.intro (by rw [ha.l1]; exact hi) ?_)))
    refine And.intro ha.k (Exists.intro _ (And.intro ha.r1 ?_))
    refine And.intro ha.k2 (Exists.intro i (And.intro rfl (And.intro (by rw [ha.l2]; exact hi) ?_)))
    exact hnew (Or.inl b)
  · refine And.intro ha.k (Exists.intro _ (And.intro ha.r0 ?_))
    refine And.intro (Or.inl ha.k1) (Exists.intro i (And.intro rfl (And.intro (by rw [ha.l1]; exact hi) ?_)))
    refine And.intro (fun c => hold b (by omega)) (fun c => ?_)
    refine And.intro ha.k (Exists.intro _ (And.intro ha.r0 ?_))
    refine And.intro ha.k1 (Exists.intro i (And.intro rfl (And.intro (by rw [ha.l1]; exact hi) ?_)))
    refine And.intro ha.k (Exists.intro _ (And.intro ha.r1 ?_))
    refine And.intro ha.k2 (Exists.intro i (And.intro rfl (And.intro (by rw [ha.l2]; exact hi) ?_)))
    exact hnew (Or.inr c)
end Near
end
section
/-! ===== the class's Near: all that a pair makes, a number of ODDS comes, the whole table ===== -/
section Near
variable {Γ : GG} {w : Wd} {M : MM} {Q : QT} {a g : Nat} {G : GT}
theorem GrR.frn {M M' : MM} {g a : Nat} {G : GT} (h : GrR M g G) (hf : frN M M' a) (hd : a + 2 < g ∨ g + 9 < a + 1) : GrR M' g G := h.keep (fun b h1 h2 => hf b (by omega) (by omega))
/-- offered: X, and of the pair p, q what lies below c (shift and form) -/
def YX (G : GT) (X : XP) (p q c : Nat) : XP := fun p' q' s' f' => X p' q' s' f' ∨ (p' = p ∧ q' = q ∧ s' ≤ 9 ∧ f' ≤ 3 ∧ 4 * s' + f' < c ∧ mayB G p s' q f')
theorem l_offerIn (hG : GOK Γ) (ha : NrL w a) (hg : GrL w g) (hd : a + 2 < g ∨ g + 9 < a + 1) (hw : WFG G) {Th : Nat → Prop} {X : XP} {p q : Nat} (hp : p ≤ qn G) (hq : q ≤ qn G) (hdp : dpt G p q ≤ qL G) {s : Nat} (hs : s ≤ 9)
    (hk : ∀ M', NrT M' a G Th (YX G X p q (4 * (s + 1))) → frN M M' a → wp Γ mX4_offerAll 35 [some (VR a), some (VR g), some (VI p), some (VI q), some (VI (dpt G p q : Nat)), some (VI (qV G p)), some (VI (qV G q)), some (VI ((s + 1 : Nat) : Int))] [] 0 0 w M' Q) :
    ∀ (j f : Nat) (M1 : MM), f + j = 4 → NrT M1 a G Th (YX G X p q (4 * s + f)) → frN M M1 a → wp Γ mX4_offerAll 45 [some (VR a), some (VR g), some (VI p), some (VI q), some (VI (dpt G p q : Nat)), some (VI (qV G p)), some (VI (qV G q)), some (VI s), some (VI f)] [] 0 0 w M1 Q := by
  have v1 := WFG_V hw p hp
  have v2 := WFG_V hw q hq
  have hn := hw.1
  intro j
  induction j with
  | zero =>
    intro f M1 hf ht hfr
    have e : f = 4 := by omega
    subst e
    refine vc_go hG 60 (B := bX4_offerAll) rfl ?_
    refine And.intro (fun b => ?_) (fun b => by omega)
    refine And.intro (by omega) ?_
    refine wp_pre [some (VR a), some (VR g), some (VI p), some (VI q), some (VI (dpt G p q : Nat)), some (VI (qV G p)), some (VI (qV G q)), some (VI ((s + 1 : Nat) : Int))] _ ?_
    exact hk M1 ht hfr
  | succ j ih =>
    intro f M1 hf ht hfr
    refine vc_go hG 60 (B := bX4_offerAll) rfl ?_
    refine And.intro (fun b => by omega) (fun b => ?_)
    refine c_comes hG rfl rfl rfl rfl v1.2.1 hs v2.2.1 (by omega) ?_
    have skip : ¬ mayB G p s q f → wp Γ mX4_offerAll 45 [some (VR a), some (VR g), some (VI p), some (VI q), some (VI (dpt G p q : Nat)), some (VI (qV G p)), some (VI (qV G q)), some (VI s), some (VI ((f + 1 : Nat) : Int))] [] 0 0 w M1 Q := by
      intro hm
      refine ih (f + 1) M1 (by omega) (ht.congr (fun v => Iff.rfl) (fun p' q' s' f' => ?_)) hfr
      unfold YX
      constructor
      · rintro (h | ⟨h1, h2, h3, h4, h5, h6⟩)
        · exact Or.inl h
        · exact Or.inr ⟨h1, h2, h3, h4, by omega, h6⟩
      · rintro (h | ⟨h1, h2, h3, h4, h5, h6⟩)
        · exact Or.inl h
        · refine Or.inr ⟨h1, h2, h3, h4, ?_, h6⟩
          by_cases e : 4 * s' + f' = 4 * s + f
          · have e1 : s' = s := by omega
            have e2 : f' = f := by omega
            subst e1 e2
            exact absurd h6 hm
          · omega
    refine And.intro (fun c => ?_) (fun c => ?_)
    · refine And.intro (by omega) ?_
      refine wp_pre [some (VR a), some (VR g), some (VI p), some (VI q), some (VI (dpt G p q : Nat)), some (VI (qV G p)), some (VI (qV G q)), some (VI s), some (VI ((f + 1 : Nat) : Int))] _ (skip ?_)
      intro hm
      have := hm.1
      omega
    refine And.intro (fun d => ?_) (fun d => ?_)
    · refine And.intro (by omega) ?_
      refine wp_pre [some (VR a), some (VR g), some (VI p), some (VI q), some (VI (dpt G p q : Nat)), some (VI (qV G p)), some (VI (qV G q)), some (VI s), some (VI ((f + 1 : Nat) : Int))] _ (skip ?_)
      intro hm
      have := hm.2.1
      omega
    have hm : mayB G p s q f := ⟨by omega, by omega, hdp⟩
    have ho := odp_odd (n := cms (qV G p) s (qV G q) f) (by omega) (by omega)
    have ho2 := odp_le (cms (qV G p) s (qV G q) f)
    refine c_oddPart hG rfl (by omega) ?_
    refine c_wayOf hG rfl rfl rfl rfl (by omega) (by omega) hs (by omega) ?_
    refine And.intro ha.k ?_
    refine c_offer hG ha ht (p := p) (q := q) (s := s) (f := f) (i := odp (cms (qV G p) s (qV G q) f) / 2) (by omega) (by omega) rfl rfl (by show odp _ = _; omega) (fun M' g1 g2 => ?_)
    refine And.intro (by omega) ?_
    refine wp_pre [some (VR a), some (VR g), some (VI p), some (VI q), some (VI (dpt G p q : Nat)), some (VI (qV G p)), some (VI (qV G q)), some (VI s), some (VI ((f + 1 : Nat) : Int))] _ ?_
    refine ih (f + 1) M' (by omega) (g1.congr (fun v => Iff.rfl) (fun p' q' s' f' => ?_)) (hfr.t g2)
    unfold YX
    constructor
    · rintro ((h | ⟨h1, h2, h3, h4, h5, h6⟩) | ⟨h1, h2, h3, h4⟩)
      · exact Or.inl h
      · exact Or.inr ⟨h1, h2, h3, h4, by omega, h6⟩
      · subst h1 h2 h3 h4
        exact Or.inr ⟨rfl, rfl, hs, by omega, by omega, hm⟩
    · rintro (h | ⟨h1, h2, h3, h4, h5, h6⟩)
      · exact Or.inl (Or.inl h)
      · by_cases e : 4 * s' + f' = 4 * s + f
        · exact Or.inr ⟨h1, h2, by omega, by omega⟩
        · exact Or.inl (Or.inr ⟨h1, h2, h3, h4, by omega, h6⟩)
theorem l_offerOut (hG : GOK Γ) (ha : NrL w a) (hg : GrL w g) (hd : a + 2 < g ∨ g + 9 < a + 1) (hw : WFG G) {Th : Nat → Prop} {X : XP} {p q : Nat} (hp : p ≤ qn G) (hq : q ≤ qn G) (hdp : dpt G p q ≤ qL G)
    (h : ∀ M', NrT M' a G Th (YX G X p q 40) → frN M M' a → Q none w M') :
    ∀ (j s : Nat) (M1 : MM), s + j = 10 → NrT M1 a G Th (YX G X p q (4 * s)) → frN M M1 a → wp Γ mX4_offerAll 35 [some (VR a), some (VR g), some (VI p), some (VI q), some (VI (dpt G p q : Nat)), some (VI (qV G p)), some (VI (qV G q)), some (VI s)] [] 0 0 w M1 Q := by
  intro j
  induction j with
  | zero =>
    intro s M1 hs ht hfr
    have e : s = 10 := by omega
    subst e
    refine vc_go hG 60 (B := bX4_offerAll) rfl ?_
    refine And.intro (fun b => ?_) (fun b => by omega)
    exact h M1 ht hfr
  | succ j ih =>
    intro s M1 hs ht hfr
    refine vc_go hG 60 (B := bX4_offerAll) rfl ?_
    refine And.intro (fun b => by omega) (fun b => ?_)
    exact l_offerIn hG ha hg hd hw hp hq hdp (by omega) (fun M' g1 g2 => ih (s + 1) M' (by omega) g1 g2) 4 0 M1 rfl ht hfr
/-- the pair p, q is offered whole -/
def ZX (G : GT) (X : XP) (p q : Nat) : XP := fun p' q' s' f' => X p' q' s' f' ∨ (p' = p ∧ q' = q ∧ s' ≤ 9 ∧ f' ≤ 3 ∧ mayB G p s' q f')
theorem c_offerAll (hG : GOK Γ) (ha : NrL w a) (hg : GrL w g) (hd : a + 2 < g ∨ g + 9 < a + 1) (hr : GrR M g G) (hw : WFG G) {Th : Nat → Prop} {X : XP} (ht : NrT M a G Th X) {pI qI : Int} {p q : Nat} (ep : pI = p) (eq : qI = q) (hp : p ≤ qn G) (hq : q ≤ qn G)
    (h : ∀ M', NrT M' a G Th (ZX G X p q) → frN M M' a → Q none w M') : wp Γ mX4_offerAll 0 [some (VR a), some (VR g), some (VI pI), some (VI qI)] [] 0 0 w M Q := by
  subst ep eq
  have e4 := hr.2.2.1
  refine vc_go hG 60 (B := bX4_offerAll) rfl ?_
  refine And.intro hg.k ?_
  refine c_depthOver hG hg hr hw rfl rfl hp hq ?_
  refine And.intro hg.k ?_
  refine And.intro (fun b => ?_) (fun b => ?_)
  · refine And.intro hg.k ?_
    refine c_value hG hg hr hw rfl hp ?_
    refine And.intro hg.k ?_
    refine c_value hG hg hr hw rfl hq ?_
    refine l_offerOut (X := X) hG ha hg hd hw hp hq (by show max _ _ + 1 ≤ _; omega) (fun M' g1 g2 => h M' (g1.congr (fun v => Iff.rfl) (fun p' q' s' f' => ?_)) g2) 10 0 M rfl (ht.congr (fun v => Iff.rfl) (fun p' q' s' f' => ?_)) (fun b _ _ => rfl)
    · unfold YX ZX
      constructor
      · rintro (h | ⟨h1, h2, h3, h4, h5, h6⟩)
        · exact Or.inl h
        · exact Or.inr ⟨h1, h2, h3, h4, h6⟩
      · rintro (h | ⟨h1, h2, h3, h4, h6⟩)
        · exact Or.inl h
        · exact Or.inr ⟨h1, h2, h3, h4, by omega, h6⟩
    · unfold YX
      constructor
      · exact fun h => Or.inl h
      · rintro (h | ⟨h1, h2, h3, h4, h5, h6⟩)
        · exact h
        · omega
  · refine h M (ht.congr (fun v => Iff.rfl) (fun p' q' s' f' => ?_)) (fun b _ _ => rfl)
    unfold ZX
    constructor
    · exact fun h => Or.inl h
    · rintro (h | ⟨h1, h2, h3, h4, h6⟩)
      · exact h
      · have := h6.2.2
        omega
/-- offered: X, and all pairs (p, k) with p below c -/
def PX (G : GT) (X : XP) (k c : Nat) : XP := fun p' q' s' f' => X p' q' s' f' ∨ (p' < c ∧ q' = k ∧ s' ≤ 9 ∧ f' ≤ 3 ∧ mayB G p' s' k f')
theorem l_widen (hG : GOK Γ) (ha : NrL w a) (hg : GrL w g) (hd : a + 2 < g ∨ g + 9 < a + 1) (hr : GrR M g G) (hw : WFG G) {Th : Nat → Prop} {X : XP} {k : Nat} (hk : k ≤ qn G)
    (h : ∀ M', NrT M' a G Th (PX G X k (k + 1)) → frN M M' a → Q none w M') :
    ∀ (j c : Nat) (M1 : MM), c + j = k + 1 → NrT M1 a G Th (PX G X k c) → frN M M1 a → wp Γ mX4_widen 27 [some (VR a), some (VR g), some (VI k), some (VI (qV G k)), some (VI c)] [] 0 0 w M1 Q := by
  have hn := hw.1
  intro j
  induction j with
  | zero =>
    intro c M1 hc ht hfr
    have e : c = k + 1 := by omega
    subst e
    refine vc_go hG 60 (B := bX4_widen) rfl ?_
    refine And.intro (fun b => ?_) (fun b => by omega)
    exact h M1 ht hfr
  | succ j ih =>
    intro c M1 hc ht hfr
    refine vc_go hG 60 (B := bX4_widen) rfl ?_
    refine And.intro (fun b => by omega) (fun b => ?_)
    refine And.intro ha.k ?_
    refine c_offerAll hG ha hg hd (hr.frn hfr hd) hw ht rfl rfl (by omega) hk (fun M' g1 g2 => ?_)
    refine And.intro (by omega) ?_
    refine ih (c + 1) M' (by omega) (g1.congr (fun v => Iff.rfl) (fun p' q' s' f' => ?_)) (hfr.t g2)
    unfold ZX PX
    constructor
    · rintro ((h | ⟨h1, h2, h3, h4, h6⟩) | ⟨h1, h2, h3, h4, h6⟩)
      · exact Or.inl h
      · exact Or.inr ⟨by omega, h2, h3, h4, h6⟩
      · subst h1
        exact Or.inr ⟨by omega, h2, h3, h4, h6⟩
    · rintro (h | ⟨h1, h2, h3, h4, h6⟩)
      · exact Or.inl (Or.inl h)
      · by_cases e : p' = c
        · subst e
          exact Or.inr ⟨rfl, h2, h3, h4, h6⟩
        · exact Or.inl (Or.inr ⟨by omega, h2, h3, h4, h6⟩)
theorem c_widen (hG : GOK Γ) (ha : NrL w a) (hg : GrL w g) (hd : a + 2 < g ∨ g + 9 < a + 1) (hr : GrR M g G) (hw : WFG G) {Th : Nat → Prop} {X : XP} (ht : NrT M a G Th X) {kI : Int} {k : Nat} (ek : kI = k) (hk : k ≤ qn G)
    (h : ∀ M', NrT M' a G (fun v => Th v ∨ v = qV G k) (PX G X k (k + 1)) → frN M M' a → Q none w M') : wp Γ mX4_widen 0 [some (VR a), some (VR g), some (VI kI)] [] 0 0 w M Q := by
  subst ek
  have v1 := WFG_V hw k hk
  refine vc_go hG 60 (B := bX4_widen) rfl ?_
  refine And.intro hg.k ?_
  refine c_value hG hg hr hw rfl hk ?_
  refine c_isOddNumber hG (fun ho => ?_) (fun ho => absurd (show isOddN (qV G k) from ⟨by omega, by omega, by omega⟩) ho)
  refine And.intro (fun b => ?_) (fun b => absurd b (by decide))
  refine And.intro ha.k (Exists.intro _ (And.intro ha.r0 ?_))
  have e1 : ((qV G k : Nat) : Int) / 2 ^ ((1 : Int).toNat) = ((qV G k / 2 : Nat) : Int) := srN (qV G k) 1
  refine And.intro ⟨by omega, by decide, by decide⟩ ?_
  rw [e1]
  refine And.intro ha.k1 (Exists.intro (qV G k / 2) (And.intro rfl (And.intro (by rw [ha.l1]; omega) ?_)))
  have hf1 : frN M (upM M (a + 1) (qV G k / 2) (-2)) a := fun b b1 b2 => upM_ne b1
  refine l_widen hG ha hg hd hr hw hk h (k + 1) 0 _ (by omega) (fun i hi => ?_) hf1
  have hpx : ∀ p' q' s' f', PX G X k 0 p' q' s' f' ↔ X p' q' s' f' := fun p' q' s' f' => by
    unfold PX
    constructor
    · rintro (h | ⟨h1, -⟩)
      · exact h
      · omega
    · exact fun h => Or.inl h
  by_cases e : i = qV G k / 2
  · subst e
    exact Or.inl ⟨Or.inr (by omega), upM_eq⟩
  · have hne : ¬ (2 * i + 1 = qV G k) := by omega
    rw [upM_k e, upM_a (by omega)]
    have ht2 := ht.congr (X' := PX G X k 0) (fun v => Iff.rfl) (fun p' q' s' f' => (hpx p' q' s' f').symm)
    rcases ht2 i hi with h1 | ⟨h0, h1⟩
    · exact Or.inl ⟨Or.inl h1.1, h1.2⟩
    · exact Or.inr ⟨fun z => z.elim h0 hne, h1⟩
/-- the whole table: what is there, what is made by pairs -/
def ThG (G : GT) (b : Nat) : Nat → Prop := fun v => ∃ k, k < b ∧ qV G k = v
def XG (G : GT) (b : Nat) : XP := fun p q s f => p ≤ q ∧ q < b ∧ s ≤ 9 ∧ f ≤ 3 ∧ mayB G p s q f
abbrev NrF (M : MM) (a : Nat) (G : GT) : Prop := NrT M a G (ThG G (qn G + 1)) (XG G (qn G + 1))
theorem ThG_s {G : GT} {k v : Nat} : (ThG G k v ∨ v = qV G k) ↔ ThG G (k + 1) v := by
  unfold ThG
  constructor
  · rintro (⟨i, h1, h2⟩ | h)
    · exact ⟨i, by omega, h2⟩
    · exact ⟨k, by omega, h.symm⟩
  · rintro ⟨i, h1, h2⟩
    by_cases e : i = k
    · subst e; exact Or.inr h2.symm
    · exact Or.inl ⟨i, by omega, h2⟩
theorem XG_s {G : GT} {k p q s f : Nat} : PX G (XG G k) k (k + 1) p q s f ↔ XG G (k + 1) p q s f := by
  unfold PX XG
  constructor
  · rintro (⟨h1, h2, h3, h4, h5⟩ | ⟨h1, h2, h3, h4, h5⟩)
    · exact ⟨h1, by omega, h3, h4, h5⟩
    · subst h2
      exact ⟨by omega, by omega, h3, h4, h5⟩
  · rintro ⟨h1, h2, h3, h4, h5⟩
    by_cases e : q = k
    · subst e
      exact Or.inr ⟨by omega, rfl, h3, h4, h5⟩
    · exact Or.inl ⟨h1, by omega, h3, h4, h5⟩
theorem l_build2 (hG : GOK Γ) (ha : NrL w a) (hg : GrL w g) (hd : a + 2 < g ∨ g + 9 < a + 1) (hr : GrR M g G) (hw : WFG G) (h : ∀ M', NrF M' a G → frN M M' a → Q none w M') :
    ∀ (j k : Nat) (M1 : MM), k + j = qn G + 1 → NrT M1 a G (ThG G k) (XG G k) → frN M M1 a → wp Γ mX4_build 24 [some (VR a), some (VR g), some (VI k)] [] 0 0 w M1 Q := by
  have hn := hw.1
  intro j
  induction j with
  | zero =>
    intro k M1 hk ht hfr
    have e : k = qn G + 1 := by omega
    subst e
    have e1 := (hr.frn hfr hd).1
    refine vc_go hG 60 (B := bX4_build) rfl ?_
    refine And.intro hg.k ?_
    refine And.intro (fun b => h M1 ht hfr) (fun b => by omega)
  | succ j ih =>
    intro k M1 hk ht hfr
    have e1 := (hr.frn hfr hd).1
    refine vc_go hG 60 (B := bX4_build) rfl ?_
    refine And.intro hg.k ?_
    refine And.intro (fun b => by omega) (fun b => ?_)
    refine And.intro ha.k ?_
    refine c_widen hG ha hg hd (hr.frn hfr hd) hw ht rfl (by omega) (fun M' g1 g2 => ?_)
    refine And.intro (by omega) ?_
    exact ih (k + 1) M' (by omega) (g1.congr (fun v => ThG_s) (fun p q s f => XG_s)) (hfr.t g2)
theorem l_build1 (hG : GOK Γ) (ha : NrL w a) (hg : GrL w g) (hd : a + 2 < g ∨ g + 9 < a + 1) (hr : GrR M g G) (hw : WFG G) (h : ∀ M', NrF M' a G → frN M M' a → Q none w M') :
    ∀ (j k : Nat) (M1 : MM), k + j = 512 → (∀ i, i < k → M1 (a + 1) i = -1) → frN M M1 a → wp Γ mX4_build 2 [some (VR a), some (VR g), some (VI k)] [] 0 0 w M1 Q := by
  intro j
  induction j with
  | zero =>
    intro k M1 hk hi hfr
    have e : k = 512 := by omega
    subst e
    refine vc_go hG 60 (B := bX4_build) rfl ?_
    refine And.intro (fun b => ?_) (fun b => by omega)
    refine l_build2 hG ha hg hd hr hw h (qn G + 1) 0 M1 (by omega) (fun i hi2 => Or.inr ⟨?_, Or.inl ⟨hi i hi2, ?_⟩⟩) hfr
    · rintro ⟨k, h1, -⟩; omega
    · rintro p q s f ⟨-, h1, -⟩; omega
  | succ j ih =>
    intro k M1 hk hi hfr
    refine vc_go hG 60 (B := bX4_build) rfl ?_
    refine And.intro (fun b => by omega) (fun b => ?_)
    refine And.intro ha.k (Exists.intro _ (And.intro ha.r0 ?_))
    refine And.intro ha.k1 (Exists.intro k (And.intro rfl (And.intro (by rw [ha.l1]; omega) ?_)))
    refine And.intro (by omega) ?_
    refine ih (k + 1) _ (by omega) (fun i hi2 => ?_) (hfr.t (fun b b1 b2 => upM_ne b1))
    by_cases e : i = k
    · subst e; exact upM_eq
    · rw [upM_k e]; exact hi i (by omega)
theorem c_build (hG : GOK Γ) (ha : NrL w a) (hg : GrL w g) (hd : a + 2 < g ∨ g + 9 < a + 1) (hr : GrR M g G) (hw : WFG G) (h : ∀ M', NrF M' a G → frN M M' a → Q none w M') : wp Γ mX4_build 0 [some (VR a), some (VR g)] [] 0 0 w M Q := by
  refine vc_go hG 60 (B := bX4_build) rfl ?_
  exact l_build1 hG ha hg hd hr hw h 512 0 M rfl (fun i hi => by omega) (fun b _ _ => rfl)
theorem c_ncopy (hG : GOK Γ) {o : Nat} (ha : NrL w a) (ho : NrL w o) (hd : o + 2 < a ∨ a + 2 < o) (h : ∀ M', (∀ i, i < 512 → M' (a + 1) i = M (o + 1) i ∧ M' (a + 2) i = M (o + 2) i) → frN M M' a → Q none w M') : wp Γ mX4_copy 0 [some (VR a), some (VR o)] [] 0 0 w M Q := by
  refine vc_go hG 60 (B := bX4_copy) rfl ?_
  refine And.intro ho.k (Exists.intro _ (And.intro ho.r0 ?_))
  refine And.intro ha.k (Exists.intro _ (And.intro ha.r0 ?_))
  refine And.intro ⟨ho.k1, ha.k1⟩ (And.intro ⟨rfl, rfl, by decide, by rw [ho.l1]; decide, by rw [ha.l1]; decide⟩ ?_)
  refine And.intro ho.k (Exists.intro _ (And.intro ho.r1 ?_))
  refine And.intro ha.k (Exists.intro _ (And.intro ha.r1 ?_))
  refine And.intro ⟨ho.k2, ha.k2⟩ (And.intro ⟨rfl, rfl, by decide, by rw [ho.l2]; decide, by rw [ha.l2]; decide⟩ ?_)
  refine h _ (fun i hi => ⟨?_, ?_⟩) (fun b b1 b2 => by rw [cpM_ne b2, cpM_ne b1])
  · rw [cpM_ne (by omega)]
    unfold cpM
    rw [if_pos ⟨rfl, hi⟩]
  · unfold cpM
    rw [if_pos ⟨rfl, hi⟩, if_neg (by omega)]
theorem NrT.copy {M M' : MM} {a o : Nat} {G : GT} {Th : Nat → Prop} {X : XP} (h : NrT M o G Th X) (hc : ∀ i, i < 512 → M' (a + 1) i = M (o + 1) i ∧ M' (a + 2) i = M (o + 2) i) : NrT M' a G Th X := by
  intro i hi
  rw [(hc i hi).1, (hc i hi).2]
  exact h i hi
end Near
end
section
/-! ===== the class's Near: what is read off the table ===== -/
def byW (G : GT) (v p q s f : Nat) : Prop := XG G (qn G + 1) p q s f ∧ mkV G p q s f = v ∧ ∀ p' q' s' f', XG G (qn G + 1) p' q' s' f' → mkV G p' q' s' f' = v → cdw p q s f ≤ cdw p' q' s' f'
abbrev isTh (G : GT) (v : Nat) : Prop := ThG G (qn G + 1) v
def isNr (G : GT) (v : Nat) : Prop := (v % 2 = 1 ∧ v ≤ 1023) ∧ ¬ isTh G v ∧ ∃ p q s f, byW G v p q s f
/-- NEAR, and another adder may stand on it -/
def isUs (G : GT) (v : Nat) : Prop := (v % 2 = 1 ∧ v ≤ 1023) ∧ ¬ isTh G v ∧ ∃ p q s f, byW G v p q s f ∧ dpt G p q < qL G
theorem byW_b {G : GT} (hw : WFG G) {v p q s f : Nat} (h : byW G v p q s f) : p ≤ qn G ∧ q ≤ qn G ∧ s ≤ 9 ∧ f ≤ 3 ∧ qn G ≤ 12 := by
  obtain ⟨⟨h1, h2, h3, h4, h5⟩, -⟩ := h
  have := hw.1
  omega
theorem byW_u {G : GT} (hw : WFG G) {v p q s f p' q' s' f' : Nat} (h : byW G v p q s f) (h' : byW G v p' q' s' f') : p = p' ∧ q = q' ∧ s = s' ∧ f = f' := by
  have b := byW_b hw h
  have b' := byW_b hw h'
  have e1 := h.2.2 _ _ _ _ h'.1 h'.2.1
  have e2 := h'.2.2 _ _ _ _ h.1 h.2.1
  unfold cdw at e1 e2
  omega
theorem NrF.cases {M : MM} {a : Nat} {G : GT} (h : NrF M a G) {i : Nat} (hi : i < 512) : (isTh G (2 * i + 1) ∧ M (a + 1) i = -2) ∨ (¬ isTh G (2 * i + 1) ∧ (∀ p q s f, ¬ byW G (2 * i + 1) p q s f) ∧ (∀ p q s f, XG G (qn G + 1) p q s f → mkV G p q s f ≠ 2 * i + 1) ∧ M (a + 1) i = -1) ∨ (¬ isTh G (2 * i + 1) ∧ ∃ p q s f, byW G (2 * i + 1) p q s f ∧ M (a + 1) i = (cdw p q s f : Nat) ∧ M (a + 2) i = (dpt G p q : Nat)) := by
  rcases h i hi with h1 | ⟨h0, h1 | ⟨p, q, s, f, a1, a2, a3, a4, a5⟩⟩
  · exact Or.inl h1
  · exact Or.inr (Or.inl ⟨h0, fun p q s f hb => h1.2 p q s f hb.1 hb.2.1, h1.2, h1.1⟩)
  · exact Or.inr (Or.inr ⟨h0, p, q, s, f, ⟨a1, a2, a5⟩, a3, a4⟩)
-- the least of a kind, and how many
def isLst (P : Nat → Prop) (r : Int) : Prop := (r = -9 ∧ ∀ e, ¬ P e) ∨ ∃ e : Nat, r = e ∧ P e ∧ ∀ e', e' < e → ¬ P e'
theorem isLst_u {P : Nat → Prop} {r r' : Int} (h : isLst P r) (h' : isLst P r') : r = r' := by
  rcases h with ⟨h1, h2⟩ | ⟨e, h1, h2, h3⟩ <;> rcases h' with ⟨k1, k2⟩ | ⟨e', k1, k2, k3⟩
  · omega
  · exact absurd k2 (h2 e')
  · exact absurd h2 (k2 e)
  · have : e = e' := by
      rcases Nat.lt_trichotomy e e' with q | q | q
      · exact absurd h2 (k3 e q)
      · exact q
      · exact absurd k2 (h3 e' q)
    omega
noncomputable def cP (P : Nat → Prop) : Nat → Nat
  | 0 => 0
  | k + 1 => cP P k + (@ite _ (P k) (Classical.propDecidable _) 1 0)
theorem cP_y {P : Nat → Prop} {k : Nat} (h : P k) : cP P (k + 1) = cP P k + 1 := by
  show cP P k + (@ite _ (P k) (Classical.propDecidable _) 1 0) = _
  rw [if_pos h]
theorem cP_n {P : Nat → Prop} {k : Nat} (h : ¬ P k) : cP P (k + 1) = cP P k := by
  show cP P k + (@ite _ (P k) (Classical.propDecidable _) 1 0) = _
  rw [if_neg h]; rfl
theorem cP_le (P : Nat → Prop) : ∀ k, cP P k ≤ k
  | 0 => Nat.le_refl _
  | k + 1 => by
    have := cP_le P k
    by_cases h : P k
    · rw [cP_y h]; omega
    · rw [cP_n h]; omega
section Near
variable {Γ : GG} {w : Wd} {M : MM} {Q : QT} {a g : Nat} {G : GT}
theorem c_way (hG : GOK Γ) (ha : NrL w a) (ht : NrF M a G) {vI : Int} {i : Nat} (hi : i < 512) (ev : vI = ((2 * i + 1 : Nat) : Int)) (h : Q (some (VI (M (a + 1) i))) w M) : wp Γ mX4_way 0 [some (VR a), some (VI vI)] [] 0 0 w M Q := by
  subst ev
  refine vc_go hG 60 (B := bX4_way) rfl ?_
  refine c_isOddNumber hG (fun ho => ?_) (fun ho => absurd (show isOddN ((2 * i + 1 : Nat) : Int) from ⟨by omega, by omega, by omega⟩) ho)
  refine And.intro (fun b => absurd b (by decide)) (fun b => ?_)
  refine And.intro ha.k (Exists.intro _ (And.intro ha.r0 ?_))
  refine And.intro ⟨by omega, by decide, by decide⟩ ?_
  have e1 : ((2 * i + 1 : Nat) : Int) / 2 ^ ((1 : Int).toNat) = (i : Int) := by
    rw [show ((2 * i + 1 : Nat) : Int) / 2 ^ ((1 : Int).toNat) = (((2 * i + 1) / 2 : Nat) : Int) from srN (2 * i + 1) 1]
    omega
  rw [e1]
  refine And.intro (Or.inl ha.k1) (Exists.intro i (And.intro rfl (And.intro (by rw [ha.l1]; exact hi) ?_)))
  exact h
theorem c_has (hG : GOK Γ) (ha : NrL w a) (ht : NrF M a G) {v : Int} (h1 : ∀ n : Nat, v = n → isNr G n → Q (some (VI 1)) w M) (h0 : (∀ n : Nat, v = n → ¬ isNr G n) → Q (some (VI 0)) w M) : wp Γ mX4_has 0 [some (VR a), some (VI v)] [] 0 0 w M Q := by
  refine vc_go hG 60 (B := bX4_has) rfl ?_
  refine c_isOddNumber hG (fun ho => ?_) (fun ho => ?_)
  · unfold isOddN at ho
    obtain ⟨i, hi⟩ : ∃ i : Nat, v = ((2 * i + 1 : Nat) : Int) := ⟨(v / 2).toNat, by omega⟩
    subst hi
    have hi : i < 512 := by omega
    refine And.intro (fun b => absurd b (by decide)) (fun b => ?_)
    refine And.intro ha.k (Exists.intro _ (And.intro ha.r0 ?_))
    refine And.intro ⟨by omega, by decide, by decide⟩ ?_
    have e1 : ((2 * i + 1 : Nat) : Int) / 2 ^ ((1 : Int).toNat) = (i : Int) := by
      rw [show ((2 * i + 1 : Nat) : Int) / 2 ^ ((1 : Int).toNat) = (((2 * i + 1) / 2 : Nat) : Int) from srN (2 * i + 1) 1]
      omega
    rw [e1]
    refine And.intro (Or.inl ha.k1) (Exists.intro i (And.intro rfl (And.intro (by rw [ha.l1]; exact hi) ?_)))
    rcases ht.cases hi with ⟨c1, c2⟩ | ⟨c1, c2, -, c3⟩ | ⟨c1, p, q, s, f, c2, c3, c4⟩
    · refine And.intro (fun c => And.intro (Or.inl rfl) (h0 (fun n en hn => ?_))) (fun c => by rw [c2] at c; omega)
      have : n = 2 * i + 1 := by omega
      subst this
      exact hn.2.1 c1
    · refine And.intro (fun c => And.intro (Or.inl rfl) (h0 (fun n en hn => ?_))) (fun c => by rw [c3] at c; omega)
      have : n = 2 * i + 1 := by omega
      subst this
      obtain ⟨p, q, s, f, hb⟩ := hn.2.2
      exact c2 p q s f hb
    · refine And.intro (fun c => by rw [c3] at c; omega) (fun c => And.intro (Or.inr rfl) (h1 (2 * i + 1) rfl ⟨⟨by omega, by omega⟩, c1, p, q, s, f, c2⟩))
  · unfold isOddN at ho
    refine And.intro (fun b => And.intro (Or.inl rfl) (h0 (fun n en hn => ?_))) (fun b => absurd rfl b)
    obtain ⟨⟨a1, a2⟩, -⟩ := hn
    omega
theorem l_howMany (hG : GOK Γ) (ha : NrL w a) (ht : NrF M a G) {v : Int} (h : Q (some (VI (cP (fun e => v < e ∧ isNr G e) 1024 : Nat))) w M) : ∀ (j i : Nat), i + j = 512 → wp Γ mX4_howManyAbove 4 [some (VR a), some (VI v), some (VI (cP (fun e => v < e ∧ isNr G e) (2 * i + 1) : Nat)), some (VI ((2 * i + 1 : Nat) : Int))] [] 0 0 w M Q := by
  have ev : ∀ i : Nat, ¬ (v < ((2 * i : Nat) : Int) ∧ isNr G (2 * i)) := fun i hh => by have := hh.2.1.1; omega
  intro j
  induction j with
  | zero =>
    intro i hi
    have e : i = 512 := by omega
    subst e
    refine vc_go hG 60 (B := bX4_howManyAbove) rfl ?_
    refine And.intro (fun b => ?_) (fun b => by omega)
    have := cP_n (P := fun e => v < e ∧ isNr G e) (k := 1024) (ev 512)
    rw [← this] at h
    exact h
  | succ j ih =>
    intro i hi
    have hc := cP_le (fun e => v < e ∧ isNr G e) (2 * i + 1)
    have n1 := ih (i + 1) (by omega)
    have n2 : cP (fun e => v < e ∧ isNr G e) (2 * (i + 1) + 1) = cP (fun e => v < e ∧ isNr G e) (2 * i + 1 + 1) := cP_n (ev (i + 1))
    rw [n2] at n1
    have e3 : ((2 * i + 1 : Nat) : Int) + 2 = ((2 * (i + 1) + 1 : Nat) : Int) := by omega
    refine vc_go hG 60 (B := bX4_howManyAbove) rfl ?_
    refine And.intro (fun b => by omega) (fun b => ?_)
    refine And.intro (fun c => ?_) (fun c => ?_)
    · refine And.intro (by omega) ?_
      rw [cP_n (fun hh => by have := hh.1; omega)] at n1
      rw [← e3] at n1
      exact n1
    · refine And.intro ha.k ?_
      refine c_has hG ha ht (fun n en hn => ?_) (fun hn => ?_)
      · refine And.intro (fun d => absurd d (by decide)) (fun d => ?_)
        have : n = 2 * i + 1 := by omega
        subst this
        refine And.intro (by omega) (And.intro (by omega) ?_)
        rw [cP_y ⟨c, hn⟩] at n1
        rw [← e3] at n1
        exact n1
      · refine And.intro (fun d => ?_) (fun d => absurd rfl d)
        refine And.intro (by omega) ?_
        rw [cP_n (fun hh => hn _ rfl hh.2)] at n1
        rw [← e3] at n1
        exact n1
theorem c_howMany (hG : GOK Γ) (ha : NrL w a) (ht : NrF M a G) {v : Int} (h : Q (some (VI (cP (fun e => v < e ∧ isNr G e) 1024 : Nat))) w M) : wp Γ mX4_howManyAbove 0 [some (VR a), some (VI v)] [] 0 0 w M Q := by
  refine vc_go hG 60 (B := bX4_howManyAbove) rfl ?_
  have := l_howMany hG ha ht h 512 0 rfl
  have e : cP (fun e => v < e ∧ isNr G e) (2 * 0 + 1) = 0 := cP_n (fun hh => by have := hh.2.1.1; omega)
  rw [e] at this
  exact this
theorem l_leastAbove (hG : GOK Γ) (ha : NrL w a) (ht : NrF M a G) {v : Int} (h : ∀ r, isLst (fun e => v < e ∧ isNr G e) r → Q (some (VI r)) w M) : ∀ (j i : Nat), i + j = 512 → (∀ e, e < 2 * i + 1 → ¬ (v < e ∧ isNr G e)) → wp Γ mX4_leastAbove 2 [some (VR a), some (VI v), some (VI ((2 * i + 1 : Nat) : Int))] [] 0 0 w M Q := by
  intro j
  induction j with
  | zero =>
    intro i hi hb
    refine vc_go hG 60 (B := bX4_leastAbove) rfl ?_
    refine And.intro (fun b => ?_) (fun b => by omega)
    refine h (-9) (Or.inl ⟨rfl, fun e he => ?_⟩)
    have := he.2.1
    exact hb e (by omega) he
  | succ j ih =>
    intro i hi hb
    have e3 : ((2 * i + 1 : Nat) : Int) + 2 = ((2 * (i + 1) + 1 : Nat) : Int) := by omega
    have go : ¬ (v < ((2 * i + 1 : Nat) : Int) ∧ isNr G (2 * i + 1)) → wp Γ mX4_leastAbove 2 [some (VR a), some (VI v), some (VI (((2 * i + 1 : Nat) : Int) + 2))] [] 0 0 w M Q := by
      intro hn
      rw [e3]
      refine ih (i + 1) (by omega) (fun e he => ?_)
      by_cases q1 : e = 2 * i + 1
      · subst q1; exact hn
      · by_cases q2 : e = 2 * i + 2
        · subst q2; intro hh; have := hh.2.1.1; omega
        · exact hb e (by omega)
    refine vc_go hG 60 (B := bX4_leastAbove) rfl ?_
    refine And.intro (fun b => by omega) (fun b => ?_)
    refine And.intro (fun c => And.intro (by omega) (go (fun hh => by have := hh.1; omega))) (fun c => ?_)
    refine And.intro ha.k ?_
    refine c_has hG ha ht (fun n en hn => ?_) (fun hn => ?_)
    · refine And.intro (fun d => absurd d (by decide)) (fun d => ?_)
      have : n = 2 * i + 1 := by omega
      subst this
      exact h _ (Or.inr ⟨2 * i + 1, rfl, ⟨c, hn⟩, hb⟩)
    · refine And.intro (fun d => And.intro (by omega) (go (fun hh => hn _ rfl hh.2))) (fun d => absurd rfl d)
theorem c_leastAbove (hG : GOK Γ) (ha : NrL w a) (ht : NrF M a G) {v : Int} (h : ∀ r, isLst (fun e => v < e ∧ isNr G e) r → Q (some (VI r)) w M) : wp Γ mX4_leastAbove 0 [some (VR a), some (VI v)] [] 0 0 w M Q := by
  refine vc_go hG 60 (B := bX4_leastAbove) rfl ?_
  refine l_leastAbove hG ha ht h 512 0 rfl (fun e he hh => ?_)
  have := hh.2.1.1
  omega
-- TWO
def isMin (S : Nat → Prop) (r : Int) : Prop := (r = 1024 ∧ ∀ e, ¬ S e) ∨ ∃ e : Nat, r = e ∧ e ≤ 1023 ∧ S e ∧ ∀ e', e' < e → ¬ S e'
theorem isMin_or {S T : Nat → Prop} {r t : Int} (h : isMin S r) (h' : isMin T t) : isMin (fun e => S e ∨ T e) (min r t) := by
  rcases h with ⟨h1, h2⟩ | ⟨e, h1, h0, h2, h3⟩ <;> rcases h' with ⟨k1, k2⟩ | ⟨e', k1, k0, k2, k3⟩
  · exact Or.inl ⟨by omega, fun e he => he.elim (h2 e) (k2 e)⟩
  · exact Or.inr ⟨e', by omega, k0, Or.inr k2, fun x hx he => he.elim (h2 x) (k3 x hx)⟩
  · exact Or.inr ⟨e, by omega, h0, Or.inl h2, fun x hx he => he.elim (h3 x hx) (k2 x)⟩
  · by_cases q : e ≤ e'
    · exact Or.inr ⟨e, by omega, h0, Or.inl h2, fun x hx he => he.elim (h3 x hx) (k3 x (by omega))⟩
    · exact Or.inr ⟨e', by omega, k0, Or.inr k2, fun x hx he => he.elim (h3 x (by omega)) (k3 x hx)⟩
theorem isMin_c {S T : Nat → Prop} {r : Int} (h : isMin S r) (hst : ∀ e, S e ↔ T e) : isMin T r := by
  have : S = T := funext (fun e => propext (hst e))
  rw [← this]; exact h
theorem c_usable (hG : GOK Γ) (ha : NrL w a) (ht : NrF M a G) (hw : WFG G) {x lI : Int} {n : Nat} (ex : x = n) (el : lI = qL G) (h : ∀ r, inR r → isMin (fun e => e = n ∧ isUs G e) r → Q (some (VI r)) w M) : wp Γ mX4_usable 0 [some (VR a), some (VI x), some (VI lI)] [] 0 0 w M Q := by
  subst ex el
  have none_ : ¬ isUs G n → Q (some (VI 1024)) w M := fun hn => h 1024 (by omega) (Or.inl ⟨rfl, fun e he => by obtain ⟨rfl, he⟩ := he; exact hn he⟩)
  refine vc_go hG 60 (B := bX4_usable) rfl ?_
  refine c_isOddNumber hG (fun ho => ?_) (fun ho => ?_)
  · unfold isOddN at ho
    obtain ⟨i, hi⟩ : ∃ i : Nat, n = 2 * i + 1 := ⟨n / 2, by omega⟩
    subst hi
    have hi : i < 512 := by omega
    refine And.intro (fun b => ?_) (fun b => absurd b (by decide))
    refine And.intro ⟨by omega, by decide, by decide⟩ ?_
    have e1 : ((2 * i + 1 : Nat) : Int) / 2 ^ ((1 : Int).toNat) = (i : Int) := by
      rw [show ((2 * i + 1 : Nat) : Int) / 2 ^ ((1 : Int).toNat) = (((2 * i + 1) / 2 : Nat) : Int) from srN (2 * i + 1) 1]
      omega
    rw [e1]
    refine And.intro ha.k (Exists.intro _ (And.intro ha.r0 ?_))
    refine And.intro (Or.inl ha.k1) (Exists.intro i (And.intro rfl (And.intro (by rw [ha.l1]; exact hi) ?_)))
    rcases ht.cases hi with ⟨c1, c2⟩ | ⟨c1, c2, -, c3⟩ | ⟨c1, p, q, s, f, c2, c3, c4⟩
    · exact And.intro (fun c => none_ (fun hu => hu.2.1 c1)) (fun c => by rw [c2] at c; omega)
    · refine And.intro (fun c => none_ (fun hu => ?_)) (fun c => by rw [c3] at c; omega)
      obtain ⟨p, q, s, f, hb, -⟩ := hu.2.2
      exact c2 p q s f hb
    · refine And.intro (fun c => by rw [c3] at c; omega) (fun c => ?_)
      refine And.intro ha.k (Exists.intro _ (And.intro ha.r1 ?_))
      refine And.intro (Or.inl ha.k2) (Exists.intro i (And.intro rfl (And.intro (by rw [ha.l2]; exact hi) ?_)))
      rw [c4]
      refine And.intro (fun d => none_ (fun hu => ?_)) (fun d => ?_)
      · obtain ⟨p', q', s', f', hb, hlt⟩ := hu.2.2
        obtain ⟨rfl, rfl, rfl, rfl⟩ := byW_u hw c2 hb
        omega
      · refine h _ (by omega) (Or.inr ⟨2 * i + 1, rfl, by omega, ⟨rfl, ⟨by omega, by omega⟩, c1, p, q, s, f, c2, by omega⟩, fun e' he' hh => ?_⟩)
        have := hh.1
        omega
  · refine And.intro (fun b => absurd rfl b) (fun b => none_ (fun hu => ho ?_))
    obtain ⟨⟨a1, a2⟩, -⟩ := hu
    exact ⟨by omega, by omega, by omega⟩
end Near
end
section
/-! ===== the class's Near: TWO ===== -/
/-- a road that also stops at the places of S -/
def vcS (Γ : GG) (μ : Nat) (B : BK) (S : List Nat) (Q : QT) (k : Nat) : Bool → KT :=
  Nat.rec (motive := fun _ => Bool → KT) (fun _ pc ls st cs sl w M => wp Γ μ pc ls st cs sl w M Q)
    (fun _ ih first pc ls st cs sl w M => match lk2 pc B with
      | none => False
      | some ai => bif ((ai.2.2.1 || S.any (Nat.beq pc)) && !first) then wp Γ μ pc ls st cs sl w M Q else stepv Γ μ Q (ih false) ai.1 ai.2.2.2.1 ai.2.2.2.2 pc ls st cs sl w M) k
theorem vcS_ok {Γ : GG} {μ : Nat} {S : List Nat} {Q : QT} (hmna : r_mna_open Γ) (hck : bchk μ = true) : ∀ (k : Nat) (first : Bool) (pc : Nat) (ls : LL) (st : List AV) (cs sl : Nat) (w : Wd) (M : MM), vcS Γ μ (PL μ) S Q k first pc ls st cs sl w M → wp Γ μ pc ls st cs sl w M Q := by
  intro k
  induction k with
  | zero => intro first pc ls st cs sl w M h; exact h
  | succ k ih =>
    intro first pc ls st cs sl w M h
    have h : (match lk2 pc (PL μ) with
      | none => False
      | some ai => bif ((ai.2.2.1 || S.any (Nat.beq pc)) && !first) then wp Γ μ pc ls st cs sl w M Q else stepv Γ μ Q (vcS Γ μ (PL μ) S Q k false) ai.1 ai.2.2.2.1 ai.2.2.2.2 pc ls st cs sl w M) := h
    split at h
    · exact h.elim
    · rename_i ai hai
      obtain ⟨b, hb, hin⟩ := lk2_in hai
      unfold bchk at hck
      have hc1 := List.all_eq_true.mp hck b hb
      have hc : ichk μ pc ai = true := List.all_eq_true.mp hc1 (pc, ai) hin
      cases hq : ((ai.2.2.1 || S.any (Nat.beq pc)) && !first) with
      | true => rw [hq] at h; exact h
      | false => rw [hq] at h; exact step_ok hmna (ih false) hc h
theorem vc_goS {Γ : GG} (hG : GOK Γ) {μ pc : Nat} {ls : LL} {st : List AV} {cs sl : Nat} {w : Wd} {M : MM} {Q : QT} (k : Nat) (S : List Nat) {B : BK} (hB : PL μ = B) (h : vcS Γ μ B S Q k true pc ls st cs sl w M) : wp Γ μ pc ls st cs sl w M Q := by
  subst hB
  exact vcS_ok hG.1 (hG.2 μ) k true pc ls st cs sl w M h
def cnA (G : GT) (c k : Nat) (e : Nat) : Prop := isUs G e ∧ ∃ s, 1 ≤ s ∧ s < k ∧ (e * (2 ^ s + 1) = c ∨ e * (2 ^ s - 1) = c)
def cnW0 (G : GT) (c v : Nat) (e : Nat) : Prop := isUs G e ∧ (e = odp (c + v) ∨ e = odp ((c - v) + (v - c)))
def cnW (G : GT) (c v k : Nat) (e : Nat) : Prop := cnW0 G c v e ∨ (isUs G e ∧ ∃ s, s < k ∧ (e = c + v * 2 ^ s ∨ e = (c - v * 2 ^ s) + (v * 2 ^ s - c)))
theorem isUs_pos {G : GT} {e : Nat} (h : isUs G e) : 1 ≤ e := by
  have := h.1.1
  omega
section Near
variable {Γ : GG} {w : Wd} {M : MM} {Q : QT} {a g : Nat} {G : GT}
theorem l_bridgeAlone (hG : GOK Γ) (ha : NrL w a) (ht : NrF M a G) (hw : WFG G) {c : Nat} (hc : 1 ≤ c ∧ c ≤ 1023) (h : ∀ r, isMin (cnA G c 10) r → Q (some (VI r)) w M) : ∀ (j s : Nat) (r : Int), s + j = 10 → 1 ≤ s → isMin (cnA G c s) r → wp Γ mX4_bridgeAlone 7 [some (VR a), some (VI c), some (VI (qL G)), some (VI r), some (VI s)] [] 0 0 w M Q := by
  intro j
  induction j with
  | zero =>
    intro s r hs h1 hr
    have e : s = 10 := by omega
    subst e
    refine vc_go hG 60 (B := bX4_bridgeAlone) rfl ?_
    exact And.intro (fun b => h r hr) (fun b => by omega)
  | succ j ih =>
    intro s r hs h1 hr
    have hp := pw9 (s := s) (by omega)
    have hp2 : 2 ≤ 2 ^ s := by
      have : 2 ^ 1 ≤ 2 ^ s := Nat.pow_le_pow_right (by decide) h1
      omega
    have e1 : (1 : Int) * 2 ^ ((s : Int).toNat) = ((2 ^ s : Nat) : Int) := by
      have := shN 1 s
      rw [Nat.one_mul] at this
      exact this
    -- the first divisor
    have st1 : ∀ t, isMin (fun e => isUs G e ∧ e * (2 ^ s + 1) = c) t → isMin (fun e => cnA G c s e ∨ (isUs G e ∧ e * (2 ^ s + 1) = c)) (min r t) := fun t h9 => isMin_or hr h9
    have fin : ∀ t, isMin (fun e => (cnA G c s e ∨ (isUs G e ∧ e * (2 ^ s + 1) = c)) ∨ (isUs G e ∧ e * (2 ^ s - 1) = c)) t → isMin (cnA G c (s + 1)) t := fun t h9 => isMin_c h9 (fun e => by
      unfold cnA
      constructor
      · rintro ((⟨u, s', a1, a2, a3⟩ | ⟨u, a1⟩) | ⟨u, a1⟩)
        · exact ⟨u, s', a1, by omega, a3⟩
        · exact ⟨u, s, h1, by omega, Or.inl a1⟩
        · exact ⟨u, s, h1, by omega, Or.inr a1⟩
      · rintro ⟨u, s', a1, a2, a3⟩
        by_cases q : s' = s
        · subst q
          rcases a3 with a3 | a3
          · exact Or.inl (Or.inr ⟨u, a3⟩)
          · exact Or.inr ⟨u, a3⟩
        · exact Or.inl (Or.inl ⟨u, s', a1, by omega, a3⟩))
    have nd : ∀ d : Nat, 1 ≤ d → c % d ≠ 0 → ∀ e, ¬ (isUs G e ∧ e * d = c) := fun d hd hm e he => hm (by rw [← he.2]; exact Nat.mul_mod_left e d)
    have yd : ∀ d : Nat, 1 ≤ d → c % d = 0 → ∀ e, (e = c / d ∧ isUs G e) ↔ (isUs G e ∧ e * d = c) := fun d hd hm e => by
      constructor
      · rintro ⟨rfl, u⟩
        exact ⟨u, Nat.div_mul_cancel (Nat.dvd_of_mod_eq_zero hm)⟩
      · rintro ⟨u, he⟩
        exact ⟨by rw [← he, Nat.mul_div_cancel _ (by omega)], u⟩
    generalize 2 ^ s = t at hp hp2 e1 st1 fin
    -- behind the first divisor
    have go2 : ∀ r1, isMin (fun e => cnA G c s e ∨ (isUs G e ∧ e * (t + 1) = c)) r1 → wp Γ mX4_bridgeAlone 51 [some (VR a), some (VI c), some (VI (qL G)), some (VI r1), some (VI s), some (VI ((t : Int) + 1)), some (VI ((t : Int) - 1))] [] 0 0 w M Q := by
      intro r1 hr1
      have em : (c : Int) % ((t : Int) - 1) = ((c % (t - 1) : Nat) : Int) := by
        rw [show (t : Int) - 1 = ((t - 1 : Nat) : Int) by omega]
        rfl
      have ed : (c : Int) / ((t : Int) - 1) = ((c / (t - 1) : Nat) : Int) := by
        rw [show (t : Int) - 1 = ((t - 1 : Nat) : Int) by omega]
        rfl
      refine vc_go hG 60 (B := bX4_bridgeAlone) rfl ?_
      refine And.intro ⟨by omega, by omega⟩ ?_
      rw [em]
      refine And.intro (fun b => ?_) (fun b => ?_)
      · refine And.intro (by omega) ?_
        refine wp_pre [some (VR a), some (VI c), some (VI (qL G)), some (VI r1), some (VI ((s + 1 : Nat) : Int))] _ ?_
        refine ih (s + 1) r1 (by omega) (by omega) (fin r1 (isMin_c hr1 (fun e => ⟨Or.inl, fun z => z.elim id (fun z => absurd z (nd (t - 1) (by omega) (by omega) e))⟩)))
      · refine And.intro ⟨by omega, by omega⟩ ?_
        rw [ed]
        refine And.intro ha.k ?_
        refine c_usable hG ha ht hw rfl rfl (fun x _ hx => ?_)
        refine And.intro (by omega) ?_
        refine wp_pre [some (VR a), some (VI c), some (VI (qL G)), some (VI (min r1 x)), some (VI ((s + 1 : Nat) : Int))] _ ?_
        exact ih (s + 1) _ (by omega) (by omega) (fin _ (isMin_or hr1 (isMin_c hx (yd (t - 1) (by omega) (by omega)))))
    have em : (c : Int) % ((t : Int) + 1) = ((c % (t + 1) : Nat) : Int) := by
      rw [show (t : Int) + 1 = ((t + 1 : Nat) : Int) by omega]
      rfl
    have ed : (c : Int) / ((t : Int) + 1) = ((c / (t + 1) : Nat) : Int) := by
      rw [show (t : Int) + 1 = ((t + 1 : Nat) : Int) by omega]
      rfl
    refine vc_goS hG 60 [51] (B := bX4_bridgeAlone) rfl ?_
    refine And.intro (fun b => by omega) (fun b => ?_)
    refine And.intro ⟨by omega, by omega, by omega, by rw [e1]; omega⟩ ?_
    rw [e1]
    refine And.intro (by omega) ?_
    refine And.intro ⟨by omega, by omega, by omega, by rw [e1]; omega⟩ ?_
    rw [e1]
    refine And.intro (by omega) ?_
    refine And.intro ⟨by omega, by omega⟩ ?_
    rw [em]
    refine And.intro (fun b => ?_) (fun b => ?_)
    · exact go2 r (isMin_c hr (fun e => ⟨Or.inl, fun z => z.elim id (fun z => absurd z (nd (t + 1) (by omega) (by omega) e))⟩))
    · refine And.intro ⟨by omega, by omega⟩ ?_
      rw [ed]
      refine And.intro ha.k ?_
      refine c_usable hG ha ht hw rfl rfl (fun x _ hx => ?_)
      exact go2 _ (st1 x (isMin_c hx (yd (t + 1) (by omega) (by omega))))
theorem c_bridgeAlone (hG : GOK Γ) (ha : NrL w a) (ht : NrF M a G) (hw : WFG G) {cI lI : Int} {c : Nat} (ec : cI = c) (el : lI = qL G) (hc : 1 ≤ c ∧ c ≤ 1023) (h : ∀ r, isMin (cnA G c 10) r → Q (some (VI r)) w M) : wp Γ mX4_bridgeAlone 0 [some (VR a), some (VI cI), some (VI lI)] [] 0 0 w M Q := by
  subst ec el
  refine vc_go hG 60 (B := bX4_bridgeAlone) rfl ?_
  refine l_bridgeAlone hG ha ht hw hc h 9 1 1024 rfl (Nat.le_refl _) (Or.inl ⟨rfl, fun e he => ?_⟩)
  obtain ⟨-, s, h1, h2, -⟩ := he
  omega
theorem l_bridgeWith (hG : GOK Γ) (ha : NrL w a) (ht : NrF M a G) (hw : WFG G) {c v : Nat} (hc : 1 ≤ c ∧ c ≤ 1023) (hv : v ≤ 1023) (h : ∀ r, isMin (cnW G c v 10) r → Q (some (VI r)) w M) : ∀ (j s : Nat) (r : Int), s + j = 10 → isMin (cnW G c v s) r → wp Γ mX4_bridgeWith 37 [some (VR a), some (VI c), some (VI v), some (VI (qL G)), some (VI r), some (VI s)] [] 0 0 w M Q := by
  intro j
  induction j with
  | zero =>
    intro s r hs hr
    have e : s = 10 := by omega
    subst e
    refine vc_go hG 60 (B := bX4_bridgeWith) rfl ?_
    exact And.intro (fun b => h r hr) (fun b => by omega)
  | succ j ih =>
    intro s r hs hr
    have hp := pw9 (s := s) (by omega)
    have e1 := shN v s
    have hx : v * 2 ^ s ≤ 1023 * 512 := Nat.mul_le_mul hv hp.2
    have fin : ∀ t, isMin (fun e => (cnW G c v s e ∨ (e = c + v * 2 ^ s ∧ isUs G e)) ∨ (e = (c - v * 2 ^ s) + (v * 2 ^ s - c) ∧ isUs G e)) t → isMin (cnW G c v (s + 1)) t := fun t h9 => isMin_c h9 (fun e => by
      unfold cnW
      constructor
      · rintro (((u | ⟨u, s', a1, a2⟩) | ⟨a1, u⟩) | ⟨a1, u⟩)
        · exact Or.inl u
        · exact Or.inr ⟨u, s', by omega, a2⟩
        · exact Or.inr ⟨u, s, by omega, Or.inl a1⟩
        · exact Or.inr ⟨u, s, by omega, Or.inr a1⟩
      · rintro (u | ⟨u, s', a1, a2⟩)
        · exact Or.inl (Or.inl (Or.inl u))
        · by_cases q : s' = s
          · subst q
            rcases a2 with a2 | a2
            · exact Or.inl (Or.inr ⟨a2, u⟩)
            · exact Or.inr ⟨a2, u⟩
          · exact Or.inl (Or.inl (Or.inr ⟨u, s', by omega, a2⟩)))
    generalize v * 2 ^ s = t at hx e1 fin
    refine vc_go hG 60 (B := bX4_bridgeWith) rfl ?_
    refine And.intro (fun b => by omega) (fun b => ?_)
    refine And.intro ⟨by omega, by omega, by omega, by rw [e1]; omega⟩ ?_
    rw [e1]
    refine And.intro (by omega) ?_
    refine And.intro ha.k ?_
    refine c_usable hG ha ht hw (n := c + t) (by omega) rfl (fun x _ hx1 => ?_)
    refine And.intro (by omega) ?_
    refine And.intro (by omega) ?_
    refine And.intro ha.k ?_
    refine c_usable hG ha ht hw (n := (c - t) + (t - c)) (by split <;> omega) rfl (fun y _ hx2 => ?_)
    refine And.intro (by omega) ?_
    refine wp_pre [some (VR a), some (VI c), some (VI v), some (VI (qL G)), some (VI (min (min r x) y)), some (VI ((s + 1 : Nat) : Int))] _ ?_
    exact ih (s + 1) _ (by omega) (fin _ (isMin_or (isMin_or hr hx1) hx2))
theorem c_bridgeWith (hG : GOK Γ) (ha : NrL w a) (ht : NrF M a G) (hw : WFG G) {cI vI lI : Int} {c v : Nat} (ec : cI = c) (ev : vI = v) (el : lI = qL G) (hc : 1 ≤ c ∧ c ≤ 1023) (hv : v ≤ 1023) (h : ∀ r, isMin (cnW G c v 10) r → Q (some (VI r)) w M) : wp Γ mX4_bridgeWith 0 [some (VR a), some (VI cI), some (VI vI), some (VI lI)] [] 0 0 w M Q := by
  subst ec ev el
  refine vc_go hG 60 (B := bX4_bridgeWith) rfl ?_
  refine And.intro (by omega) ?_
  refine c_oddPart hG (n := c + v) (by omega) (by omega) ?_
  refine And.intro ha.k ?_
  refine c_usable hG ha ht hw rfl rfl (fun x _ hx1 => ?_)
  refine And.intro (by omega) ?_
  refine And.intro (by omega) ?_
  refine c_oddPart hG (n := (c - v) + (v - c)) (by split <;> omega) (by omega) ?_
  refine And.intro ha.k ?_
  refine c_usable hG ha ht hw rfl rfl (fun y _ hx2 => ?_)
  refine l_bridgeWith hG ha ht hw hc hv h 10 0 _ rfl (isMin_c (isMin_or hx1 hx2) (fun e => ?_))
  unfold cnW cnW0
  constructor
  · rintro (⟨a1, u⟩ | ⟨a1, u⟩)
    · exact Or.inl ⟨u, Or.inl a1⟩
    · exact Or.inl ⟨u, Or.inr a1⟩
  · rintro (⟨u, a1 | a1⟩ | ⟨u, s, a1, -⟩)
    · exact Or.inl ⟨a1, u⟩
    · exact Or.inr ⟨a1, u⟩
    · omega
end Near
end
section
/-! ===== the class's Near: TWO, whole ===== -/
def cnK (G : GT) (c b : Nat) (e : Nat) : Prop := cnA G c 10 e ∨ ∃ k, k < b ∧ qD G k < qL G ∧ cnW G c (qV G k) 10 e
def cnB (G : GT) (v m : Nat) (e : Nat) : Prop := ∃ d, d < m ∧ v * 2 ^ d ≤ 1023 ∧ cnK G (v * 2 ^ d) (qn G + 1) e
/-- neither there nor near -/
def isFar (G : GT) (v : Nat) : Prop := ¬ isTh G v ∧ ∀ p q s f, XG G (qn G + 1) p q s f → mkV G p q s f ≠ v
def isTwo (G : GT) (v : Nat) (r : Int) : Prop := isLst (fun e => isFar G v ∧ cnB G v 10 e) r
theorem cnW_us {G : GT} {c v k e : Nat} (h : cnW G c v k e) : isUs G e := by
  rcases h with h | h
  · exact h.1
  · exact h.1
theorem cnK_us {G : GT} {c b e : Nat} (h : cnK G c b e) : isUs G e := by
  rcases h with h | ⟨k, -, -, h⟩
  · exact h.1
  · exact cnW_us h
section Near
variable {Γ : GG} {w : Wd} {M : MM} {Q : QT} {a g : Nat} {G : GT}
theorem l_bridgeIn (hG : GOK Γ) (ha : NrL w a) (hg : GrL w g) (ht : NrF M a G) (hr : GrR M g G) (hw : WFG G) {v d : Nat} (hv : 1 ≤ v ∧ v ≤ 1023) (hd : d ≤ 9) (hc : v * 2 ^ d ≤ 1023)
    (hk : ∀ r, isMin (cnB G v (d + 1)) r → wp Γ mX4_bridge 19 [some (VR a), some (VR g), some (VI v), some (VI r), some (VI ((d + 1 : Nat) : Int))] [] 0 0 w M Q) :
    ∀ (j k : Nat) (r : Int), k + j = qn G + 1 → isMin (fun e => cnB G v d e ∨ cnK G (v * 2 ^ d) k e) r → wp Γ mX4_bridge 60 [some (VR a), some (VR g), some (VI v), some (VI r), some (VI d), some (VI ((v * 2 ^ d : Nat) : Int)), some (VI k)] [] 0 0 w M Q := by
  have e1 := hr.1
  have e4 := hr.2.2.1
  have hn := hw.1
  have hc1 : 1 ≤ v * 2 ^ d := Nat.mul_pos (by omega) (Nat.two_pow_pos d)
  intro j
  induction j with
  | zero =>
    intro k r hk9 hm
    have e : k = qn G + 1 := by omega
    subst e
    refine vc_go hG 60 (B := bX4_bridge) rfl ?_
    refine And.intro hg.k ?_
    refine And.intro (fun b => ?_) (fun b => by omega)
    refine And.intro (by omega) ?_
    refine wp_pre [some (VR a), some (VR g), some (VI v), some (VI r), some (VI ((d + 1 : Nat) : Int))] _ ?_
    refine hk r (isMin_c hm (fun e => ?_))
    unfold cnB
    constructor
    · rintro (⟨d', h1, h2, h3⟩ | h)
      · exact ⟨d', by omega, h2, h3⟩
      · exact ⟨d, by omega, hc, h⟩
    · rintro ⟨d', h1, h2, h3⟩
      by_cases q : d' = d
      · subst q; exact Or.inr h3
      · exact Or.inl ⟨d', by omega, h2, h3⟩
  | succ j ih =>
    intro k r hk9 hm
    have vk := WFG_V hw k (by omega)
    have step : ∀ r', isMin (fun e => cnB G v d e ∨ cnK G (v * 2 ^ d) (k + 1) e) r' → wp Γ mX4_bridge 60 [some (VR a), some (VR g), some (VI v), some (VI r'), some (VI d), some (VI ((v * 2 ^ d : Nat) : Int)), some (VI ((k + 1 : Nat) : Int))] [] 0 0 w M Q := fun r' h9 => ih (k + 1) r' (by omega) h9
    generalize hcc : v * 2 ^ d = c at hc hc1 hm step
    refine vc_go hG 60 (B := bX4_bridge) rfl ?_
    refine And.intro hg.k ?_
    refine And.intro (fun b => by omega) (fun b => ?_)
    refine And.intro hg.k ?_
    refine c_depth hG hg hr hw rfl (by omega) ?_
    refine And.intro hg.k ?_
    refine And.intro (fun b2 => ?_) (fun b2 => ?_)
    · refine And.intro (by omega) ?_
      refine step r (isMin_c hm (fun e => ?_))
      unfold cnK
      constructor
      · rintro (h | h | ⟨k', h1, h2, h3⟩)
        · exact Or.inl h
        · exact Or.inr (Or.inl h)
        · exact Or.inr (Or.inr ⟨k', by omega, h2, h3⟩)
      · rintro (h | h | ⟨k', h1, h2, h3⟩)
        · exact Or.inl h
        · exact Or.inr (Or.inl h)
        · by_cases q : k' = k
          · subst q; omega
          · exact Or.inr (Or.inr ⟨k', by omega, h2, h3⟩)
    · refine And.intro hg.k ?_
      refine c_value hG hg hr hw rfl (by omega) ?_
      refine And.intro hg.k ?_
      refine And.intro ha.k ?_
      refine c_bridgeWith hG ha ht hw rfl rfl e4 ⟨hc1, hc⟩ vk.2.1 (fun x hx => ?_)
      refine And.intro (by omega) ?_
      refine step _ (isMin_c (isMin_or hm hx) (fun e => ?_))
      unfold cnK
      constructor
      · rintro ((h | h | ⟨k', h1, h2, h3⟩) | h)
        · exact Or.inl h
        · exact Or.inr (Or.inl h)
        · exact Or.inr (Or.inr ⟨k', by omega, h2, h3⟩)
        · exact Or.inr (Or.inr ⟨k, by omega, by omega, h⟩)
      · rintro (h | h | ⟨k', h1, h2, h3⟩)
        · exact Or.inl (Or.inl h)
        · exact Or.inl (Or.inr (Or.inl h))
        · by_cases q : k' = k
          · subst q; exact Or.inr h3
          · exact Or.inl (Or.inr (Or.inr ⟨k', by omega, h2, h3⟩))
theorem l_bridge (hG : GOK Γ) (ha : NrL w a) (hg : GrL w g) (ht : NrF M a G) (hr : GrR M g G) (hw : WFG G) {v : Nat} (hv : 1 ≤ v ∧ v ≤ 1023) (h : ∀ r, isMin (cnB G v 10) r → Q (some (VI (if r = 1024 then -9 else r))) w M) : ∀ (j d : Nat) (r : Int), d + j = 10 → isMin (cnB G v d) r → wp Γ mX4_bridge 19 [some (VR a), some (VR g), some (VI v), some (VI r), some (VI d)] [] 0 0 w M Q := by
  have e4 := hr.2.2.1
  have out : ∀ (d : Nat) (r : Int), d ≤ 10 → (∀ d', d ≤ d' → d' < 10 → ¬ v * 2 ^ d' ≤ 1023) → isMin (cnB G v d) r → Q (some (VI (if r = 1024 then -9 else r))) w M := by
    intro d r hd hn hm
    refine h r (isMin_c hm (fun e => ?_))
    unfold cnB
    constructor
    · rintro ⟨d', h1, h2, h3⟩; exact ⟨d', by omega, h2, h3⟩
    · rintro ⟨d', h1, h2, h3⟩
      by_cases q : d' < d
      · exact ⟨d', q, h2, h3⟩
      · exact absurd h2 (hn d' (by omega) h1)
  intro j
  induction j with
  | zero =>
    intro d r hd hm
    have e : d = 10 := by omega
    subst e
    have o := out 10 r (Nat.le_refl _) (fun d' h1 h2 => by omega) hm
    refine vc_go hG 60 (B := bX4_bridge) rfl ?_
    refine And.intro (fun b => ?_) (fun b => by omega)
    refine And.intro (fun c => ?_) (fun c => ?_)
    · rw [if_neg c] at o; exact o
    · rw [if_pos c] at o; exact o
  | succ j ih =>
    intro d r hd hm
    have hp := pw9 (s := d) (by omega)
    have hx : v * 2 ^ d ≤ 1023 * 512 := Nat.mul_le_mul hv.2 hp.2
    have e1 := shN v d
    refine vc_go hG 60 (B := bX4_bridge) rfl ?_
    refine And.intro (fun b => by omega) (fun b => ?_)
    refine And.intro ⟨by omega, by omega, by omega, by rw [e1]; omega⟩ ?_
    rw [e1]
    refine And.intro (fun c => ?_) (fun c => ?_)
    · have o := out d r (by omega) (fun d' h1 h2 => by
        have : v * 2 ^ d ≤ v * 2 ^ d' := Nat.mul_le_mul_left v (Nat.pow_le_pow_right (by decide) h1)
        omega) hm
      refine And.intro (fun c => ?_) (fun c => ?_)
      · rw [if_neg c] at o; exact o
      · rw [if_pos c] at o; exact o
    · refine And.intro ⟨by omega, by omega, by omega, by rw [e1]; omega⟩ ?_
      rw [e1]
      refine And.intro hg.k ?_
      refine And.intro ha.k ?_
      have hc1 : 1 ≤ v * 2 ^ d := Nat.mul_pos (by omega) (Nat.two_pow_pos d)
      refine c_bridgeAlone hG ha ht hw rfl e4 ⟨hc1, by omega⟩ (fun x hx => ?_)
      refine l_bridgeIn hG ha hg ht hr hw hv (by omega) (by omega) (fun r' h9 => ih (d + 1) r' (by omega) h9) (qn G + 1) 0 _ (by omega) (isMin_c (isMin_or hm hx) (fun e => ?_))
      unfold cnK
      constructor
      · rintro (h | h)
        · exact Or.inl h
        · exact Or.inr (Or.inl h)
      · rintro (h | h | ⟨k', h1, h2, h3⟩)
        · exact Or.inl h
        · exact Or.inr h
        · omega
theorem c_bridge (hG : GOK Γ) (ha : NrL w a) (hg : GrL w g) (ht : NrF M a G) (hr : GrR M g G) (hw : WFG G) {vI : Int} {v : Nat} (ev : vI = v) (hv : v % 2 = 1 ∧ v ≤ 1023) (h : ∀ r, isTwo G v r → Q (some (VI r)) w M) : wp Γ mX4_bridge 0 [some (VR a), some (VR g), some (VI vI)] [] 0 0 w M Q := by
  subst ev
  obtain ⟨i, hi⟩ : ∃ i : Nat, v = 2 * i + 1 := ⟨v / 2, by omega⟩
  subst hi
  have hi : i < 512 := by omega
  refine vc_go hG 60 (B := bX4_bridge) rfl ?_
  refine And.intro ha.k ?_
  refine c_way hG ha ht hi rfl ?_
  rcases ht.cases hi with ⟨c1, c2⟩ | ⟨c1, c2, c5, c3⟩ | ⟨c1, p, q, s, f, c2, c3, c4⟩
  · refine And.intro (fun b => by rw [c2] at b; omega) (fun b => h (-9) (Or.inl ⟨rfl, fun e he => he.1.1 c1⟩))
  · refine And.intro (fun b => ?_) (fun b => absurd c3 b)
    refine l_bridge hG ha hg ht hr hw ⟨by omega, by omega⟩ (fun r hm => h _ ?_) 10 0 1024 rfl (Or.inl ⟨rfl, fun e he => ?_⟩)
    · rcases hm with ⟨h1, h2⟩ | ⟨e, h1, h0, h2, h3⟩
      · rw [if_pos h1]
        exact Or.inl ⟨rfl, fun e he => h2 e he.2⟩
      · rw [if_neg (by omega)]
        exact Or.inr ⟨e, h1, ⟨⟨c1, c5⟩, h2⟩, fun e' he' hh => h3 e' he' hh.2⟩
    · obtain ⟨d, h1, -⟩ := he
      omega
  · refine And.intro (fun b => by rw [c3] at b; omega) (fun b => h (-9) (Or.inl ⟨rfl, fun e he => he.1.2 p q s f c2.1 c2.2.1⟩))
end Near
end
section
/-! ===== the class's Seen ===== -/
/-- what can still be: NEAR, and all that was seen is so -/
def UN (G : GT) (n : Nat) (sm sr : Nat → Nat) (v : Nat) : Prop := isNr G v ∧ ∀ k, k < n → v % sm k = sr k
theorem UN_odd {G : GT} {n : Nat} {sm sr : Nat → Nat} {v : Nat} (h : UN G n sm sr v) : v % 2 = 1 ∧ v ≤ 1023 := h.1.1
/-- how many leave r by m, below k -/
noncomputable def cR (P : Nat → Prop) (m k r : Nat) : Nat := cP (fun v => P v ∧ v % m = r) k
theorem mxD_upd {D D' : Nat → Nat} {r0 : Nat} (h1 : D r0 ≤ D' r0) (h2 : ∀ r, r ≠ r0 → D' r = D r) : ∀ j, r0 < j → mxD D' j = max (mxD D j) (D' r0)
  | 0, h => by omega
  | j + 1, h => by
    show max (mxD D' j) (D' j) = max (max (mxD D j) (D j)) (D' r0)
    by_cases e : r0 = j
    · subst e
      have : ∀ i, i ≤ r0 → mxD D' i = mxD D i := by
        intro i
        induction i with
        | zero => intro _; rfl
        | succ i ih =>
          intro hi
          show max (mxD D' i) (D' i) = max (mxD D i) (D i)
          rw [ih (by omega), h2 i (by omega)]
      rw [this r0 (Nat.le_refl _)]
      omega
    · rw [mxD_upd h1 h2 j (by omega), h2 j (by omega)]
      omega
theorem mxD_cong {D D' : Nat → Nat} : ∀ j, (∀ r, r < j → D r = D' r) → mxD D j = mxD D' j
  | 0, _ => rfl
  | j + 1, h => by
    show max (mxD D j) (D j) = max (mxD D' j) (D' j)
    rw [mxD_cong j (fun r hr => h r (by omega)), h j (by omega)]
theorem mxD_le {D : Nat → Nat} {c : Nat} : ∀ j, (∀ r, r < j → D r ≤ c) → mxD D j ≤ c
  | 0, _ => Nat.zero_le _
  | j + 1, h => by
    have := mxD_le (D := D) (c := c) j (fun r hr => h r (by omega))
    have := h j (by omega)
    show max (mxD D j) (D j) ≤ c
    omega
theorem mxD_more {D : Nat → Nat} {j : Nat} : ∀ i, (∀ r, j ≤ r → D r = 0) → mxD D (j + i) = mxD D j
  | 0, _ => rfl
  | i + 1, h => by
    show max (mxD D (j + i)) (D (j + i)) = _
    rw [mxD_more i h, h (j + i) (by omega)]
    omega
theorem cP_odd {P : Nat → Prop} (hP : ∀ v, P v → v % 2 = 1) : ∀ i, cP P (2 * i) ≤ i
  | 0 => Nat.le_refl _
  | i + 1 => by
    have h1 := cP_odd hP i
    have h2 : cP P (2 * i + 1) = cP P (2 * i) := cP_n (fun h => by have := hP _ h; omega)
    have h3 : cP P (2 * (i + 1)) ≤ cP P (2 * i + 1) + 1 := by
      show cP P (2 * i + 1 + 1) ≤ _
      by_cases q : P (2 * i + 1)
      · rw [cP_y q]; omega
      · rw [cP_n q]; omega
    omega
theorem cP_none {P : Nat → Prop} (h : ∀ v, ¬ P v) : ∀ k, cP P k = 0
  | 0 => rfl
  | k + 1 => by rw [cP_n (h k), cP_none h k]
/-- ASK, number by number -/
noncomputable def ak (P : Nat → Prop) : Nat → Int × Int
  | 0 => (-9, 9999)
  | j + 1 => if ((mxD (cR P (j + 2) 1024) (j + 2) : Nat) : Int) < (ak P j).2 then (((j + 2 : Nat) : Int), ((mxD (cR P (j + 2) 1024) (j + 2) : Nat) : Int)) else ak P j
section Seen
variable {Γ : GG} {L : Nat} {M : MM} {Q : QT} {a : Nat} {G : GT} {n : Nat} {sm sr : Nat → Nat}
theorem l_allows (hG : GOK Γ) (hh : SnR M n sm sr) {v : Nat} (hv : v ≤ 1023) (h1 : (∀ k, k < n → v % sm k = sr k) → Q (some (VI 1)) (W0 L) M) (h0 : (¬ ∀ k, k < n → v % sm k = sr k) → Q (some (VI 0)) (W0 L) M) : ∀ (j k : Nat), k + j = n → (∀ i, i < k → v % sm i = sr i) → wp Γ mX6_allows 12 [some (VR 149), some (VR a), some (VI v), some (VI k)] [] 0 0 (W0 L) M Q := by
  obtain ⟨s1, s2, s3⟩ := hh
  intro j
  induction j with
  | zero =>
    intro k hk hi
    refine vc_go hG 60 (B := bX6_allows) rfl ?_
    refine And.intro rfl (And.intro (fun b => And.intro (Or.inr rfl) (h1 (fun i hi2 => hi i (by omega)))) (fun b => by omega))
  | succ j ih =>
    intro k hk hi
    obtain ⟨t1, t2, t3, t4, t5⟩ := s3 k (by omega)
    refine vc_go hG 60 (B := bX6_allows) rfl ?_
    refine And.intro rfl (And.intro (fun b => by omega) (fun b => ?_))
    refine And.intro rfl (Exists.intro _ (And.intro rfl ?_))
    refine And.intro (Or.inl rfl) (Exists.intro k (And.intro rfl (And.intro (show k < 6 by omega) ?_)))
    rw [t1]
    refine And.intro (fun b => by omega) (fun b => ?_)
    refine And.intro ⟨by omega, by omega⟩ ?_
    refine And.intro rfl (Exists.intro _ (And.intro rfl ?_))
    refine And.intro (Or.inl rfl) (Exists.intro k (And.intro rfl (And.intro (show k < 6 by omega) ?_)))
    rw [t2]
    have em : (v : Int) % (sm k : Int) = ((v % sm k : Nat) : Int) := rfl
    rw [em]
    refine And.intro (fun c => ?_) (fun c => And.intro (Or.inl rfl) (h0 (fun hh => c (by rw [hh k (by omega)]))))
    have c : v % sm k = sr k := by omega
    refine And.intro (by omega) ?_
    refine wp_pre [some (VR 149), some (VR a), some (VI v), some (VI ((k + 1 : Nat) : Int))] _ ?_
    refine ih (k + 1) (by omega) (fun i hi2 => ?_)
    by_cases e : i = k
    · subst e; exact c
    · exact hi i (by omega)
theorem c_allows (hG : GOK Γ) (hh : SnR M n sm sr) (ha : NrL (W0 L) a) (ht : NrF M a G) {vI : Int} {v : Nat} (ev : vI = v) (hv : v ≤ 1023) (h1 : UN G n sm sr v → Q (some (VI 1)) (W0 L) M) (h0 : ¬ UN G n sm sr v → Q (some (VI 0)) (W0 L) M) : wp Γ mX6_allows 0 [some (VR 149), some (VR a), some (VI vI)] [] 0 0 (W0 L) M Q := by
  subst ev
  refine vc_go hG 60 (B := bX6_allows) rfl ?_
  refine And.intro ha.k ?_
  refine c_has hG ha ht (fun m em hm => ?_) (fun hm => ?_)
  · have : m = v := by omega
    subst this
    refine And.intro (fun b => ?_) (fun b => absurd b (by decide))
    exact l_allows hG hh hv (fun h9 => h1 ⟨hm, h9⟩) (fun h9 => h0 (fun hu => h9 hu.2)) n 0 (by omega) (fun i hi => by omega)
  · refine And.intro (fun b => absurd rfl b) (fun b => And.intro (Or.inl rfl) (h0 (fun hu => hm v rfl hu.1)))
theorem l_snMany (hG : GOK Γ) (hh : SnR M n sm sr) (ha : NrL (W0 L) a) (ht : NrF M a G) (h : Q (some (VI (cP (UN G n sm sr) 1024 : Nat))) (W0 L) M) : ∀ (j i : Nat), i + j = 512 → wp Γ mX6_howMany 4 [some (VR 149), some (VR a), some (VI (cP (UN G n sm sr) (2 * i + 1) : Nat)), some (VI ((2 * i + 1 : Nat) : Int))] [] 0 0 (W0 L) M Q := by
  have ev : ∀ i : Nat, ¬ UN G n sm sr (2 * i) := fun i hh => by have := UN_odd hh; omega
  intro j
  induction j with
  | zero =>
    intro i hi
    have e : i = 512 := by omega
    subst e
    refine vc_go hG 60 (B := bX6_howMany) rfl ?_
    refine And.intro (fun b => ?_) (fun b => by omega)
    have := cP_n (P := UN G n sm sr) (k := 1024) (ev 512)
    rw [← this] at h
    exact h
  | succ j ih =>
    intro i hi
    have hc := cP_le (UN G n sm sr) (2 * i + 1)
    have n1 := ih (i + 1) (by omega)
    have n2 : cP (UN G n sm sr) (2 * (i + 1) + 1) = cP (UN G n sm sr) (2 * i + 1 + 1) := cP_n (ev (i + 1))
    rw [n2] at n1
    have e3 : ((2 * i + 1 : Nat) : Int) + 2 = ((2 * (i + 1) + 1 : Nat) : Int) := by omega
    refine vc_go hG 60 (B := bX6_howMany) rfl ?_
    refine And.intro (fun b => by omega) (fun b => ?_)
    refine And.intro rfl ?_
    refine c_allows hG hh ha ht rfl (by omega) (fun hu => ?_) (fun hu => ?_)
    · refine And.intro (fun d => absurd d (by decide)) (fun d => ?_)
      refine And.intro (by omega) (And.intro (by omega) ?_)
      rw [cP_y hu] at n1
      rw [← e3] at n1
      exact n1
    · refine And.intro (fun d => ?_) (fun d => absurd rfl d)
      refine And.intro (by omega) ?_
      rw [cP_n hu] at n1
      rw [← e3] at n1
      exact n1
theorem c_snMany (hG : GOK Γ) (hh : SnR M n sm sr) (ha : NrL (W0 L) a) (ht : NrF M a G) (h : Q (some (VI (cP (UN G n sm sr) 1024 : Nat))) (W0 L) M) : wp Γ mX6_howMany 0 [some (VR 149), some (VR a)] [] 0 0 (W0 L) M Q := by
  refine vc_go hG 60 (B := bX6_howMany) rfl ?_
  have := l_snMany hG hh ha ht h 512 0 rfl
  have e : cP (UN G n sm sr) (2 * 0 + 1) = 0 := cP_n (fun hh => by have := UN_odd hh; omega)
  rw [e] at this
  exact this
theorem l_snLow (hG : GOK Γ) (hh : SnR M n sm sr) (ha : NrL (W0 L) a) (ht : NrF M a G) (h : ∀ r, isLst (UN G n sm sr) r → Q (some (VI r)) (W0 L) M) : ∀ (j i : Nat), i + j = 512 → (∀ e, e < 2 * i + 1 → ¬ UN G n sm sr e) → wp Γ mX6_lowest 2 [some (VR 149), some (VR a), some (VI ((2 * i + 1 : Nat) : Int))] [] 0 0 (W0 L) M Q := by
  intro j
  induction j with
  | zero =>
    intro i hi hb
    refine vc_go hG 60 (B := bX6_lowest) rfl ?_
    refine And.intro (fun b => ?_) (fun b => by omega)
    refine h (-9) (Or.inl ⟨rfl, fun e he => ?_⟩)
    have := UN_odd he
    exact hb e (by omega) he
  | succ j ih =>
    intro i hi hb
    have e3 : ((2 * i + 1 : Nat) : Int) + 2 = ((2 * (i + 1) + 1 : Nat) : Int) := by omega
    refine vc_go hG 60 (B := bX6_lowest) rfl ?_
    refine And.intro (fun b => by omega) (fun b => ?_)
    refine And.intro rfl ?_
    refine c_allows hG hh ha ht rfl (by omega) (fun hu => ?_) (fun hu => ?_)
    · refine And.intro (fun d => absurd d (by decide)) (fun d => ?_)
      exact h _ (Or.inr ⟨2 * i + 1, rfl, hu, hb⟩)
    · refine And.intro (fun d => ?_) (fun d => absurd rfl d)
      refine And.intro (by omega) ?_
      rw [e3]
      refine ih (i + 1) (by omega) (fun e he => ?_)
      by_cases q1 : e = 2 * i + 1
      · subst q1; exact hu
      · by_cases q2 : e = 2 * i + 2
        · subst q2; intro hh; have := UN_odd hh; omega
        · exact hb e (by omega)
theorem c_snLow (hG : GOK Γ) (hh : SnR M n sm sr) (ha : NrL (W0 L) a) (ht : NrF M a G) (h : ∀ r, isLst (UN G n sm sr) r → Q (some (VI r)) (W0 L) M) : wp Γ mX6_lowest 0 [some (VR 149), some (VR a)] [] 0 0 (W0 L) M Q := by
  refine vc_go hG 60 (B := bX6_lowest) rfl ?_
  refine l_snLow hG hh ha ht h 512 0 rfl (fun e he hh => ?_)
  have := UN_odd hh
  omega
end Seen
end
section
/-! ===== the class's Seen: ASK ===== -/
section Seen
variable {Γ : GG} {L : Nat} {M : MM} {Q : QT} {a : Nat} {G : GT} {n : Nat} {sm sr : Nat → Nat}
theorem l_left2 (hG : GOK Γ) (hh : SnR M n sm sr) (ha : NrL (W0 L) a) (ha2 : 152 < a + 1) (ht : NrF M a G) {m : Nat} (hm : 2 ≤ m ∧ m ≤ 9) (h : ∀ M', (∀ b, b ≠ 152 → M' b = M b) → Q (some (VI (mxD (cR (UN G n sm sr) m 1024) m : Nat))) (W0 L) M') : ∀ (j i : Nat) (M1 : MM), i + j = 512 → (∀ b, b ≠ 152 → M1 b = M b) → (∀ r, r < 9 → M1 152 r = (cR (UN G n sm sr) m (2 * i + 1) r : Nat)) → wp Γ mX6_greatestLeft 26 [some (VR 149), some (VR a), some (VI m), some (VI (mxD (cR (UN G n sm sr) m (2 * i + 1)) 9 : Nat)), some (VI ((2 * i + 1 : Nat) : Int))] [] 0 0 (W0 L) M1 Q := by
  have ev : ∀ i r : Nat, ¬ (UN G n sm sr (2 * i) ∧ 2 * i % m = r) := fun i r hh => by have := UN_odd hh.1; omega
  intro j
  induction j with
  | zero =>
    intro i M1 hi hf hr
    have e : i = 512 := by omega
    subst e
    refine vc_go hG 60 (B := bX6_greatestLeft) rfl ?_
    refine And.intro (fun b => ?_) (fun b => by omega)
    have e1 : mxD (cR (UN G n sm sr) m (2 * 512 + 1)) 9 = mxD (cR (UN G n sm sr) m 1024) m := by
      have c1 : ∀ r, cR (UN G n sm sr) m (2 * 512 + 1) r = cR (UN G n sm sr) m 1024 r := fun r => cP_n (ev 512 r)
      rw [mxD_cong 9 (fun r _ => c1 r)]
      have := mxD_more (D := cR (UN G n sm sr) m 1024) (j := m) (9 - m) (fun r hr => cP_none (fun v hv => by have := hv.2; have := Nat.mod_lt v (show 0 < m by omega); omega) 1024)
      rw [show m + (9 - m) = 9 by omega] at this
      exact this
    have h9 := h M1 hf
    rw [← e1] at h9
    exact h9
  | succ j ih =>
    intro i M1 hi hf hr
    have hh1 : SnR M1 n sm sr := hh.keep (fun b b1 b2 => hf b (by omega))
    have ht1 : NrF M1 a G := NrT.keep ht (hf _ (by omega)) (hf _ (by omega))
    have e3 : ((2 * i + 1 : Nat) : Int) + 2 = ((2 * (i + 1) + 1 : Nat) : Int) := by omega
    have n2 : ∀ r, cR (UN G n sm sr) m (2 * (i + 1) + 1) r = cR (UN G n sm sr) m (2 * i + 1 + 1) r := fun r => cP_n (ev (i + 1) r)
    have hle : ∀ r, cR (UN G n sm sr) m (2 * i + 1) r ≤ 2 * i + 1 := fun r => cP_le _ _
    have hr0 : (2 * i + 1) % m < 9 := by have := Nat.mod_lt (2 * i + 1) (show 0 < m by omega); omega
    refine vc_goS hG 60 [82] (B := bX6_greatestLeft) rfl ?_
    refine And.intro (fun b => by omega) (fun b => ?_)
    refine And.intro (fun b => by omega) (fun b => ?_)
    refine And.intro (fun b => by omega) (fun b => ?_)
    refine And.intro rfl ?_
    refine c_allows hG hh1 ha ht1 rfl (by omega) (fun hu => ?_) (fun hu => ?_)
    · refine And.intro (fun d => absurd d (by decide)) (fun d => ?_)
      refine And.intro rfl (Exists.intro _ (And.intro rfl ?_))
      refine And.intro ⟨by omega, by omega⟩ ?_
      have em : ((2 * i + 1 : Nat) : Int) % (m : Int) = (((2 * i + 1) % m : Nat) : Int) := rfl
      refine And.intro (Or.inl rfl) (Exists.intro ((2 * i + 1) % m) (And.intro em (And.intro (show (2 * i + 1) % m < 9 from hr0) ?_)))
      refine And.intro (by rw [hr _ hr0]; have := hle ((2 * i + 1) % m); omega) ?_
      refine And.intro rfl (Exists.intro ((2 * i + 1) % m) (And.intro em (And.intro (show (2 * i + 1) % m < 9 from hr0) ?_)))
      refine And.intro rfl (Exists.intro _ (And.intro rfl ?_))
      refine And.intro ⟨by omega, by omega⟩ ?_
      refine And.intro (Or.inl rfl) (Exists.intro ((2 * i + 1) % m) (And.intro em (And.intro (show (2 * i + 1) % m < 9 from hr0) ?_)))
      rw [upM_eq, hr _ hr0]
      refine vc_go hG 60 (B := bX6_greatestLeft) rfl ?_
      refine And.intro (by omega) ?_
      have cy : cR (UN G n sm sr) m (2 * i + 1 + 1) ((2 * i + 1) % m) = cR (UN G n sm sr) m (2 * i + 1) ((2 * i + 1) % m) + 1 := cP_y ⟨hu, rfl⟩
      have cn : ∀ r, r ≠ (2 * i + 1) % m → cR (UN G n sm sr) m (2 * i + 1 + 1) r = cR (UN G n sm sr) m (2 * i + 1) r := fun r hne => cP_n (fun z => hne z.2.symm)
      have nx := ih (i + 1) (upM M1 152 ((2 * i + 1) % m) ((cR (UN G n sm sr) m (2 * i + 1) ((2 * i + 1) % m) : Nat) + 1)) (by omega) (fun b hb => by rw [upM_ne hb, hf b hb]) (fun r hr9 => by
        rw [n2]
        by_cases q : r = (2 * i + 1) % m
        · subst q; rw [upM_eq, cy]; omega
        · rw [upM_k q, cn r q]; exact hr r hr9)
      rw [mxD_cong 9 (fun r _ => n2 r), mxD_upd (r0 := (2 * i + 1) % m) (D := cR (UN G n sm sr) m (2 * i + 1)) (by omega) cn 9 hr0, cy] at nx
      rw [show ((max (mxD (cR (UN G n sm sr) m (2 * i + 1)) 9) (cR (UN G n sm sr) m (2 * i + 1) ((2 * i + 1) % m) + 1) : Nat) : Int) = max ((mxD (cR (UN G n sm sr) m (2 * i + 1)) 9 : Nat) : Int) (((cR (UN G n sm sr) m (2 * i + 1) ((2 * i + 1) % m) : Nat) : Int) + 1) by omega, ← e3] at nx
      exact nx
    · refine And.intro (fun d => ?_) (fun d => absurd rfl d)
      refine vc_go hG 60 (B := bX6_greatestLeft) rfl ?_
      refine And.intro (by omega) ?_
      have cn : ∀ r, cR (UN G n sm sr) m (2 * i + 1 + 1) r = cR (UN G n sm sr) m (2 * i + 1) r := fun r => cP_n (fun z => hu z.1)
      have nx := ih (i + 1) M1 (by omega) hf (fun r hr9 => by rw [n2, cn]; exact hr r hr9)
      rw [mxD_cong 9 (fun r _ => (n2 r).trans (cn r)), ← e3] at nx
      exact nx
theorem l_left1 (hG : GOK Γ) (hh : SnR M n sm sr) (ha : NrL (W0 L) a) (ha2 : 152 < a + 1) (ht : NrF M a G) {m : Nat} (hm : 2 ≤ m ∧ m ≤ 9) (h : ∀ M', (∀ b, b ≠ 152 → M' b = M b) → Q (some (VI (mxD (cR (UN G n sm sr) m 1024) m : Nat))) (W0 L) M') : ∀ (j i : Nat) (M1 : MM), i + j = 9 → (∀ b, b ≠ 152 → M1 b = M b) → (∀ r, r < i → M1 152 r = 0) → wp Γ mX6_greatestLeft 2 [some (VR 149), some (VR a), some (VI m), some (VI i)] [] 0 0 (W0 L) M1 Q := by
  intro j
  induction j with
  | zero =>
    intro i M1 hi hf hr
    have e : i = 9 := by omega
    subst e
    refine vc_go hG 60 (B := bX6_greatestLeft) rfl ?_
    refine And.intro (fun b => ?_) (fun b => by omega)
    have z : ∀ r, cR (UN G n sm sr) m (2 * 0 + 1) r = 0 := fun r => cP_n (fun hh => by have := UN_odd hh.1; omega)
    have nx := l_left2 hG hh ha ha2 ht hm h 512 0 M1 rfl hf (fun r h9 => by rw [z]; exact hr r h9)
    have z2 : mxD (cR (UN G n sm sr) m (2 * 0 + 1)) 9 = 0 := Nat.le_zero.mp (mxD_le 9 (fun r _ => by rw [z]; exact Nat.le_refl _))
    rw [z2] at nx
    exact nx
  | succ j ih =>
    intro i M1 hi hf hr
    refine vc_go hG 60 (B := bX6_greatestLeft) rfl ?_
    refine And.intro (fun b => by omega) (fun b => ?_)
    refine And.intro rfl (Exists.intro _ (And.intro rfl ?_))
    refine And.intro rfl (Exists.intro i (And.intro rfl (And.intro (show i < 9 by omega) ?_)))
    refine And.intro (by omega) ?_
    refine ih (i + 1) _ (by omega) (fun b hb => by rw [upM_ne hb, hf b hb]) (fun r h9 => ?_)
    by_cases q : r = i
    · subst q; exact upM_eq
    · rw [upM_k q]; exact hr r (by omega)
theorem c_left (hG : GOK Γ) (hh : SnR M n sm sr) (ha : NrL (W0 L) a) (ha2 : 152 < a + 1) (ht : NrF M a G) {mI : Int} {m : Nat} (em : mI = m) (hm : 2 ≤ m ∧ m ≤ 9) (h : ∀ M', (∀ b, b ≠ 152 → M' b = M b) → Q (some (VI (mxD (cR (UN G n sm sr) m 1024) m : Nat))) (W0 L) M') : wp Γ mX6_greatestLeft 0 [some (VR 149), some (VR a), some (VI mI)] [] 0 0 (W0 L) M Q := by
  subst em
  refine vc_go hG 60 (B := bX6_greatestLeft) rfl ?_
  exact l_left1 hG hh ha ha2 ht hm h 9 0 M rfl (fun b _ => rfl) (fun r hr => by omega)
theorem l_ask (hG : GOK Γ) (hh : SnR M n sm sr) (ha : NrL (W0 L) a) (ha2 : 152 < a + 1) (ht : NrF M a G) (h : ∀ M', (∀ b, b ≠ 152 → M' b = M b) → Q (some (VI (ak (UN G n sm sr) 8).1)) (W0 L) M') : ∀ (j i : Nat) (x : Int) (M1 : MM), i + j = 8 → (∀ b, b ≠ 152 → M1 b = M b) → ((ak (UN G n sm sr) i).2 = x ∨ (i = 0 ∧ x = 513)) → wp Γ mX6_ask 22 [some (VR 149), some (VR a), some (VI (ak (UN G n sm sr) i).1), some (VI x), some (VI ((i + 2 : Nat) : Int))] [] 0 0 (W0 L) M1 Q := by
  intro j
  induction j with
  | zero =>
    intro i x M1 hi hf hx
    have e : i = 8 := by omega
    subst e
    refine vc_go hG 60 (B := bX6_ask) rfl ?_
    exact And.intro (fun b => h M1 hf) (fun b => by omega)
  | succ j ih =>
    intro i x M1 hi hf hx
    have hh1 : SnR M1 n sm sr := hh.keep (fun b b1 b2 => hf b (by omega))
    have ht1 : NrF M1 a G := NrT.keep ht (hf _ (by omega)) (hf _ (by omega))
    have hle : mxD (cR (UN G n sm sr) (i + 2) 1024) (i + 2) ≤ 512 := mxD_le _ (fun r _ => cP_odd (P := fun v => UN G n sm sr v ∧ v % (i + 2) = r) (fun v hv => (UN_odd hv.1).1) 512)
    have ea : ak (UN G n sm sr) (i + 1) = if ((mxD (cR (UN G n sm sr) (i + 2) 1024) (i + 2) : Nat) : Int) < (ak (UN G n sm sr) i).2 then (((i + 2 : Nat) : Int), ((mxD (cR (UN G n sm sr) (i + 2) 1024) (i + 2) : Nat) : Int)) else ak (UN G n sm sr) i := rfl
    have lt_iff : ((mxD (cR (UN G n sm sr) (i + 2) 1024) (i + 2) : Nat) : Int) < x ↔ ((mxD (cR (UN G n sm sr) (i + 2) 1024) (i + 2) : Nat) : Int) < (ak (UN G n sm sr) i).2 := by
      rcases hx with hx | ⟨h1, h2⟩
      · rw [hx]
      · subst h1
        rw [h2]
        show _ ↔ _ < (9999 : Int)
        omega
    generalize hgg : mxD (cR (UN G n sm sr) (i + 2) 1024) (i + 2) = gg at hle ea lt_iff
    refine vc_go hG 60 (B := bX6_ask) rfl ?_
    refine And.intro (fun b => by omega) (fun b => ?_)
    refine And.intro rfl ?_
    refine c_left hG hh1 ha ha2 ht1 rfl ⟨by omega, by omega⟩ (fun M' hf' => ?_)
    rw [hgg]
    have hf2 : ∀ b, b ≠ 152 → M' b = M b := fun b hb => (hf' b hb).trans (hf b hb)
    refine And.intro (fun c => ?_) (fun c => ?_)
    · rw [if_neg (fun z => by have := lt_iff.mpr z; omega)] at ea
      refine And.intro (by omega) ?_
      refine wp_pre [some (VR 149), some (VR a), some (VI (ak (UN G n sm sr) i).1), some (VI x), some (VI ((i + 1 + 2 : Nat) : Int))] _ ?_
      have nx := ih (i + 1) x M' (by omega) hf2 (by
        rcases hx with hx | ⟨h1, h2⟩
        · rw [ea]; exact Or.inl hx
        · omega)
      rw [ea] at nx
      exact nx
    · rw [if_pos (lt_iff.mp c)] at ea
      refine And.intro (by omega) ?_
      refine wp_pre [some (VR 149), some (VR a), some (VI ((i + 2 : Nat) : Int)), some (VI (gg : Int)), some (VI ((i + 1 + 2 : Nat) : Int))] _ ?_
      have nx := ih (i + 1) gg M' (by omega) hf2 (by rw [ea]; exact Or.inl rfl)
      rw [ea] at nx
      exact nx
theorem c_ask (hG : GOK Γ) (hh : SnR M n sm sr) (ha : NrL (W0 L) a) (ha2 : 152 < a + 1) (ht : NrF M a G) (h0 : cP (UN G n sm sr) 1024 ≤ 1 → Q (some (VI (-9))) (W0 L) M) (h : 1 < cP (UN G n sm sr) 1024 → ∀ M', (∀ b, b ≠ 152 → M' b = M b) → Q (some (VI (ak (UN G n sm sr) 8).1)) (W0 L) M') : wp Γ mX6_ask 0 [some (VR 149), some (VR a)] [] 0 0 (W0 L) M Q := by
  refine vc_go hG 60 (B := bX6_ask) rfl ?_
  refine And.intro rfl ?_
  refine c_snMany hG hh ha ht ?_
  refine And.intro (fun b => ?_) (fun b => h0 (by omega))
  exact l_ask hG hh ha ha2 ht (h (by omega)) 8 0 513 M rfl (fun b _ => rfl) (Or.inr ⟨rfl, rfl⟩)
end Seen
end
section
/-! ===== the class's Plan ===== -/
theorem W0_n153 (L : Nat) : NrL (W0 L) 153 := ⟨rfl, rfl, rfl, rfl, rfl, rfl, rfl⟩
theorem W0_n167 (L : Nat) : NrL (W0 L) 167 := ⟨rfl, rfl, rfl, rfl, rfl, rfl, rfl⟩
theorem W0_n181 (L : Nat) : NrL (W0 L) 181 := ⟨rfl, rfl, rfl, rfl, rfl, rfl, rfl⟩
theorem W0_n184 (L : Nat) : NrL (W0 L) 184 := ⟨rfl, rfl, rfl, rfl, rfl, rfl, rfl⟩
/-- odd parts of the first k wanted that are NEAR; that have TWO -/
def nrP (G : GT) (b : Nat) (e : Nat) : Prop := ∃ k, k < b ∧ odp (qC G k) = e ∧ isNr G e
def hasT (G : GT) (e : Nat) : Prop := ∃ t : Nat, isTwo G e t
def twP (G : GT) (b : Nat) (e : Nat) : Prop := ∃ k, k < b ∧ odp (qC G k) = e ∧ hasT G e
def fst1 (P : Nat → Prop) (e : Nat) : Prop := P e ∧ ∀ e', e' < e → ¬ P e'
theorem fst1_u {P : Nat → Prop} {e e' : Nat} (h : fst1 P e) (h' : fst1 P e') : e = e' := by
  rcases Nat.lt_trichotomy e e' with q | q | q
  · exact absurd h.1 (h'.2 e q)
  · exact q
  · exact absurd h'.1 (h.2 e' q)
/-- what is made next -/
def isCh (G : GT) (x : Int) : Prop := (∃ e : Nat, fst1 (nrP G (qm G)) e ∧ x = e) ∨ ((∀ e, ¬ nrP G (qm G) e) ∧ ((∃ e, fst1 (twP G (qm G)) e ∧ isTwo G e x) ∨ ((∀ e, ¬ twP G (qm G) e) ∧ x = -9)))
theorem isTwo_u {G : GT} {v : Nat} {r r' : Int} (h : isTwo G v r) (h' : isTwo G v r') : r = r' := isLst_u h h'
theorem isCh_u {G : GT} {x y : Int} (h : isCh G x) (h' : isCh G y) : x = y := by
  rcases h with ⟨e, h1, h2⟩ | ⟨h1, h2⟩ <;> rcases h' with ⟨e', k1, k2⟩ | ⟨k1, k2⟩
  · have := fst1_u h1 k1; omega
  · exact absurd h1.1 (k1 e)
  · exact absurd k1.1 (h1 e')
  · rcases h2 with ⟨e, a1, a2⟩ | ⟨a1, a2⟩ <;> rcases k2 with ⟨e', b1, b2⟩ | ⟨b1, b2⟩
    · have := fst1_u a1 b1
      subst this
      exact isTwo_u a2 b2
    · exact absurd a1.1 (b1 e)
    · exact absurd b1.1 (a1 e')
    · omega
theorem hasT_iff {G : GT} {e : Nat} {r : Int} (h : isTwo G e r) : hasT G e ↔ r ≠ -9 := by
  constructor
  · rintro ⟨t, ht⟩
    have := isTwo_u h ht
    omega
  · intro hr
    rcases id h with ⟨h1, -⟩ | ⟨t, h1, -⟩
    · exact absurd h1 hr
    · exact ⟨t, by rw [← h1]; exact h⟩
theorem isTwo_us {G : GT} {v t : Nat} (h : isTwo G v t) : isUs G t := by
  rcases h with ⟨h1, -⟩ | ⟨e, h1, h2, -⟩
  · omega
  · have : t = e := by omega
    subst this
    obtain ⟨-, d, -, -, h3⟩ := h2
    exact cnK_us h3
theorem isUs_nr {G : GT} {e : Nat} (h : isUs G e) : isNr G e := by
  obtain ⟨h1, h2, p, q, s, f, h3, -⟩ := h
  exact ⟨h1, h2, p, q, s, f, h3⟩
theorem isCh_nr {G : GT} {x : Nat} (h : isCh G x) : isNr G x := by
  rcases h with ⟨e, h1, h2⟩ | ⟨-, ⟨e, -, h2⟩ | ⟨-, h2⟩⟩
  · obtain ⟨⟨k, -, -, h3⟩, -⟩ := h1
    have : x = e := by omega
    rw [this]; exact h3
  · exact isUs_nr (isTwo_us h2)
  · omega
theorem wC {G : GT} (hw : WFG G) {k : Nat} (hk : k < qm G) : odp (qC G k) % 2 = 1 ∧ odp (qC G k) ≤ 1023 := by
  have h1 := hw.2.2.2.2.2.2.1 k hk
  exact ⟨odp_odd (by omega) (by omega), Nat.le_trans (odp_le _) h1.2⟩
section Plan
variable {Γ : GG} {L : Nat} {M : MM} {Q : QT} {G : GT}
theorem l_choice (hG : GOK Γ) (ht : NrF M 167 G) (hr : GrR M 157 G) (hw : WFG G) (h : ∀ x, isCh G x → Q (some (VI x)) (W0 L) M) : ∀ (j k : Nat) (ln lf : Int), k + j = qm G → isMin (nrP G k) ln → (0 ≤ lf ∧ lf ≤ 1024) → ((∀ e, ¬ nrP G k e) → isMin (twP G k) lf) → wp Γ mX5_choice 10 [some (VR 156), some (VI ln), some (VI lf), some (VI k)] [] 0 0 (W0 L) M Q := by
  have e3 := hr.2.1
  have hm6 := hw.2.1
  intro j
  induction j with
  | zero =>
    intro k ln lf hk h1 hb h2
    have e : k = qm G := by omega
    subst e
    refine vc_go hG 60 (B := bX5_choice) rfl ?_
    refine And.intro rfl (Exists.intro _ (And.intro rfl (And.intro rfl ?_)))
    refine And.intro (fun b => ?_) (fun b => by omega)
    refine And.intro (fun c => ?_) (fun c => ?_)
    · have no : ∀ e, ¬ nrP G (qm G) e := by
        rcases h1 with ⟨-, h1⟩ | ⟨e, g1, g0, -⟩
        · exact h1
        · omega
      have h2 := h2 no
      refine And.intro (fun d => ?_) (fun d => ?_)
      · rcases h2 with ⟨-, h2⟩ | ⟨e, g1, g0, -⟩
        · exact h (-9) (Or.inr ⟨no, Or.inr ⟨h2, rfl⟩⟩)
        · omega
      · rcases h2 with ⟨g1, -⟩ | ⟨e, g1, g0, g2, g3⟩
        · omega
        · refine And.intro rfl (Exists.intro _ (And.intro rfl (And.intro rfl (Exists.intro _ (And.intro rfl ?_)))))
          refine And.intro rfl ?_
          obtain ⟨k9, k1, k2, k3⟩ := id g2
          have wc := wC hw k1
          rw [k2] at wc
          refine c_bridge hG (W0_n167 L) (W0_g157 L) ht hr hw (v := e) (by omega) wc (fun r hr9 => ?_)
          exact h r (Or.inr ⟨no, Or.inl ⟨e, ⟨g2, g3⟩, hr9⟩⟩)
    · rcases h1 with ⟨g1, -⟩ | ⟨e, g1, g0, g2, g3⟩
      · omega
      · exact h _ (Or.inl ⟨e, ⟨g2, g3⟩, g1⟩)
  | succ j ih =>
    intro k ln lf hk h1 hb h2
    have hk9 : k < qm G := by omega
    have wc := wC hw hk9
    have w1 := hw.2.2.2.2.2.2.1 k hk9
    have ec := hr.2.2.2.2.2.2 k hk9
    have nrS : ∀ e, (nrP G k e ∨ (e = odp (qC G k) ∧ isNr G e)) ↔ nrP G (k + 1) e := fun e => by
      unfold nrP
      constructor
      · rintro (⟨i, a1, a2, a3⟩ | ⟨a1, a2⟩)
        · exact ⟨i, by omega, a2, a3⟩
        · exact ⟨k, by omega, a1.symm, a2⟩
      · rintro ⟨i, a1, a2, a3⟩
        by_cases q : i = k
        · subst q; exact Or.inr ⟨a2.symm, a3⟩
        · exact Or.inl ⟨i, by omega, a2, a3⟩
    have twS : ∀ e, (twP G k e ∨ (e = odp (qC G k) ∧ hasT G e)) ↔ twP G (k + 1) e := fun e => by
      unfold twP
      constructor
      · rintro (⟨i, a1, a2, a3⟩ | ⟨a1, a2⟩)
        · exact ⟨i, by omega, a2, a3⟩
        · exact ⟨k, by omega, a1.symm, a2⟩
      · rintro ⟨i, a1, a2, a3⟩
        by_cases q : i = k
        · subst q; exact Or.inr ⟨a2.symm, a3⟩
        · exact Or.inl ⟨i, by omega, a2, a3⟩
    have next : ∀ ln' lf', isMin (nrP G (k + 1)) ln' → (0 ≤ lf' ∧ lf' ≤ 1024) → ((∀ e, ¬ nrP G (k + 1) e) → isMin (twP G (k + 1)) lf') → wp Γ mX5_choice 84 [some (VR 156), some (VI ln'), some (VI lf'), some (VI k), some (VI ((odp (qC G k) : Nat) : Int))] [] 0 0 (W0 L) M Q := by
      intro ln' lf' n1 n2 n3
      refine vc_go hG 60 (B := bX5_choice) rfl ?_
      refine And.intro (by omega) ?_
      refine wp_pre [some (VR 156), some (VI ln'), some (VI lf'), some (VI ((k + 1 : Nat) : Int))] _ ?_
      exact ih (k + 1) ln' lf' (by omega) n1 n2 n3
    refine vc_goS hG 60 [84] (B := bX5_choice) rfl ?_
    refine And.intro rfl (Exists.intro _ (And.intro rfl (And.intro rfl ?_)))
    refine And.intro (fun b => by omega) (fun b => ?_)
    refine And.intro rfl (Exists.intro _ (And.intro rfl (And.intro rfl (Exists.intro _ (And.intro rfl ?_)))))
    refine And.intro (Or.inl rfl) (Exists.intro k (And.intro rfl (And.intro (show k < 6 by omega) ?_)))
    refine c_oddPart hG ec (by omega) ?_
    refine And.intro rfl (Exists.intro _ (And.intro rfl ?_))
    refine And.intro rfl ?_
    refine c_has hG (W0_n167 L) ht (fun n en hn => ?_) (fun hn => ?_)
    · have : n = odp (qC G k) := by omega
      subst this
      refine And.intro (fun c => absurd c (by decide)) (fun c => ?_)
      refine next _ _ (isMin_c (isMin_or h1 (t := ((odp (qC G k) : Nat) : Int)) (T := fun e => e = odp (qC G k) ∧ isNr G e) (Or.inr ⟨odp (qC G k), rfl, wc.2, ⟨rfl, hn⟩, fun e' he' hh => by have := hh.1; omega⟩)) nrS) hb (fun no => absurd ((nrS _).mp (Or.inr ⟨rfl, hn⟩)) (no _))
    · have hnn : ¬ isNr G (odp (qC G k)) := hn _ rfl
      have h1' : isMin (nrP G (k + 1)) ln := isMin_c h1 (fun e => ⟨fun z => (nrS e).mp (Or.inl z), fun z => ((nrS e).mpr z).elim id (fun z => by obtain ⟨rfl, z⟩ := z; exact absurd z hnn)⟩)
      have no' : (∀ e, ¬ nrP G (k + 1) e) → ∀ e, ¬ nrP G k e := fun no e z => no e ((nrS e).mp (Or.inl z))
      refine And.intro (fun c => ?_) (fun c => absurd rfl c)
      refine And.intro (fun d => ?_) (fun d => ?_)
      · refine next _ _ h1' hb (fun no => ?_)
        have h3 := h2 (no' no)
        rcases h3 with ⟨g1, -⟩ | ⟨e, g1, g0, g2, g3⟩
        · omega
        · refine Or.inr ⟨e, g1, g0, (twS e).mp (Or.inl g2), fun e' he' z => ?_⟩
          rcases (twS e').mpr z with z | ⟨z1, z2⟩
          · exact g3 e' he' z
          · omega
      · refine And.intro rfl (Exists.intro _ (And.intro rfl (And.intro rfl (Exists.intro _ (And.intro rfl ?_)))))
        refine And.intro rfl ?_
        refine c_bridge hG (W0_n167 L) (W0_g157 L) ht hr hw rfl wc (fun r hr9 => ?_)
        refine And.intro (fun x => ?_) (fun x => ?_)
        · refine next _ _ h1' hb (fun no => isMin_c (h2 (no' no)) (fun e => ⟨fun z => (twS e).mp (Or.inl z), fun z => ((twS e).mpr z).elim id (fun z => ?_)⟩))
          obtain ⟨rfl, z⟩ := z
          exact absurd x ((hasT_iff hr9).mp z)
        · refine next _ _ h1' ⟨by omega, by omega⟩ (fun no => ?_)
          have h3 := h2 (no' no)
          refine Or.inr ⟨odp (qC G k), rfl, wc.2, (twS _).mp (Or.inr ⟨rfl, (hasT_iff hr9).mpr x⟩), fun e' he' z => ?_⟩
          rcases (twS e').mpr z with z | ⟨z1, z2⟩
          · rcases h3 with ⟨-, g1⟩ | ⟨e, g1, g0, g2, g3⟩
            · exact g1 e' z
            · exact g3 e' (by omega) z
          · omega
theorem c_choice (hG : GOK Γ) (ht : NrF M 167 G) (hr : GrR M 157 G) (hw : WFG G) (h : ∀ x, isCh G x → Q (some (VI x)) (W0 L) M) : wp Γ mX5_choice 0 [some (VR 156)] [] 0 0 (W0 L) M Q := by
  refine vc_go hG 60 (B := bX5_choice) rfl ?_
  refine l_choice hG ht hr hw h (qm G) 0 1024 1024 (by omega) (Or.inl ⟨rfl, ?_⟩) (by decide) (fun _ => Or.inl ⟨rfl, ?_⟩)
  · rintro e ⟨k, h1, -⟩; omega
  · rintro e ⟨k, h1, -⟩; omega
theorem c_wayN (hG : GOK Γ) {w : Wd} {a : Nat} {v : Int} (hv : ¬ isOddN v) (h : Q (some (VI (-1))) w M) : wp Γ mX4_way 0 [some (VR a), some (VI v)] [] 0 0 w M Q := by
  refine vc_go hG 60 (B := bX4_way) rfl ?_
  refine c_isOddNumber hG (fun ho => absurd ho hv) (fun ho => ?_)
  exact And.intro (fun b => h) (fun b => absurd rfl b)
end Plan
end
section
/-! ===== the class's Plan: made ===== -/
theorem addG_V {G : GT} {p s q f k : Nat} (hk : k ≤ qn G) : qV (addG G p s q f) k = qV G k := upN_ne (by omega)
theorem addG_D {G : GT} {p s q f k : Nat} (hk : k ≤ qn G) : qD (addG G p s q f) k = qD G k := upN_ne (by omega)
theorem NrF.add {M : MM} {a : Nat} {G : GT} (h : NrF M a G) (p s q f : Nat) : NrT M a (addG G p s q f) (ThG (addG G p s q f) (qn G + 1)) (XG (addG G p s q f) (qn G + 1)) := by
  have hb : ∀ p' q' s' f', p' ≤ q' → q' < qn G + 1 → mkV G p' q' s' f' = mkV (addG G p s q f) p' q' s' f' ∧ dpt G p' q' = dpt (addG G p s q f) p' q' := by
    intro p' q' s' f' h1 h2
    unfold mkV dpt
    rw [addG_V (by omega), addG_V (by omega), addG_D (by omega), addG_D (by omega)]
    exact ⟨rfl, rfl⟩
  refine NrT.congr (NrT.graph h (fun p' q' s' f' hx => hb p' q' s' f' hx.1 hx.2.1)) (fun v => ?_) (fun p' q' s' f' => ?_)
  · unfold ThG
    constructor
    · rintro ⟨k, h1, h2⟩
      exact ⟨k, h1, by rw [addG_V (by omega)]; exact h2⟩
    · rintro ⟨k, h1, h2⟩
      exact ⟨k, h1, by rw [addG_V (by omega)] at h2; exact h2⟩
  · unfold XG mayB
    constructor
    · rintro ⟨h1, h2, h3, h4, h5⟩
      refine ⟨h1, h2, h3, h4, ?_⟩
      rw [addG_V (by omega), addG_V (by omega), addG_D (by omega), addG_D (by omega)]
      exact h5
    · rintro ⟨h1, h2, h3, h4, h5⟩
      refine ⟨h1, h2, h3, h4, ?_⟩
      rw [addG_V (by omega), addG_V (by omega), addG_D (by omega), addG_D (by omega)] at h5
      exact h5
def pMore (G : GT) : Prop := qn G < 12 ∧ 0 < nMt G (qm G)
def pStep (G G' : GT) : Prop := ∃ x p q s f : Nat, isCh G x ∧ byW G x p q s f ∧ G' = addG G p s q f
def PRun : Nat → GT → GT → Prop
  | 0, G, H => G = H ∧ ¬ (pMore G ∧ ∃ G', pStep G G')
  | k + 1, G, H => pMore G ∧ ∃ G', pStep G G' ∧ PRun k G' H
def isPl (G H : GT) : Prop := ∃ k, PRun k G H
theorem byW_wf {G : GT} (hw : WFG G) (hn : qn G < 12) {v p q s f : Nat} (h : byW G v p q s f) : WFG (addG G p s q f) := by
  have b := byW_b hw h
  exact addG_wf hw b.1 b.2.2.1 b.2.1 b.2.2.2.1 hn h.1.2.2.2.2
theorem pStep_u {G G1 G2 : GT} (hw : WFG G) (h1 : pStep G G1) (h2 : pStep G G2) : G1 = G2 := by
  obtain ⟨x, p, q, s, f, a1, a2, a3⟩ := h1
  obtain ⟨x', p', q', s', f', b1, b2, b3⟩ := h2
  have e := isCh_u a1 b1
  have e' : x = x' := by omega
  subst e'
  obtain ⟨e1, e2, e3, e4⟩ := byW_u hw a2 b2
  subst e1 e2 e3 e4
  rw [a3, b3]
theorem pStep_wf {G G' : GT} (hw : WFG G) (hm : pMore G) (h : pStep G G') : WFG G' := by
  obtain ⟨x, p, q, s, f, a1, a2, a3⟩ := h
  rw [a3]
  exact byW_wf hw hm.1 a2
theorem PRun_u : ∀ {k : Nat} {G H : GT} {k' : Nat} {H' : GT}, WFG G → PRun k G H → PRun k' G H' → H = H'
  | 0, G, H, 0, H', _, h, h' => h.1.symm.trans h'.1
  | 0, G, H, k' + 1, H', _, h, h' => absurd ⟨h'.1, h'.2.choose, h'.2.choose_spec.1⟩ h.2
  | k + 1, G, H, 0, H', _, h, h' => absurd ⟨h.1, h.2.choose, h.2.choose_spec.1⟩ h'.2
  | k + 1, G, H, k' + 1, H', hw, h, h' => by
    obtain ⟨hm, G1, h1, h2⟩ := h
    obtain ⟨-, G2, h1', h2'⟩ := h'
    have e := pStep_u hw h1 h1'
    subst e
    exact PRun_u (pStep_wf hw hm h1) h2 h2'
theorem isPl_u {G H H' : GT} (hw : WFG G) (h : isPl G H) (h' : isPl G H') : H = H' := by
  obtain ⟨k, h⟩ := h
  obtain ⟨k', h'⟩ := h'
  exact PRun_u hw h h'
theorem isPl_0 {G : GT} (h : ¬ (pMore G ∧ ∃ G', pStep G G')) : isPl G G := ⟨0, rfl, h⟩
theorem isPl_s {G G' H : GT} (hm : pMore G) (h : pStep G G') (hp : isPl G' H) : isPl G H := by
  obtain ⟨k, hp⟩ := hp
  exact ⟨k + 1, hm, G', h, hp⟩
section Plan
variable {Γ : GG} {L : Nat} {M : MM} {Q : QT} {G : GT}
theorem l_make (hG : GOK Γ) (G0 : GT) (h : ∀ H M', isPl G0 H → WFG H → GrR M' 157 H → M' 156 2 = qn G0 → (∀ b, b < 156 ∨ 169 < b → M' b = M b) → Q none (W0 L) M') {gI nI : AV} : ∀ (j : Nat) (G : GT) (M1 : MM), qn G + j = 12 → WFG G → GrR M1 157 G → NrF M1 167 G → M1 156 2 = qn G0 → (∀ b, b < 156 ∨ 169 < b → M1 b = M b) → (∀ H, isPl G H → isPl G0 H) → wp Γ mX5_make 29 [some (VR 156), some gI, some nI, some (VI (qn G : Nat))] [] 0 0 (W0 L) M1 Q := by
  have gl := W0_g157 L
  have nl := W0_n167 L
  intro j
  induction j with
  | zero =>
    intro G M1 hj hw hr ht h2 hf hp
    refine vc_go hG 60 (B := bX5_make) rfl ?_
    refine And.intro (fun b => ?_) (fun b => by omega)
    exact h G M1 (hp G (isPl_0 (fun z => by have := z.1.1; omega))) hw hr h2 hf
  | succ j ih =>
    intro G M1 hj hw hr ht h2 hf hp
    refine vc_go hG 60 (B := bX5_make) rfl ?_
    refine And.intro (fun b => by omega) (fun b => ?_)
    refine And.intro rfl (Exists.intro _ (And.intro rfl ?_))
    refine And.intro rfl ?_
    refine c_notMet hG gl hr hw ?_
    refine And.intro (fun c => ?_) (fun c => ?_)
    · exact h G M1 (hp G (isPl_0 (fun z => by have := z.1.2; omega))) hw hr h2 hf
    have hm : pMore G := ⟨by omega, by omega⟩
    refine And.intro rfl (Exists.intro _ (And.intro rfl ?_))
    refine And.intro rfl ?_
    refine c_choice hG ht hr hw (fun x hx => ?_)
    refine And.intro rfl ?_
    have split : x = -9 ∨ ∃ n : Nat, x = n := by
      rcases hx with ⟨e, -, h1⟩ | ⟨-, ⟨e, -, ⟨h1, -⟩ | ⟨t, h1, -⟩⟩ | ⟨-, h1⟩⟩
      · exact Or.inr ⟨e, h1⟩
      · exact Or.inl h1
      · exact Or.inr ⟨t, h1⟩
      · exact Or.inl h1
    rcases split with e | ⟨n, e⟩
    · subst e
      refine c_wayN hG (fun z => by have := z.1; omega) ?_
      refine And.intro (fun d => absurd d (by decide)) (fun d => ?_)
      refine h G M1 (hp G (isPl_0 ?_)) hw hr h2 hf
      rintro ⟨-, G', x', p, q, s, f, a1, -⟩
      have := isCh_u hx a1
      omega
    · subst e
      obtain ⟨⟨o1, o2⟩, o3, p, q, s, f, o4⟩ := isCh_nr hx
      have hi : n / 2 < 512 := by omega
      have en : n = 2 * (n / 2) + 1 := by omega
      refine c_way hG nl ht hi (by omega) ?_
      have ew : M1 (167 + 1) (n / 2) = (cdw p q s f : Nat) := by
        rcases ht.cases hi with ⟨z, -⟩ | ⟨-, z, -⟩ | ⟨-, p', q', s', f', z1, z2, -⟩
        · rw [← en] at z; exact absurd z o3
        · rw [← en] at z; exact absurd o4 (z p q s f)
        · rw [← en] at z1
          obtain ⟨e1, e2, e3, e4⟩ := byW_u hw o4 z1
          subst e1 e2 e3 e4
          exact z2
      have bb := byW_b hw o4
      have hx1 : cms (qV G p) s (qV G q) f ≤ 1023 := o4.1.2.2.2.2.2.1
      refine And.intro (fun d => ?_) (fun d => by omega)
      refine And.intro rfl (Exists.intro _ (And.intro rfl ?_))
      refine And.intro rfl ?_
      refine c_appendW hG gl hr hw ew bb.1 bb.2.2.1 bb.2.1 bb.2.2.2.1 (by omega) hx1 (fun M' g1 g2 => ?_)
      have hw' : WFG (addG G p s q f) := byW_wf hw (by omega) o4
      have t1 : NrT M' 167 (addG G p s q f) (ThG (addG G p s q f) (qn G + 1)) (XG (addG G p s q f) (qn G + 1)) := NrT.keep (NrF.add ht p s q f) (g2 _ (by omega)) (g2 _ (by omega))
      refine And.intro rfl (Exists.intro _ (And.intro rfl ?_))
      refine And.intro rfl (Exists.intro _ (And.intro rfl ?_))
      refine And.intro rfl (Exists.intro _ (And.intro rfl ?_))
      refine And.intro rfl ?_
      refine And.intro rfl ?_
      refine c_widen hG nl gl (by omega) g1 hw' t1 (k := qn G + 1) g1.1 (Nat.le_refl _) (fun M2 k1 k2 => ?_)
      refine And.intro (by omega) ?_
      refine wp_pre [some (VR 156), some gI, some nI, some (VI ((qn (addG G p s q f) : Nat) : Int))] _ ?_
      refine ih (addG G p s q f) M2 (show qn G + 1 + j = 12 by omega) hw' (g1.frn k2 (by omega)) (k1.congr (fun v => ThG_s) (fun p q s f => XG_s)) ?_ (fun b hb => ?_) (fun H hH => hp H (isPl_s hm ⟨n, p, q, s, f, hx, o4, rfl⟩ hH))
      · rw [k2 156 (by omega) (by omega), g2 156 (by omega)]; exact h2
      · rw [k2 b (by omega) (by omega), g2 b (by omega)]; exact hf b hb
theorem c_make (hG : GOK Γ) (hr : GrR M 2 G) (hw : WFG G) (ht : NrF M 153 G) (h : ∀ H M', isPl G H → WFG H → GrR M' 157 H → M' 156 2 = qn G → (∀ b, b < 156 ∨ 169 < b → M' b = M b) → Q none (W0 L) M') : wp Γ mX5_make 0 [some (VR 156), some (VR 2), some (VR 153)] [] 0 0 (W0 L) M Q := by
  refine vc_go hG 60 (B := bX5_make) rfl ?_
  refine And.intro rfl (Exists.intro _ (And.intro rfl ?_))
  refine And.intro rfl ?_
  refine c_copy hG (W0_g157 L) (W0_g2 L) (by omega) hr hw (fun M1 g1 g2 => ?_)
  refine And.intro rfl (Exists.intro _ (And.intro rfl ?_))
  refine And.intro rfl ?_
  refine c_ncopy hG (W0_n167 L) (W0_n153 L) (by omega) (fun M2 k1 k2 => ?_)
  have e2 : M2 2 2 = qn G := by rw [k2 2 (by omega) (by omega), g2 2 (by omega)]; exact hr.1
  have hn := hw.1
  refine And.intro rfl ?_
  refine And.intro rfl ?_
  refine And.intro rfl ?_
  rw [e2, upM_eq]
  refine l_make hG G h (12 - qn G) G _ (by omega) hw ?_ ?_ upM_eq (fun b hb => ?_) (fun H hH => hH)
  · exact (g1.frn k2 (by omega)).keep (fun b b1 b2 => upM_ne (by omega))
  · refine NrT.keep (NrT.copy (M := M1) (NrT.keep ht (g2 _ (by omega)) (g2 _ (by omega))) k1) (upM_ne (by decide)) (upM_ne (by decide))
  · rw [upM_ne (by omega), k2 b (by omega) (by omega), g2 b (by omega)]
theorem c_made (hG : GOK Γ) {H : GT} (hr : GrR M 157 H) (hw : WFG H) {n : Nat} (h2 : M 156 2 = n) (hn : n ≤ 12) (h : Q (some (VI ((qn H : Nat) - (n : Nat) : Int))) (W0 L) M) : wp Γ mX5_made 0 [some (VR 156)] [] 0 0 (W0 L) M Q := by
  have e := hr.1
  have := hw.1
  refine vc_go hG 60 (B := bX5_made) rfl ?_
  refine And.intro rfl (Exists.intro _ (And.intro rfl ?_))
  refine And.intro rfl ?_
  refine And.intro rfl ?_
  rw [e, h2]
  refine And.intro (by omega) ?_
  exact h
theorem c_pvalue (hG : GOK Γ) {H : GT} (hr : GrR M 157 H) (hw : WFG H) {n : Nat} (h2 : M 156 2 = n) (hn : n ≤ 12) {i : Int} (h1 : ∀ k : Nat, i = k → k + n < qn H → Q (some (VI (qV H (n + 1 + k) : Nat))) (W0 L) M) (h0 : ¬ (0 ≤ i ∧ i + n < qn H) → Q (some (VI (-9))) (W0 L) M) : wp Γ mX5_value 0 [some (VR 156), some (VI i)] [] 0 0 (W0 L) M Q := by
  have := hw.1
  refine vc_go hG 60 (B := bX5_value) rfl ?_
  refine And.intro (fun b => h0 (by omega)) (fun b => ?_)
  refine And.intro rfl ?_
  refine c_made hG hr hw h2 hn ?_
  refine And.intro (fun c => h0 (by omega)) (fun c => ?_)
  refine And.intro rfl (Exists.intro _ (And.intro rfl ?_))
  refine And.intro rfl ?_
  refine And.intro (by omega) ?_
  refine And.intro (by omega) ?_
  refine And.intro rfl ?_
  obtain ⟨k, rfl⟩ := Int.eq_ofNat_of_zero_le (show 0 ≤ i by omega)
  refine c_value hG (W0_g157 L) hr hw (k := n + 1 + k) (by omega) (by omega) ?_
  exact h1 k rfl (by omega)
end Plan
end
section
/-! ===== the class's Fewest ===== -/
def E9 : GT := (0, fun _ => 0, fun _ => 0, fun _ => 0, fun _ => 0, fun _ => 1, fun _ => 0, 0, fun _ => 0, 9)
theorem E9_wf : WFG E9 := ⟨by decide, by decide, by decide, rfl, rfl, fun k hk => absurd hk (Nat.not_lt_zero k), fun k hk => absurd hk (Nat.not_lt_zero k), fun i j hi => absurd hi (Nat.not_lt_zero i)⟩
theorem GrR_E9 {M : MM} {g : Nat} {G : GT} (hr : GrR M g G) (hw : WFG G) (h2 : M g 2 = 0) (h3 : M g 3 = 0) (h4 : M g 4 = 9) : GrR M g E9 := by
  obtain ⟨r1, r2, r3, r4, r5, -, -⟩ := hr
  refine ⟨h2, h3, h4, fun k hk => ?_, r5, fun k hk => absurd hk (Nat.not_lt_zero k), fun k hk => absurd hk (Nat.not_lt_zero k)⟩
  have : k = 0 := Nat.le_zero.mp hk
  subst this
  obtain ⟨a, b⟩ := r4 0 (Nat.zero_le _)
  rw [hw.2.2.2.1] at a
  rw [hw.2.2.2.2.1] at b
  exact ⟨a, b⟩
theorem GrR_E9' {M M' : MM} {g : Nat} {G : GT} (hr : GrR M g G) (hw : WFG G) (hf : ∀ a, g < a → a ≤ g + 9 → M' a = M a) (h2 : M' g 2 = 0) (h3 : M' g 3 = 0) (h4 : M' g 4 = 9) : GrR M' g E9 := by
  obtain ⟨r1, r2, r3, r4, r5, -, -⟩ := hr
  refine ⟨h2, h3, h4, fun k hk => ?_, ?_, fun k hk => absurd hk (Nat.not_lt_zero k), fun k hk => absurd hk (Nat.not_lt_zero k)⟩
  · have : k = 0 := Nat.le_zero.mp hk
    subst this
    obtain ⟨a, b⟩ := r4 0 (Nat.zero_le _)
    rw [hw.2.2.2.1] at a
    rw [hw.2.2.2.2.1] at b
    rw [hf _ (by omega) (by omega), hf _ (by omega) (by omega)]
    exact ⟨a, b⟩
  · rw [hf (g + 4) (by omega) (by omega), hf (g + 5) (by omega) (by omega), hf (g + 6) (by omega) (by omega), hf (g + 7) (by omega) (by omega), hf (g + 8) (by omega) (by omega)]
    exact r5
/-- made by three adders: b by the first, v by two over it -/
def by3 (v b : Nat) : Prop := isNr E9 b ∧ ∃ p q s f, byW E9 b p q s f ∧ hasT (addG E9 p s q f) v
def isFew (v : Nat) (r : Int) : Prop := (v = 1 ∧ r = 0) ∨ (v ≠ 1 ∧ ((isNr E9 v ∧ r = 1) ∨ (¬ isNr E9 v ∧ ((hasT E9 v ∧ r = 2) ∨ (¬ hasT E9 v ∧ (((∃ b, by3 v b) ∧ r = 3) ∨ ((∀ b, ¬ by3 v b) ∧ r = -9)))))))
theorem isFew_u {v : Nat} {r r' : Int} (h : isFew v r) (h' : isFew v r') : r = r' := by
  rcases h with ⟨a1, a2⟩ | ⟨a1, ⟨a2, a3⟩ | ⟨a2, ⟨a3, a4⟩ | ⟨a3, ⟨⟨b, a4⟩, a5⟩ | ⟨a4, a5⟩⟩⟩⟩ <;> rcases h' with ⟨b1, b2⟩ | ⟨b1, ⟨b2, b3⟩ | ⟨b2, ⟨b3, b4⟩ | ⟨b3, ⟨⟨c, b4⟩, b5⟩ | ⟨b4, b5⟩⟩⟩⟩ <;> first | omega | contradiction | exact absurd a4 (b4 _) | exact absurd b4 (a4 _)
section Fewest
variable {Γ : GG} {L : Nat} {M : MM} {Q : QT}
theorem l_three (hG : GOK Γ) {v : Nat} (hv : v % 2 = 1 ∧ v ≤ 1023) (M0 : MM)
    (h1 : ∀ M', (∃ b, by3 v b) → (∃ G, GrR M' 171 G ∧ WFG G) → (∀ b, b < 171 ∨ 186 < b → M' b = M0 b) → Q (some (VI 1)) (W0 L) M')
    (h0 : ∀ M', (∀ b, ¬ by3 v b) → (∃ G, GrR M' 171 G ∧ WFG G) → (∀ b, b < 171 ∨ 186 < b → M' b = M0 b) → Q (some (VI 0)) (W0 L) M') :
    ∀ (j i : Nat) (G : GT) (M1 : MM), i + j = 511 → WFG G → qm G = 0 → qL G = 9 → GrR M1 171 G → NrF M1 181 E9 → (∀ b, b < 171 ∨ 186 < b → M1 b = M0 b) → (∀ b, b < 2 * i + 3 → ¬ by3 v b) → wp Γ mX0_isMadeByThree 2 [some (VR 170), some (VI v), some (VI ((2 * i + 3 : Nat) : Int))] [] 0 0 (W0 L) M1 Q := by
  have gl := W0_g171 L
  have n1 := W0_n181 L
  have n4 := W0_n184 L
  intro j
  induction j with
  | zero =>
    intro i G M1 hj hw hm hl hr ht hf hno
    refine vc_go hG 60 (B := bX0_isMadeByThree) rfl ?_
    refine And.intro (fun b => ?_) (fun b => by omega)
    refine And.intro (Or.inl rfl) (h0 M1 (fun b hb => ?_) ⟨G, hr, hw⟩ hf)
    have := hb.1.1
    exact hno b (by omega) hb
  | succ j ih =>
    intro i G M1 hj hw hm hl hr ht hf hno
    have next : ∀ (G : GT) (M1 : MM), WFG G → qm G = 0 → qL G = 9 → GrR M1 171 G → NrF M1 181 E9 → (∀ b, b < 171 ∨ 186 < b → M1 b = M0 b) → ¬ by3 v (2 * i + 3) → wp Γ mX0_isMadeByThree 85 [some (VR 170), some (VI v), some (VI ((2 * i + 3 : Nat) : Int))] [] 0 0 (W0 L) M1 Q := by
      intro G M1 hw hm hl hr ht hf hno1
      refine vc_go hG 60 (B := bX0_isMadeByThree) rfl ?_
      refine And.intro (by omega) ?_
      refine ih (i + 1) G M1 (by omega) hw hm hl hr ht hf (fun b hb => ?_)
      by_cases e : b = 2 * i + 3
      · subst e; exact hno1
      · by_cases e2 : b = 2 * i + 4
        · subst e2
          intro hb
          have := hb.1.1.1
          omega
        · exact hno b (by omega)
    refine vc_goS hG 60 [85] (B := bX0_isMadeByThree) rfl ?_
    refine And.intro (fun b => by omega) (fun b => ?_)
    refine And.intro rfl (Exists.intro _ (And.intro rfl ?_))
    refine And.intro rfl ?_
    refine c_has hG n1 ht (fun n en hn => ?_) (fun hn => ?_)
    · have en : n = 2 * i + 3 := by omega
      subst en
      refine And.intro (fun c => absurd c (by decide)) (fun c => ?_)
      refine And.intro rfl (Exists.intro _ (And.intro rfl ?_))
      refine And.intro rfl ?_
      refine And.intro rfl (Exists.intro _ (And.intro rfl (And.intro rfl (Exists.intro _ (And.intro rfl ?_)))))
      refine And.intro rfl ?_
      have t2 : NrF (upM M1 171 2 0) 181 E9 := NrT.keep ht (upM_ne (by decide)) (upM_ne (by decide))
      have r2 : GrR (upM M1 171 2 0) 171 E9 := GrR_E9' hr hw (fun a a1 a2 => upM_ne (by omega)) upM_eq (by rw [upM_k (by decide), hr.2.1, hm]; rfl) (by rw [upM_k (by decide), hr.2.2.1, hl]; rfl)
      refine c_way hG n1 t2 (i := i + 1) (by omega) (by omega) ?_
      obtain ⟨⟨o1, o2⟩, o3, p, q, s, f, o4⟩ := id hn
      have ew : upM M1 171 2 0 (181 + 1) (i + 1) = (cdw p q s f : Nat) := by
        rcases t2.cases (i := i + 1) (by omega) with ⟨z, -⟩ | ⟨-, z, -⟩ | ⟨-, p', q', s', f', z1, z2, -⟩
        · exact absurd z o3
        · exact absurd o4 (z p q s f)
        · obtain ⟨e1, e2, e3, e4⟩ := byW_u E9_wf o4 z1
          subst e1 e2 e3 e4
          exact z2
      have bb := byW_b E9_wf o4
      have hx1 : cms (qV E9 p) s (qV E9 q) f ≤ 1023 := o4.1.2.2.2.2.2.1
      refine And.intro rfl ?_
      refine c_appendW hG gl r2 E9_wf ew bb.1 bb.2.2.1 bb.2.1 bb.2.2.2.1 (by decide) hx1 (fun M3 g1 g2 => ?_)
      have hw' : WFG (addG E9 p s q f) := byW_wf E9_wf (by decide) o4
      have t3 : NrF M3 181 E9 := NrT.keep t2 (g2 _ (by omega)) (g2 _ (by omega))
      refine And.intro rfl (Exists.intro _ (And.intro rfl ?_))
      refine And.intro rfl (Exists.intro _ (And.intro rfl ?_))
      refine And.intro rfl ?_
      refine c_ncopy hG n4 n1 (by omega) (fun M4 k1 k2 => ?_)
      have t4 : NrF M4 184 E9 := NrT.copy t3 k1
      refine And.intro rfl (Exists.intro _ (And.intro rfl ?_))
      refine And.intro rfl (Exists.intro _ (And.intro rfl ?_))
      refine And.intro rfl ?_
      have g4 := g1.frn k2 (by omega)
      refine c_widen hG n4 gl (by omega) g4 hw' (NrF.add t4 p s q f) (k := 1) rfl (Nat.le_refl _) (fun M5 l1 l2 => ?_)
      have t5 : NrF M5 184 (addG E9 p s q f) := l1.congr (fun v => ThG_s) (fun p q s f => XG_s)
      have g5 := g4.frn l2 (by omega)
      have f5 : ∀ b, b < 171 ∨ 186 < b → M5 b = M0 b := fun b hb => by
        rw [l2 b (by omega) (by omega), k2 b (by omega) (by omega), g2 b (by omega), upM_ne (by omega)]
        exact hf b hb
      refine And.intro rfl (Exists.intro _ (And.intro rfl ?_))
      refine And.intro rfl (Exists.intro _ (And.intro rfl ?_))
      refine And.intro rfl ?_
      refine c_bridge hG n4 gl t5 g5 hw' rfl hv (fun r hr9 => ?_)
      refine And.intro (fun x => ?_) (fun x => ?_)
      · refine next _ M5 hw' rfl rfl g5 (NrT.keep (NrT.keep t3 (k2 _ (by decide) (by decide)) (k2 _ (by decide) (by decide))) (l2 _ (by decide) (by decide)) (l2 _ (by decide) (by decide))) f5 ?_
        rintro ⟨-, p', q', s', f', z1, z2⟩
        obtain ⟨e1, e2, e3, e4⟩ := byW_u E9_wf o4 z1
        subst e1 e2 e3 e4
        exact (hasT_iff hr9).mp z2 x
      · exact And.intro (Or.inr rfl) (h1 M5 ⟨2 * i + 3, hn, p, q, s, f, o4, (hasT_iff hr9).mpr x⟩ ⟨_, g5, hw'⟩ f5)
    · refine And.intro (fun c => ?_) (fun c => absurd rfl c)
      exact next G M1 hw hm hl hr ht hf (fun hb => hn _ rfl hb.1)
theorem c_fewest (hG : GOK Γ) {vI : Int} {v : Nat} (ev : vI = v) (hv : v % 2 = 1 ∧ v ≤ 1023) (hg : ∃ G, GrR M 171 G ∧ WFG G)
    (h : ∀ r M', isFew v r → (∃ G, GrR M' 171 G ∧ WFG G) → (∀ b, b < 171 ∨ 186 < b → M' b = M b) → Q (some (VI r)) (W0 L) M') : wp Γ mX0_adders 0 [some (VR 170), some (VI vI)] [] 0 0 (W0 L) M Q := by
  subst ev
  obtain ⟨G, hr, hw⟩ := hg
  have gl := W0_g171 L
  have n1 := W0_n181 L
  refine vc_go hG 60 (B := bX0_adders) rfl ?_
  refine And.intro rfl (Exists.intro _ (And.intro rfl ?_))
  refine And.intro rfl ?_
  refine c_empty hG gl hr (fun M1 g1 g2 => ?_)
  refine And.intro rfl (Exists.intro _ (And.intro rfl ?_))
  refine And.intro rfl ?_
  refine And.intro rfl (Exists.intro _ (And.intro rfl (And.intro rfl (Exists.intro _ (And.intro rfl ?_)))))
  refine And.intro rfl ?_
  have r2 : GrR (upM M1 171 4 9) 171 E9 := GrR_E9' g1 (empG_wf hw) (fun a a1 a2 => upM_ne (by omega)) (by rw [upM_k (by decide)]; exact g1.1) (by rw [upM_k (by decide)]; exact g1.2.1) upM_eq
  refine c_build hG n1 gl (by omega) r2 E9_wf (fun M2 t2 k2 => ?_)
  have r3 := r2.frn k2 (by omega)
  have f3 : ∀ b, b < 171 ∨ 186 < b → M2 b = M b := fun b hb => by
    rw [k2 b (by omega) (by omega), upM_ne (by omega), g2 b (by omega)]
  have gg : ∃ G, GrR M2 171 G ∧ WFG G := ⟨E9, r3, E9_wf⟩
  refine And.intro (fun b => ?_) (fun b => h 0 M2 (Or.inl ⟨by omega, rfl⟩) gg f3)
  refine And.intro rfl (Exists.intro _ (And.intro rfl ?_))
  refine And.intro rfl ?_
  refine c_has hG n1 t2 (fun n en hn => ?_) (fun hn => ?_)
  · have : n = v := by omega
    subst this
    refine And.intro (fun c => absurd c (by decide)) (fun c => ?_)
    exact h 1 M2 (Or.inr ⟨by omega, Or.inl ⟨hn, rfl⟩⟩) gg f3
  · refine And.intro (fun c => ?_) (fun c => absurd rfl c)
    refine And.intro rfl (Exists.intro _ (And.intro rfl ?_))
    refine And.intro rfl (Exists.intro _ (And.intro rfl ?_))
    refine And.intro rfl ?_
    refine c_bridge hG n1 gl t2 r3 E9_wf rfl hv (fun r hr9 => ?_)
    refine And.intro (fun x => ?_) (fun x => ?_)
    · have nt : ¬ hasT E9 v := fun z => (hasT_iff hr9).mp z x
      refine And.intro rfl ?_
      refine vc_go hG 60 (B := bX0_isMadeByThree) rfl ?_
      refine l_three hG hv M2 (fun M' a1 a2 a3 => ?_) (fun M' a1 a2 a3 => ?_) 511 0 E9 M2 rfl E9_wf rfl rfl r3 t2 (fun b _ => rfl) (fun b hb => ?_)
      · refine And.intro (fun d => absurd d (by decide)) (fun d => ?_)
        exact h 3 M' (Or.inr ⟨by omega, Or.inr ⟨hn v rfl, Or.inr ⟨nt, Or.inl ⟨a1, rfl⟩⟩⟩⟩) a2 (fun b hb => (a3 b hb).trans (f3 b hb))
      · refine And.intro (fun d => ?_) (fun d => absurd rfl d)
        exact h (-9) M' (Or.inr ⟨by omega, Or.inr ⟨hn v rfl, Or.inr ⟨nt, Or.inr ⟨a1, rfl⟩⟩⟩⟩) a2 (fun b hb => (a3 b hb).trans (f3 b hb))
      · rintro ⟨⟨⟨z1, z2⟩, z3, -⟩, -⟩
        have : b = 1 := by omega
        subst this
        exact z3 ⟨0, by decide, rfl⟩
    · exact h 2 M2 (Or.inr ⟨by omega, Or.inr ⟨hn v rfl, Or.inl ⟨(hasT_iff hr9).mpr x, rfl⟩⟩⟩) gg f3
end Fewest
end
section
/-! ===== the class's Text: tokens ===== -/
abbrev isDg (c : Nat) : Prop := 48 ≤ c ∧ c ≤ 57
def skp (T : Nat → Nat) (n : Nat) : Nat → Nat → Nat
  | 0, b => b
  | k + 1, b => if b < n ∧ T b = 32 then skp T n k (b + 1) else b
def dgs (T : Nat → Nat) (n : Nat) : Nat → Nat → Nat → Nat × Nat
  | 0, e, v => (e, v)
  | k + 1, e, v => if e < n ∧ isDg (T e) then dgs T n k (e + 1) (min (v * 10 + T e - 48) 10000) else (e, v)
theorem skp_b (T : Nat → Nat) (n : Nat) : ∀ k b, b + k = n → b ≤ skp T n k b ∧ skp T n k b ≤ n ∧ (skp T n k b < n → T (skp T n k b) ≠ 32)
  | 0, b, h => by show b ≤ b ∧ b ≤ n ∧ (b < n → T b ≠ 32); exact ⟨by omega, by omega, fun z => by omega⟩
  | k + 1, b, h => by
    have := skp_b T n k (b + 1) (by omega)
    rw [show skp T n (k + 1) b = if b < n ∧ T b = 32 then skp T n k (b + 1) else b from rfl]
    split
    · exact ⟨by omega, this.2.1, this.2.2⟩
    · rename_i q
      exact ⟨by omega, by omega, fun z e => q ⟨z, e⟩⟩
theorem dgs_b (T : Nat → Nat) (n : Nat) : ∀ k e v, e + k = n → v ≤ 10000 → e ≤ (dgs T n k e v).1 ∧ (dgs T n k e v).1 ≤ n ∧ (dgs T n k e v).2 ≤ 10000 ∧ ((dgs T n k e v).1 = e → (dgs T n k e v).2 = v)
  | 0, e, v, h, hv => by show e ≤ e ∧ e ≤ n ∧ v ≤ 10000 ∧ _; exact ⟨by omega, by omega, hv, fun _ => rfl⟩
  | k + 1, e, v, h, hv => by
    have := dgs_b T n k (e + 1) (min (v * 10 + T e - 48) 10000) (by omega) (by omega)
    rw [show dgs T n (k + 1) e v = if e < n ∧ isDg (T e) then dgs T n k (e + 1) (min (v * 10 + T e - 48) 10000) else (e, v) from rfl]
    split
    · exact ⟨by omega, by omega, this.2.2.1, fun z => by omega⟩
    · exact ⟨Nat.le_refl _, by show e ≤ n; omega, hv, fun _ => rfl⟩
/-- the token behind place b: its first letter's place, the place behind it, its kind, its number -/
def tokE (T : Nat → Nat) (n st : Nat) (ev : Nat × Nat) : Nat × Nat × Int × Nat :=
  if n ≤ st then (st, ev.1, -1, ev.2) else if st < ev.1 then (st, ev.1, if (T st = 48 ∧ 1 < ev.1 - st) ∨ 9999 < ev.2 then -3 else -2, ev.2) else (st, ev.1 + 1, (T st : Int), ev.2)
def tok (T : Nat → Nat) (n b : Nat) : Nat × Nat × Int × Nat := tokE T n (skp T n (n - b) b) (dgs T n (n - skp T n (n - b) b) (skp T n (n - b) b) 0)
def TkR (M : MM) (k : Nat × Nat × Int × Nat) : Prop := M 22 2 = k.1 ∧ M 22 3 = k.2.1 ∧ M 22 4 = k.2.2.1 ∧ M 22 5 = k.2.2.2
theorem tok_b {T : Nat → Nat} {n b : Nat} (hb : b ≤ n) : b ≤ (tok T n b).1 ∧ (tok T n b).1 ≤ (tok T n b).2.1 ∧ (tok T n b).2.1 ≤ n ∧ (tok T n b).2.2.2 ≤ 10000 ∧ ((tok T n b).2.2.1 ≠ -1 → (tok T n b).1 < (tok T n b).2.1) ∧ ((tok T n b).1 = n ↔ (tok T n b).2.2.1 = -1) := by
  have h1 := skp_b T n (n - b) b (by omega)
  have h2 := dgs_b T n (n - skp T n (n - b) b) (skp T n (n - b) b) 0 (by omega) (by omega)
  unfold tok
  generalize skp T n (n - b) b = st at *
  generalize dgs T n (n - st) st 0 = ev at *
  unfold tokE
  by_cases q : n ≤ st
  · rw [if_pos q]
    exact ⟨h1.1, h2.1, h2.2.1, h2.2.2.1, fun z => absurd rfl z, by show st = n ↔ (-1 : Int) = -1; omega⟩
  · rw [if_neg q]
    by_cases q2 : st < ev.1
    · rw [if_pos q2]
      refine ⟨h1.1, h2.1, h2.2.1, h2.2.2.1, fun z => q2, ?_⟩
      show st = n ↔ (if (T st = 48 ∧ 1 < ev.1 - st) ∨ 9999 < ev.2 then (-3 : Int) else -2) = -1
      split <;> omega
    · rw [if_neg q2]
      refine ⟨h1.1, by show st ≤ ev.1 + 1; omega, by show ev.1 + 1 ≤ n; omega, h2.2.2.1, fun z => by show st < ev.1 + 1; omega, ?_⟩
      show st = n ↔ (T st : Int) = (-1 : Int)
      omega
section Text
variable {Γ : GG} {L : Nat} {M : MM} {Q : QT} {n : Nat} {T : Nat → Nat}
theorem c_isDigit (hG : GOK Γ) {w : Wd} {cI : Int} {c : Nat} (ec : cI = c) (h1 : isDg c → Q (some (VI 1)) w M) (h0 : ¬ isDg c → Q (some (VI 0)) w M) : wp Γ mX7_isDigit 0 [some (VI cI)] [] 0 0 w M Q := by
  subst ec
  refine vc_go hG 60 (B := bX7_isDigit) rfl ?_
  refine And.intro (fun a => And.intro (Or.inl rfl) (h0 (by omega))) (fun a => ?_)
  exact And.intro (fun b => And.intro (Or.inl rfl) (h0 (by omega))) (fun b => And.intro (Or.inr rfl) (h1 (by omega)))
theorem l_skip (hG : GOK Γ) (hh : TxR M n T) (st : Nat) (h : ∀ M' : MM, M' 22 2 = st → (∀ a, a ≠ 22 → M' a = M a) → M' 22 1 = M 22 1 → wp Γ mX7_step 46 [some (VR 22)] [] 0 0 (W0 L) M' Q) : ∀ (j b : Nat) (M1 : MM), b + j = n → M1 22 2 = b → (∀ a, a ≠ 22 → M1 a = M a) → M1 22 1 = M 22 1 → skp T n j b = st → wp Γ mX7_step 8 [some (VR 22)] [] 0 0 (W0 L) M1 Q := by
  obtain ⟨s1, s2, s3⟩ := hh
  intro j
  induction j with
  | zero =>
    intro b M1 hj h2 hf hl hs
    have e : b = st := hs
    subst e
    refine vc_goS hG 60 [46] (B := bX7_step) rfl ?_
    refine And.intro rfl (And.intro rfl (And.intro (fun a => h M1 h2 hf hl) (fun a => by omega)))
  | succ j ih =>
    intro b M1 hj h2 hf hl hs
    have eb : M1 23 b = T b := by rw [hf 23 (by decide)]; exact (s3 b (by omega)).1
    refine vc_goS hG 60 [46] (B := bX7_step) rfl ?_
    refine And.intro rfl (And.intro rfl (And.intro (fun a => by omega) (fun a => ?_)))
    refine And.intro rfl (Exists.intro _ (And.intro rfl (And.intro rfl ?_)))
    refine And.intro (Or.inl rfl) (Exists.intro b (And.intro h2 (And.intro (show b < 80 by omega) ?_)))
    rw [show skp T n (j + 1) b = if b < n ∧ T b = 32 then skp T n j (b + 1) else b from rfl] at hs
    refine And.intro (fun c => ?_) (fun c => ?_)
    · rw [if_neg (fun z => by omega)] at hs
      subst hs
      exact h M1 h2 hf hl
    · rw [if_pos ⟨by omega, by omega⟩] at hs
      refine And.intro rfl (And.intro (by omega) (And.intro rfl ?_))
      refine ih (b + 1) _ (by omega) (by rw [upM_eq, h2]; omega) (fun a ha => by rw [upM_ne ha]; exact hf a ha) (by rw [upM_k (by decide)]; exact hl) hs
theorem l_digs (hG : GOK Γ) (hh : TxR M n T) (ev : Nat × Nat) (h : ∀ M' : MM, M' 22 3 = ev.1 → M' 22 5 = ev.2 → (∀ a, a ≠ 22 → M' a = M a) → M' 22 1 = M 22 1 → M' 22 2 = M 22 2 → wp Γ mX7_step 128 [some (VR 22)] [] 0 0 (W0 L) M' Q) : ∀ (j e v : Nat) (M1 : MM), e + j = n → v ≤ 10000 → M1 22 3 = e → M1 22 5 = v → (∀ a, a ≠ 22 → M1 a = M a) → M1 22 1 = M 22 1 → M1 22 2 = M 22 2 → dgs T n j e v = ev → wp Γ mX7_step 59 [some (VR 22)] [] 0 0 (W0 L) M1 Q := by
  obtain ⟨s1, s2, s3⟩ := hh
  intro j
  induction j with
  | zero =>
    intro e v M1 hj hv h3 h5 hf hl h2 hs
    have e9 : (e, v) = ev := hs
    subst e9
    refine vc_goS hG 60 [128] (B := bX7_step) rfl ?_
    refine And.intro rfl (And.intro rfl (And.intro (fun a => h M1 h3 h5 hf hl h2) (fun a => by omega)))
  | succ j ih =>
    intro e v M1 hj hv h3 h5 hf hl h2 hs
    have eb : M1 23 e = T e := by rw [hf 23 (by decide)]; exact (s3 e (by omega)).1
    have tb := (s3 e (by omega)).2
    refine vc_goS hG 60 [128] (B := bX7_step) rfl ?_
    refine And.intro rfl (And.intro rfl (And.intro (fun a => by omega) (fun a => ?_)))
    refine And.intro rfl (Exists.intro _ (And.intro rfl (And.intro rfl ?_)))
    refine And.intro (Or.inl rfl) (Exists.intro e (And.intro h3 (And.intro (show e < 80 by omega) ?_)))
    rw [show dgs T n (j + 1) e v = if e < n ∧ isDg (T e) then dgs T n j (e + 1) (min (v * 10 + T e - 48) 10000) else (e, v) from rfl] at hs
    refine c_isDigit hG eb (fun hd => ?_) (fun hd => ?_)
    · rw [if_pos ⟨by omega, hd⟩] at hs
      refine And.intro (fun c => absurd c (by decide)) (fun c => ?_)
      refine And.intro rfl (And.intro (by omega) ?_)
      refine And.intro rfl (Exists.intro _ (And.intro rfl (And.intro rfl ?_)))
      refine And.intro (Or.inl rfl) (Exists.intro e (And.intro h3 (And.intro (show e < 80 by omega) ?_)))
      refine And.intro (by omega) (And.intro (by omega) (And.intro rfl ?_))
      refine And.intro rfl (And.intro (by rw [upM_k (by decide)]; omega) (And.intro rfl ?_))
      refine ih (e + 1) (min (v * 10 + T e - 48) 10000) _ (by omega) (by omega) (by rw [upM_eq, upM_k (by decide), h3]; omega) (by rw [upM_k (by decide), upM_eq, h5, eb]; omega) (fun a ha => by rw [upM_ne ha, upM_ne ha]; exact hf a ha) (by rw [upM_k (by decide), upM_k (by decide)]; exact hl) (by rw [upM_k (by decide), upM_k (by decide)]; exact h2) hs
    · rw [if_neg (fun z => hd z.2)] at hs
      subst hs
      refine And.intro (fun c => h M1 h3 h5 hf hl h2) (fun c => absurd rfl c)
theorem c_step (hG : GOK Γ) (hh : TxR M n T) {b : Nat} (hb : b ≤ n) (h3 : M 22 3 = b) (h : ∀ M', TxR M' n T → TkR M' (tok T n b) → (∀ a, a ≠ 22 → M' a = M a) → Q none (W0 L) M') : wp Γ mX7_step 0 [some (VR 22)] [] 0 0 (W0 L) M Q := by
  have b1 := skp_b T n (n - b) b (by omega)
  have b2 := dgs_b T n (n - skp T n (n - b) b) (skp T n (n - b) b) 0 (by omega) (by omega)
  unfold tok at h
  refine vc_go hG 60 (B := bX7_step) rfl ?_
  refine And.intro rfl (And.intro rfl ?_)
  have hh1 : TxR (upM M 22 2 (M 22 3)) n T := hh.keep (upM_k (by decide)) (upM_ne (by decide))
  refine l_skip hG hh1 (skp T n (n - b) b) (fun M1 a2 af a1 => ?_) (n - b) b _ (by omega) (by rw [upM_eq]; exact h3) (fun a ha => rfl) rfl rfl
  generalize skp T n (n - b) b = st at *
  refine vc_go hG 60 (B := bX7_step) rfl ?_
  refine And.intro rfl (And.intro rfl (And.intro rfl ?_))
  have hh2 : TxR (upM (upM M1 22 3 (M1 22 2)) 22 5 0) n T := hh1.keep (by rw [upM_k (by decide), upM_k (by decide)]; exact a1) (by rw [upM_ne (by decide), upM_ne (by decide)]; exact af 23 (by decide))
  refine l_digs hG hh2 (dgs T n (n - st) st 0) (fun M2 c3 c5 cf c1 c2 => ?_) (n - st) st 0 _ (by omega) (by omega) (by rw [upM_k (by decide), upM_eq]; exact a2) upM_eq (fun a ha => rfl) rfl rfl rfl
  generalize dgs T n (n - st) st 0 = ev at *
  have hh3 : TxR M2 n T := hh2.keep c1 (cf 23 (by decide))
  have f2 : ∀ a, a ≠ 22 → M2 a = M a := fun a ha => by rw [cf a ha, upM_ne ha, upM_ne ha, af a ha, upM_ne ha]
  have s2 : M2 22 2 = st := by rw [c2, upM_k (by decide), upM_k (by decide)]; exact a2
  obtain ⟨t1, t2, t3⟩ := id hh3
  unfold tokE at h
  refine vc_goS hG 60 [191] (B := bX7_step) rfl ?_
  refine And.intro rfl (And.intro rfl (And.intro (fun q => ?_) (fun q => ?_)))
  · have ns : ¬ n ≤ st := by omega
    rw [if_neg ns] at h
    have et : M2 23 st = T st := (t3 st (by omega)).1
    refine And.intro rfl (And.intro rfl (And.intro (fun q2 => ?_) (fun q2 => ?_)))
    · have e1 : ev.1 = st := by omega
      rw [if_neg (by omega)] at h
      refine And.intro rfl (Exists.intro _ (And.intro rfl (And.intro rfl ?_)))
      refine And.intro (Or.inl rfl) (Exists.intro st (And.intro s2 (And.intro (show st < 80 by omega) ?_)))
      refine And.intro rfl ?_
      refine And.intro rfl (And.intro (by rw [upM_k (by decide)]; omega) (And.intro rfl ?_))
      refine h _ (hh3.keep (by rw [upM_k (by decide), upM_k (by decide)]) (by rw [upM_ne (by decide), upM_ne (by decide)])) ⟨?_, ?_, ?_, ?_⟩ (fun a ha => by rw [upM_ne ha, upM_ne ha]; exact f2 a ha)
      · rw [upM_k (by decide), upM_k (by decide)]; exact s2
      · rw [upM_eq, upM_k (by decide), c3]; rfl
      · rw [upM_k (by decide), upM_eq]; exact et
      · rw [upM_k (by decide), upM_k (by decide)]; exact c5
    · rw [if_pos (by omega)] at h
      have fin : ∀ x : Int, x = (if (T st = 48 ∧ 1 < ev.1 - st) ∨ 9999 < ev.2 then -3 else -2) → Q none (W0 L) (upM M2 22 4 x) := by
        intro x hx
        refine h _ (hh3.keep (by rw [upM_k (by decide)]) (by rw [upM_ne (by decide)])) ⟨?_, ?_, ?_, ?_⟩ (fun a ha => by rw [upM_ne ha]; exact f2 a ha)
        · rw [upM_k (by decide)]; exact s2
        · rw [upM_k (by decide)]; exact c3
        · rw [upM_eq]; exact hx
        · rw [upM_k (by decide)]; exact c5
      refine And.intro rfl (Exists.intro _ (And.intro rfl (And.intro rfl ?_)))
      refine And.intro (Or.inl rfl) (Exists.intro st (And.intro s2 (And.intro (show st < 80 by omega) ?_)))
      have join : ∀ (z : Int), (z = 0 ∨ z = 1) → (z = 1 ↔ (T st = 48 ∧ 1 < ev.1 - st)) → wp Γ mX7_step 191 [some (VR 22), some (VI z)] [] 0 0 (W0 L) M2 Q := by
        intro z hz hzz
        refine vc_go hG 60 (B := bX7_step) rfl ?_
        refine And.intro (fun y => ?_) (fun y => ?_)
        · refine And.intro rfl (fin _ ?_)
          rw [if_pos (Or.inl (hzz.mp (by omega)))]
        · refine And.intro rfl (And.intro (fun y2 => ?_) (fun y2 => ?_))
          · refine And.intro rfl (fin _ ?_)
            rw [if_neg (fun o => o.elim (fun o => by have := hzz.mpr o; omega) (fun o => by omega))]
          · refine And.intro rfl (fin _ ?_)
            rw [if_pos (Or.inr (by omega))]
      refine And.intro (fun y => ?_) (fun y => ?_)
      · exact join 0 (Or.inl rfl) ⟨fun o => by omega, fun o => by omega⟩
      · refine And.intro rfl (And.intro rfl (And.intro (by omega) (And.intro (fun y2 => ?_) (fun y2 => ?_))))
        · exact join 0 (Or.inl rfl) ⟨fun o => by omega, fun o => by omega⟩
        · exact join 1 (Or.inr rfl) ⟨fun o => ⟨by omega, by omega⟩, fun o => rfl⟩
  · rw [if_pos (by omega)] at h
    refine And.intro rfl ?_
    refine h _ (hh3.keep (by rw [upM_k (by decide)]) (by rw [upM_ne (by decide)])) ⟨?_, ?_, ?_, ?_⟩ (fun a ha => by rw [upM_ne ha]; exact f2 a ha)
    · rw [upM_k (by decide)]; exact s2
    · rw [upM_k (by decide)]; exact c3
    · rw [upM_eq]
    · rw [upM_k (by decide)]; exact c5
end Text
end
section
/-! ===== the class's Text: reading ===== -/
noncomputable def cit {α : Type} (c : Prop) (x y : α) : α := @ite _ c (Classical.propDecidable c) x y
theorem cit_y {α : Type} {c : Prop} {x y : α} (h : c) : cit c x y = x := by unfold cit; exact if_pos h
theorem cit_n {α : Type} {c : Prop} {x y : α} (h : ¬ c) : cit c x y = y := by unfold cit; exact if_neg h
abbrev TK : Type := Nat × Nat × Int × Nat
abbrev tS (t : TK) : Nat := t.1
abbrev tB (t : TK) : Nat := t.2.1
abbrev tK (t : TK) : Int := t.2.2.1
abbrev tN (t : TK) : Nat := t.2.2.2
theorem TkR.g {M : MM} {t : TK} (h : TkR M t) : M 22 2 = tS t ∧ M 22 3 = tB t ∧ M 22 4 = tK t ∧ M 22 5 = tN t := h
abbrev isN (t : TK) (lo hi : Nat) : Prop := tK t = -2 ∧ lo ≤ tN t ∧ tN t ≤ hi
abbrev RS : Type := Nat ⊕ (Nat × GT)
noncomputable def rdSemi (T : Nat → Nat) (n b : Nat) (G : GT) : RS := cit (tK (tok T n b) = 59) (.inr (tB (tok T n b), G)) (.inl (tS (tok T n b)))
noncomputable def rdLim (T : Nat → Nat) (n b : Nat) (G : GT) : RS := cit (isN (tok T n b) 1 9) (rdSemi T n (tB (tok T n b)) (limG G (tN (tok T n b)))) (.inl (tS (tok T n b)))
noncomputable def rdWsh (T : Nat → Nat) (n b : Nat) (G : GT) : RS := cit (isN (tok T n b) 1 1023 ∧ ∀ k, k < qm G → qC G k ≠ tN (tok T n b)) (rdSemi T n (tB (tok T n b)) (wshG G (tN (tok T n b)))) (.inl (tS (tok T n b)))
noncomputable def rdA4 (T : Nat → Nat) (n b : Nat) (G : GT) (p s q : Nat) : RS := cit (isN (tok T n b) 0 3 ∧ mayB G p s q (tN (tok T n b))) (rdSemi T n (tB (tok T n b)) (addG G p s q (tN (tok T n b)))) (.inl (tS (tok T n b)))
noncomputable def rdA3 (T : Nat → Nat) (n b : Nat) (G : GT) (p s : Nat) : RS := cit (isN (tok T n b) 0 (qn G)) (rdA4 T n (tB (tok T n b)) G p s (tN (tok T n b))) (.inl (tS (tok T n b)))
noncomputable def rdA2 (T : Nat → Nat) (n b : Nat) (G : GT) (p : Nat) : RS := cit (isN (tok T n b) 0 9) (rdA3 T n (tB (tok T n b)) G p (tN (tok T n b))) (.inl (tS (tok T n b)))
noncomputable def rdA1 (T : Nat → Nat) (n b : Nat) (G : GT) : RS := cit (isN (tok T n b) 0 (qn G)) (rdA2 T n (tB (tok T n b)) G (tN (tok T n b))) (.inl (tS (tok T n b)))
noncomputable def rdItem (T : Nat → Nat) (n : Nat) (t : TK) (k : Nat) (G : GT) : RS :=
  cit (tK t = 108) (cit (k = 0) (rdLim T n (tB t) G) (.inl (tS t))) (cit (tK t = 119) (cit (qm G < 6) (rdWsh T n (tB t) G) (.inl (tS t))) (cit (tK t = 97) (cit (qn G < 12) (rdA1 T n (tB t) G) (.inl (tS t))) (.inl (tS t))))
noncomputable def rdAll (T : Nat → Nat) (n : Nat) : Nat → Nat → TK → GT → RS
  | 0, k, _, G => .inr (k, G)
  | j + 1, k, t, G => cit (tK t = -1) (.inr (k, G)) (match rdItem T n t k G with
    | .inl f => .inl f
    | .inr bg => rdAll T n j (k + 1) (tok T n bg.1) bg.2)
def frR (M M' : MM) : Prop := ∀ a, a < 12 ∨ 22 < a → M' a = M a
theorem frR.t {M M' M2 : MM} (h1 : frR M M') (h2 : frR M' M2) : frR M M2 := fun a ha => (h2 a ha).trans (h1 a ha)
theorem frR_22 {M M' : MM} (h : ∀ a, a ≠ 22 → M' a = M a) : frR M M' := fun a ha => h a (by omega)
def E6 : GT := (0, fun _ => 0, fun _ => 0, fun _ => 0, fun _ => 0, fun _ => 1, fun _ => 0, 0, fun _ => 0, 6)
theorem E6_wf : WFG E6 := ⟨by decide, by decide, by decide, rfl, rfl, fun k hk => absurd hk (Nat.not_lt_zero k), fun k hk => absurd hk (Nat.not_lt_zero k), fun i j hi => absurd hi (Nat.not_lt_zero i)⟩
theorem GrR_E6 {M : MM} {g : Nat} {G : GT} (hr : GrR M g G) (hw : WFG G) (h2 : M g 2 = 0) (h3 : M g 3 = 0) (h4 : M g 4 = 6) : GrR M g E6 := by
  obtain ⟨r1, r2, r3, r4, r5, -, -⟩ := hr
  refine ⟨h2, h3, h4, fun k hk => ?_, r5, fun k hk => absurd hk (Nat.not_lt_zero k), fun k hk => absurd hk (Nat.not_lt_zero k)⟩
  have : k = 0 := Nat.le_zero.mp hk
  subst this
  obtain ⟨a, b⟩ := r4 0 (Nat.zero_le _)
  rw [hw.2.2.2.1] at a
  rw [hw.2.2.2.2.1] at b
  exact ⟨a, b⟩
section Text
variable {Γ : GG} {L : Nat} {M : MM} {Q : QT} {n : Nat} {T : Nat → Nat} {G : GT}
def RdY (Q : QT) (L : Nat) (M : MM) (n : Nat) (T : Nat → Nat) (R : RS) : Prop := ∀ (M' : MM) (b' : Nat) (G' : GT), R = .inr (b', G') → TxR M' n T → M' 22 3 = b' → b' ≤ n → GrR M' 12 G' → WFG G' → frR M M' → Q (some (VI 1)) (W0 L) M'
def RdN (Q : QT) (L : Nat) (M : MM) (n : Nat) (T : Nat → Nat) (R : RS) : Prop := ∀ (M' : MM) (f : Nat), R = .inl f → TxR M' n T → M' 22 2 = f → (∃ G', GrR M' 12 G' ∧ WFG G') → frR M M' → Q (some (VI 0)) (W0 L) M'
theorem c_stepNum (hG : GOK Γ) (hh : TxR M n T) {b : Nat} (hb : b ≤ n) (h3 : M 22 3 = b) {lI hI : Int} {lo hi : Nat} (el : lI = lo) (eh : hI = hi)
    (h1 : ∀ M', isN (tok T n b) lo hi → TxR M' n T → TkR M' (tok T n b) → (∀ a, a ≠ 22 → M' a = M a) → Q (some (VI 1)) (W0 L) M')
    (h0 : ∀ M', ¬ isN (tok T n b) lo hi → TxR M' n T → TkR M' (tok T n b) → (∀ a, a ≠ 22 → M' a = M a) → Q (some (VI 0)) (W0 L) M') :
    wp Γ mX7_stepToNumber 0 [some (VR 22), some (VI lI), some (VI hI)] [] 0 0 (W0 L) M Q := by
  subst el eh
  refine vc_go hG 60 (B := bX7_stepToNumber) rfl ?_
  refine And.intro rfl ?_
  refine c_step hG hh hb h3 (fun M' a1 a2 a3 => ?_)
  obtain ⟨k1, k2, k3, k4⟩ := TkR.g a2
  refine And.intro rfl (And.intro (fun c => ?_) (fun c => ?_))
  · exact And.intro (Or.inl rfl) (h0 M' (fun z => by have := z.1; omega) a1 a2 a3)
  refine And.intro rfl (And.intro (fun d => ?_) (fun d => ?_))
  · exact And.intro (Or.inl rfl) (h0 M' (fun z => by have := z.2.1; omega) a1 a2 a3)
  refine And.intro rfl (And.intro (fun e => ?_) (fun e => ?_))
  · exact And.intro (Or.inl rfl) (h0 M' (fun z => by have := z.2.2; omega) a1 a2 a3)
  · exact And.intro (Or.inr rfl) (h1 M' ⟨by omega, by omega, by omega⟩ a1 a2 a3)
theorem c_semi (hG : GOK Γ) (hh : TxR M n T) {b : Nat} (hb : b ≤ n) (h3 : M 22 3 = b) (hr : GrR M 12 G) (hw : WFG G) (h1 : RdY Q L M n T (rdSemi T n b G)) (h0 : RdN Q L M n T (rdSemi T n b G)) : wp Γ mX7_stepToSemicolon 0 [some (VR 22)] [] 0 0 (W0 L) M Q := by
  have tb := tok_b (T := T) hb
  refine vc_go hG 60 (B := bX7_stepToSemicolon) rfl ?_
  refine And.intro rfl ?_
  refine c_step hG hh hb h3 (fun M' a1 a2 a3 => ?_)
  obtain ⟨k1, k2, k3, k4⟩ := TkR.g a2
  have hr' : GrR M' 12 G := hr.keep (fun a b1 b2 => a3 a (by omega))
  refine And.intro rfl (And.intro (fun c => ?_) (fun c => ?_))
  · exact And.intro (Or.inl rfl) (h0 M' _ (cit_n (by omega)) a1 k1 ⟨G, hr', hw⟩ (frR_22 a3))
  · exact And.intro (Or.inr rfl) (h1 M' _ _ (cit_y (by omega)) a1 k2 tb.2.2.1 hr' hw (frR_22 a3))
theorem RdY.step {M1 : MM} {R R' : RS} (h : RdY Q L M n T R) (e : R = R') (hf : frR M M1) : RdY Q L M1 n T R' := by
  subst e
  exact fun M' b' G' a1 a2 a3 a4 a5 a6 a7 => h M' b' G' a1 a2 a3 a4 a5 a6 (hf.t a7)
theorem RdN.step {M1 : MM} {R R' : RS} (h : RdN Q L M n T R) (e : R = R') (hf : frR M M1) : RdN Q L M1 n T R' := by
  subst e
  exact fun M' f a1 a2 a3 a4 a5 => h M' f a1 a2 a3 a4 (hf.t a5)
theorem semi1 {M1 : MM} {R R' : RS} (h : RdY Q L M n T R) (e : R = R') (hf : frR M M1) : RdY (fun v w M' => ∃ z : Int, v = some (VI z) ∧ (z = 0 ∨ z = 1) ∧ Q (some (VI z)) w M') L M1 n T R' := by
  subst e
  exact fun M' b' G' a1 a2 a3 a4 a5 a6 a7 => ⟨1, rfl, Or.inr rfl, h M' b' G' a1 a2 a3 a4 a5 a6 (hf.t a7)⟩
theorem c_readLimit (hG : GOK Γ) (hh : TxR M n T) {b : Nat} (hb : b ≤ n) (h3 : M 22 3 = b) (hr : GrR M 12 G) (hw : WFG G) (h1 : RdY Q L M n T (rdLim T n b G)) (h0 : RdN Q L M n T (rdLim T n b G)) : wp Γ mX7_readLimit 0 [some (VR 22), some (VR 12)] [] 0 0 (W0 L) M Q := by
  have tb := tok_b (T := T) hb
  refine vc_go hG 60 (B := bX7_readLimit) rfl ?_
  refine And.intro rfl ?_
  refine c_stepNum hG hh hb h3 (lo := 1) (hi := 9) rfl rfl (fun M' a0 a1 a2 a3 => ?_) (fun M' a0 a1 a2 a3 => ?_)
  · obtain ⟨k1, k2, k3, k4⟩ := TkR.g a2
    have hr' : GrR M' 12 G := hr.keep (fun a b1 b2 => a3 a (by omega))
    refine And.intro (fun c => ?_) (fun c => absurd c (by decide))
    refine And.intro rfl (And.intro rfl (And.intro rfl ?_))
    have hr2 : GrR (upM M' 12 4 (M' 22 5)) 12 (limG G (tN (tok T n b))) := by
      obtain ⟨r1, r2, r3, r4, r5, r6, r7⟩ := hr'
      refine ⟨by rw [upM_k (by decide)]; exact r1, by rw [upM_k (by decide)]; exact r2, by rw [upM_eq]; exact k4, ?_⟩
      rw [upM_ne (by decide), upM_ne (by decide), upM_ne (by decide), upM_ne (by decide), upM_ne (by decide), upM_ne (by decide), upM_ne (by decide), upM_ne (by decide)]
      exact ⟨r4, r5, r6, r7⟩
    have hf2 : frR M (upM M' 12 4 (M' 22 5)) := fun a ha => by rw [upM_ne (by omega)]; exact a3 a (by omega)
    have e : rdLim T n b G = rdSemi T n (tB (tok T n b)) (limG G (tN (tok T n b))) := cit_y a0
    refine c_semi hG (a1.keep (upM_a (by decide)) (upM_ne (by decide))) tb.2.2.1 (by rw [upM_a (by decide)]; exact k2) hr2 (limG_wf hw a0.2) (fun M2 b2 G2 z1 z2 z3 z4 z5 z6 z7 => ?_) (fun M2 f z1 z2 z3 z4 z5 => ?_)
    · exact And.intro (Or.inr rfl) (h1 M2 b2 G2 (e.trans z1) z2 z3 z4 z5 z6 (hf2.t z7))
    · exact And.intro (Or.inl rfl) (h0 M2 f (e.trans z1) z2 z3 z4 (hf2.t z5))
  · obtain ⟨k1, k2, k3, k4⟩ := TkR.g a2
    refine And.intro (fun c => absurd rfl c) (fun c => ?_)
    exact And.intro (Or.inl rfl) (h0 M' _ (cit_n a0) a1 k1 ⟨G, hr.keep (fun a b1 b2 => a3 a (by omega)), hw⟩ (frR_22 a3))
theorem c_readWish (hG : GOK Γ) (hh : TxR M n T) {b : Nat} (hb : b ≤ n) (h3 : M 22 3 = b) (hr : GrR M 12 G) (hw : WFG G) (hm : qm G < 6) (h1 : RdY Q L M n T (rdWsh T n b G)) (h0 : RdN Q L M n T (rdWsh T n b G)) : wp Γ mX7_readWish 0 [some (VR 22), some (VR 12)] [] 0 0 (W0 L) M Q := by
  have tb := tok_b (T := T) hb
  have gl := W0_g12 L
  refine vc_go hG 60 (B := bX7_readWish) rfl ?_
  refine And.intro rfl ?_
  refine c_stepNum hG hh hb h3 (lo := 1) (hi := 1023) rfl rfl (fun M' a0 a1 a2 a3 => ?_) (fun M' a0 a1 a2 a3 => ?_)
  · obtain ⟨k1, k2, k3, k4⟩ := TkR.g a2
    have hr' : GrR M' 12 G := hr.keep (fun a b1 b2 => a3 a (by omega))
    refine And.intro (fun c => absurd c (by decide)) (fun c => ?_)
    refine And.intro rfl (And.intro rfl ?_)
    refine c_placeOf hG gl hr' hw k4 (fun k hk ek => ?_) (fun hno => ?_)
    · refine And.intro (fun d => by omega) (fun d => ?_)
      exact And.intro (Or.inl rfl) (h0 M' _ (cit_n (fun z => z.2 k hk ek)) a1 k1 ⟨G, hr', hw⟩ (frR_22 a3))
    · refine And.intro (fun d => ?_) (fun d => absurd d (by decide))
      refine And.intro rfl (And.intro rfl ?_)
      refine c_wish hG gl hr' hw k4 hm (fun M2 g1 g2 => ?_)
      have hf2 : frR M M2 := fun a ha => by rw [g2 a (by omega)]; exact a3 a (by omega)
      have e : rdWsh T n b G = rdSemi T n (tB (tok T n b)) (wshG G (tN (tok T n b))) := cit_y ⟨a0, hno⟩
      refine And.intro rfl ?_
      refine c_semi hG (a1.keep (by rw [g2 22 (by decide)]) (g2 23 (by decide))) tb.2.2.1 (by rw [g2 22 (by decide)]; exact k2) g1 (wshG_wf hw hm a0.2 hno) (fun M2 b2 G2 z1 z2 z3 z4 z5 z6 z7 => ?_) (fun M2 f z1 z2 z3 z4 z5 => ?_)
      · exact And.intro (Or.inr rfl) (h1 M2 b2 G2 (e.trans z1) z2 z3 z4 z5 z6 (hf2.t z7))
      · exact And.intro (Or.inl rfl) (h0 M2 f (e.trans z1) z2 z3 z4 (hf2.t z5))
  · obtain ⟨k1, k2, k3, k4⟩ := TkR.g a2
    refine And.intro (fun c => ?_) (fun c => absurd rfl c)
    exact And.intro (Or.inl rfl) (h0 M' _ (cit_n (fun z => a0 z.1)) a1 k1 ⟨G, hr.keep (fun a b1 b2 => a3 a (by omega)), hw⟩ (frR_22 a3))
theorem c_readAdder (hG : GOK Γ) (hh : TxR M n T) {b : Nat} (hb : b ≤ n) (h3 : M 22 3 = b) (hr : GrR M 12 G) (hw : WFG G) (hn : qn G < 12) (h1 : RdY Q L M n T (rdA1 T n b G)) (h0 : RdN Q L M n T (rdA1 T n b G)) : wp Γ mX7_readAdder 0 [some (VR 22), some (VR 12)] [] 0 0 (W0 L) M Q := by
  have tb := tok_b (T := T) hb
  have gl := W0_g12 L
  refine vc_go hG 60 (B := bX7_readAdder) rfl ?_
  refine And.intro rfl (And.intro rfl ?_)
  refine c_stepNum hG hh hb h3 (lo := 0) (hi := qn G) rfl hr.1 (fun M1 a0 a1 a2 a3 => ?_) (fun M' a0 a1 a2 a3 => ?_)
  · obtain ⟨k1, k2, k3, k4⟩ := TkR.g a2
    have hr1 : GrR M1 12 G := hr.keep (fun a b1 b2 => a3 a (by omega))
    have e1 : rdA1 T n b G = rdA2 T n (tB (tok T n b)) G (tN (tok T n b)) := cit_y a0
    have hf1 : frR M M1 := frR_22 a3
    refine And.intro (fun c => ?_) (fun c => absurd c (by decide))
    refine And.intro rfl (And.intro rfl ?_)
    have tb2 := tok_b (T := T) tb.2.2.1
    refine c_stepNum hG a1 tb.2.2.1 k2 (lo := 0) (hi := 9) rfl rfl (fun M2 d0 d1 d2 d3 => ?_) (fun M2 d0 d1 d2 d3 => ?_)
    · obtain ⟨l1, l2, l3, l4⟩ := TkR.g d2
      have hr2 : GrR M2 12 G := hr1.keep (fun a b1 b2 => d3 a (by omega))
      have e2 := e1.trans (show rdA2 T n (tB (tok T n b)) G (tN (tok T n b)) = _ from cit_y d0)
      have hf2 : frR M M2 := hf1.t (frR_22 d3)
      refine And.intro (fun c => ?_) (fun c => absurd c (by decide))
      refine And.intro rfl (And.intro rfl (And.intro rfl ?_))
      have tb3 := tok_b (T := T) tb2.2.2.1
      refine c_stepNum hG d1 tb2.2.2.1 l2 (lo := 0) (hi := qn G) rfl hr2.1 (fun M3 f0 f1 f2 f3 => ?_) (fun M3 f0 f1 f2 f3 => ?_)
      · obtain ⟨m1, m2, m3, m4⟩ := TkR.g f2
        have hr3 : GrR M3 12 G := hr2.keep (fun a b1 b2 => f3 a (by omega))
        have e3 := e2.trans (show rdA3 T n (tB (tok T n (tB (tok T n b)))) G (tN (tok T n b)) (tN (tok T n (tB (tok T n b)))) = _ from cit_y f0)
        have hf3 : frR M M3 := hf2.t (frR_22 f3)
        refine And.intro (fun c => ?_) (fun c => absurd c (by decide))
        refine And.intro rfl (And.intro rfl ?_)
        have tb4 := tok_b (T := T) tb3.2.2.1
        refine c_stepNum hG f1 tb3.2.2.1 m2 (lo := 0) (hi := 3) rfl rfl (fun M4 g0 g1 g2 g3 => ?_) (fun M4 g0 g1 g2 g3 => ?_)
        · obtain ⟨n1, n2, n3, n4⟩ := TkR.g g2
          have hr4 : GrR M4 12 G := hr3.keep (fun a b1 b2 => g3 a (by omega))
          have hf4 : frR M M4 := hf3.t (frR_22 g3)
          refine And.intro (fun c => absurd c (by decide)) (fun c => ?_)
          refine And.intro rfl (And.intro rfl ?_)
          refine c_mayBe hG gl hr4 hw k4 l4 m4 n4 a0.2.2 d0.2.2 f0.2.2 g0.2.2 (fun mb => ?_) (fun mb => ?_)
          · refine And.intro (fun c => ?_) (fun c => absurd c (by decide))
            refine And.intro rfl (And.intro rfl ?_)
            refine c_append hG gl hr4 hw k4 l4 m4 n4 a0.2.2 d0.2.2 f0.2.2 g0.2.2 hn mb.2.1 (fun M5 o1 o2 => ?_)
            have hf5 : frR M M5 := fun a ha => by rw [o2 a (by omega)]; exact hf4 a ha
            have e5 := e3.trans (show rdA4 T n _ G _ _ _ = _ from cit_y ⟨g0, mb⟩)
            refine And.intro rfl ?_
            refine c_semi hG (g1.keep (by rw [o2 22 (by decide)]) (o2 23 (by decide))) tb4.2.2.1 (by rw [o2 22 (by decide)]; exact n2) o1 (addG_wf hw a0.2.2 d0.2.2 f0.2.2 g0.2.2 hn mb) (fun M2 b2 G2 z1 z2 z3 z4 z5 z6 z7 => ?_) (fun M2 f z1 z2 z3 z4 z5 => ?_)
            · exact And.intro (Or.inr rfl) (h1 M2 b2 G2 (e5.trans z1) z2 z3 z4 z5 z6 (hf5.t z7))
            · exact And.intro (Or.inl rfl) (h0 M2 f (e5.trans z1) z2 z3 z4 (hf5.t z5))
          · refine And.intro (fun c => absurd rfl c) (fun c => ?_)
            exact And.intro (Or.inl rfl) (h0 M4 _ (e3.trans (cit_n (fun z => mb z.2))) g1 n1 ⟨G, hr4, hw⟩ hf4)
        · obtain ⟨n1, n2, n3, n4⟩ := TkR.g g2
          refine And.intro (fun c => ?_) (fun c => absurd rfl c)
          exact And.intro (Or.inl rfl) (h0 M4 _ (e3.trans (cit_n (fun z => g0 z.1))) g1 n1 ⟨G, hr3.keep (fun a b1 b2 => g3 a (by omega)), hw⟩ (hf3.t (frR_22 g3)))
      · obtain ⟨m1, m2, m3, m4⟩ := TkR.g f2
        refine And.intro (fun c => absurd rfl c) (fun c => ?_)
        exact And.intro (Or.inl rfl) (h0 M3 _ (e2.trans (cit_n f0)) f1 m1 ⟨G, hr2.keep (fun a b1 b2 => f3 a (by omega)), hw⟩ (hf2.t (frR_22 f3)))
    · obtain ⟨l1, l2, l3, l4⟩ := TkR.g d2
      refine And.intro (fun c => absurd rfl c) (fun c => ?_)
      exact And.intro (Or.inl rfl) (h0 M2 _ (e1.trans (cit_n d0)) d1 l1 ⟨G, hr1.keep (fun a b1 b2 => d3 a (by omega)), hw⟩ (hf1.t (frR_22 d3)))
  · obtain ⟨k1, k2, k3, k4⟩ := TkR.g a2
    refine And.intro (fun c => absurd rfl c) (fun c => ?_)
    exact And.intro (Or.inl rfl) (h0 M' _ (cit_n a0) a1 k1 ⟨G, hr.keep (fun a b1 b2 => a3 a (by omega)), hw⟩ (frR_22 a3))
end Text
end
section
/-! ===== the class's Text: items ===== -/
theorem cit_f {c : Prop} {X : RS} {s f n : Nat} (h : cit c X (.inl s) = .inl f) (hs : s ≤ n) (hX : X = .inl f → f ≤ n) : f ≤ n := by
  by_cases q : c
  · rw [cit_y q] at h; exact hX h
  · rw [cit_n q] at h
    have : s = f := Sum.inl.inj h
    omega
theorem cit_s {c : Prop} {X : RS} {s : Nat} {y : Nat × GT} (h : cit c X (.inl s) = .inr y) : c ∧ X = .inr y := by
  by_cases q : c
  · rw [cit_y q] at h; exact ⟨q, h⟩
  · rw [cit_n q] at h; cases h
theorem tok_l {T : Nat → Nat} {n b : Nat} (hb : b ≤ n) : tS (tok T n b) ≤ n ∧ tB (tok T n b) ≤ n ∧ b ≤ tB (tok T n b) := by
  have := tok_b (T := T) hb
  exact ⟨by show (tok T n b).1 ≤ n; omega, this.2.2.1, by show b ≤ (tok T n b).2.1; omega⟩
theorem semi_f {T : Nat → Nat} {n b f : Nat} {G : GT} (hb : b ≤ n) (h : rdSemi T n b G = .inl f) : f ≤ n := cit_f h (tok_l hb).1 (fun z => by cases z)
theorem semi_s {T : Nat → Nat} {n b : Nat} {G : GT} {y : Nat × GT} (hb : b ≤ n) (h : rdSemi T n b G = .inr y) : b < y.1 ∧ y.1 ≤ n ∧ y.2 = G := by
  obtain ⟨h1, h2⟩ := cit_s h
  have t := tok_b (T := T) hb
  have h1 : (tok T n b).2.2.1 = 59 := h1
  have h3 := t.2.2.2.2.1 (by omega)
  have e : (tB (tok T n b), G) = y := Sum.inr.inj h2
  subst e
  exact ⟨by show b < (tok T n b).2.1; omega, t.2.2.1, rfl⟩
theorem lim_f {T : Nat → Nat} {n b f : Nat} {G : GT} (hb : b ≤ n) (h : rdLim T n b G = .inl f) : f ≤ n := cit_f h (tok_l hb).1 (fun z => semi_f (tok_l hb).2.1 z)
theorem wsh_f {T : Nat → Nat} {n b f : Nat} {G : GT} (hb : b ≤ n) (h : rdWsh T n b G = .inl f) : f ≤ n := cit_f h (tok_l hb).1 (fun z => semi_f (tok_l hb).2.1 z)
theorem a4_f {T : Nat → Nat} {n b f : Nat} {G : GT} {p s q : Nat} (hb : b ≤ n) (h : rdA4 T n b G p s q = .inl f) : f ≤ n := cit_f h (tok_l hb).1 (fun z => semi_f (tok_l hb).2.1 z)
theorem a3_f {T : Nat → Nat} {n b f : Nat} {G : GT} {p s : Nat} (hb : b ≤ n) (h : rdA3 T n b G p s = .inl f) : f ≤ n := cit_f h (tok_l hb).1 (fun z => a4_f (tok_l hb).2.1 z)
theorem a2_f {T : Nat → Nat} {n b f : Nat} {G : GT} {p : Nat} (hb : b ≤ n) (h : rdA2 T n b G p = .inl f) : f ≤ n := cit_f h (tok_l hb).1 (fun z => a3_f (tok_l hb).2.1 z)
theorem a1_f {T : Nat → Nat} {n b f : Nat} {G : GT} (hb : b ≤ n) (h : rdA1 T n b G = .inl f) : f ≤ n := cit_f h (tok_l hb).1 (fun z => a2_f (tok_l hb).2.1 z)
theorem lim_s {T : Nat → Nat} {n b : Nat} {G : GT} {y : Nat × GT} (hb : b ≤ n) (h : rdLim T n b G = .inr y) : b < y.1 ∧ y.1 ≤ n := by
  have t := tok_l (T := T) hb
  have := semi_s t.2.1 (cit_s h).2
  omega
theorem wsh_s {T : Nat → Nat} {n b : Nat} {G : GT} {y : Nat × GT} (hb : b ≤ n) (h : rdWsh T n b G = .inr y) : b < y.1 ∧ y.1 ≤ n := by
  have t := tok_l (T := T) hb
  have := semi_s t.2.1 (cit_s h).2
  omega
theorem a4_s {T : Nat → Nat} {n b : Nat} {G : GT} {p s q : Nat} {y : Nat × GT} (hb : b ≤ n) (h : rdA4 T n b G p s q = .inr y) : b < y.1 ∧ y.1 ≤ n := by
  have t := tok_l (T := T) hb
  have := semi_s t.2.1 (cit_s h).2
  omega
theorem a3_s {T : Nat → Nat} {n b : Nat} {G : GT} {p s : Nat} {y : Nat × GT} (hb : b ≤ n) (h : rdA3 T n b G p s = .inr y) : b < y.1 ∧ y.1 ≤ n := by
  have t := tok_l (T := T) hb
  have := a4_s t.2.1 (cit_s h).2
  omega
theorem a2_s {T : Nat → Nat} {n b : Nat} {G : GT} {p : Nat} {y : Nat × GT} (hb : b ≤ n) (h : rdA2 T n b G p = .inr y) : b < y.1 ∧ y.1 ≤ n := by
  have t := tok_l (T := T) hb
  have := a3_s t.2.1 (cit_s h).2
  omega
theorem a1_s {T : Nat → Nat} {n b : Nat} {G : GT} {y : Nat × GT} (hb : b ≤ n) (h : rdA1 T n b G = .inr y) : b < y.1 ∧ y.1 ≤ n := by
  have t := tok_l (T := T) hb
  have := a2_s t.2.1 (cit_s h).2
  omega
theorem item_f {T : Nat → Nat} {n k f : Nat} {t : TK} {G : GT} (hs : tS t ≤ n) (hb : tB t ≤ n) (h : rdItem T n t k G = .inl f) : f ≤ n := by
  unfold rdItem at h
  by_cases q1 : tK t = 108
  · rw [cit_y q1] at h
    exact cit_f h hs (lim_f hb)
  · rw [cit_n q1] at h
    by_cases q2 : tK t = 119
    · rw [cit_y q2] at h
      exact cit_f h hs (wsh_f hb)
    · rw [cit_n q2] at h
      exact cit_f h hs (fun z => cit_f z hs (a1_f hb))
theorem item_s {T : Nat → Nat} {n k : Nat} {t : TK} {G : GT} {y : Nat × GT} (hb : tB t ≤ n) (h : rdItem T n t k G = .inr y) : tB t < y.1 ∧ y.1 ≤ n := by
  unfold rdItem at h
  by_cases q1 : tK t = 108
  · rw [cit_y q1] at h
    exact lim_s hb (cit_s h).2
  · rw [cit_n q1] at h
    by_cases q2 : tK t = 119
    · rw [cit_y q2] at h
      exact wsh_s hb (cit_s h).2
    · rw [cit_n q2] at h
      exact a1_s hb (cit_s (cit_s h).2).2
section Text
variable {Γ : GG} {L : Nat} {M : MM} {Q : QT} {n : Nat} {T : Nat → Nat} {G : GT}
theorem c_readItem (hG : GOK Γ) (hh : TxR M n T) {t : TK} (ht : TkR M t) (hb : tB t ≤ n) {kI : Int} {k : Nat} (ek : kI = k) (hr : GrR M 12 G) (hw : WFG G) (h1 : RdY Q L M n T (rdItem T n t k G)) (h0 : RdN Q L M n T (rdItem T n t k G)) : wp Γ mX7_readItem 0 [some (VR 22), some (VR 12), some (VI kI)] [] 0 0 (W0 L) M Q := by
  subst ek
  obtain ⟨k1, k2, k3, k4⟩ := TkR.g ht
  have fail : rdItem T n t k G = .inl (tS t) → Q (some (VI 0)) (W0 L) M := fun e => h0 M _ e hh k1 ⟨G, hr, hw⟩ (fun a _ => rfl)
  refine vc_go hG 60 (B := bX7_readItem) rfl ?_
  refine And.intro rfl ?_
  refine And.intro (fun x => ?_) (fun x => And.intro (fun x2 => ?_) (fun x2 => And.intro (fun x3 => ?_) (fun x3 => ?_)))
  · have e1 : rdItem T n t k G = cit (qn G < 12) (rdA1 T n (tB t) G) (.inl (tS t)) := (cit_n (by omega)).trans ((cit_n (by omega)).trans (cit_y (by omega)))
    refine And.intro rfl (And.intro (fun y => ?_) (fun y => ?_))
    · exact And.intro (Or.inl rfl) (fail (e1.trans (cit_n (by have := hr.1; omega))))
    · have hn : qn G < 12 := by have := hr.1; omega
      have e2 := e1.trans (cit_y hn)
      refine And.intro rfl ?_
      refine c_readAdder hG hh hb k2 hr hw hn (fun M2 b2 G2 z1 z2 z3 z4 z5 z6 z7 => ?_) (fun M2 f z1 z2 z3 z4 z5 => ?_)
      · exact And.intro (fun c => absurd c (by decide)) (fun c => And.intro (Or.inr rfl) (h1 M2 b2 G2 (e2.trans z1) z2 z3 z4 z5 z6 z7))
      · exact And.intro (fun c => And.intro (Or.inl rfl) (h0 M2 f (e2.trans z1) z2 z3 z4 z5)) (fun c => absurd rfl c)
  · have e1 : rdItem T n t k G = cit (k = 0) (rdLim T n (tB t) G) (.inl (tS t)) := cit_y (by omega)
    refine And.intro (fun y => ?_) (fun y => ?_)
    · exact And.intro (Or.inl rfl) (fail (e1.trans (cit_n (by omega))))
    · have e2 := e1.trans (cit_y (by omega))
      refine And.intro rfl ?_
      refine c_readLimit hG hh hb k2 hr hw (fun M2 b2 G2 z1 z2 z3 z4 z5 z6 z7 => ?_) (fun M2 f z1 z2 z3 z4 z5 => ?_)
      · exact And.intro (fun c => absurd c (by decide)) (fun c => And.intro (Or.inr rfl) (h1 M2 b2 G2 (e2.trans z1) z2 z3 z4 z5 z6 z7))
      · exact And.intro (fun c => And.intro (Or.inl rfl) (h0 M2 f (e2.trans z1) z2 z3 z4 z5)) (fun c => absurd rfl c)
  · have e1 : rdItem T n t k G = cit (qm G < 6) (rdWsh T n (tB t) G) (.inl (tS t)) := (cit_n (by omega)).trans (cit_y (by omega))
    have em := hr.2.1
    refine And.intro rfl (And.intro (fun y => ?_) (fun y => ?_))
    · exact And.intro (Or.inl rfl) (fail (e1.trans (cit_n (by omega))))
    · have hm : qm G < 6 := by omega
      have e2 := e1.trans (cit_y hm)
      refine And.intro rfl ?_
      refine c_readWish hG hh hb k2 hr hw hm (fun M2 b2 G2 z1 z2 z3 z4 z5 z6 z7 => ?_) (fun M2 f z1 z2 z3 z4 z5 => ?_)
      · exact And.intro (fun c => absurd c (by decide)) (fun c => And.intro (Or.inr rfl) (h1 M2 b2 G2 (e2.trans z1) z2 z3 z4 z5 z6 z7))
      · exact And.intro (fun c => And.intro (Or.inl rfl) (h0 M2 f (e2.trans z1) z2 z3 z4 z5)) (fun c => absurd rfl c)
  · refine And.intro (Or.inl rfl) (fail ?_)
    exact (cit_n (by omega)).trans ((cit_n (by omega)).trans (cit_n (by omega)))
theorem l_read (hG : GOK Γ) (R : RS) (h1 : ∀ (M' : MM) (k : Nat) (G' : GT), R = .inr (k, G') → k ≤ 80 → TxR M' n T → GrR M' 12 G' → WFG G' → frR M M' → Q (some (VI k)) (W0 L) M')
    (h0 : ∀ (M' : MM) (f : Nat), R = .inl f → f ≤ 80 → TxR M' n T → (∃ G', GrR M' 12 G' ∧ WFG G') → frR M M' → Q (some (VI (-10 - (f : Int)))) (W0 L) M') :
    ∀ (j k : Nat) (t : TK) (G : GT) (M1 : MM), k + j = 80 → TxR M1 n T → TkR M1 t → tS t ≤ n → tB t ≤ n → GrR M1 12 G → WFG G → frR M M1 → rdAll T n j k t G = R → wp Γ mX7_read 15 [some (VR 22), some (VR 12), some (VI k)] [] 0 0 (W0 L) M1 Q := by
  intro j
  induction j with
  | zero =>
    intro k t G M1 hj hh ht hs hb hr hw hf hR
    refine vc_go hG 60 (B := bX7_read) rfl ?_
    exact And.intro (fun a => h1 M1 k G hR.symm (by omega) hh hr hw hf) (fun a => by omega)
  | succ j ih =>
    intro k t G M1 hj hh ht hs hb hr hw hf hR
    obtain ⟨k1, k2, k3, k4⟩ := TkR.g ht
    have er : rdAll T n (j + 1) k t G = cit (tK t = -1) (.inr (k, G)) (match rdItem T n t k G with
      | .inl f => .inl f
      | .inr bg => rdAll T n j (k + 1) (tok T n bg.1) bg.2) := rfl
    rw [er] at hR
    refine vc_go hG 60 (B := bX7_read) rfl ?_
    refine And.intro (fun a => by omega) (fun a => ?_)
    refine And.intro rfl (And.intro (fun c => ?_) (fun c => ?_))
    · rw [cit_y (by omega)] at hR
      exact h1 M1 k G hR.symm (by omega) hh hr hw hf
    · rw [cit_n (by omega)] at hR
      refine And.intro rfl ?_
      refine c_readItem hG hh ht hb rfl hr hw (fun M2 b2 G2 z1 z2 z3 z4 z5 z6 z7 => ?_) (fun M2 f z1 z2 z3 z4 z5 => ?_)
      · rw [z1] at hR
        refine And.intro (fun d => ?_) (fun d => absurd d (by decide))
        refine And.intro (by omega) ?_
        refine And.intro rfl ?_
        have tb := tok_b (T := T) z4
        refine c_step hG z2 z4 z3 (fun M3 y1 y2 y3 => ?_)
        exact ih (k + 1) (tok T n b2) G2 M3 (by omega) y1 y2 (Nat.le_trans tb.2.1 tb.2.2.1) tb.2.2.1 (z5.keep (fun a b1 b2 => y3 a (by omega))) z6 ((hf.t z7).t (frR_22 y3)) hR
      · rw [z1] at hR
        refine And.intro (fun d => absurd rfl d) (fun d => ?_)
        have tb : tS t ≤ n := hs
        have fb : f ≤ n := item_f tb hb z1
        have n80 := z2.2.1
        refine And.intro rfl (And.intro (by omega) ?_)
        rw [z3]
        exact h0 M2 f hR.symm (by omega) z2 z4 (hf.t z5)
theorem c_read (hG : GOK Γ) (hh : TxR M n T) (hg : ∃ G, GrR M 12 G ∧ WFG G) (h1 : ∀ (M' : MM) (k : Nat) (G' : GT), rdAll T n 80 0 (tok T n 0) E6 = .inr (k, G') → k ≤ 80 → TxR M' n T → GrR M' 12 G' → WFG G' → frR M M' → Q (some (VI k)) (W0 L) M')
    (h0 : ∀ (M' : MM) (f : Nat), rdAll T n 80 0 (tok T n 0) E6 = .inl f → f ≤ 80 → TxR M' n T → (∃ G', GrR M' 12 G' ∧ WFG G') → frR M M' → Q (some (VI (-10 - (f : Int)))) (W0 L) M') : wp Γ mX7_read 0 [some (VR 22), some (VR 12)] [] 0 0 (W0 L) M Q := by
  obtain ⟨G, hr, hw⟩ := hg
  have gl := W0_g12 L
  refine vc_go hG 60 (B := bX7_read) rfl ?_
  refine And.intro rfl ?_
  refine c_empty hG gl hr (fun M1 g1 g2 => ?_)
  have r1 : GrR M1 12 E6 := GrR_E6 g1 (empG_wf hw) g1.1 g1.2.1 g1.2.2.1
  refine And.intro rfl ?_
  refine And.intro rfl ?_
  have tb := tok_b (T := T) (Nat.zero_le n)
  refine c_step hG (n := n) (T := T) (b := 0) (hh.keep (by rw [upM_k (by decide), g2 22 (by decide)]) (by rw [upM_ne (by decide), g2 23 (by decide)])) (Nat.zero_le _) upM_eq (fun M2 y1 y2 y3 => ?_)
  refine l_read hG _ h1 h0 80 0 (tok T n 0) E6 M2 rfl y1 y2 (Nat.le_trans tb.2.1 tb.2.2.1) tb.2.2.1 (r1.keep (fun a b1 b2 => by rw [y3 a (by omega), upM_ne (by omega)])) E6_wf (fun a ha => by rw [y3 a (by omega), upM_ne (by omega), g2 a (by omega)]) rfl
end Text
end
section
/-! ===== the class: what is there ===== -/
abbrev ST : Type := GT × (Nat × (Nat → Nat)) × (Nat × (Nat → GT)) × ((Nat → Nat) × (Nat → GT)) × (Nat × (Nat → Nat) × (Nat → Nat))
abbrev sG (S : ST) : GT := S.1
abbrev sn (S : ST) : Nat := S.2.1.1
abbrev sT (S : ST) : Nat → Nat := S.2.1.2
abbrev sk (S : ST) : Nat := S.2.2.1.1
abbrev sH (S : ST) : Nat → GT := S.2.2.1.2
abbrev sx (S : ST) : Nat → Nat := S.2.2.2.1.1
abbrev sI (S : ST) : Nat → GT := S.2.2.2.1.2
abbrev su (S : ST) : Nat := S.2.2.2.2.1
abbrev sM (S : ST) : Nat → Nat := S.2.2.2.2.2.1
abbrev sR (S : ST) : Nat → Nat := S.2.2.2.2.2.2
def CR (M : MM) (S : ST) : Prop := GrR M 2 (sG S) ∧ WFG (sG S) ∧ TxR M (sn S) (sT S) ∧ HsR M (sk S) (sH S) ∧ ImR M (sx S) (sI S) ∧ SnR M (su S) (sM S) (sR S) ∧ (∃ G, GrR M 12 G ∧ WFG G) ∧ (∃ G, GrR M 171 G ∧ WFG G) ∧
  ((M 1 9 = 0 ∧ NrF M 153 (sG S)) ∨ M 1 9 = 1) ∧ ((M 1 10 = 0 ∧ ∃ H, isPl (sG S) H ∧ WFG H ∧ GrR M 157 H ∧ M 156 2 = qn (sG S)) ∨ M 1 10 = 1)
def frC (M M' : MM) : Prop := ∀ a, a < 1 ∨ 186 < a → M' a = M a
theorem frC.t {M M' M2 : MM} (h1 : frC M M') (h2 : frC M' M2) : frC M M2 := fun a ha => (h2 a ha).trans (h1 a ha)
theorem frC_r (M : MM) : frC M M := fun _ _ => rfl
def Out (Q : QT) (L : Nat) (M : MM) (rs : Int × ST) : Prop := ∀ M', CR M' rs.2 → frC M M' → Q (some (VI rs.1)) (W0 L) M'
theorem Out.go {Q : QT} {L : Nat} {M M' : MM} {rs : Int × ST} {r : Int} {S' : ST} (h : Out Q L M rs) (e : rs = (r, S')) {x : Int} (hx : x = r) (hc : CR M' S') (hf : frC M M') : Q (some (VI x)) (W0 L) M' := by
  subst e hx
  exact h M' hc hf
theorem ImR.fr {M M' : MM} {ik : Nat → Nat} {Im : Nat → GT} (h : ImR M ik Im) (hf : ∀ a, 128 ≤ a → a ≤ 148 → M' a = M a) : ImR M' ik Im := by
  intro i hi
  obtain ⟨h1, h2, h3⟩ := h i hi
  refine ⟨by rw [hf 128 (by omega) (by omega)]; exact h1, h2, fun z => ⟨(h3 z).1.keep (fun a a1 a2 => hf a (by omega) (by omega)), (h3 z).2⟩⟩
/-- all but now, told, text, history, and what was found of it -/
theorem GrR_lim {M : MM} {g : Nat} {G : GT} (hr : GrR M g G) {l : Nat} {x : Int} (hx : x = l) : GrR (upM M g 4 x) g (limG G l) := by
  obtain ⟨r1, r2, r3, r4, r5, r6, r7⟩ := hr
  refine ⟨by rw [upM_k (by decide)]; exact r1, by rw [upM_k (by decide)]; exact r2, by rw [upM_eq]; exact hx, ?_⟩
  rw [upM_ne (by omega), upM_ne (by omega), upM_ne (by omega), upM_ne (by omega), upM_ne (by omega), upM_ne (by omega), upM_ne (by omega), upM_ne (by omega)]
  exact ⟨r4, r5, r6, r7⟩
theorem GrR_tk {M : MM} {g : Nat} {G : GT} (hr : GrR M g G) {x : Int} (hx : x = ((qn G - 1 : Nat) : Int)) : GrR (upM M g 2 x) g (tkG G) := by
  obtain ⟨r1, r2, r3, r4, r5, r6, r7⟩ := hr
  refine ⟨by rw [upM_eq]; exact hx, by rw [upM_k (by decide)]; exact r2, by rw [upM_k (by decide)]; exact r3, ?_⟩
  rw [upM_ne (by omega), upM_ne (by omega), upM_ne (by omega), upM_ne (by omega), upM_ne (by omega), upM_ne (by omega), upM_ne (by omega), upM_ne (by omega)]
  exact ⟨fun k hk => r4 k (by have : k ≤ qn G - 1 := hk; omega), r5, fun k hk => r6 k (by have : k < qn G - 1 := hk; omega), r7⟩
def push (S : ST) (G' : GT) : ST := (G', S.2.1, (min (sk S + 1) 10, csH (sG S) (sH S)), S.2.2.2)
theorem CR_push {M M1 M2 : MM} {S : ST} {G' : GT} (hc : CR M S) (h1 : HsR M1 (min (sk S + 1) 10) (csH (sG S) (sH S))) (f1 : ∀ a, a < 24 ∨ 125 < a → M1 a = M a) (g : GrR M2 2 G') (hw : WFG G') (f2 : frG M1 M2 2) : CR (upM (upM M2 1 9 1) 1 10 1) (push S G') ∧ frC M (upM (upM M2 1 9 1) 1 10 1) := by
  obtain ⟨c1, c2, c3, c4, c5, c6, ⟨G7, c7, c7'⟩, ⟨G8, c8, c8'⟩, c9, c10⟩ := hc
  have u : ∀ a, a ≠ 1 → upM (upM M2 1 9 1) 1 10 1 a = M2 a := fun a ha => by rw [upM_ne ha, upM_ne ha]
  have f : ∀ a, a ≠ 1 → 11 < a → (a < 24 ∨ 125 < a) → upM (upM M2 1 9 1) 1 10 1 a = M a := fun a ha hb hd => by rw [u a ha, f2 a (by omega), f1 a hd]
  refine ⟨⟨g.keep (fun a a1 a2 => u a (by omega)), hw, ?_, ?_, ?_, ?_, ⟨G7, c7.keep (fun a a1 a2 => f a (by omega) (by omega) (by omega)), c7'⟩, ⟨G8, c8.keep (fun a a1 a2 => f a (by omega) (by omega) (by omega)), c8'⟩, Or.inr (by rw [upM_k (by decide), upM_eq]), Or.inr upM_eq⟩, fun a ha => ?_⟩
  · exact c3.keep (by rw [f 22 (by omega) (by omega) (by omega)]) (f 23 (by omega) (by omega) (by omega))
  · exact h1.keep (fun a a1 a2 => by rw [u a (by omega), f2 a (by omega)])
  · exact c5.fr (fun a a1 a2 => f a (by omega) (by omega) (by omega))
  · exact c6.keep (fun a a1 a2 => f a (by omega) (by omega) (by omega))
  · by_cases q : a = 0
    · subst q
      rw [u 0 (by decide), f2 0 (by decide), f1 0 (by decide)]
    · exact f a (by omega) (by omega) (by omega)
def inB (x : Int) (n : Nat) : Prop := 0 ≤ x ∧ x ≤ n
noncomputable def fAdds (S : ST) (p s q f : Int) : Int × ST := cit (inB p (qn (sG S)) ∧ inB q (qn (sG S)) ∧ inB s 9 ∧ inB f 3)
  (cit (mayB (sG S) p.toNat s.toNat q.toNat f.toNat) (cit (qn (sG S) < 12) ((odp (cms (qV (sG S) p.toNat) s.toNat (qV (sG S) q.toNat) f.toNat) : Nat), push S (addG (sG S) p.toNat s.toNat q.toNat f.toNat)) (-3, S)) (-2, S)) (-1, S)
noncomputable def fTakes (S : ST) : Int × ST := cit (qn (sG S) = 0) (-2, S) ((qV (sG S) (qn (sG S)) : Nat), push S (tkG (sG S)))
def plc (C : Nat → Nat) (c : Nat) : Nat → Nat
  | 0 => 0
  | m + 1 => if plc C c m < m then plc C c m else if C m = c then m else m + 1
theorem plc_no {C : Nat → Nat} {c : Nat} : ∀ {m : Nat}, (∀ k, k < m → C k ≠ c) → plc C c m = m
  | 0, _ => rfl
  | m + 1, h => by
    have := plc_no (C := C) (c := c) (m := m) (fun k hk => h k (by omega))
    show (if plc C c m < m then plc C c m else if C m = c then m else m + 1) = m + 1
    rw [if_neg (by omega), if_neg (h m (by omega))]
theorem plc_eq {C : Nat → Nat} {c k : Nat} : ∀ {m : Nat}, k < m → C k = c → (∀ i, i < m → C i = c → i = k) → plc C c m = k
  | 0, h, _, _ => by omega
  | m + 1, h, hk, hu => by
    show (if plc C c m < m then plc C c m else if C m = c then m else m + 1) = k
    by_cases q : k = m
    · subst q
      have := plc_no (C := C) (c := c) (m := k) (fun i hi e => by have := hu i (by omega) e; omega)
      rw [if_neg (by omega), if_pos hk]
    · have := plc_eq (C := C) (c := c) (k := k) (m := m) (by omega) hk (fun i hi => hu i (by omega))
      rw [if_pos (by omega)]
      exact this
noncomputable def fWish (S : ST) (c : Int) : Int × ST := cit (1 ≤ c ∧ c ≤ 1023) (cit (plc (qC (sG S)) c.toNat (qm (sG S)) < qm (sG S)) ((qm (sG S) : Int) - 1, push S (drpG (sG S) (plc (qC (sG S)) c.toNat (qm (sG S)))))
  (cit (qm (sG S) < 6) ((qm (sG S) : Int) + 1, push S (wshG (sG S) c.toNat)) (-3, S))) (-1, S)
noncomputable def fLim (S : ST) (l : Int) : Int × ST := cit (1 ≤ l ∧ l ≤ 9) (cit (((mxD (qD (sG S)) (qn (sG S) + 1) : Nat) : Int) ≤ l) ((qL (sG S) : Nat), push S (limG (sG S) l.toNat)) (-2, S)) (-1, S)
noncomputable def fUndo (S : ST) : Int × ST := cit (sk S = 0) (-2, S) ((sk S : Int) - 1, (sH S 0, S.2.1, (sk S - 1, fun i => sH S (i + 1)), S.2.2.2))
section Cls
variable {Γ : GG} {L : Nat} {M : MM} {Q : QT} {S : ST}
theorem c_changed (hG : GOK Γ) (h : Q none (W0 L) (upM (upM M 1 9 1) 1 10 1)) : wp Γ mX9_changed 0 [some (VR 1)] [] 0 0 (W0 L) M Q := by
  refine vc_go hG 60 (B := bX9_changed) rfl ?_
  exact And.intro rfl (And.intro (Or.inr rfl) (And.intro rfl (And.intro (Or.inr rfl) h)))
theorem x_adds (hG : GOK Γ) (hc : CR M S) {p s q f : Int} (h : Out Q L M (fAdds S p s q f)) : wp Γ mX9_adds 0 [some (VR 1), some (VI p), some (VI s), some (VI q), some (VI f)] [] 0 0 (W0 L) M Q := by
  have gl := W0_g2 L
  obtain ⟨c1, c2, -, c4, -⟩ := id hc
  have bad : ¬ (inB p (qn (sG S)) ∧ inB q (qn (sG S)) ∧ inB s 9 ∧ inB f 3) → Q (some (VI (-1))) (W0 L) M := fun z => h.go (cit_n z) rfl hc (frC_r M)
  refine vc_go hG 60 (B := bX9_adds) rfl ?_
  refine And.intro rfl (Exists.intro _ (And.intro rfl (And.intro rfl ?_)))
  refine c_isThere hG gl c1 (fun z1 => ?_) (fun z1 => And.intro (fun _ => bad (fun z => z1 z.1)) (fun c => absurd rfl c))
  refine And.intro (fun c => absurd c (by decide)) (fun c => ?_)
  refine And.intro rfl (Exists.intro _ (And.intro rfl (And.intro rfl ?_)))
  refine c_isThere hG gl c1 (fun z2 => ?_) (fun z2 => And.intro (fun _ => bad (fun z => z2 z.2.1)) (fun c => absurd rfl c))
  refine And.intro (fun c => absurd c (by decide)) (fun c => ?_)
  refine And.intro (fun y => bad (fun z => by have := z.2.2.1.1; omega)) (fun y3 => ?_)
  refine And.intro (fun y => bad (fun z => by have := z.2.2.1.2; omega)) (fun y4 => ?_)
  refine And.intro (fun y => bad (fun z => by have := z.2.2.2.1; omega)) (fun y5 => ?_)
  refine And.intro (fun y6 => ?_) (fun y => bad (fun z => by have := z.2.2.2.2; omega))
  have e1 : fAdds S p s q f = _ := cit_y ⟨z1, z2, ⟨y3, y4⟩, ⟨y5, by omega⟩⟩
  have ep : p = (p.toNat : Int) := by omega
  have es : s = (s.toNat : Int) := by omega
  have eq : q = (q.toNat : Int) := by omega
  have ef : f = (f.toNat : Int) := by omega
  have bp : p.toNat ≤ qn (sG S) := by omega
  have bq : q.toNat ≤ qn (sG S) := by omega
  have bs : s.toNat ≤ 9 := by omega
  have bf : f.toNat ≤ 3 := by omega
  refine And.intro rfl (Exists.intro _ (And.intro rfl (And.intro rfl ?_)))
  refine c_mayBe hG gl c1 c2 ep es eq ef bp bs bq bf (fun mb => ?_) (fun mb => And.intro (fun c => absurd rfl c) (fun c => h.go (e1.trans (cit_n mb)) rfl hc (frC_r M)))
  refine And.intro (fun c => ?_) (fun c => absurd c (by decide))
  have n1 := c1.1
  refine And.intro rfl (Exists.intro _ (And.intro rfl (And.intro rfl (And.intro (fun x => ?_) (fun x => h.go (e1.trans ((cit_y mb).trans (cit_n (by omega)))) rfl hc (frC_r M))))))
  have hn : qn (sG S) < 12 := by omega
  have e3 := e1.trans ((cit_y mb).trans (cit_y hn))
  refine And.intro rfl (Exists.intro _ (And.intro rfl (And.intro rfl (Exists.intro _ (And.intro rfl (And.intro rfl ?_))))))
  refine c_remember hG c4 c1 c2 (fun M1 h1 f1 => ?_)
  refine And.intro rfl (Exists.intro _ (And.intro rfl (And.intro rfl ?_)))
  refine c_append hG gl (c1.keep (fun a a1 a2 => f1 a (by omega))) c2 ep es eq ef bp bs bq bf hn mb.2.1 (fun M2 g1 g2 => ?_)
  refine And.intro rfl ?_
  have hw := addG_wf c2 bp bs bq bf hn mb
  have cp := CR_push hc h1 f1 g1 hw g2
  refine c_changed hG ?_
  refine And.intro rfl (Exists.intro _ (And.intro rfl (And.intro rfl (Exists.intro _ (And.intro rfl (And.intro rfl (And.intro rfl ?_)))))))
  refine c_value hG gl cp.1.1 hw (k := qn (sG S) + 1) cp.1.1.1 (Nat.le_refl _) ?_
  exact h.go e3 (by show ((upN _ _ _ _ : Nat) : Int) = _; rw [upN_eq]) cp.1 cp.2
theorem x_takes (hG : GOK Γ) (hc : CR M S) (h : Out Q L M (fTakes S)) : wp Γ mX9_takes 0 [some (VR 1)] [] 0 0 (W0 L) M Q := by
  have gl := W0_g2 L
  obtain ⟨c1, c2, -, c4, -⟩ := id hc
  have n1 := c1.1
  have n12 := c2.1
  refine vc_go hG 60 (B := bX9_takes) rfl ?_
  refine And.intro rfl (Exists.intro _ (And.intro rfl (And.intro rfl (And.intro (fun x => ?_) (fun x => h.go (cit_y (by omega)) rfl hc (frC_r M))))))
  have e3 : fTakes S = _ := cit_n (by omega)
  refine And.intro rfl (Exists.intro _ (And.intro rfl (And.intro rfl (Exists.intro _ (And.intro rfl (And.intro rfl ?_))))))
  refine c_remember hG c4 c1 c2 (fun M1 h1 f1 => ?_)
  have c1' : GrR M1 2 (sG S) := c1.keep (fun a a1 a2 => f1 a (by omega))
  refine And.intro rfl (Exists.intro _ (And.intro rfl (And.intro rfl (Exists.intro _ (And.intro rfl (And.intro rfl (And.intro rfl ?_)))))))
  refine c_value hG gl c1' c2 (k := qn (sG S)) c1'.1 (Nat.le_refl _) ?_
  refine And.intro rfl (Exists.intro _ (And.intro rfl (And.intro rfl (And.intro (by rw [c1'.1]; omega) (And.intro rfl ?_)))))
  refine And.intro rfl ?_
  have cp := CR_push hc h1 f1 (GrR_tk c1' (x := M1 2 2 - 1) (by rw [c1'.1]; omega)) (tkG_wf c2) (fun a ha => upM_ne (by omega))
  refine c_changed hG ?_
  exact h.go e3 rfl cp.1 cp.2
theorem x_wishes (hG : GOK Γ) (hc : CR M S) {c : Int} (h : Out Q L M (fWish S c)) : wp Γ mX9_wishes 0 [some (VR 1), some (VI c)] [] 0 0 (W0 L) M Q := by
  have gl := W0_g2 L
  obtain ⟨c1, c2, -, c4, -⟩ := id hc
  have m1 := c1.2.1
  have m6 := c2.2.1
  refine vc_go hG 60 (B := bX9_wishes) rfl ?_
  refine And.intro (fun y => h.go (cit_n (by omega)) rfl hc (frC_r M)) (fun y => ?_)
  refine And.intro (fun y2 => ?_) (fun y2 => h.go (cit_n (by omega)) rfl hc (frC_r M))
  have e1 : fWish S c = _ := cit_y ⟨y, y2⟩
  have ec : c = (c.toNat : Int) := by omega
  refine And.intro rfl (Exists.intro _ (And.intro rfl (And.intro rfl ?_)))
  refine c_placeOf hG gl c1 c2 ec (fun k hk ek => ?_) (fun hno => ?_)
  · have ep : plc (qC (sG S)) c.toNat (qm (sG S)) = k := plc_eq hk ek (fun i hi e => c2.2.2.2.2.2.2.2 i k hi hk (e.trans ek.symm))
    rw [ep] at e1
    have e2 := e1.trans (cit_y hk)
    refine And.intro (fun x => ?_) (fun x => by omega)
    refine And.intro rfl (Exists.intro _ (And.intro rfl (And.intro rfl (Exists.intro _ (And.intro rfl (And.intro rfl ?_))))))
    refine c_remember hG c4 c1 c2 (fun M1 h1 f1 => ?_)
    refine And.intro (fun x => ?_) (fun x => by omega)
    refine And.intro rfl (Exists.intro _ (And.intro rfl (And.intro rfl ?_)))
    refine c_dropWish hG gl (c1.keep (fun a a1 a2 => f1 a (by omega))) c2 rfl hk (fun M2 g1 g2 => ?_)
    have cp := CR_push hc h1 f1 g1 (drpG_wf c2 hk) g2
    refine And.intro rfl ?_
    refine c_changed hG ?_
    refine And.intro rfl (Exists.intro _ (And.intro rfl (And.intro rfl ?_)))
    exact h.go e2 (cp.1.1.2.1.trans (by show ((qm (sG S) - 1 : Nat) : Int) = _; omega)) cp.1 cp.2
  · have ep : plc (qC (sG S)) c.toNat (qm (sG S)) = qm (sG S) := plc_no hno
    rw [ep] at e1
    have e2 := e1.trans (cit_n (Nat.lt_irrefl _))
    refine And.intro (fun x => absurd x (by decide)) (fun x => ?_)
    refine And.intro rfl (Exists.intro _ (And.intro rfl (And.intro rfl (And.intro (fun x => ?_) (fun x => h.go (e2.trans (cit_n (by omega))) rfl hc (frC_r M))))))
    have hm : qm (sG S) < 6 := by omega
    have e3 := e2.trans (cit_y hm)
    refine And.intro rfl (Exists.intro _ (And.intro rfl (And.intro rfl (Exists.intro _ (And.intro rfl (And.intro rfl ?_))))))
    refine c_remember hG c4 c1 c2 (fun M1 h1 f1 => ?_)
    refine And.intro (fun x => absurd x (by decide)) (fun x => ?_)
    refine And.intro rfl (Exists.intro _ (And.intro rfl (And.intro rfl ?_)))
    refine c_wish hG gl (c1.keep (fun a a1 a2 => f1 a (by omega))) c2 ec hm (fun M2 g1 g2 => ?_)
    have cp := CR_push hc h1 f1 g1 (wshG_wf c2 hm (by omega) hno) g2
    refine And.intro rfl ?_
    refine c_changed hG ?_
    refine And.intro rfl (Exists.intro _ (And.intro rfl (And.intro rfl ?_)))
    exact h.go e3 (cp.1.1.2.1.trans (by show ((qm (sG S) + 1 : Nat) : Int) = _; omega)) cp.1 cp.2
theorem x_limits (hG : GOK Γ) (hc : CR M S) {l : Int} (h : Out Q L M (fLim S l)) : wp Γ mX9_limits 0 [some (VR 1), some (VI l)] [] 0 0 (W0 L) M Q := by
  have gl := W0_g2 L
  obtain ⟨c1, c2, -, c4, -⟩ := id hc
  refine vc_go hG 60 (B := bX9_limits) rfl ?_
  refine And.intro (fun y => h.go (cit_n (by omega)) rfl hc (frC_r M)) (fun y => ?_)
  refine And.intro (fun y2 => ?_) (fun y2 => h.go (cit_n (by omega)) rfl hc (frC_r M))
  have e1 : fLim S l = _ := cit_y ⟨y, y2⟩
  refine And.intro rfl (Exists.intro _ (And.intro rfl (And.intro rfl ?_)))
  refine c_greatest hG gl c1 c2 ?_
  refine And.intro (fun x => ?_) (fun x => h.go (e1.trans (cit_n (by omega))) rfl hc (frC_r M))
  have e2 := e1.trans (cit_y x)
  refine And.intro rfl (Exists.intro _ (And.intro rfl (And.intro rfl (Exists.intro _ (And.intro rfl (And.intro rfl ?_))))))
  refine c_remember hG c4 c1 c2 (fun M1 h1 f1 => ?_)
  have c1' : GrR M1 2 (sG S) := c1.keep (fun a a1 a2 => f1 a (by omega))
  refine And.intro rfl (Exists.intro _ (And.intro rfl (And.intro rfl ?_)))
  refine And.intro rfl (Exists.intro _ (And.intro rfl (And.intro rfl ?_)))
  refine And.intro rfl ?_
  have cp := CR_push hc h1 f1 (GrR_lim c1' (x := l) (l := l.toNat) (by omega)) (limG_wf c2 (by omega)) (fun a ha => upM_ne (by omega))
  refine c_changed hG ?_
  exact h.go e2 c1'.2.2.1 cp.1 cp.2
theorem x_undo (hG : GOK Γ) (hc : CR M S) (h : Out Q L M (fUndo S)) : wp Γ mX9_undo 0 [some (VR 1)] [] 0 0 (W0 L) M Q := by
  obtain ⟨c1, c2, c3, c4, c5, c6, ⟨G7, c7, c7'⟩, ⟨G8, c8, c8'⟩, c9, c10⟩ := id hc
  obtain ⟨r, r1, r2, r3, r4, r5⟩ := id c4
  refine vc_go hG 60 (B := bX9_undo) rfl ?_
  refine And.intro rfl (Exists.intro _ (And.intro rfl (And.intro rfl (And.intro (fun x => ?_) (fun x => h.go (cit_y (by omega)) rfl hc (frC_r M))))))
  have e1 : fUndo S = _ := cit_n (by omega)
  refine And.intro rfl (Exists.intro _ (And.intro rfl (And.intro rfl (Exists.intro _ (And.intro rfl (And.intro rfl ?_))))))
  refine c_restore hG c4 (by omega) (fun M1 h1 g1 f1 => ?_)
  refine And.intro rfl ?_
  refine c_changed hG ?_
  have u : ∀ a, a ≠ 1 → upM (upM M1 1 9 1) 1 10 1 a = M1 a := fun a ha => by rw [upM_ne ha, upM_ne ha]
  have f : ∀ a, a ≠ 1 → 11 < a → a ≠ 24 → upM (upM M1 1 9 1) 1 10 1 a = M a := fun a ha hb hd => by rw [u a ha, f1 a (by omega)]
  refine And.intro rfl (Exists.intro _ (And.intro rfl (And.intro rfl ?_)))
  have h1' : HsR (upM (upM M1 1 9 1) 1 10 1) (sk S - 1) (fun i => sH S (i + 1)) := h1.keep (fun a a1 a2 => u a (by omega))
  obtain ⟨r', -, -, q3, -⟩ := id h1'
  refine h.go e1 (by rw [q3]; omega) ⟨g1.keep (fun a a1 a2 => u a (by omega)), (r5 0 (by omega)).2, ?_, h1', ?_, ?_, ⟨G7, c7.keep (fun a a1 a2 => f a (by omega) (by omega) (by omega)), c7'⟩, ⟨G8, c8.keep (fun a a1 a2 => f a (by omega) (by omega) (by omega)), c8'⟩, Or.inr (by rw [upM_k (by decide), upM_eq]), Or.inr upM_eq⟩ (fun a ha => ?_)
  · exact c3.keep (by rw [f 22 (by omega) (by omega) (by omega)]) (f 23 (by omega) (by omega) (by omega))
  · exact c5.fr (fun a a1 a2 => f a (by omega) (by omega) (by omega))
  · exact c6.keep (fun a a1 a2 => f a (by omega) (by omega) (by omega))
  · by_cases q : a = 0
    · subst q
      rw [u 0 (by decide), f1 0 (by decide)]
    · exact f a (by omega) (by omega) (by omega)
end Cls
end
section
/-! ===== the class: text, images, seen, counts ===== -/
theorem n9k {M M' : MM} {G : GT} (h : (M 1 9 = 0 ∧ NrF M 153 G) ∨ M 1 9 = 1) (f1 : M' 1 = M 1) (f2 : M' 154 = M 154) (f3 : M' 155 = M 155) : (M' 1 9 = 0 ∧ NrF M' 153 G) ∨ M' 1 9 = 1 := by
  rw [f1]
  exact h.imp (fun z => ⟨z.1, NrT.keep z.2 f2 f3⟩) id
theorem p10k {M M' : MM} {G : GT} (h : (M 1 10 = 0 ∧ ∃ H, isPl G H ∧ WFG H ∧ GrR M 157 H ∧ M 156 2 = qn G) ∨ M 1 10 = 1) (f1 : M' 1 = M 1) (hf : ∀ a, 156 ≤ a → a ≤ 166 → M' a = M a) : (M' 1 10 = 0 ∧ ∃ H, isPl G H ∧ WFG H ∧ GrR M' 157 H ∧ M' 156 2 = qn G) ∨ M' 1 10 = 1 := by
  rw [f1]
  refine h.imp (fun z => ⟨z.1, ?_⟩) id
  obtain ⟨-, H, z1, z2, z3, z4⟩ := z
  exact ⟨H, z1, z2, z3.keep (fun a a1 a2 => hf a (by omega) (by omega)), by rw [hf 156 (by omega) (by omega)]; exact z4⟩
noncomputable def fType (S : ST) (l : Int) : Int × ST := cit (inB l 255) (cit (sn S < 80) ((sn S : Int) + 1, (sG S, (sn S + 1, upN (sT S) (sn S) l.toNat), S.2.2)) (-3, S)) (-1, S)
def fClear (S : ST) : Int × ST := ((sn S : Int), (sG S, (0, sT S), S.2.2))
noncomputable def fGraph (S : ST) : Int × ST := match rdAll (sT S) (sn S) 80 0 (tok (sT S) (sn S) 0) E6 with
  | .inl f => (-10 - (f : Int), S)
  | .inr kg => ((kg.1 : Int), (kg.2, (0, sT S), (0, sH S), (fun _ => 0, sI S), (0, sM S, sR S)))
def oddF (G : GT) (k w : Nat) : Int := if w = 0 then (qV G k : Int) else if w = 1 then (qD G k : Int) else if k = 0 then (if w = 6 then 0 else -9) else if w = 2 then (qP G (k - 1) : Int) else if w = 3 then (qQ G (k - 1) : Int) else if w = 4 then (qS G (k - 1) : Int) else if w = 5 then (qF G (k - 1) : Int) else (hv (qX G (k - 1)) : Int)
noncomputable def fOdd (S : ST) (k w : Int) : Int × ST := cit (inB k (qn (sG S)) ∧ inB w 6) (oddF (sG S) k.toNat w.toNat, S) (-1, S)
noncomputable def fWanted (S : ST) (k w : Int) : Int × ST := cit ((0 ≤ k ∧ k < qm (sG S)) ∧ inB w 1) (cit (w = 0) ((qC (sG S) k.toNat : Int), S) (cit (isMt (sG S) (qC (sG S) k.toNat)) (1, S) (0, S))) (-1, S)
noncomputable def fSees (S : ST) (m r : Int) : Int × ST := cit ((2 ≤ m ∧ m ≤ 9) ∧ 0 ≤ r ∧ r < m) (cit (su S < 6) ((su S : Int) + 1, (sG S, S.2.1, S.2.2.1, S.2.2.2.1, (su S + 1, upN (sM S) (su S) m.toNat, upN (sR S) (su S) r.toNat))) (-3, S)) (-1, S)
def fForget (S : ST) : Int × ST := ((su S : Int), (sG S, S.2.1, S.2.2.1, S.2.2.2.1, (0, sM S, sR S)))
noncomputable def fKeep (S : ST) (i : Int) : Int × ST := cit (inB i 1) ((qn (sG S) : Int), (sG S, S.2.1, S.2.2.1, (upN (sx S) i.toNat 1, upN (sI S) i.toNat (sG S)), S.2.2.2.2)) (-1, S)
noncomputable def fBack (S : ST) (i : Int) : Int × ST := cit (inB i 1) (cit (sx S i.toNat = 1) ((qn (sI S i.toNat) : Int), (sI S i.toNat, S.2.1, (0, sH S), S.2.2.2)) (-2, S)) (-1, S)
noncomputable def fCount (S : ST) (w : Int) : Int × ST := (if w = 0 then (qn (sG S) : Int) else if w = 1 then (qm (sG S) : Int) else if w = 2 then (qL (sG S) : Int) else if w = 3 then (nMt (sG S) (qm (sG S)) : Int) else if w = 4 then (mxD (qD (sG S)) (qn (sG S) + 1) : Int) else if w = 5 then (su S : Int) else if w = 6 then (sn S : Int) else if w = 7 then (sk S : Int) else -1, S)
section Cls
variable {Γ : GG} {L : Nat} {M : MM} {Q : QT} {S : ST}
theorem x_type (hG : GOK Γ) (hc : CR M S) {l : Int} (h : Out Q L M (fType S l)) : wp Γ mX9_type 0 [some (VR 1), some (VI l)] [] 0 0 (W0 L) M Q := by
  obtain ⟨c1, c2, c3, c4, c5, c6, ⟨G7, c7, c7'⟩, ⟨G8, c8, c8'⟩, c9, c10⟩ := id hc
  refine vc_go hG 60 (B := bX9_type) rfl ?_
  refine And.intro (fun y => h.go (cit_n (fun z => by have := z.1; omega)) rfl hc (frC_r M)) (fun y => ?_)
  refine And.intro (fun y2 => ?_) (fun y2 => h.go (cit_n (fun z => by have := z.2; omega)) rfl hc (frC_r M))
  have e1 : fType S l = _ := cit_y ⟨y, y2⟩
  refine And.intro rfl (Exists.intro _ (And.intro rfl (And.intro rfl ?_)))
  refine c_txap hG c3 (l := l.toNat) (by omega) (by omega) (fun z => h.go (e1.trans (cit_n (by omega))) rfl hc (frC_r M)) (fun z M1 t1 f => ?_)
  refine h.go (e1.trans (cit_y z)) (by omega) ⟨c1.keep (fun a a1 a2 => f a (by omega)), c2, t1, c4.keep (fun a a1 a2 => f a (by omega)), c5.fr (fun a a1 a2 => f a (by omega)), c6.keep (fun a a1 a2 => f a (by omega)), ⟨G7, c7.keep (fun a a1 a2 => f a (by omega)), c7'⟩, ⟨G8, c8.keep (fun a a1 a2 => f a (by omega)), c8'⟩, n9k c9 (f 1 (by omega)) (f 154 (by omega)) (f 155 (by omega)), p10k c10 (f 1 (by omega)) (fun a a1 a2 => f a (by omega))⟩ (fun a ha => f a (by omega))
theorem x_clear (hG : GOK Γ) (hc : CR M S) (h : Out Q L M (fClear S)) : wp Γ mX9_clear 0 [some (VR 1)] [] 0 0 (W0 L) M Q := by
  obtain ⟨c1, c2, c3, c4, c5, c6, ⟨G7, c7, c7'⟩, ⟨G8, c8, c8'⟩, c9, c10⟩ := id hc
  refine vc_go hG 60 (B := bX9_clear) rfl ?_
  refine And.intro rfl (Exists.intro _ (And.intro rfl (And.intro rfl ?_)))
  refine c_txem hG c3 (fun t1 => ?_)
  have f : ∀ a, a ≠ 22 → upM M 22 1 0 a = M a := fun a ha => upM_ne ha
  refine h.go rfl rfl ⟨c1.keep (fun a a1 a2 => f a (by omega)), c2, t1, c4.keep (fun a a1 a2 => f a (by omega)), c5.fr (fun a a1 a2 => f a (by omega)), c6.keep (fun a a1 a2 => f a (by omega)), ⟨G7, c7.keep (fun a a1 a2 => f a (by omega)), c7'⟩, ⟨G8, c8.keep (fun a a1 a2 => f a (by omega)), c8'⟩, n9k c9 (f 1 (by omega)) (f 154 (by omega)) (f 155 (by omega)), p10k c10 (f 1 (by omega)) (fun a a1 a2 => f a (by omega))⟩ (fun a ha => f a (by omega))
theorem x_graph (hG : GOK Γ) (hc : CR M S) (h : Out Q L M (fGraph S)) : wp Γ mX9_graph 0 [some (VR 1)] [] 0 0 (W0 L) M Q := by
  obtain ⟨c1, c2, c3, c4, c5, c6, c7, ⟨G8, c8, c8'⟩, c9, c10⟩ := id hc
  unfold fGraph at h
  refine vc_go hG 60 (B := bX9_graph) rfl ?_
  refine And.intro rfl (Exists.intro _ (And.intro rfl (And.intro rfl (Exists.intro _ (And.intro rfl (And.intro rfl ?_))))))
  refine c_read hG c3 c7 (fun M1 k G1 z1 z2 z3 z4 z5 f => ?_) (fun M1 f9 z1 z2 z3 z4 f => ?_)
  · rw [z1] at h
    refine And.intro (fun y => ?_) (fun y => by omega)
    refine And.intro rfl (Exists.intro _ (And.intro rfl (And.intro rfl (Exists.intro _ (And.intro rfl (And.intro rfl ?_))))))
    refine c_copy hG (W0_g2 L) (W0_g12 L) (by omega) z4 z5 (fun M2 g1 g2 => ?_)
    refine And.intro rfl (Exists.intro _ (And.intro rfl (And.intro rfl ?_)))
    refine c_txem hG (M := M2) (z3.keep (by rw [g2 22 (by omega)]) (g2 23 (by omega))) (fun t1 => ?_)
    refine And.intro rfl (Exists.intro _ (And.intro rfl (And.intro rfl ?_)))
    have f2 : ∀ a, (a < 2 ∨ 22 < a) → upM M2 22 1 0 a = M a := fun a ha => by rw [upM_ne (by omega), g2 a (by omega), f a (by omega)]
    refine c_hlose hG (M := upM M2 22 1 0) (c4.keep (fun a a1 a2 => f2 a (by omega))) (fun h1 => ?_)
    refine And.intro rfl (Exists.intro _ (And.intro rfl (And.intro rfl ?_)))
    have f3 : ∀ a, a < 2 ∨ 24 < a → upM (upM M2 22 1 0) 24 2 0 a = M a := fun a ha => by rw [upM_ne (by omega)]; exact f2 a (by omega)
    refine c_ilose hG (c5.fr (fun a a1 a2 => f3 a (by omega))) (fun M4 i1 i2 => ?_)
    have f4 : ∀ a, (a < 2 ∨ 24 < a) → a ≠ 128 → M4 a = M a := fun a ha hb => by rw [i2 a hb]; exact f3 a ha
    refine And.intro rfl (Exists.intro _ (And.intro rfl (And.intro rfl ?_)))
    refine c_snlose hG (M := M4) (c6.keep (fun a a1 a2 => f4 a (by omega) (by omega))) (fun s1 => ?_)
    refine And.intro rfl ?_
    refine c_changed hG ?_
    have u : ∀ a, a ≠ 1 → a ≠ 149 → upM (upM (upM M4 149 3 0) 1 9 1) 1 10 1 a = M4 a := fun a ha hb => by rw [upM_ne ha, upM_ne ha, upM_ne hb]
    have u1 : ∀ a, a ≠ 1 → upM (upM (upM M4 149 3 0) 1 9 1) 1 10 1 a = upM M4 149 3 0 a := fun a ha => by rw [upM_ne ha, upM_ne ha]
    refine h.go rfl rfl ⟨g1.keep (fun a a1 a2 => by rw [u a (by omega) (by omega), i2 a (by omega), upM_ne (by omega), upM_ne (by omega)]), z5, t1.keep (by rw [u 22 (by omega) (by omega), i2 22 (by omega), upM_ne (by omega)]) (by rw [u 23 (by omega) (by omega), i2 23 (by omega), upM_ne (by omega)]), h1.keep (fun a a1 a2 => by rw [u a (by omega) (by omega), i2 a (by omega)]), i1.fr (fun a a1 a2 => u a (by omega) (by omega)), s1.keep (fun a a1 a2 => u1 a (by omega)), ⟨G1, z4.keep (fun a a1 a2 => by rw [u a (by omega) (by omega), i2 a (by omega), upM_ne (by omega), upM_ne (by omega), g2 a (by omega)]), z5⟩, ⟨G8, c8.keep (fun a a1 a2 => by rw [u a (by omega) (by omega)]; exact f4 a (by omega) (by omega)), c8'⟩, Or.inr (by rw [upM_k (by decide), upM_eq]), Or.inr upM_eq⟩ (fun a ha => by rw [u a (by omega) (by omega)]; exact f4 a (by omega) (by omega))
  · rw [z1] at h
    refine And.intro (fun y => by omega) (fun y => ?_)
    refine h.go rfl rfl ⟨c1.keep (fun a a1 a2 => f a (by omega)), c2, z3, c4.keep (fun a a1 a2 => f a (by omega)), c5.fr (fun a a1 a2 => f a (by omega)), c6.keep (fun a a1 a2 => f a (by omega)), z4, ⟨G8, c8.keep (fun a a1 a2 => f a (by omega)), c8'⟩, n9k c9 (f 1 (by omega)) (f 154 (by omega)) (f 155 (by omega)), p10k c10 (f 1 (by omega)) (fun a a1 a2 => f a (by omega))⟩ (fun a ha => f a (by omega))
theorem x_wanted (hG : GOK Γ) (hc : CR M S) {k w : Int} (h : Out Q L M (fWanted S k w)) : wp Γ mX9_wanted 0 [some (VR 1), some (VI k), some (VI w)] [] 0 0 (W0 L) M Q := by
  obtain ⟨c1, c2, -⟩ := id hc
  have m1 := c1.2.1
  have m6 := c2.2.1
  refine vc_go hG 60 (B := bX9_wanted) rfl ?_
  refine And.intro (fun y => h.go (cit_n (fun z => by omega)) rfl hc (frC_r M)) (fun y => ?_)
  refine And.intro rfl (Exists.intro _ (And.intro rfl (And.intro rfl ?_)))
  refine And.intro (fun y => h.go (cit_n (fun z => by omega)) rfl hc (frC_r M)) (fun y2 => ?_)
  refine And.intro (fun y => h.go (cit_n (fun z => by have := z.2.1; omega)) rfl hc (frC_r M)) (fun y3 => ?_)
  refine And.intro (fun y4 => ?_) (fun y => h.go (cit_n (fun z => by have := z.2.2; omega)) rfl hc (frC_r M))
  have e1 : fWanted S k w = _ := cit_y ⟨⟨y, by omega⟩, ⟨y3, y4⟩⟩
  have ec := c1.2.2.2.2.2.2 k.toNat (by omega)
  refine And.intro rfl (Exists.intro _ (And.intro rfl (And.intro rfl (Exists.intro _ (And.intro rfl ?_)))))
  refine And.intro (Or.inl rfl) (Exists.intro k.toNat (And.intro (by omega) (And.intro (show k.toNat < 6 by omega) ?_)))
  refine And.intro (fun z => ?_) (fun z => ?_)
  · have e2 := e1.trans (cit_n z)
    refine And.intro rfl (Exists.intro _ (And.intro rfl (And.intro rfl ?_)))
    refine c_isMet hG (W0_g2 L) c1 c2 ec (c2.2.2.2.2.2.2.1 k.toNat (by omega)).2 (fun q => ?_) (fun q => ?_)
    · exact And.intro (fun c => absurd c (by decide)) (fun c => h.go (e2.trans (cit_y q)) rfl hc (frC_r M))
    · exact And.intro (fun c => h.go (e2.trans (cit_n q)) rfl hc (frC_r M)) (fun c => absurd rfl c)
  · exact h.go (e1.trans (cit_y z)) ec hc (frC_r M)
theorem x_sees (hG : GOK Γ) (hc : CR M S) {m r : Int} (h : Out Q L M (fSees S m r)) : wp Γ mX9_sees 0 [some (VR 1), some (VI m), some (VI r)] [] 0 0 (W0 L) M Q := by
  obtain ⟨c1, c2, c3, c4, c5, c6, ⟨G7, c7, c7'⟩, ⟨G8, c8, c8'⟩, c9, c10⟩ := id hc
  refine vc_go hG 60 (B := bX9_sees) rfl ?_
  refine And.intro (fun y => h.go (cit_n (by omega)) rfl hc (frC_r M)) (fun y1 => ?_)
  refine And.intro (fun y => h.go (cit_n (by omega)) rfl hc (frC_r M)) (fun y2 => ?_)
  refine And.intro (fun y => h.go (cit_n (by omega)) rfl hc (frC_r M)) (fun y3 => ?_)
  refine And.intro (fun y4 => ?_) (fun y => h.go (cit_n (by omega)) rfl hc (frC_r M))
  have e1 : fSees S m r = _ := cit_y ⟨⟨y1, y2⟩, y3, y4⟩
  refine And.intro rfl (Exists.intro _ (And.intro rfl (And.intro rfl ?_)))
  refine c_snap hG c6 (m := m.toNat) (r := r.toNat) (by omega) (by omega) (by omega) (fun z => h.go (e1.trans (cit_n (by omega))) rfl hc (frC_r M)) (fun z M1 t1 f => ?_)
  refine h.go (e1.trans (cit_y z)) (by omega) ⟨c1.keep (fun a a1 a2 => f a (by omega)), c2, c3.keep (by rw [f 22 (by omega)]) (f 23 (by omega)), c4.keep (fun a a1 a2 => f a (by omega)), c5.fr (fun a a1 a2 => f a (by omega)), t1, ⟨G7, c7.keep (fun a a1 a2 => f a (by omega)), c7'⟩, ⟨G8, c8.keep (fun a a1 a2 => f a (by omega)), c8'⟩, n9k c9 (f 1 (by omega)) (f 154 (by omega)) (f 155 (by omega)), p10k c10 (f 1 (by omega)) (fun a a1 a2 => f a (by omega))⟩ (fun a ha => f a (by omega))
theorem x_forget (hG : GOK Γ) (hc : CR M S) (h : Out Q L M (fForget S)) : wp Γ mX9_forget 0 [some (VR 1)] [] 0 0 (W0 L) M Q := by
  obtain ⟨c1, c2, c3, c4, c5, c6, ⟨G7, c7, c7'⟩, ⟨G8, c8, c8'⟩, c9, c10⟩ := id hc
  refine vc_go hG 60 (B := bX9_forget) rfl ?_
  refine And.intro rfl (Exists.intro _ (And.intro rfl (And.intro rfl ?_)))
  refine c_snlose hG c6 (fun t1 => ?_)
  have f : ∀ a, a ≠ 149 → upM M 149 3 0 a = M a := fun a ha => upM_ne ha
  refine h.go rfl rfl ⟨c1.keep (fun a a1 a2 => f a (by omega)), c2, c3.keep (by rw [f 22 (by omega)]) (f 23 (by omega)), c4.keep (fun a a1 a2 => f a (by omega)), c5.fr (fun a a1 a2 => f a (by omega)), t1, ⟨G7, c7.keep (fun a a1 a2 => f a (by omega)), c7'⟩, ⟨G8, c8.keep (fun a a1 a2 => f a (by omega)), c8'⟩, n9k c9 (f 1 (by omega)) (f 154 (by omega)) (f 155 (by omega)), p10k c10 (f 1 (by omega)) (fun a a1 a2 => f a (by omega))⟩ (fun a ha => f a (by omega))
theorem x_keep (hG : GOK Γ) (hc : CR M S) {i : Int} (h : Out Q L M (fKeep S i)) : wp Γ mX9_keep 0 [some (VR 1), some (VI i)] [] 0 0 (W0 L) M Q := by
  obtain ⟨c1, c2, c3, c4, c5, c6, ⟨G7, c7, c7'⟩, ⟨G8, c8, c8'⟩, c9, c10⟩ := id hc
  refine vc_go hG 60 (B := bX9_keep) rfl ?_
  refine And.intro (fun y => h.go (cit_n (fun z => by have := z.1; omega)) rfl hc (frC_r M)) (fun y1 => ?_)
  refine And.intro (fun y2 => ?_) (fun y => h.go (cit_n (fun z => by have := z.2; omega)) rfl hc (frC_r M))
  have e1 : fKeep S i = _ := cit_y ⟨y1, by omega⟩
  refine And.intro rfl (Exists.intro _ (And.intro rfl (And.intro rfl (Exists.intro _ (And.intro rfl (And.intro rfl ?_))))))
  refine c_iput hG c5 c1 c2 (i := i.toNat) (by omega) (by omega) (fun M1 t1 f => ?_)
  have c1' : GrR M1 2 (sG S) := c1.keep (fun a a1 a2 => f a (by omega))
  refine And.intro rfl (Exists.intro _ (And.intro rfl (And.intro rfl ?_)))
  refine h.go e1 c1'.1 ⟨c1', c2, c3.keep (by rw [f 22 (by omega)]) (f 23 (by omega)), c4.keep (fun a a1 a2 => f a (by omega)), t1, c6.keep (fun a a1 a2 => f a (by omega)), ⟨G7, c7.keep (fun a a1 a2 => f a (by omega)), c7'⟩, ⟨G8, c8.keep (fun a a1 a2 => f a (by omega)), c8'⟩, n9k c9 (f 1 (by omega)) (f 154 (by omega)) (f 155 (by omega)), p10k c10 (f 1 (by omega)) (fun a a1 a2 => f a (by omega))⟩ (fun a ha => f a (by omega))
end Cls
end
section
/-! ===== the class: what is near, plans, digits ===== -/
def OutR (Q : QT) (L : Nat) (M : MM) (S : ST) (R : Int → Prop) : Prop := ∀ r M', R r → CR M' S → frC M M' → Q (some (VI r)) (W0 L) M'
def nearR (G : GT) (v w r : Int) : Prop := (¬ (0 ≤ v ∧ inB w 1) ∧ r = -1) ∨ ((0 ≤ v ∧ inB w 1) ∧ ((w = 0 ∧ r = (cP (fun e => v < e ∧ isNr G e) 1024 : Nat)) ∨ (w = 1 ∧ isLst (fun e => v < e ∧ isNr G e) r)))
theorem nearR_u {G : GT} {v w r r' : Int} (h : nearR G v w r) (h' : nearR G v w r') : r = r' := by
  rcases h with ⟨a1, a2⟩ | ⟨a1, ⟨a2, a3⟩ | ⟨a2, a3⟩⟩ <;> rcases h' with ⟨b1, b2⟩ | ⟨b1, ⟨b2, b3⟩ | ⟨b2, b3⟩⟩ <;> first | omega | contradiction | exact isLst_u a3 b3
def selW (w : Int) (p q s f : Nat) : Int := if w = 0 then (p : Int) else if w = 1 then (q : Int) else if w = 2 then (s : Int) else (f : Int)
def byR (G : GT) (v w r : Int) : Prop := (¬ (isOddN v ∧ inB w 3) ∧ r = -1) ∨ ((isOddN v ∧ inB w 3) ∧ ((¬ isNr G v.toNat ∧ r = -9) ∨ (isNr G v.toNat ∧ ∃ p q s f, byW G v.toNat p q s f ∧ r = selW w p q s f)))
theorem byR_u {G : GT} (hw : WFG G) {v w r r' : Int} (h : byR G v w r) (h' : byR G v w r') : r = r' := by
  rcases h with ⟨a1, a2⟩ | ⟨a1, ⟨a2, a3⟩ | ⟨a2, p, q, s, f, a3, a4⟩⟩ <;> rcases h' with ⟨b1, b2⟩ | ⟨b1, ⟨b2, b3⟩ | ⟨b2, p', q', s', f', b3, b4⟩⟩ <;> first | omega | contradiction | skip
  obtain ⟨e1, e2, e3, e4⟩ := byW_u hw a3 b3
  subst e1 e2 e3 e4
  rw [a4, b4]
def twoR (G : GT) (v r : Int) : Prop := (¬ isOddN v ∧ r = -1) ∨ (isOddN v ∧ isTwo G v.toNat r)
theorem twoR_u {G : GT} {v r r' : Int} (h : twoR G v r) (h' : twoR G v r') : r = r' := by
  rcases h with ⟨a1, a2⟩ | ⟨a1, a2⟩ <;> rcases h' with ⟨b1, b2⟩ | ⟨b1, b2⟩ <;> first | omega | contradiction | exact isTwo_u a2 b2
def leastR (v r : Int) : Prop := (¬ (1 ≤ v ∧ v ≤ 255) ∧ r = -1) ∨ ((1 ≤ v ∧ v ≤ 255) ∧ isFew (odp v.toNat) r)
theorem leastR_u {v r r' : Int} (h : leastR v r) (h' : leastR v r') : r = r' := by
  rcases h with ⟨a1, a2⟩ | ⟨a1, a2⟩ <;> rcases h' with ⟨b1, b2⟩ | ⟨b1, b2⟩ <;> first | omega | contradiction | exact isFew_u a2 b2
noncomputable def selP (G H : GT) (k : Int) : Int := if k = -2 then (qn H : Int) - qn G else if k = -1 then (nMt H (qm H) : Int) else if k + qn G < qn H then (qV H (qn G + 1 + k.toNat) : Int) else -9
def planR (G : GT) (k r : Int) : Prop := (k < -2 ∧ r = -1) ∨ (-2 ≤ k ∧ ∃ H, isPl G H ∧ r = selP G H k)
theorem planR_u {G : GT} (hw : WFG G) {k r r' : Int} (h : planR G k r) (h' : planR G k r') : r = r' := by
  rcases h with ⟨a1, a2⟩ | ⟨a1, H, a2, a3⟩ <;> rcases h' with ⟨b1, b2⟩ | ⟨b1, H', b2, b3⟩ <;> first | omega | skip
  have e := isPl_u hw a2 b2
  subst e
  rw [a3, b3]
def unsR (S : ST) (w r : Int) : Prop := (¬ inB w 1 ∧ r = -1) ∨ (inB w 1 ∧ ((w = 0 ∧ r = (cP (UN (sG S) (su S) (sM S) (sR S)) 1024 : Nat)) ∨ (w = 1 ∧ isLst (UN (sG S) (su S) (sM S) (sR S)) r)))
theorem unsR_u {S : ST} {w r r' : Int} (h : unsR S w r) (h' : unsR S w r') : r = r' := by
  rcases h with ⟨a1, a2⟩ | ⟨a1, ⟨a2, a3⟩ | ⟨a2, a3⟩⟩ <;> rcases h' with ⟨b1, b2⟩ | ⟨b1, ⟨b2, b3⟩ | ⟨b2, b3⟩⟩ <;> first | omega | contradiction | exact isLst_u a3 b3
noncomputable def fNext (S : ST) : Int × ST := cit (1 < cP (UN (sG S) (su S) (sM S) (sR S)) 1024) ((ak (UN (sG S) (su S) (sM S) (sR S)) 8).1, S) (-9, S)
section Cls
variable {Γ : GG} {L : Nat} {M : MM} {Q : QT} {S : ST}
theorem c_fresh (hG : GOK Γ) (hc : CR M S) (h : ∀ M', CR M' S → NrF M' 153 (sG S) → (∀ a, a ≠ 1 → a ≠ 154 → a ≠ 155 → M' a = M a) → M' 1 10 = M 1 10 → Q (some (VR 153)) (W0 L) M') : wp Γ mX9_freshNear 0 [some (VR 1)] [] 0 0 (W0 L) M Q := by
  obtain ⟨c1, c2, c3, c4, c5, c6, ⟨G7, c7, c7'⟩, ⟨G8, c8, c8'⟩, c9, c10⟩ := id hc
  refine vc_go hG 60 (B := bX9_freshNear) rfl ?_
  refine And.intro rfl (And.intro (fun y => ?_) (fun y => ?_))
  · refine And.intro rfl (Exists.intro _ (And.intro rfl ?_))
    rcases c9 with ⟨-, t⟩ | z
    · exact h M hc t (fun _ _ _ _ => rfl) rfl
    · omega
  · refine And.intro rfl (Exists.intro _ (And.intro rfl (And.intro rfl (Exists.intro _ (And.intro rfl (And.intro rfl ?_))))))
    refine c_build hG (W0_n153 L) (W0_g2 L) (by omega) c1 c2 (fun M1 t f0 => ?_)
    have f : ∀ a, a ≠ 1 → a ≠ 154 → a ≠ 155 → upM M1 1 9 0 a = M a := fun a a1 a2 a3 => by rw [upM_ne a1, f0 a a2 a3]
    refine And.intro rfl (And.intro (Or.inl rfl) (And.intro rfl (Exists.intro _ (And.intro rfl ?_))))
    have t' : NrF (upM M1 1 9 0) 153 (sG S) := NrT.keep t (upM_ne (by decide)) (upM_ne (by decide))
    have e10 : upM M1 1 9 0 1 10 = M 1 10 := by rw [upM_k (by decide), f0 1 (by decide) (by decide)]
    refine h _ ⟨c1.keep (fun a a1 a2 => f a (by omega) (by omega) (by omega)), c2, c3.keep (by rw [f 22 (by omega) (by omega) (by omega)]) (f 23 (by omega) (by omega) (by omega)), c4.keep (fun a a1 a2 => f a (by omega) (by omega) (by omega)), c5.fr (fun a a1 a2 => f a (by omega) (by omega) (by omega)), c6.keep (fun a a1 a2 => f a (by omega) (by omega) (by omega)), ⟨G7, c7.keep (fun a a1 a2 => f a (by omega) (by omega) (by omega)), c7'⟩, ⟨G8, c8.keep (fun a a1 a2 => f a (by omega) (by omega) (by omega)), c8'⟩, Or.inl ⟨upM_eq, t'⟩, ?_⟩ t' f e10
    rw [e10]
    refine c10.imp (fun z => ⟨z.1, ?_⟩) id
    obtain ⟨-, H, z1, z2, z3, z4⟩ := z
    exact ⟨H, z1, z2, z3.keep (fun a a1 a2 => f a (by omega) (by omega) (by omega)), by rw [f 156 (by omega) (by omega) (by omega)]; exact z4⟩
theorem fr3 {M M' : MM} (h : ∀ a, a ≠ 1 → a ≠ 154 → a ≠ 155 → M' a = M a) : frC M M' := fun a ha => h a (by omega) (by omega) (by omega)
theorem x_near (hG : GOK Γ) (hc : CR M S) {v w : Int} (h : OutR Q L M S (nearR (sG S) v w)) : wp Γ mX9_near 0 [some (VR 1), some (VI v), some (VI w)] [] 0 0 (W0 L) M Q := by
  refine vc_go hG 60 (B := bX9_near) rfl ?_
  refine And.intro (fun y => h _ M (Or.inl ⟨fun z => by omega, rfl⟩) hc (frC_r M)) (fun y1 => ?_)
  refine And.intro (fun y => h _ M (Or.inl ⟨fun z => by have := z.2.1; omega, rfl⟩) hc (frC_r M)) (fun y2 => ?_)
  refine And.intro (fun y3 => ?_) (fun y => h _ M (Or.inl ⟨fun z => by have := z.2.2; omega, rfl⟩) hc (frC_r M))
  refine And.intro rfl ?_
  refine c_fresh hG hc (fun M1 hc1 t f _ => ?_)
  refine And.intro (fun z => ?_) (fun z => ?_)
  · refine And.intro rfl ?_
    refine c_leastAbove hG (W0_n153 L) t (fun r hr => ?_)
    exact h r M1 (Or.inr ⟨⟨y1, y2, y3⟩, Or.inr ⟨by omega, hr⟩⟩) hc1 (fr3 f)
  · refine And.intro rfl ?_
    refine c_howMany hG (W0_n153 L) t ?_
    exact h _ M1 (Or.inr ⟨⟨y1, y2, y3⟩, Or.inl ⟨by omega, rfl⟩⟩) hc1 (fr3 f)
theorem x_two (hG : GOK Γ) (hc : CR M S) {v : Int} (h : OutR Q L M S (twoR (sG S) v)) : wp Γ mX9_two 0 [some (VR 1), some (VI v)] [] 0 0 (W0 L) M Q := by
  refine vc_go hG 60 (B := bX9_two) rfl ?_
  refine c_isOddNumber hG (fun ho => ?_) (fun ho => ?_)
  · refine And.intro (fun y => ?_) (fun y => absurd y (by decide))
    refine And.intro rfl ?_
    refine c_fresh hG hc (fun M1 hc1 t f _ => ?_)
    refine And.intro rfl (Exists.intro _ (And.intro rfl (And.intro rfl ?_)))
    obtain ⟨o1, o2, o3⟩ := id ho
    refine c_bridge hG (W0_n153 L) (W0_g2 L) t hc1.1 hc1.2.1 (v := v.toNat) (by omega) (by omega) (fun r hr => ?_)
    exact h r M1 (Or.inr ⟨ho, hr⟩) hc1 (fr3 f)
  · exact And.intro (fun y => absurd rfl y) (fun y => h _ M (Or.inl ⟨ho, rfl⟩) hc (frC_r M))
theorem x_least (hG : GOK Γ) (hc : CR M S) {v : Int} (h : OutR Q L M S (leastR v)) : wp Γ mX9_least 0 [some (VR 1), some (VI v)] [] 0 0 (W0 L) M Q := by
  obtain ⟨c1, c2, c3, c4, c5, c6, ⟨G7, c7, c7'⟩, c8, c9, c10⟩ := id hc
  refine vc_go hG 60 (B := bX9_least) rfl ?_
  refine And.intro (fun y => h _ M (Or.inl ⟨fun z => by omega, rfl⟩) hc (frC_r M)) (fun y1 => ?_)
  refine And.intro (fun y2 => ?_) (fun y => h _ M (Or.inl ⟨fun z => by omega, rfl⟩) hc (frC_r M))
  refine And.intro rfl (Exists.intro _ (And.intro rfl ?_))
  refine c_oddPart hG (n := v.toNat) (by omega) (by omega) ?_
  refine And.intro rfl ?_
  have o1 : odp v.toNat % 2 = 1 := odp_odd (by omega) (by omega)
  have o2 := odp_le v.toNat
  refine c_fewest hG rfl ⟨o1, by omega⟩ c8 (fun r M1 hr g8 f => ?_)
  exact h r M1 (Or.inr ⟨⟨y1, y2⟩, hr⟩) ⟨c1.keep (fun a a1 a2 => f a (by omega)), c2, c3.keep (by rw [f 22 (by omega)]) (f 23 (by omega)), c4.keep (fun a a1 a2 => f a (by omega)), c5.fr (fun a a1 a2 => f a (by omega)), c6.keep (fun a a1 a2 => f a (by omega)), ⟨G7, c7.keep (fun a a1 a2 => f a (by omega)), c7'⟩, g8, n9k c9 (f 1 (by omega)) (f 154 (by omega)) (f 155 (by omega)), p10k c10 (f 1 (by omega)) (fun a a1 a2 => f a (by omega))⟩ (fun a ha => f a (by omega))
theorem x_plan2 (hG : GOK Γ) (hc : CR M S) {k : Int} (hk : -2 ≤ k) {H : GT} (p1 : isPl (sG S) H) (p2 : WFG H) (p3 : GrR M 157 H) (p4 : M 156 2 = qn (sG S)) (M0 : MM) (hf : frC M0 M) (h : OutR Q L M0 S (planR (sG S) k)) : wp Γ mX9_plan 35 [some (VR 1), some (VI k)] [] 0 0 (W0 L) M Q := by
  have n12 := hc.2.1.1
  have m12 := p2.1
  have fin : Q (some (VI (selP (sG S) H k))) (W0 L) M := h _ M (Or.inr ⟨hk, H, p1, rfl⟩) hc hf
  unfold selP at fin
  refine vc_go hG 60 (B := bX9_plan) rfl ?_
  refine And.intro (fun y => ?_) (fun y => ?_)
  · rw [if_neg y] at fin
    refine And.intro (fun y2 => ?_) (fun y2 => ?_)
    · rw [if_neg y2] at fin
      refine And.intro rfl (Exists.intro _ (And.intro rfl (And.intro rfl ?_)))
      refine c_pvalue hG p3 p2 p4 n12 (fun j ej hj => ?_) (fun hn => ?_)
      · rw [if_pos (by omega), show k.toNat = j by omega] at fin
        exact fin
      · rw [if_neg (by omega)] at fin
        exact fin
    · rw [if_pos y2] at fin
      refine And.intro rfl (Exists.intro _ (And.intro rfl (And.intro rfl (Exists.intro _ (And.intro rfl (And.intro rfl ?_))))))
      exact c_notMet hG (W0_g157 L) p3 p2 fin
  · rw [if_pos y] at fin
    refine And.intro rfl (Exists.intro _ (And.intro rfl (And.intro rfl ?_)))
    exact c_made hG p3 p2 p4 n12 fin
theorem x_plan (hG : GOK Γ) (hc : CR M S) {k : Int} (h : OutR Q L M S (planR (sG S) k)) : wp Γ mX9_plan 0 [some (VR 1), some (VI k)] [] 0 0 (W0 L) M Q := by
  refine vc_goS hG 60 [35] (B := bX9_plan) rfl ?_
  refine And.intro (fun y1 => ?_) (fun y => h _ M (Or.inl ⟨by omega, rfl⟩) hc (frC_r M))
  have c10 := hc.2.2.2.2.2.2.2.2.2
  refine And.intro rfl (And.intro (fun y => ?_) (fun y => ?_))
  · rcases c10 with ⟨-, H, p1, p2, p3, p4⟩ | z
    · exact x_plan2 hG hc y1 p1 p2 p3 p4 M (frC_r M) h
    · omega
  · refine And.intro rfl (Exists.intro _ (And.intro rfl (And.intro rfl (Exists.intro _ (And.intro rfl (And.intro rfl ?_))))))
    refine c_fresh hG hc (fun M1 hc1 t f0 e10 => ?_)
    obtain ⟨c1, c2, c3, c4, c5, c6, ⟨G7, c7, c7'⟩, ⟨G8, c8, c8'⟩, c9, -⟩ := id hc1
    refine And.intro rfl ?_
    refine c_make hG c1 c2 t (fun H M2 p1 p2 p3 p4 f => ?_)
    refine And.intro rfl (And.intro (Or.inl rfl) ?_)
    have u : ∀ a, a ≠ 1 → upM M2 1 10 0 a = M2 a := fun a ha => upM_ne ha
    have f2 : ∀ a, a ≠ 1 → (a < 156 ∨ 169 < a) → upM M2 1 10 0 a = M1 a := fun a ha hb => by rw [u a ha, f a hb]
    have p3' : GrR (upM M2 1 10 0) 157 H := p3.keep (fun a a1 a2 => u a (by omega))
    have p4' : upM M2 1 10 0 156 2 = qn (sG S) := by rw [u 156 (by decide)]; exact p4
    refine x_plan2 hG ⟨c1.keep (fun a a1 a2 => f2 a (by omega) (by omega)), c2, c3.keep (by rw [f2 22 (by omega) (by omega)]) (f2 23 (by omega) (by omega)), c4.keep (fun a a1 a2 => f2 a (by omega) (by omega)), c5.fr (fun a a1 a2 => f2 a (by omega) (by omega)), c6.keep (fun a a1 a2 => f2 a (by omega) (by omega)), ⟨G7, c7.keep (fun a a1 a2 => f2 a (by omega) (by omega)), c7'⟩, ⟨G8, c8.keep (fun a a1 a2 => f2 a (by omega) (by omega)), c8'⟩, ?_, Or.inl ⟨upM_eq, H, p1, p2, p3', p4'⟩⟩ y1 p1 p2 p3' p4' M (fun a ha => by rw [f2 a (by omega) (by omega), f0 a (by omega) (by omega) (by omega)]) h
    rw [upM_k (by decide), f 1 (by decide)]
    exact c9.imp (fun z => ⟨z.1, NrT.keep z.2 (f2 154 (by decide) (by decide)) (f2 155 (by decide) (by decide))⟩) id
theorem x_unseen (hG : GOK Γ) (hc : CR M S) {w : Int} (h : OutR Q L M S (unsR S w)) : wp Γ mX9_unseen 0 [some (VR 1), some (VI w)] [] 0 0 (W0 L) M Q := by
  refine vc_go hG 60 (B := bX9_unseen) rfl ?_
  refine And.intro (fun y => h _ M (Or.inl ⟨fun z => by have := z.1; omega, rfl⟩) hc (frC_r M)) (fun y1 => ?_)
  refine And.intro (fun y2 => ?_) (fun y => h _ M (Or.inl ⟨fun z => by have := z.2; omega, rfl⟩) hc (frC_r M))
  refine And.intro rfl ?_
  refine c_fresh hG hc (fun M1 hc1 t f _ => ?_)
  have c6 := hc1.2.2.2.2.2.1
  refine And.intro (fun z => ?_) (fun z => ?_)
  · refine And.intro rfl (Exists.intro _ (And.intro rfl (And.intro rfl ?_)))
    refine c_snLow hG c6 (W0_n153 L) t (fun r hr => ?_)
    exact h r M1 (Or.inr ⟨⟨y1, y2⟩, Or.inr ⟨by omega, hr⟩⟩) hc1 (fr3 f)
  · refine And.intro rfl (Exists.intro _ (And.intro rfl (And.intro rfl ?_)))
    refine c_snMany hG c6 (W0_n153 L) t ?_
    exact h _ M1 (Or.inr ⟨⟨y1, y2⟩, Or.inl ⟨by omega, rfl⟩⟩) hc1 (fr3 f)
theorem x_next (hG : GOK Γ) (hc : CR M S) (h : Out Q L M (fNext S)) : wp Γ mX9_next 0 [some (VR 1)] [] 0 0 (W0 L) M Q := by
  refine vc_go hG 60 (B := bX9_next) rfl ?_
  refine And.intro rfl (Exists.intro _ (And.intro rfl (And.intro rfl ?_)))
  refine c_fresh hG hc (fun M1 hc1 t f _ => ?_)
  obtain ⟨c1, c2, c3, c4, c5, c6, ⟨G7, c7, c7'⟩, ⟨G8, c8, c8'⟩, c9, c10⟩ := id hc1
  refine And.intro rfl ?_
  refine c_ask hG c6 (W0_n153 L) (by omega) t (fun z => ?_) (fun z M2 f2 => ?_)
  · exact h.go (cit_n (by omega)) rfl hc1 (fr3 f)
  · refine h.go (cit_y z) rfl ⟨c1.keep (fun a a1 a2 => f2 a (by omega)), c2, c3.keep (by rw [f2 22 (by omega)]) (f2 23 (by omega)), c4.keep (fun a a1 a2 => f2 a (by omega)), c5.fr (fun a a1 a2 => f2 a (by omega)), c6.keep (fun a a1 a2 => f2 a (by omega)), ⟨G7, c7.keep (fun a a1 a2 => f2 a (by omega)), c7'⟩, ⟨G8, c8.keep (fun a a1 a2 => f2 a (by omega)), c8'⟩, n9k c9 (f2 1 (by omega)) (f2 154 (by omega)) (f2 155 (by omega)), p10k c10 (f2 1 (by omega)) (fun a a1 a2 => f2 a (by omega))⟩ (fun a ha => by rw [f2 a (by omega), f a (by omega) (by omega) (by omega)])
end Cls
end
section
/-! ===== the class: the rest ===== -/
theorem GrR.odd {M : MM} {g : Nat} {G : GT} (hr : GrR M g G) {k w : Nat} (hk : k ≤ qn G) (hw : w ≤ 6) : M (g + 2 + w) k = oddF G k w := by
  obtain ⟨r1, r2, r3, r4, r5, r6, r7⟩ := hr
  unfold oddF
  by_cases w0 : w = 0
  · subst w0; rw [if_pos rfl]; exact (r4 k hk).1
  rw [if_neg w0]
  by_cases w1 : w = 1
  · subst w1; rw [if_pos rfl]; exact (r4 k hk).2
  rw [if_neg w1]
  by_cases k0 : k = 0
  · subst k0
    rw [if_pos rfl]
    have : w = 2 ∨ w = 3 ∨ w = 4 ∨ w = 5 ∨ w = 6 := by omega
    rcases this with q | q | q | q | q
    · subst q; exact r5.1
    · subst q; exact r5.2.1
    · subst q; exact r5.2.2.1
    · subst q; exact r5.2.2.2.1
    · subst q; exact r5.2.2.2.2
  · rw [if_neg k0]
    obtain ⟨j, rfl⟩ : ∃ j, k = j + 1 := ⟨k - 1, by omega⟩
    have q6 := r6 j (by omega)
    rw [show j + 1 - 1 = j by omega]
    have : w = 2 ∨ w = 3 ∨ w = 4 ∨ w = 5 ∨ w = 6 := by omega
    rcases this with q | q | q | q | q
    · subst q; exact q6.1
    · subst q; exact q6.2.1
    · subst q; exact q6.2.2.1
    · subst q; exact q6.2.2.2.1
    · subst q; exact q6.2.2.2.2
def sgd (v k : Nat) : Int := ((3 * v / 2 ^ (k + 1) % 2 : Nat) : Int) - ((v / 2 ^ (k + 1) % 2 : Nat) : Int)
def dgc (v : Nat) : Nat → Nat
  | 0 => 0
  | k + 1 => dgc v k + (if sgd v k = 0 then 0 else 1)
theorem dgc_le (v : Nat) : ∀ k, dgc v k ≤ k
  | 0 => Nat.le_refl _
  | k + 1 => by
    have := dgc_le v k
    show dgc v k + (if sgd v k = 0 then 0 else 1) ≤ k + 1
    split <;> omega
noncomputable def fDigits (S : ST) (v : Int) : Int × ST := cit (1 ≤ v ∧ v ≤ 1023) ((dgc v.toNat 12 : Int), S) (-1, S)
noncomputable def fDigit (S : ST) (v k : Int) : Int × ST := cit ((1 ≤ v ∧ v ≤ 1023) ∧ inB k 11) (sgd v.toNat k.toNat + 1, S) (-1, S)
noncomputable def fProd (S : ST) (k x : Int) : Int := cit (inB k (qn (sG S)) ∧ -99999 ≤ x ∧ x ≤ 99999) ((qV (sG S) k.toNat : Int) * x) 0
section Cls
variable {Γ : GG} {L : Nat} {M : MM} {Q : QT} {S : ST}
theorem x_odd (hG : GOK Γ) (hc : CR M S) {k w : Int} (h : Out Q L M (fOdd S k w)) : wp Γ mX9_odd 0 [some (VR 1), some (VI k), some (VI w)] [] 0 0 (W0 L) M Q := by
  have gl := W0_g2 L
  obtain ⟨c1, c2, -⟩ := id hc
  have n12 := c2.1
  refine vc_go hG 60 (B := bX9_odd) rfl ?_
  refine And.intro rfl (Exists.intro _ (And.intro rfl (And.intro rfl ?_)))
  refine c_isThere hG gl c1 (fun z1 => ?_) (fun z1 => And.intro (fun _ => h.go (cit_n (fun z => z1 z.1)) rfl hc (frC_r M)) (fun c => absurd rfl c))
  refine And.intro (fun c => absurd c (by decide)) (fun c => ?_)
  refine And.intro (fun y => h.go (cit_n (fun z => by have := z.2.1; omega)) rfl hc (frC_r M)) (fun y1 => ?_)
  refine And.intro (fun y2 => ?_) (fun y => h.go (cit_n (fun z => by have := z.2.2; omega)) rfl hc (frC_r M))
  have e1 : fOdd S k w = _ := cit_y ⟨z1, ⟨y1, by omega⟩⟩
  refine And.intro rfl (Exists.intro _ (And.intro rfl (And.intro rfl (Exists.intro _ (And.intro rfl ?_)))))
  refine And.intro (Or.inl gl.ok) (Exists.intro w.toNat (And.intro (by omega) (And.intro (by rw [gl.ol]; omega) (Exists.intro _ (And.intro (gl.r w.toNat (by omega)) ?_)))))
  refine And.intro (Or.inl (gl.rk w.toNat (by omega))) (Exists.intro k.toNat (And.intro (by omega) (And.intro (by rw [gl.rl w.toNat (by omega)]; omega) ?_)))
  exact h.go e1 (c1.odd (by omega) (by omega)) hc (frC_r M)
theorem x_back (hG : GOK Γ) (hc : CR M S) {i : Int} (h : Out Q L M (fBack S i)) : wp Γ mX9_back 0 [some (VR 1), some (VI i)] [] 0 0 (W0 L) M Q := by
  obtain ⟨c1, c2, c3, c4, c5, c6, ⟨G7, c7, c7'⟩, ⟨G8, c8, c8'⟩, c9, c10⟩ := id hc
  refine vc_go hG 60 (B := bX9_back) rfl ?_
  refine And.intro (fun y => h.go (cit_n (fun z => by have := z.1; omega)) rfl hc (frC_r M)) (fun y1 => ?_)
  refine And.intro (fun y2 => ?_) (fun y => h.go (cit_n (fun z => by have := z.2; omega)) rfl hc (frC_r M))
  have e1 : fBack S i = _ := cit_y ⟨y1, by omega⟩
  obtain ⟨i1, i2, i3⟩ := c5 i.toNat (by omega)
  have hi : i.toNat < 2 := by omega
  refine And.intro rfl (Exists.intro _ (And.intro rfl (And.intro rfl (Exists.intro _ (And.intro rfl ?_)))))
  refine And.intro rfl (Exists.intro i.toNat (And.intro (by omega) (And.intro (show i.toNat < 2 from hi) ?_)))
  refine And.intro (fun z => ?_) (fun z => h.go (e1.trans (cit_n (by omega))) rfl hc (frC_r M))
  have e9 : sx S i.toNat = 1 := by omega
  have e2 := e1.trans (cit_y e9)
  obtain ⟨j1, j2⟩ := i3 e9
  refine And.intro rfl (Exists.intro _ (And.intro rfl (And.intro rfl (Exists.intro _ (And.intro rfl (And.intro rfl (Exists.intro _ (And.intro rfl ?_))))))))
  refine And.intro (Or.inr rfl) (Exists.intro i.toNat (And.intro (by omega) (And.intro (show i.toNat < 2 from hi) (Exists.intro _ (And.intro (W0_ir L i.toNat hi) ?_)))))
  refine And.intro rfl ?_
  refine c_copy hG (W0_g2 L) (W0_i L i.toNat hi) (by omega) j1 j2 (fun M1 g1 g2 => ?_)
  refine And.intro rfl (Exists.intro _ (And.intro rfl (And.intro rfl ?_)))
  refine c_hlose hG (M := M1) (c4.keep (fun a a1 a2 => g2 a (by omega))) (fun h1 => ?_)
  refine And.intro rfl ?_
  refine c_changed hG ?_
  have u : ∀ a, a ≠ 1 → upM (upM (upM M1 24 2 0) 1 9 1) 1 10 1 a = upM M1 24 2 0 a := fun a ha => by rw [upM_ne ha, upM_ne ha]
  have f : ∀ a, a ≠ 1 → a ≠ 24 → (a < 2 ∨ 11 < a) → upM (upM (upM M1 24 2 0) 1 9 1) 1 10 1 a = M a := fun a ha hb hd => by rw [u a ha, upM_ne hb, g2 a (by omega)]
  have g1' : GrR (upM (upM (upM M1 24 2 0) 1 9 1) 1 10 1) 2 (sI S i.toNat) := g1.keep (fun a a1 a2 => by rw [u a (by omega), upM_ne (by omega)])
  refine And.intro rfl (Exists.intro _ (And.intro rfl (And.intro rfl ?_)))
  refine h.go e2 g1'.1 ⟨g1', j2, c3.keep (by rw [f 22 (by omega) (by omega) (by omega)]) (f 23 (by omega) (by omega) (by omega)), h1.keep (fun a a1 a2 => u a (by omega)), c5.fr (fun a a1 a2 => f a (by omega) (by omega) (by omega)), c6.keep (fun a a1 a2 => f a (by omega) (by omega) (by omega)), ⟨G7, c7.keep (fun a a1 a2 => f a (by omega) (by omega) (by omega)), c7'⟩, ⟨G8, c8.keep (fun a a1 a2 => f a (by omega) (by omega) (by omega)), c8'⟩, Or.inr (by rw [upM_k (by decide), upM_eq]), Or.inr upM_eq⟩ (fun a ha => f a (by omega) (by omega) (by omega))
theorem x_count (hG : GOK Γ) (hc : CR M S) {w : Int} (h : Out Q L M (fCount S w)) : wp Γ mX9_count 0 [some (VR 1), some (VI w)] [] 0 0 (W0 L) M Q := by
  have gl := W0_g2 L
  obtain ⟨c1, c2, c3, c4, c5, c6, -⟩ := id hc
  obtain ⟨r, -, -, k3, -⟩ := id c4
  unfold fCount at h
  refine vc_go hG 60 (B := bX9_count) rfl ?_
  refine And.intro (fun y => ?_) (And.intro (fun y => ?_) (And.intro (fun y => ?_) (And.intro (fun y => ?_) (And.intro (fun y => ?_) (And.intro (fun y => ?_) (And.intro (fun y => ?_) (And.intro (fun y => ?_) (And.intro (fun y => ?_) trivial))))))))
  · rw [if_neg (by omega), if_neg (by omega), if_neg (by omega), if_neg (by omega), if_neg (by omega), if_neg (by omega), if_neg (by omega), if_neg (by omega)] at h
    exact h.go rfl rfl hc (frC_r M)
  · rw [if_pos (by omega)] at h
    refine And.intro rfl (Exists.intro _ (And.intro rfl (And.intro rfl ?_)))
    exact h.go rfl c1.1 hc (frC_r M)
  · rw [if_neg (by omega), if_pos (by omega)] at h
    refine And.intro rfl (Exists.intro _ (And.intro rfl (And.intro rfl ?_)))
    exact h.go rfl c1.2.1 hc (frC_r M)
  · rw [if_neg (by omega), if_neg (by omega), if_pos (by omega)] at h
    refine And.intro rfl (Exists.intro _ (And.intro rfl (And.intro rfl ?_)))
    exact h.go rfl c1.2.2.1 hc (frC_r M)
  · rw [if_neg (by omega), if_neg (by omega), if_neg (by omega), if_pos (by omega)] at h
    refine And.intro rfl (Exists.intro _ (And.intro rfl (And.intro rfl ?_)))
    exact c_notMet hG gl c1 c2 (h.go rfl rfl hc (frC_r M))
  · rw [if_neg (by omega), if_neg (by omega), if_neg (by omega), if_neg (by omega), if_pos (by omega)] at h
    refine And.intro rfl (Exists.intro _ (And.intro rfl (And.intro rfl ?_)))
    exact c_greatest hG gl c1 c2 (h.go rfl rfl hc (frC_r M))
  · rw [if_neg (by omega), if_neg (by omega), if_neg (by omega), if_neg (by omega), if_neg (by omega), if_pos (by omega)] at h
    refine And.intro rfl (Exists.intro _ (And.intro rfl (And.intro rfl ?_)))
    exact h.go rfl c6.1 hc (frC_r M)
  · rw [if_neg (by omega), if_neg (by omega), if_neg (by omega), if_neg (by omega), if_neg (by omega), if_neg (by omega), if_pos (by omega)] at h
    refine And.intro rfl (Exists.intro _ (And.intro rfl (And.intro rfl ?_)))
    exact h.go rfl c3.1 hc (frC_r M)
  · rw [if_neg (by omega), if_neg (by omega), if_neg (by omega), if_neg (by omega), if_neg (by omega), if_neg (by omega), if_neg (by omega), if_pos (by omega)] at h
    refine And.intro rfl (Exists.intro _ (And.intro rfl (And.intro rfl ?_)))
    exact h.go rfl k3 hc (frC_r M)
theorem x_by (hG : GOK Γ) (hc : CR M S) {v w : Int} (h : OutR Q L M S (byR (sG S) v w)) : wp Γ mX9_by 0 [some (VR 1), some (VI v), some (VI w)] [] 0 0 (W0 L) M Q := by
  refine vc_go hG 60 (B := bX9_by) rfl ?_
  refine c_isOddNumber hG (fun ho => ?_) (fun ho => And.intro (fun y => h _ M (Or.inl ⟨fun z => ho z.1, rfl⟩) hc (frC_r M)) (fun y => absurd rfl y))
  refine And.intro (fun y => absurd y (by decide)) (fun y => ?_)
  refine And.intro (fun y => h _ M (Or.inl ⟨fun z => by have := z.2.1; omega, rfl⟩) hc (frC_r M)) (fun y1 => ?_)
  refine And.intro (fun y2 => ?_) (fun y => h _ M (Or.inl ⟨fun z => by have := z.2.2; omega, rfl⟩) hc (frC_r M))
  refine And.intro rfl ?_
  refine c_fresh hG hc (fun M1 hc1 t f _ => ?_)
  obtain ⟨o1, o2, o3⟩ := id ho
  have hb : isOddN v ∧ inB w 3 := ⟨ho, y1, by omega⟩
  have hi : v.toNat / 2 < 512 := by omega
  have ev : v.toNat = 2 * (v.toNat / 2) + 1 := by omega
  refine And.intro rfl ?_
  refine c_way hG (W0_n153 L) t (i := v.toNat / 2) hi (by omega) ?_
  rcases t.cases hi with ⟨z, e⟩ | ⟨z, z1, -, e⟩ | ⟨z, p, q, s, g, z1, e, -⟩
  · rw [← ev] at z
    refine And.intro (fun x => by omega) (fun x => h _ M1 (Or.inr ⟨hb, Or.inl ⟨fun q => q.2.1 z, rfl⟩⟩) hc1 (fr3 f))
  · rw [← ev] at z z1
    refine And.intro (fun x => by omega) (fun x => h _ M1 (Or.inr ⟨hb, Or.inl ⟨fun q => ?_, rfl⟩⟩) hc1 (fr3 f))
    obtain ⟨p, q1, s, g, k⟩ := q.2.2
    exact z1 p q1 s g k
  · rw [← ev] at z z1
    have bb := byW_b hc.2.1 z1
    have fin : ∀ r : Int, r = selW w p q s g → Q (some (VI r)) (W0 L) M1 := fun r hr => h r M1 (Or.inr ⟨hb, Or.inr ⟨⟨⟨by omega, by omega⟩, z, p, q, s, g, z1⟩, p, q, s, g, z1, hr⟩⟩) hc1 (fr3 f)
    unfold selW at fin
    have hcd : cdw p q s g = 1024 * p + 64 * q + 4 * s + g := by unfold cdw; omega
    refine And.intro (fun x => ?_) (fun x => by omega)
    refine And.intro (fun y => ?_) (And.intro (fun y => ?_) (And.intro (fun y => ?_) (And.intro (fun y => ?_) trivial)))
    · refine c_wayF hG e (by omega) (fin _ ?_)
      rw [if_neg (by omega), if_neg (by omega), if_neg (by omega)]
      omega
    · refine c_wayP hG e (by omega) (fin _ ?_)
      rw [if_pos y]
      omega
    · refine c_wayQ hG e (by omega) (fin _ ?_)
      rw [if_neg (by omega), if_pos (by omega)]
      omega
    · refine c_wayS hG e (by omega) (fin _ ?_)
      rw [if_neg (by omega), if_neg (by omega), if_pos (by omega)]
      omega
theorem x_product (hG : GOK Γ) (hc : CR M S) {k x : Int} (h : ∀ M', CR M' S → frC M M' → Q (some (VL (fProd S k x))) (W0 L) M') : wp Γ mX9_product 0 [some (VR 1), some (VI k), some (VI x)] [] 0 0 (W0 L) M Q := by
  have gl := W0_g2 L
  obtain ⟨c1, c2, -⟩ := id hc
  have bad : ¬ (inB k (qn (sG S)) ∧ -99999 ≤ x ∧ x ≤ 99999) → Q (some (VL 0)) (W0 L) M := fun z => by
    have := h M hc (frC_r M)
    unfold fProd at this
    rw [cit_n z] at this
    exact this
  refine vc_go hG 60 (B := bX9_product) rfl ?_
  refine And.intro rfl (Exists.intro _ (And.intro rfl (And.intro rfl ?_)))
  refine c_isThere hG gl c1 (fun z1 => ?_) (fun z1 => And.intro (fun _ => bad (fun z => z1 z.1)) (fun c => absurd rfl c))
  refine And.intro (fun c => absurd c (by decide)) (fun c => ?_)
  refine And.intro (fun y => bad (fun z => by have y : x < -99999 := y; omega)) (fun y1 => ?_)
  refine And.intro (fun y2 => ?_) (fun y => bad (fun z => by have y : 99999 < x := y; omega))
  have y1 : -99999 ≤ x := y1
  have y2 : x ≤ 99999 := y2
  refine And.intro rfl (Exists.intro _ (And.intro rfl (And.intro rfl ?_)))
  have v1 := WFG_V c2 k.toNat (by omega)
  refine c_value hG gl c1 c2 (k := k.toNat) (by omega) (by omega) ?_
  have := h M hc (frC_r M)
  unfold fProd at this
  rw [cit_y ⟨z1, y1, y2⟩] at this
  refine And.intro ?_ this
  generalize qV (sG S) k.toNat = V at *
  have hv : (0 : Int) ≤ V ∧ (V : Int) ≤ 1023 := by omega
  constructor
  · have : -(1023 * 99999 : Int) ≤ (V : Int) * x := by
      rcases Int.le_total 0 x with q | q
      · have := Int.mul_nonneg hv.1 q
        omega
      · have h1 : (V : Int) * (-x) ≤ 1023 * 99999 := Int.mul_le_mul hv.2 (by omega) (by omega) (by omega)
        have h2 : (V : Int) * (-x) = -((V : Int) * x) := Int.mul_neg _ _
        omega
    omega
  · have : (V : Int) * x ≤ 1023 * 99999 := by
      rcases Int.le_total 0 x with q | q
      · exact Int.mul_le_mul hv.2 (by omega) (by omega) (by omega)
      · have h1 : 0 ≤ (V : Int) * (-x) := Int.mul_nonneg hv.1 (by omega)
        have h2 : (V : Int) * (-x) = -((V : Int) * x) := Int.mul_neg _ _
        omega
    omega
theorem c_sgd (hG : GOK Γ) {w : Wd} {vI kI : Int} {v k : Nat} (ev : vI = v) (ek : kI = k) (hv : v ≤ 1023) (hk : k ≤ 11) (h : Q (some (VI (sgd v k))) w M) : wp Γ mX9_signedDigit 0 [some (VI vI), some (VI kI)] [] 0 0 w M Q := by
  subst ev ek
  refine vc_go hG 60 (B := bX9_signedDigit) rfl ?_
  refine And.intro (by omega) (And.intro (by omega) (And.intro ⟨by omega, by omega, by omega⟩ ?_))
  have a1 : (3 : Int) * (v : Int) / 2 ^ (((k : Int) + 1).toNat) = ((3 * v / 2 ^ (k + 1) : Nat) : Int) := srN (3 * v) (k + 1)
  have a2 : (v : Int) / 2 ^ (((k : Int) + 1).toNat) = ((v / 2 ^ (k + 1) : Nat) : Int) := srN v (k + 1)
  have b1 : 3 * v / 2 ^ (k + 1) ≤ 3 * v := Nat.div_le_self _ _
  have b2 : v / 2 ^ (k + 1) ≤ v := Nat.div_le_self _ _
  have e1 := andI_1N (n := 3 * v / 2 ^ (k + 1)) (by omega)
  have e2 := andI_1N (n := v / 2 ^ (k + 1)) (by omega)
  rw [a1]
  refine And.intro (by omega) (And.intro ⟨by omega, by omega, by omega⟩ ?_)
  rw [a2]
  refine And.intro (by rw [e1, e2]; omega) ?_
  unfold sgd at h
  rw [← e1, ← e2] at h
  exact h
theorem x_digit (hG : GOK Γ) (hc : CR M S) {v k : Int} (h : Out Q L M (fDigit S v k)) : wp Γ mX9_digit 0 [some (VR 1), some (VI v), some (VI k)] [] 0 0 (W0 L) M Q := by
  refine vc_go hG 60 (B := bX9_digit) rfl ?_
  refine And.intro (fun y => h.go (cit_n (fun z => by omega)) rfl hc (frC_r M)) (fun y1 => ?_)
  refine And.intro (fun y => h.go (cit_n (fun z => by omega)) rfl hc (frC_r M)) (fun y2 => ?_)
  refine And.intro (fun y => h.go (cit_n (fun z => by have := z.2.1; omega)) rfl hc (frC_r M)) (fun y3 => ?_)
  refine And.intro (fun y4 => ?_) (fun y => h.go (cit_n (fun z => by have := z.2.2; omega)) rfl hc (frC_r M))
  refine c_sgd hG (v := v.toNat) (k := k.toNat) (by omega) (by omega) (by omega) (by omega) ?_
  have b : -1 ≤ sgd v.toNat k.toNat ∧ sgd v.toNat k.toNat ≤ 1 := by unfold sgd; omega
  refine And.intro (by omega) ?_
  exact h.go (cit_y ⟨⟨y1, y2⟩, y3, by omega⟩) rfl hc (frC_r M)
theorem l_digits (hG : GOK Γ) {v : Nat} (hv : v ≤ 1023) (h : Q (some (VI (dgc v 12 : Nat))) (W0 L) M) : ∀ (j k : Nat), k + j = 12 → wp Γ mX9_digits 18 [some (VR 1), some (VI v), some (VI (dgc v k : Nat)), some (VI k)] [] 0 0 (W0 L) M Q := by
  intro j
  induction j with
  | zero =>
    intro k hk
    have e : k = 12 := by omega
    subst e
    refine vc_go hG 60 (B := bX9_digits) rfl ?_
    exact And.intro (fun y => h) (fun y => by omega)
  | succ j ih =>
    intro k hk
    have dl := dgc_le v k
    have ed : dgc v (k + 1) = dgc v k + (if sgd v k = 0 then 0 else 1) := rfl
    have nx := ih (k + 1) (by omega)
    rw [ed] at nx
    refine vc_go hG 60 (B := bX9_digits) rfl ?_
    refine And.intro (fun y => by omega) (fun y => ?_)
    refine c_sgd hG rfl rfl hv (by omega) ?_
    refine And.intro (fun z => ?_) (fun z => ?_)
    · rw [if_pos z] at nx
      exact And.intro (by omega) nx
    · rw [if_neg z] at nx
      exact And.intro (by omega) (And.intro (by omega) nx)
theorem x_digits (hG : GOK Γ) (hc : CR M S) {v : Int} (h : Out Q L M (fDigits S v)) : wp Γ mX9_digits 0 [some (VR 1), some (VI v)] [] 0 0 (W0 L) M Q := by
  refine vc_go hG 60 (B := bX9_digits) rfl ?_
  refine And.intro (fun y => h.go (cit_n (fun z => by omega)) rfl hc (frC_r M)) (fun y1 => ?_)
  refine And.intro (fun y2 => ?_) (fun y => h.go (cit_n (fun z => by omega)) rfl hc (frC_r M))
  have ev : v = ((v.toNat : Nat) : Int) := by omega
  have := l_digits (L := L) (M := M) hG (v := v.toNat) (by omega) (h.go (cit_y ⟨y1, y2⟩) rfl hc (frC_r M)) 12 0 rfl
  rw [← ev] at this
  exact this
end Cls
end
section
/-! ===== the model: its own numbers ===== -/
theorem odp_self {n : Nat} (h : n % 2 = 1) (h2 : n < 2048) : odp n = n := (odd_uniq (i := hv n) (j := 0) (odp_odd (by omega) h2) h (by rw [odp_mul]; simp)).1
theorem odp_half {n : Nat} (h0 : n ≠ 0) (h2 : n < 2048) (h : n % 2 = 0) : odp (n / 2) = odp n := by
  refine (odd_uniq (i := hv (n / 2) + 1) (j := hv n) (odp_odd (by omega) (by omega)) (odp_odd h0 h2) ?_).1
  rw [odp_mul, Nat.pow_succ, ← Nat.mul_assoc, odp_mul]
  omega
section Mod
variable {Γ : GG} {L : Nat} {w : Wd} {M : MM} {Q : QT} {G : GT}
theorem m_in (hG : GOK Γ) {x lo hi : Int} (h1 : lo ≤ x ∧ x ≤ hi → Q (some (VI 1)) w M) (h0 : ¬ (lo ≤ x ∧ x ≤ hi) → Q (some (VI 0)) w M) : wp Γ mX10_in 0 [some (VI x), some (VI lo), some (VI hi)] [] 0 0 w M Q := by
  refine vc_go hG 60 (B := bX10_in) rfl ?_
  refine And.intro (fun a => And.intro (Or.inl rfl) (h0 (by omega))) (fun a => ?_)
  exact And.intro (fun b => And.intro (Or.inl rfl) (h0 (by omega))) (fun b => And.intro (Or.inr rfl) (h1 (by omega)))
theorem m_comes (hG : GOK Γ) {pI sI qI fI : Int} {p s q f : Nat} (ep : pI = p) (es : sI = s) (eq : qI = q) (ef : fI = f) (hp : p ≤ 1023) (hs : s ≤ 9) (hq : q ≤ 1023) (hf : f ≤ 3) (h : Q (some (VI (cms p s q f : Nat))) w M) : wp Γ mX10_comes 0 [some (VI pI), some (VI sI), some (VI qI), some (VI fI)] [] 0 0 w M Q := by
  subst ep es eq ef
  have h1 := pw9 hs
  have h2 : p * 2 ^ s ≤ 1023 * 512 := Nat.mul_le_mul hp h1.2
  have h3 : q * 2 ^ s ≤ 1023 * 512 := Nat.mul_le_mul hq h1.2
  have e2 := shN p s
  have e3 := shN q s
  unfold cms at h
  have fin : ∀ z : Int, (-600000 ≤ z ∧ z ≤ 2000000) → (z = (cms p s q f : Nat) ∨ z = -(cms p s q f : Nat)) → wp Γ mX10_comes 45 [some (VI (p : Int)), some (VI (s : Int)), some (VI (q : Int)), some (VI (f : Int)), some (VI z)] [] 0 0 w M Q := by
    intro z hz hzz
    refine vc_go hG 60 (B := bX10_comes) rfl ?_
    have fz : ∀ y : Int, y = (cms p s q f : Nat) → Q (some (VI y)) w M := fun y hy => by rw [hy]; exact h
    refine And.intro (fun a => fz z (by omega)) (fun a => And.intro (by unfold inR; omega) (fz (-z) (by omega)))
  unfold cms at fin
  refine vc_goS hG 60 [45] (B := bX10_comes) rfl ?_
  refine And.intro (fun a => ?_) (fun a => ?_)
  · refine And.intro (fun b => ?_) (fun b => ?_)
    · refine And.intro (fun c => ?_) (fun c => ?_)
      · have hf3 : f = 3 := by omega
        rw [hf3, if_neg (by decide), if_neg (by decide), if_neg (by decide)] at fin
        refine And.intro ⟨by omega, by omega, by omega, by rw [e3]; omega⟩ ?_
        rw [e3]
        refine And.intro (by omega) ?_
        rw [hf3]
        exact fin _ (by omega) (by omega)
      · have hf3 : f = 2 := by omega
        rw [hf3, if_neg (by decide), if_neg (by decide), if_pos rfl] at fin
        refine And.intro ⟨by omega, by omega, by omega, by rw [e3]; omega⟩ ?_
        rw [e3]
        refine And.intro (by omega) ?_
        rw [hf3]
        exact fin _ (by omega) (by omega)
    · have hf3 : f = 1 := by omega
      rw [hf3, if_neg (by decide), if_pos rfl] at fin
      refine And.intro ⟨by omega, by omega, by omega, by rw [e2]; omega⟩ ?_
      rw [e2]
      refine And.intro (by omega) ?_
      rw [hf3]
      exact fin _ (by omega) (by omega)
  · have hf3 : f = 0 := by omega
    rw [hf3, if_pos rfl] at fin
    refine And.intro ⟨by omega, by omega, by omega, by rw [e2]; omega⟩ ?_
    rw [e2]
    refine And.intro (by omega) ?_
    rw [hf3]
    exact fin _ (by omega) (by omega)
theorem l_modd (hG : GOK Γ) {n : Nat} (h : Q (some (VI (odp n : Nat))) w M) : ∀ (j m : Nat), m < 2 ^ j → m < 2048 → odp m = odp n → wp Γ mX10_oddPart 2 [some (VI n), some (VI m)] [] 0 0 w M Q := by
  intro j
  induction j with
  | zero =>
    intro m h1 h2 h3
    have e : m = 0 := by simp at h1; omega
    subst e
    refine vc_go hG 60 (B := bX10_oddPart) rfl ?_
    refine And.intro (fun a => ?_) (fun a => by omega)
    rw [← h3, odp_0] at h
    exact h
  | succ j ih =>
    intro m h1 h2 h3
    refine vc_go hG 60 (B := bX10_oddPart) rfl ?_
    refine And.intro (fun a => ?_) (fun a => ?_)
    · have e : m = 0 := by omega
      subst e
      rw [← h3, odp_0] at h
      exact h
    · refine And.intro ⟨by omega, by decide⟩ (And.intro (fun b => ?_) (fun b => ?_))
      · have e : m % 2 = 1 := by omega
        rw [← h3, odp_self e h2] at h
        exact h
      · refine And.intro ⟨by omega, by decide⟩ ?_
        have e : (m : Int) / 2 = ((m / 2 : Nat) : Int) := rfl
        rw [e]
        rw [Nat.pow_succ] at h1
        exact ih (m / 2) (by omega) (by omega) ((odp_half (by omega) h2 (by omega)).trans h3)
theorem m_oddPart (hG : GOK Γ) {nI : Int} {n : Nat} (en : nI = n) (hn : n < 2048) (h : Q (some (VI (odp n : Nat))) w M) : wp Γ mX10_oddPart 0 [some (VI nI)] [] 0 0 w M Q := by
  subst en
  refine vc_go hG 60 (B := bX10_oddPart) rfl ?_
  exact l_modd hG h 11 n hn hn rfl
-- rows, and what is reckoned of them
def RwR (M : MM) (a : Nat) (G : GT) : Prop := M a 0 = qn G ∧ M a 49 = qm G ∧ M a 56 = qL G ∧ (∀ k, k < qn G → M a (1 + k) = qP G k ∧ M a (13 + k) = qS G k ∧ M a (25 + k) = qQ G k ∧ M a (37 + k) = qF G k) ∧ ∀ k, k < qm G → M a (50 + k) = qC G k
theorem RwR.keep {M M' : MM} {a : Nat} {G : GT} (h : RwR M a G) (hf : M' a = M a) : RwR M' a G := by
  unfold RwR
  rw [hf]
  exact h
def OdR (M : MM) (m : Nat) (V D : Nat → Nat) : Prop := M 187 20 = m ∧ ∀ k, k < m → M 197 k = V k ∧ M 198 k = D k
theorem OdR.keep {M M' : MM} {m : Nat} {V D : Nat → Nat} (h : OdR M m V D) (h1 : M' 187 20 = M 187 20) (h2 : M' 197 = M 197) (h3 : M' 198 = M 198) : OdR M' m V D := by
  unfold OdR
  rw [h1, h2, h3]
  exact h
def RwL (L a : Nat) : Prop := (W0 L).1 a = 0 ∧ (W0 L).2.1 a = 57
theorem RwL_d (L : Nat) : RwL L 189 := ⟨rfl, rfl⟩
theorem RwL_s (L : Nat) : RwL L 190 := ⟨rfl, rfl⟩
theorem RwL_w (L : Nat) : RwL L 191 := ⟨rfl, rfl⟩
theorem m_deeperB (hG : GOK Γ) {m : Nat} {V D : Nat → Nat} (ho : ∀ k, k < m → M 197 k = V k ∧ M 198 k = D k) (hD : ∀ k, k < m → D k ≤ 13) {pI qI : Int} {p q : Nat} (ep : pI = p) (eq : qI = q) (hm : m ≤ 14) (hp : p < m) (hq : q < m) (h : Q (some (VI (max (D p) (D q) + 1 : Nat))) (W0 L) M) : wp Γ mX10_deeper 0 [some (VR 187), some (VI pI), some (VI qI)] [] 0 0 (W0 L) M Q := by
  subst ep eq
  have e1 := (ho p hp).2
  have e2 := (ho q hq).2
  have d1 := hD p hp
  have d2 := hD q hq
  have fz : ∀ y : Int, y = ((max (D p) (D q) + 1 : Nat) : Int) → Q (some (VI y)) (W0 L) M := fun y hy => by rw [hy]; exact h
  refine vc_go hG 60 (B := bX10_deeper) rfl ?_
  refine And.intro rfl (Exists.intro _ (And.intro rfl ?_))
  refine And.intro (Or.inl rfl) (Exists.intro p (And.intro rfl (And.intro (show p < 14 by omega) ?_)))
  refine And.intro rfl (Exists.intro _ (And.intro rfl ?_))
  refine And.intro (Or.inl rfl) (Exists.intro q (And.intro rfl (And.intro (show q < 14 by omega) ?_)))
  refine And.intro (fun a => ?_) (fun a => ?_)
  · refine And.intro rfl (Exists.intro _ (And.intro rfl ?_))
    refine And.intro (Or.inl rfl) (Exists.intro q (And.intro rfl (And.intro (show q < 14 by omega) ?_)))
    exact And.intro (by omega) (fz _ (by omega))
  · refine And.intro rfl (Exists.intro _ (And.intro rfl ?_))
    refine And.intro (Or.inl rfl) (Exists.intro p (And.intro rfl (And.intro (show p < 14 by omega) ?_)))
    exact And.intro (by omega) (fz _ (by omega))
theorem m_deeper (hG : GOK Γ) {m : Nat} {V D : Nat → Nat} (ho : OdR M m V D) (hD : ∀ k, k < m → D k ≤ 13) {pI qI : Int} {p q : Nat} (ep : pI = p) (eq : qI = q) (hm : m ≤ 14) (hp : p < m) (hq : q < m) (h : Q (some (VI (max (D p) (D q) + 1 : Nat))) (W0 L) M) : wp Γ mX10_deeper 0 [some (VR 187), some (VI pI), some (VI qI)] [] 0 0 (W0 L) M Q := m_deeperB hG ho.2 hD ep eq hm hp hq h
/-- the rows of values and depths hold small numbers, old ones too -/
def OB (M : MM) : Prop := ∀ k, k < 14 → (0 ≤ M 197 k ∧ M 197 k ≤ 1023) ∧ (0 ≤ M 198 k ∧ M 198 k ≤ 13)
theorem OB.keep {M M' : MM} (h : OB M) (h1 : M' 197 = M 197) (h2 : M' 198 = M 198) : OB M' := by
  unfold OB
  rw [h1, h2]
  exact h
theorem OB.up {M : MM} (h : OB M) {i : Nat} {x : Int} (hx : 0 ≤ x ∧ x ≤ 1023) : OB (upM M 197 i x) := fun k hk => by
  rw [upM_a (a := 197) (b := 198) (by decide)]
  refine ⟨?_, (h k hk).2⟩
  by_cases q : k = i
  · subst q; rw [upM_eq]; exact hx
  · rw [upM_k q]; exact (h k hk).1
theorem OB.up2 {M : MM} (h : OB M) {i : Nat} {x : Int} (hx : 0 ≤ x ∧ x ≤ 13) : OB (upM M 198 i x) := fun k hk => by
  rw [upM_a (a := 198) (b := 197) (by decide)]
  refine ⟨(h k hk).1, ?_⟩
  by_cases q : k = i
  · subst q; rw [upM_eq]; exact hx
  · rw [upM_k q]; exact (h k hk).2
theorem OB.up3 {M : MM} (h : OB M) {a i : Nat} {x : Int} (h1 : 197 ≠ a) (h2 : 198 ≠ a) : OB (upM M a i x) := h.keep (upM_ne h1) (upM_ne h2)
def frK (M M' : MM) : Prop := (∀ a, a ≠ 187 → a ≠ 197 → a ≠ 198 → M' a = M a) ∧ (∀ j, j ≠ 20 → M' 187 j = M 187 j) ∧ (OB M → OB M')
theorem l_reckons (hG : GOK Γ) {a : Nat} (ha : RwL L a) (ha2 : a < 197) (ha3 : 187 < a) (hr : RwR M a G) (hw : WFG G) (h : ∀ M', OdR M' (qn G + 1) (qV G) (qD G) → frK M M' → Q none (W0 L) M') : ∀ (j k : Nat) (M1 : MM), k + j = qn G → OdR M1 (k + 1) (qV G) (qD G) → frK M M1 → wp Γ mX10_reckons 21 [some (VR 187), some (VR a), some (VI k)] [] 0 0 (W0 L) M1 Q := by
  have n12 := hw.1
  intro j
  induction j with
  | zero =>
    intro k M1 hk ho hf
    have e : k = qn G := by omega
    subst e
    have e0 : M1 a 0 = qn G := by rw [hf.1 a (by omega) (by omega) (by omega)]; exact hr.1
    refine vc_go hG 120 (B := bX10_reckons) rfl ?_
    refine And.intro (Or.inl ha.1) (Exists.intro 0 (And.intro rfl (And.intro (by rw [ha.2]; decide) ?_)))
    exact And.intro (fun y => h M1 ho hf) (fun y => by omega)
  | succ j ih =>
    intro k M1 hk ho hf
    have ea : M1 a = M a := hf.1 a (by omega) (by omega) (by omega)
    have e0 : M1 a 0 = qn G := by rw [ea]; exact hr.1
    obtain ⟨e1, e2, e3, e4⟩ := hr.2.2.2.1 k (by omega)
    rw [← ea] at e1 e2 e3 e4
    obtain ⟨w1, w2, w3, w4, w5, w6, w7, w8⟩ := hw.2.2.2.2.2.1 k (by omega)
    have v1 := WFG_V hw (qP G k) (by omega)
    have v2 := WFG_V hw (qQ G k) (by omega)
    have o1 := (ho.2 (qP G k) (by omega)).1
    have o2 := (ho.2 (qQ G k) (by omega)).1
    refine vc_go hG 120 (B := bX10_reckons) rfl ?_
    refine And.intro (Or.inl ha.1) (Exists.intro 0 (And.intro rfl (And.intro (by rw [ha.2]; decide) ?_)))
    refine And.intro (fun y => by omega) (fun y => ?_)
    refine And.intro (by omega) ?_
    refine And.intro (Or.inl ha.1) (Exists.intro (1 + k) (And.intro (by omega) (And.intro (by rw [ha.2]; omega) ?_)))
    refine And.intro (by omega) ?_
    refine And.intro (Or.inl ha.1) (Exists.intro (25 + k) (And.intro (by omega) (And.intro (by rw [ha.2]; omega) ?_)))
    refine And.intro rfl (Exists.intro _ (And.intro rfl ?_))
    refine And.intro (by omega) ?_
    refine And.intro rfl (Exists.intro _ (And.intro rfl ?_))
    refine And.intro (Or.inl rfl) (Exists.intro (qP G k) (And.intro e1 (And.intro (show qP G k < 14 by omega) ?_)))
    refine And.intro (by omega) ?_
    refine And.intro (Or.inl ha.1) (Exists.intro (13 + k) (And.intro (by omega) (And.intro (by rw [ha.2]; omega) ?_)))
    refine And.intro rfl (Exists.intro _ (And.intro rfl ?_))
    refine And.intro (Or.inl rfl) (Exists.intro (qQ G k) (And.intro e3 (And.intro (show qQ G k < 14 by omega) ?_)))
    refine And.intro (by omega) ?_
    refine And.intro (Or.inl ha.1) (Exists.intro (37 + k) (And.intro (by omega) (And.intro (by rw [ha.2]; omega) ?_)))
    refine m_comes hG o1 e2 o2 e4 v1.2.1 w3 v2.2.1 w4 ?_
    refine m_oddPart hG rfl (by have : qX G k < 2048 := by omega
                                exact this) ?_
    refine And.intro rfl (Exists.intro (k + 1) (And.intro rfl (And.intro (show k + 1 < 14 by omega) ?_)))
    have ho2 : OdR (upM M1 197 (k + 1) ((odp (qX G k) : Nat) : Int)) (k + 1) (qV G) (qD G) := ⟨by rw [upM_a (by decide)]; exact ho.1, fun i hi => by rw [upM_k (by omega), upM_a (by decide)]; exact ho.2 i hi⟩
    refine And.intro rfl (Exists.intro _ (And.intro rfl ?_))
    refine And.intro (by omega) ?_
    refine And.intro rfl ?_
    refine m_deeper hG ho2 (fun i hi => by have := WFG_D hw i (by omega); omega) e1 e3 (by omega) (by omega) (by omega) ?_
    refine And.intro rfl (Exists.intro (k + 1) (And.intro rfl (And.intro (show k + 1 < 14 by omega) ?_)))
    refine And.intro rfl (And.intro ?_ (And.intro rfl ?_))
    · rw [upM_a (by decide), upM_a (by decide), ho.1]; omega
    refine And.intro (by omega) ?_
    refine wp_pre [some (VR 187), some (VR a), some (VI ((k + 1 : Nat) : Int))] _ ?_
    have dp := WFG_D hw (qP G k) (by omega)
    have dq := WFG_D hw (qQ G k) (by omega)
    have ol := odp_le (qX G k)
    refine ih (k + 1) _ (by omega) ⟨?_, fun i hi => ?_⟩ ⟨fun b b1 b2 b3 => ?_, fun i hi => ?_, fun z => (((hf.2.2 z).up ⟨by omega, by omega⟩).up2 ⟨by omega, by omega⟩).up3 (by decide) (by decide)⟩
    · rw [upM_eq, upM_a (by decide), upM_a (by decide), ho.1]; omega
    · by_cases q : i = k + 1
      · subst q
        rw [upM_a (by decide), upM_a (by decide), upM_eq, upM_a (by decide), upM_eq, w7, w8]
        exact ⟨rfl, rfl⟩
      · rw [upM_a (by decide), upM_a (by decide), upM_k q, upM_a (by decide), upM_k q, upM_a (by decide)]
        exact ho.2 i (by omega)
    · rw [upM_ne b1, upM_ne b3, upM_ne b2]; exact hf.1 b b1 b2 b3
    · rw [upM_k hi, upM_a (by decide), upM_a (by decide)]; exact hf.2.1 i hi
theorem m_reckons (hG : GOK Γ) {a : Nat} (ha : RwL L a) (ha2 : a < 197) (ha3 : 187 < a) (hr : RwR M a G) (hw : WFG G) (h : ∀ M', OdR M' (qn G + 1) (qV G) (qD G) → frK M M' → Q none (W0 L) M') : wp Γ mX10_reckons 0 [some (VR 187), some (VR a)] [] 0 0 (W0 L) M Q := by
  refine vc_go hG 120 (B := bX10_reckons) rfl ?_
  refine And.intro rfl (Exists.intro _ (And.intro rfl ?_))
  refine And.intro rfl (Exists.intro 0 (And.intro rfl (And.intro (show 0 < 14 by decide) ?_)))
  refine And.intro rfl (Exists.intro _ (And.intro rfl ?_))
  refine And.intro rfl (Exists.intro 0 (And.intro rfl (And.intro (show 0 < 14 by decide) ?_)))
  refine And.intro rfl ?_
  refine l_reckons hG ha ha2 ha3 hr hw h (qn G) 0 _ (by omega) ⟨upM_eq, fun i hi => ?_⟩ ⟨fun b b1 b2 b3 => ?_, fun i hi => ?_, fun z => ((z.up ⟨by omega, by omega⟩).up2 ⟨by omega, by omega⟩).up3 (by decide) (by decide)⟩
  · have e : i = 0 := by omega
    subst e
    rw [upM_a (by decide), upM_a (by decide), upM_eq, upM_a (by decide), upM_eq, hw.2.2.2.1, hw.2.2.2.2.1]
    exact ⟨rfl, rfl⟩
  · rw [upM_ne b1, upM_ne b3, upM_ne b2]
  · rw [upM_k hi, upM_a (by decide), upM_a (by decide)]
end Mod
end
section
/-! ===== the model: rows ===== -/
def mayV (V D : Nat → Nat) (lim p s q f : Nat) : Prop := 1 ≤ cms (V p) s (V q) f ∧ cms (V p) s (V q) f ≤ 1023 ∧ max (D p) (D q) + 1 ≤ lim
theorem RwR.cp {M M' : MM} {a b : Nat} {G : GT} (h : RwR M a G) (hw : WFG G) (hc : ∀ i, i < 57 → M' b i = M a i) : RwR M' b G := by
  have n12 := hw.1
  have m6 := hw.2.1
  obtain ⟨r1, r2, r3, r4, r5⟩ := h
  refine ⟨by rw [hc 0 (by decide)]; exact r1, by rw [hc 49 (by decide)]; exact r2, by rw [hc 56 (by decide)]; exact r3, fun k hk => ?_, fun k hk => by rw [hc _ (by omega)]; exact r5 k hk⟩
  rw [hc _ (by omega), hc _ (by omega), hc _ (by omega), hc _ (by omega)]
  exact r4 k hk
section Mod
variable {Γ : GG} {L : Nat} {M : MM} {Q : QT} {G : GT}
theorem m_mayBeB (hG : GOK Γ) {m : Nat} {V D : Nat → Nat} (ho : ∀ k, k < m → M 197 k = V k ∧ M 198 k = D k) (hV : ∀ k, k < m → V k ≤ 1023) (hD : ∀ k, k < m → D k ≤ 13) (hm : m ≤ 14) {pI sI qI fI lI : Int} {p s q f l : Nat} (ep : pI = p) (es : sI = s) (eq : qI = q) (ef : fI = f) (el : lI = l) (hp : p < m) (hs : s ≤ 9) (hq : q < m) (hf : f ≤ 3) (h1 : mayV V D l p s q f → Q (some (VI 1)) (W0 L) M) (h0 : ¬ mayV V D l p s q f → Q (some (VI 0)) (W0 L) M) : wp Γ mX10_mayBe 0 [some (VR 187), some (VI pI), some (VI sI), some (VI qI), some (VI fI), some (VI lI)] [] 0 0 (W0 L) M Q := by
  subst ep es eq ef el
  have e1 := (ho p hp).1
  have e2 := (ho q hq).1
  refine vc_go hG 60 (B := bX10_mayBe) rfl ?_
  refine And.intro rfl (Exists.intro _ (And.intro rfl ?_))
  refine And.intro (Or.inl rfl) (Exists.intro p (And.intro rfl (And.intro (show p < 14 by omega) ?_)))
  refine And.intro rfl (Exists.intro _ (And.intro rfl ?_))
  refine And.intro (Or.inl rfl) (Exists.intro q (And.intro rfl (And.intro (show q < 14 by omega) ?_)))
  refine m_comes hG e1 rfl e2 rfl (hV p hp) hs (hV q hq) hf ?_
  refine m_in hG (fun z => ?_) (fun z => And.intro (fun c => And.intro (Or.inl rfl) (h0 (fun x => by have := x.1; have := x.2.1; omega))) (fun c => absurd rfl c))
  refine And.intro (fun c => absurd c (by decide)) (fun c => ?_)
  refine And.intro rfl ?_
  refine m_deeperB hG ho hD rfl rfl hm hp hq ?_
  refine And.intro (fun c => And.intro (Or.inl rfl) (h0 (fun x => by have := x.2.2; omega))) (fun c => And.intro (Or.inr rfl) (h1 ⟨by omega, by omega, by omega⟩))
theorem m_mayBe (hG : GOK Γ) {m : Nat} {V D : Nat → Nat} (ho : OdR M m V D) (hV : ∀ k, k < m → V k ≤ 1023) (hD : ∀ k, k < m → D k ≤ 13) (hm : m ≤ 14) {pI sI qI fI lI : Int} {p s q f l : Nat} (ep : pI = p) (es : sI = s) (eq : qI = q) (ef : fI = f) (el : lI = l) (hp : p < m) (hs : s ≤ 9) (hq : q < m) (hf : f ≤ 3) (h1 : mayV V D l p s q f → Q (some (VI 1)) (W0 L) M) (h0 : ¬ mayV V D l p s q f → Q (some (VI 0)) (W0 L) M) : wp Γ mX10_mayBe 0 [some (VR 187), some (VI pI), some (VI sI), some (VI qI), some (VI fI), some (VI lI)] [] 0 0 (W0 L) M Q := m_mayBeB hG ho.2 hV hD hm ep es eq ef el hp hs hq hf h1 h0
theorem m_makes (hG : GOK Γ) {a : Nat} (ha : RwL L a) (hr : RwR M a G) (hw : WFG G) (hn : qn G < 12) {pI sI qI fI : Int} {p s q f : Nat} (ep : pI = p) (es : sI = s) (eq : qI = q) (ef : fI = f) (h : ∀ M', RwR M' a (addG G p s q f) → (∀ b, b ≠ a → M' b = M b) → Q none (W0 L) M') : wp Γ mX10_makes 0 [some (VR a), some (VI pI), some (VI sI), some (VI qI), some (VI fI)] [] 0 0 (W0 L) M Q := by
  subst ep es eq ef
  obtain ⟨r1, r2, r3, r4, r5⟩ := hr
  have m6 := hw.2.1
  refine vc_go hG 60 (B := bX10_makes) rfl ?_
  refine And.intro (Or.inl ha.1) (Exists.intro 0 (And.intro rfl (And.intro (by rw [ha.2]; decide) ?_)))
  refine And.intro (by omega) ?_
  refine And.intro ha.1 (Exists.intro (1 + qn G) (And.intro (by omega) (And.intro (by rw [ha.2]; omega) ?_)))
  refine And.intro (by omega) ?_
  refine And.intro ha.1 (Exists.intro (13 + qn G) (And.intro (by omega) (And.intro (by rw [ha.2]; omega) ?_)))
  refine And.intro (by omega) ?_
  refine And.intro ha.1 (Exists.intro (25 + qn G) (And.intro (by omega) (And.intro (by rw [ha.2]; omega) ?_)))
  refine And.intro (by omega) ?_
  refine And.intro ha.1 (Exists.intro (37 + qn G) (And.intro (by omega) (And.intro (by rw [ha.2]; omega) ?_)))
  refine And.intro (Or.inl ha.1) (Exists.intro 0 (And.intro rfl (And.intro (by rw [ha.2]; decide) ?_)))
  have e0 : upM (upM (upM (upM M a (1 + qn G) (p : Int)) a (13 + qn G) (s : Int)) a (25 + qn G) (q : Int)) a (37 + qn G) (f : Int) a 0 = qn G := by
    rw [upM_k (by omega), upM_k (by omega), upM_k (by omega), upM_k (by omega)]; exact r1
  rw [e0]
  refine And.intro (by omega) ?_
  refine And.intro ha.1 (Exists.intro 0 (And.intro rfl (And.intro (by rw [ha.2]; decide) ?_)))
  refine h _ ⟨by rw [upM_eq]; rfl, ?_, ?_, fun k hk => ?_, fun k hk => ?_⟩ (fun b hb => by rw [upM_ne hb, upM_ne hb, upM_ne hb, upM_ne hb, upM_ne hb])
  · rw [upM_k (by omega), upM_k (by omega), upM_k (by omega), upM_k (by omega), upM_k (by omega)]; exact r2
  · rw [upM_k (by omega), upM_k (by omega), upM_k (by omega), upM_k (by omega), upM_k (by omega)]; exact r3
  · have hk : k < qn G + 1 := hk
    by_cases z : k = qn G
    · subst z
      refine ⟨?_, ?_, ?_, ?_⟩
      · rw [upM_k (by omega), upM_k (by omega), upM_k (by omega), upM_k (by omega), upM_eq]
        show _ = ((upN _ _ _ _ : Nat) : Int)
        rw [upN_eq]
      · rw [upM_k (by omega), upM_k (by omega), upM_k (by omega), upM_eq]
        show _ = ((upN _ _ _ _ : Nat) : Int)
        rw [upN_eq]
      · rw [upM_k (by omega), upM_k (by omega), upM_eq]
        show _ = ((upN _ _ _ _ : Nat) : Int)
        rw [upN_eq]
      · rw [upM_k (by omega), upM_eq]
        show _ = ((upN _ _ _ _ : Nat) : Int)
        rw [upN_eq]
    · obtain ⟨z1, z2, z3, z4⟩ := r4 k (by omega)
      refine ⟨?_, ?_, ?_, ?_⟩
      · rw [upM_k (by omega), upM_k (by omega), upM_k (by omega), upM_k (by omega), upM_k (by omega)]
        show _ = ((upN _ _ _ _ : Nat) : Int)
        rw [upN_ne z]; exact z1
      · rw [upM_k (by omega), upM_k (by omega), upM_k (by omega), upM_k (by omega), upM_k (by omega)]
        show _ = ((upN _ _ _ _ : Nat) : Int)
        rw [upN_ne z]; exact z2
      · rw [upM_k (by omega), upM_k (by omega), upM_k (by omega), upM_k (by omega), upM_k (by omega)]
        show _ = ((upN _ _ _ _ : Nat) : Int)
        rw [upN_ne z]; exact z3
      · rw [upM_k (by omega), upM_k (by omega), upM_k (by omega), upM_k (by omega), upM_k (by omega)]
        show _ = ((upN _ _ _ _ : Nat) : Int)
        rw [upN_ne z]; exact z4
  · rw [upM_k (by omega), upM_k (by omega), upM_k (by omega), upM_k (by omega), upM_k (by omega)]; exact r5 k hk
theorem l_isOdds (hG : GOK Γ) {m : Nat} {V D : Nat → Nat} (ho : OdR M m V D) (hm : m ≤ 14) {v : Nat} (h1 : (∃ k, k < m ∧ V k = v) → Q (some (VI 1)) (W0 L) M) (h0 : (∀ k, k < m → V k ≠ v) → Q (some (VI 0)) (W0 L) M) : ∀ (j k : Nat) (z : Int), k + j = m → ((z = 1 ∧ ∃ i, i < k ∧ V i = v) ∨ (z = 0 ∧ ∀ i, i < k → V i ≠ v)) → wp Γ mX10_isOdds 4 [some (VR 187), some (VI v), some (VI z), some (VI k)] [] 0 0 (W0 L) M Q := by
  have e0 := ho.1
  intro j
  induction j with
  | zero =>
    intro k z hk hz
    have e : k = m := by omega
    subst e
    refine vc_go hG 60 (B := bX10_isOdds) rfl ?_
    refine And.intro rfl (And.intro (fun y => ?_) (fun y => by omega))
    rcases hz with ⟨rfl, hz⟩ | ⟨rfl, hz⟩
    · exact And.intro (Or.inr rfl) (h1 hz)
    · exact And.intro (Or.inl rfl) (h0 hz)
  | succ j ih =>
    intro k z hk hz
    have e1 := (ho.2 k (by omega)).1
    refine vc_go hG 60 (B := bX10_isOdds) rfl ?_
    refine And.intro rfl (And.intro (fun y => by omega) (fun y => ?_))
    refine And.intro (fun y2 => ?_) (fun y2 => ?_)
    · refine And.intro (by omega) ?_
      refine ih (k + 1) 1 (by omega) (Or.inl ⟨rfl, ?_⟩)
      rcases hz with ⟨-, i, h1, h2⟩ | ⟨e, -⟩
      · exact ⟨i, by omega, h2⟩
      · exact absurd e y2
    · have no : ∀ i, i < k → V i ≠ v := by
        rcases hz with ⟨e, -⟩ | ⟨-, hz⟩
        · omega
        · exact hz
      refine And.intro rfl (Exists.intro _ (And.intro rfl ?_))
      refine And.intro (Or.inl rfl) (Exists.intro k (And.intro rfl (And.intro (show k < 14 by omega) ?_)))
      refine And.intro (fun y3 => ?_) (fun y3 => ?_)
      · refine And.intro (by omega) ?_
        refine ih (k + 1) 0 (by omega) (Or.inr ⟨rfl, fun i hi => ?_⟩)
        by_cases q : i = k
        · subst q; omega
        · exact no i (by omega)
      · refine And.intro (by omega) ?_
        exact ih (k + 1) 1 (by omega) (Or.inl ⟨rfl, k, by omega, by omega⟩)
theorem m_isOdds (hG : GOK Γ) {m : Nat} {V D : Nat → Nat} (ho : OdR M m V D) (hm : m ≤ 14) {vI : Int} {v : Nat} (ev : vI = v) (h1 : (∃ k, k < m ∧ V k = v) → Q (some (VI 1)) (W0 L) M) (h0 : (∀ k, k < m → V k ≠ v) → Q (some (VI 0)) (W0 L) M) : wp Γ mX10_isOdds 0 [some (VR 187), some (VI vI)] [] 0 0 (W0 L) M Q := by
  subst ev
  refine vc_go hG 60 (B := bX10_isOdds) rfl ?_
  exact l_isOdds hG ho hm h1 h0 m 0 0 (by omega) (Or.inr ⟨rfl, fun i hi => by omega⟩)
theorem l_begins (hG : GOK Γ) (h : ∀ M', RwR M' 189 E6 → (∀ b, b ≠ 189 → M' b = M b) → Q none (W0 L) M') : ∀ (j k : Nat) (M1 : MM), k + j = 57 → (∀ i, i < k → M1 189 i = 0) → (∀ b, b ≠ 189 → M1 b = M b) → wp Γ mX10_begins 2 [some (VR 187), some (VI k)] [] 0 0 (W0 L) M1 Q := by
  intro j
  induction j with
  | zero =>
    intro k M1 hk hz hf
    have e : k = 57 := by omega
    subst e
    refine vc_go hG 60 (B := bX10_begins) rfl ?_
    refine And.intro (fun y => ?_) (fun y => by omega)
    refine And.intro rfl (Exists.intro _ (And.intro rfl ?_))
    refine And.intro rfl (Exists.intro 56 (And.intro rfl (And.intro (show 56 < 57 by decide) ?_)))
    refine h _ ⟨?_, ?_, upM_eq, fun k hk => absurd hk (Nat.not_lt_zero k), fun k hk => absurd hk (Nat.not_lt_zero k)⟩ (fun b hb => by rw [upM_ne hb]; exact hf b hb)
    · rw [upM_k (by decide)]; exact hz 0 (by decide)
    · rw [upM_k (by decide)]; exact hz 49 (by decide)
  | succ j ih =>
    intro k M1 hk hz hf
    refine vc_go hG 60 (B := bX10_begins) rfl ?_
    refine And.intro (fun y => by omega) (fun y => ?_)
    refine And.intro rfl (Exists.intro _ (And.intro rfl ?_))
    refine And.intro rfl (Exists.intro k (And.intro rfl (And.intro (show k < 57 by omega) ?_)))
    refine And.intro (by omega) ?_
    refine ih (k + 1) _ (by omega) (fun i hi => ?_) (fun b hb => by rw [upM_ne hb]; exact hf b hb)
    by_cases q : i = k
    · subst q; exact upM_eq
    · rw [upM_k q]; exact hz i (by omega)
theorem m_begins (hG : GOK Γ) (h : ∀ M', RwR M' 189 E6 → (∀ b, b ≠ 189 → M' b = M b) → Q none (W0 L) M') : wp Γ mX10_begins 0 [some (VR 187)] [] 0 0 (W0 L) M Q := by
  refine vc_go hG 60 (B := bX10_begins) rfl ?_
  exact l_begins hG h 57 0 M rfl (fun i hi => by omega) (fun b _ => rfl)
theorem l_copies (hG : GOK Γ) {a c : Nat} (ha : RwL L a) (hc : RwL L c) (hd : a ≠ c) (h : ∀ M', (∀ i, i < 57 → M' c i = M a i) → (∀ b, b ≠ c → M' b = M b) → Q none (W0 L) M') : ∀ (j k : Nat) (M1 : MM), k + j = 57 → (∀ i, i < k → M1 c i = M a i) → (∀ b, b ≠ c → M1 b = M b) → wp Γ mX10_copies 2 [some (VR a), some (VR c), some (VI k)] [] 0 0 (W0 L) M1 Q := by
  intro j
  induction j with
  | zero =>
    intro k M1 hk hz hf
    have e : k = 57 := by omega
    subst e
    refine vc_go hG 60 (B := bX10_copies) rfl ?_
    exact And.intro (fun y => h M1 hz hf) (fun y => by omega)
  | succ j ih =>
    intro k M1 hk hz hf
    refine vc_go hG 60 (B := bX10_copies) rfl ?_
    refine And.intro (fun y => by omega) (fun y => ?_)
    refine And.intro (Or.inl ha.1) (Exists.intro k (And.intro rfl (And.intro (by rw [ha.2]; omega) ?_)))
    refine And.intro hc.1 (Exists.intro k (And.intro rfl (And.intro (by rw [hc.2]; omega) ?_)))
    refine And.intro (by omega) ?_
    refine ih (k + 1) _ (by omega) (fun i hi => ?_) (fun b hb => by rw [upM_ne hb]; exact hf b hb)
    by_cases q : i = k
    · subst q; rw [upM_eq, hf a hd]
    · rw [upM_k q]; exact hz i (by omega)
theorem m_copies (hG : GOK Γ) {a c : Nat} (ha : RwL L a) (hc : RwL L c) (hd : a ≠ c) (h : ∀ M', (∀ i, i < 57 → M' c i = M a i) → (∀ b, b ≠ c → M' b = M b) → Q none (W0 L) M') : wp Γ mX10_copies 0 [some (VR a), some (VR c)] [] 0 0 (W0 L) M Q := by
  refine vc_go hG 60 (B := bX10_copies) rfl ?_
  exact l_copies hG ha hc hd h 57 0 M rfl (fun i hi => by omega) (fun b _ => rfl)
end Mod
end
section
/-! ===== the model: what is there ===== -/
/-- a row that begins at o -/
def RwO (M : MM) (a o : Nat) (G : GT) : Prop := RwR (fun b i => M b (o + i)) a G
theorem RwO.keep {M M' : MM} {a o : Nat} {G : GT} (h : RwO M a o G) (hf : M' a = M a) : RwO M' a o G := RwR.keep (M := fun b i => M b (o + i)) (M' := fun b i => M' b (o + i)) h (by show (fun i => M' a (o + i)) = fun i => M a (o + i); rw [hf])
def mTx (M : MM) (n : Nat) (T : Nat → Nat) : Prop := M 187 2 = n ∧ n ≤ 80 ∧ ∀ k, k < n → M 188 k = T k ∧ T k ≤ 255
def mHs (M : MM) (hk : Nat) (Hs : Nat → GT) : Prop := M 187 14 = hk ∧ hk ≤ 10 ∧ ∀ i, i < hk → RwO M 194 (57 * (hk - 1 - i)) (Hs i) ∧ WFG (Hs i)
def mIm (M : MM) (ik : Nat → Nat) (Im : Nat → GT) : Prop := ∀ i, i < 2 → M 193 i = ik i ∧ ik i ≤ 1 ∧ (ik i = 1 → RwO M 192 (57 * i) (Im i) ∧ WFG (Im i))
def mSn (M : MM) (n : Nat) (sm sr : Nat → Nat) : Prop := M 187 17 = n ∧ n ≤ 6 ∧ ∀ k, k < n → M 195 k = sm k ∧ M 196 k = sr k ∧ 2 ≤ sm k ∧ sm k ≤ 9 ∧ sr k < sm k
def MR (M : MM) (S : ST) : Prop := RwR M 190 (sG S) ∧ WFG (sG S) ∧ mTx M (sn S) (sT S) ∧ mHs M (sk S) (sH S) ∧ mIm M (sx S) (sI S) ∧ mSn M (su S) (sM S) (sR S)
def frM (M M' : MM) : Prop := (∀ a, a < 187 → M' a = M a) ∧ (OB M → OB M')
theorem frM.t {M M' M2 : MM} (h1 : frM M M') (h2 : frM M' M2) : frM M M2 := ⟨fun a ha => (h2.1 a ha).trans (h1.1 a ha), fun z => h2.2 (h1.2 z)⟩
theorem frM.o {M M' : MM} (h : ∀ a, (a < 187 ∨ a = 197 ∨ a = 198) → M' a = M a) : frM M M' := ⟨fun a ha => h a (Or.inl ha), fun z => z.keep (h 197 (by decide)) (h 198 (by decide))⟩
def OutM (Q : QT) (L : Nat) (M : MM) (rs : Int × ST) : Prop := ∀ M', MR M' rs.2 → frM M M' → Q (some (VI rs.1)) (W0 L) M'
theorem OutM.go {Q : QT} {L : Nat} {M M' : MM} {rs : Int × ST} {r : Int} {S' : ST} (h : OutM Q L M rs) (e : rs = (r, S')) {x : Int} (hx : x = r) (hc : MR M' S') (hf : frM M M') : Q (some (VI x)) (W0 L) M' := by
  subst e hx
  exact h M' hc hf
theorem mTx.keep {M M' : MM} {n : Nat} {T : Nat → Nat} (h : mTx M n T) (h1 : M' 187 2 = M 187 2) (h2 : M' 188 = M 188) : mTx M' n T := by
  unfold mTx
  rw [h1, h2]
  exact h
theorem mHs.keep {M M' : MM} {hk : Nat} {Hs : Nat → GT} (h : mHs M hk Hs) (h1 : M' 187 14 = M 187 14) (h2 : M' 194 = M 194) : mHs M' hk Hs := ⟨h1.trans h.1, h.2.1, fun i hi => ⟨(h.2.2 i hi).1.keep h2, (h.2.2 i hi).2⟩⟩
theorem mIm.keep {M M' : MM} {ik : Nat → Nat} {Im : Nat → GT} (h : mIm M ik Im) (h1 : M' 193 = M 193) (h2 : M' 192 = M 192) : mIm M' ik Im := fun i hi => ⟨by rw [h1]; exact (h i hi).1, (h i hi).2.1, fun z => ⟨((h i hi).2.2 z).1.keep h2, ((h i hi).2.2 z).2⟩⟩
theorem mSn.keep {M M' : MM} {n : Nat} {sm sr : Nat → Nat} (h : mSn M n sm sr) (h1 : M' 187 17 = M 187 17) (h2 : M' 195 = M 195) (h3 : M' 196 = M 196) : mSn M' n sm sr := by
  unfold mSn
  rw [h1, h2, h3]
  exact h
/-- what is there lies in these cells -/
theorem MR.keep {M M' : MM} {S : ST} (h : MR M S) (h1 : ∀ j, (j = 2 ∨ j = 14 ∨ j = 17) → M' 187 j = M 187 j) (h2 : ∀ a, a = 188 ∨ a = 190 ∨ (192 ≤ a ∧ a ≤ 196) → M' a = M a) : MR M' S := by
  obtain ⟨c1, c2, c3, c4, c5, c6⟩ := h
  exact ⟨c1.keep (h2 190 (by omega)), c2, c3.keep (h1 2 (by omega)) (h2 188 (by omega)), c4.keep (h1 14 (by omega)) (h2 194 (by omega)), c5.keep (h2 193 (by omega)) (h2 192 (by omega)), c6.keep (h1 17 (by omega)) (h2 195 (by omega)) (h2 196 (by omega))⟩
/-- the beginning of each: nothing is thrown -/
theorem MR.th {M : MM} {S : ST} (h : MR M S) : MR (upM M 187 0 0) S := h.keep (fun j hj => upM_k (by omega)) (fun a ha => upM_ne (by omega))
theorem frM_th (M : MM) : frM M (upM M 187 0 0) := frM.o (fun a ha => upM_ne (by omega))
section Mod
variable {Γ : GG} {L : Nat} {M : MM} {Q : QT} {S : ST}
theorem y_type (hG : GOK Γ) (hc : MR M S) {l : Int} (h : OutM Q L M (fType S l)) : wp Γ mX10_type 0 [some (VR 187), some (VI l)] [] 0 0 (W0 L) M Q := by
  obtain ⟨c1, c2, c3, c4, c5, c6⟩ := hc.th
  obtain ⟨t1, t2, t3⟩ := id c3
  refine vc_go hG 60 (B := bX10_type) rfl ?_
  refine And.intro rfl ?_
  refine m_in hG (fun z => ?_) (fun z => And.intro (fun c => absurd rfl c) (fun c => h.go (cit_n z) rfl hc.th (frM_th M)))
  have e1 : fType S l = _ := cit_y z
  refine And.intro (fun c => ?_) (fun c => absurd c (by decide))
  refine And.intro rfl (And.intro (fun y => ?_) (fun y => h.go (e1.trans (cit_n (by omega))) rfl hc.th (frM_th M)))
  have hn : sn S < 80 := by omega
  refine And.intro rfl (Exists.intro _ (And.intro rfl (And.intro rfl ?_)))
  refine And.intro rfl (Exists.intro (sn S) (And.intro t1 (And.intro (show sn S < 80 from hn) ?_)))
  refine And.intro rfl (And.intro ?_ (And.intro rfl (And.intro rfl ?_)))
  · rw [upM_a (by decide), t1]; omega
  refine h.go (e1.trans (cit_y hn)) ?_ ⟨c1.keep (by rw [upM_ne (by decide), upM_ne (by decide)]), c2, ⟨?_, by show sn S + 1 ≤ 80; omega, fun k hk => ?_⟩, c4.keep (by rw [upM_k (by decide), upM_a (by decide)]) (by rw [upM_ne (by decide), upM_ne (by decide)]), c5.keep (by rw [upM_ne (by decide), upM_ne (by decide)]) (by rw [upM_ne (by decide), upM_ne (by decide)]), c6.keep (by rw [upM_k (by decide), upM_a (by decide)]) (by rw [upM_ne (by decide), upM_ne (by decide)]) (by rw [upM_ne (by decide), upM_ne (by decide)])⟩ (frM.o (fun a ha => by rw [upM_ne (by omega), upM_ne (by omega), upM_ne (by omega)]))
  · rw [upM_eq, upM_a (by decide), t1]
  · rw [upM_eq, upM_a (by decide), t1]; rfl
  · have hk : k < sn S + 1 := hk
    rw [upM_a (by decide)]
    show _ = ((upN (sT S) (sn S) l.toNat k : Nat) : Int) ∧ upN (sT S) (sn S) l.toNat k ≤ 255
    by_cases q : k = sn S
    · subst q
      rw [upM_eq, upN_eq]
      omega
    · rw [upM_k q, upN_ne q]
      exact t3 k (by omega)
theorem y_clear (hG : GOK Γ) (hc : MR M S) (h : OutM Q L M (fClear S)) : wp Γ mX10_clear 0 [some (VR 187)] [] 0 0 (W0 L) M Q := by
  obtain ⟨c1, c2, c3, c4, c5, c6⟩ := hc.th
  refine vc_go hG 60 (B := bX10_clear) rfl ?_
  refine And.intro rfl (And.intro rfl (And.intro rfl ?_))
  exact h.go rfl c3.1 ⟨c1.keep (upM_ne (by decide)), c2, ⟨upM_eq, Nat.zero_le _, fun k hk => absurd hk (Nat.not_lt_zero k)⟩, c4.keep (upM_k (by decide)) (upM_ne (by decide)), c5.keep (upM_ne (by decide)) (upM_ne (by decide)), c6.keep (upM_k (by decide)) (upM_ne (by decide)) (upM_ne (by decide))⟩ (frM.o (fun a ha => by rw [upM_ne (by omega), upM_ne (by omega)]))
end Mod
end
section
/-! ===== the model: what is noted ===== -/
theorem RwO.cp {M M' : MM} {a o c o' : Nat} {G : GT} (h : RwO M a o G) (hw : WFG G) (hc : ∀ i, i < 57 → M' c (o' + i) = M a (o + i)) : RwO M' c o' G := RwR.cp (M := fun b i => M b (o + i)) (M' := fun b i => M' b (o' + i)) h hw hc
theorem RwR.o {M : MM} {a : Nat} {G : GT} (h : RwR M a G) : RwO M a 0 G := by
  unfold RwO
  have e : (fun b i => M b (0 + i)) = M := by funext b i; rw [Nat.zero_add]
  rw [e]
  exact h
theorem RwO.z {M : MM} {a : Nat} {G : GT} (h : RwO M a 0 G) : RwR M a G := by
  unfold RwO at h
  have e : (fun b i => M b (0 + i)) = M := by funext b i; rw [Nat.zero_add]
  rw [e] at h
  exact h
section Mod
variable {Γ : GG} {L : Nat} {M : MM} {Q : QT} {S : ST} {G : GT}
theorem l_note2 (hG : GOK Γ) {u : Nat} (hu : u ≤ 9) (M0 : MM) (h14 : M0 187 14 = u) (h : ∀ M' : MM, M' 187 14 = ((u + 1 : Nat) : Int) → (∀ j, j ≠ 14 → M' 187 j = M0 187 j) → (∀ i, i < 57 → M' 194 (57 * u + i) = M0 190 i) → (∀ x, x < 57 * u → M' 194 x = M0 194 x) → (∀ a, a ≠ 187 → a ≠ 194 → M' a = M0 a) → Q none (W0 L) M') : ∀ (j k : Nat) (M1 : MM), k + j = 57 → (∀ i, i < k → M1 194 (57 * u + i) = M0 190 i) → (∀ x, x < 57 * u → M1 194 x = M0 194 x) → (∀ a, a ≠ 194 → M1 a = M0 a) → wp Γ mX10_notes 47 [some (VR 187), some (VI k)] [] 0 0 (W0 L) M1 Q := by
  intro j
  induction j with
  | zero =>
    intro k M1 hk h1 h2 hf
    have e : k = 57 := by omega
    subst e
    have e14 : M1 187 14 = u := by rw [hf 187 (by decide)]; exact h14
    refine vc_go hG 60 (B := bX10_notes) rfl ?_
    refine And.intro (fun y => ?_) (fun y => by omega)
    refine And.intro rfl (And.intro (by omega) (And.intro rfl ?_))
    refine h _ (by rw [upM_eq, e14]; rfl) (fun j hj => by rw [upM_k hj, hf 187 (by decide)]) (fun i hi => by rw [upM_a (by decide)]; exact h1 i hi) (fun x hx => by rw [upM_a (by decide)]; exact h2 x hx) (fun a a1 a2 => by rw [upM_ne a1]; exact hf a a2)
  | succ j ih =>
    intro k M1 hk h1 h2 hf
    have e14 : M1 187 14 = u := by rw [hf 187 (by decide)]; exact h14
    refine vc_go hG 60 (B := bX10_notes) rfl ?_
    refine And.intro (fun y => by omega) (fun y => ?_)
    refine And.intro rfl (Exists.intro _ (And.intro rfl (And.intro rfl ?_)))
    refine And.intro (by omega) (And.intro (by omega) ?_)
    refine And.intro rfl (Exists.intro _ (And.intro rfl ?_))
    refine And.intro (Or.inl rfl) (Exists.intro k (And.intro rfl (And.intro (show k < 57 by omega) ?_)))
    refine And.intro rfl (Exists.intro (57 * u + k) (And.intro (by rw [e14]; omega) (And.intro (show 57 * u + k < 570 by omega) ?_)))
    refine And.intro (by omega) ?_
    refine ih (k + 1) _ (by omega) (fun i hi => ?_) (fun x hx => by rw [upM_k (by omega)]; exact h2 x hx) (fun a ha => by rw [upM_ne ha]; exact hf a ha)
    by_cases q : i = k
    · subst q; rw [upM_eq, hf 190 (by decide)]
    · rw [upM_k (by omega)]; exact h1 i (by omega)
theorem l_note1 (hG : GOK Γ) (M0 : MM) (h : ∀ M', (∀ i, i < 513 → M' 194 i = M0 194 (i + 57)) → (∀ a, a ≠ 194 → M' a = M0 a) → wp Γ mX10_notes 39 [some (VR 187), some (VI 513)] [] 0 0 (W0 L) M' Q) : ∀ (j k : Nat) (M1 : MM), k + j = 513 → (∀ i, i < k → M1 194 i = M0 194 (i + 57)) → (∀ i, k ≤ i → M1 194 i = M0 194 i) → (∀ a, a ≠ 194 → M1 a = M0 a) → wp Γ mX10_notes 11 [some (VR 187), some (VI k)] [] 0 0 (W0 L) M1 Q := by
  intro j
  induction j with
  | zero =>
    intro k M1 hk h1 h2 hf
    have e : k = 513 := by omega
    subst e
    refine vc_goS hG 60 [39] (B := bX10_notes) rfl ?_
    exact And.intro (fun y => h M1 h1 hf) (fun y => by omega)
  | succ j ih =>
    intro k M1 hk h1 h2 hf
    refine vc_goS hG 60 [39] (B := bX10_notes) rfl ?_
    refine And.intro (fun y => by omega) (fun y => ?_)
    refine And.intro rfl (Exists.intro _ (And.intro rfl (And.intro rfl (Exists.intro _ (And.intro rfl ?_)))))
    refine And.intro (by omega) ?_
    refine And.intro (Or.inl rfl) (Exists.intro (k + 57) (And.intro rfl (And.intro (show k + 57 < 570 by omega) ?_)))
    refine And.intro rfl (Exists.intro k (And.intro rfl (And.intro (show k < 570 by omega) ?_)))
    refine And.intro (by omega) ?_
    refine ih (k + 1) _ (by omega) (fun i hi => ?_) (fun i hi => by rw [upM_k (by omega)]; exact h2 i (by omega)) (fun a ha => by rw [upM_ne ha]; exact hf a ha)
    by_cases q : i = k
    · subst q; rw [upM_eq]; exact h2 _ (by omega)
    · rw [upM_k q]; exact h1 i (by omega)
theorem m_notes (hG : GOK Γ) {hk : Nat} {Hs : Nat → GT} (hh : mHs M hk Hs) (hr : RwR M 190 G) (hw : WFG G) (h : ∀ M', mHs M' (min (hk + 1) 10) (csH G Hs) → (∀ a, a ≠ 187 → a ≠ 194 → M' a = M a) → (∀ j, j ≠ 14 → M' 187 j = M 187 j) → Q none (W0 L) M') : wp Γ mX10_notes 0 [some (VR 187)] [] 0 0 (W0 L) M Q := by
  obtain ⟨h1, h2, h3⟩ := hh
  refine vc_goS hG 60 [39] (B := bX10_notes) rfl ?_
  refine And.intro rfl (And.intro (fun y => ?_) (fun y => ?_))
  · refine l_note2 hG (u := hk) (by omega) M h1 (fun M' a1 a2 a3 a4 a5 => ?_) 57 0 M rfl (fun i hi => by omega) (fun x _ => rfl) (fun a _ => rfl)
    refine h M' ⟨by rw [a1]; omega, by omega, fun i hi => ?_⟩ a5 a2
    cases i with
    | zero =>
      refine ⟨RwO.cp hr.o hw (fun i hi => ?_), hw⟩
      rw [show min (hk + 1) 10 - 1 - 0 = hk by omega, Nat.zero_add]
      exact a3 i hi
    | succ i =>
      have hi : i < hk := by omega
      obtain ⟨g1, g2⟩ := h3 i hi
      refine ⟨RwO.cp g1 g2 (fun x hx => ?_), g2⟩
      rw [show min (hk + 1) 10 - 1 - (i + 1) = hk - 1 - i by omega]
      exact a4 _ (by omega)
  · have e10 : hk = 10 := by omega
    subst e10
    refine l_note1 hG M (fun M1 b1 b2 => ?_) 513 0 M rfl (fun i hi => by omega) (fun i _ => rfl) (fun a _ => rfl)
    refine vc_go hG 60 (B := bX10_notes) rfl ?_
    refine And.intro rfl ?_
    refine l_note2 hG (u := 9) (by omega) (upM M1 187 14 9) upM_eq (fun M' a1 a2 a3 a4 a5 => ?_) 57 0 _ rfl (fun i hi => by omega) (fun x _ => rfl) (fun a _ => rfl)
    refine h M' ⟨by rw [a1]; rfl, by omega, fun i hi => ?_⟩ (fun a c1 c2 => by rw [a5 a c1 c2, upM_ne c1]; exact b2 a c2) (fun j hj => by rw [a2 j hj, upM_k hj, b2 187 (by decide)])
    cases i with
    | zero =>
      refine ⟨RwO.cp hr.o hw (fun i hi => ?_), hw⟩
      rw [Nat.zero_add]
      have := a3 i hi
      rw [upM_a (by decide), b2 190 (by decide)] at this
      exact this
    | succ i =>
      have hi : i < 9 := by omega
      obtain ⟨g1, g2⟩ := h3 i (by omega)
      refine ⟨RwO.cp g1 g2 (fun x hx => ?_), g2⟩
      rw [show min (10 + 1) 10 - 1 - (i + 1) = 8 - i by omega, a4 _ (by omega), upM_a (by decide), b1 _ (by omega)]
      rw [show 57 * (8 - i) + x + 57 = 57 * (10 - 1 - i) + x by omega]
end Mod
end
section
/-! ===== the model: changes ===== -/
theorem MR_push {M M1 M2 : MM} {S : ST} {G' : GT} (hc : MR M S) (h1 : mHs M1 (min (sk S + 1) 10) (csH (sG S) (sH S))) (f1 : ∀ a, a ≠ 187 → a ≠ 194 → M1 a = M a) (f2 : ∀ j, j ≠ 14 → M1 187 j = M 187 j) (g : RwR M2 190 G') (hw : WFG G') (f3 : ∀ a, a ≠ 187 → a ≠ 190 → a ≠ 197 → a ≠ 198 → M2 a = M1 a) (f4 : ∀ j, j ≠ 20 → M2 187 j = M1 187 j) (f5 : OB M1 → OB M2) : MR M2 (push S G') ∧ frM M M2 := by
  obtain ⟨c1, c2, c3, c4, c5, c6⟩ := hc
  have f : ∀ a, a ≠ 187 → a ≠ 190 → a ≠ 194 → a ≠ 197 → a ≠ 198 → M2 a = M a := fun a a1 a2 a3 a4 a5 => by rw [f3 a a1 a2 a4 a5, f1 a a1 a3]
  refine ⟨⟨g, hw, c3.keep (by rw [f4 2 (by decide), f2 2 (by decide)]) (f 188 (by decide) (by decide) (by decide) (by decide) (by decide)), h1.keep (f4 14 (by decide)) (f3 194 (by decide) (by decide) (by decide) (by decide)), c5.keep (f 193 (by decide) (by decide) (by decide) (by decide) (by decide)) (f 192 (by decide) (by decide) (by decide) (by decide) (by decide)), c6.keep (by rw [f4 17 (by decide), f2 17 (by decide)]) (f 195 (by decide) (by decide) (by decide) (by decide) (by decide)) (f 196 (by decide) (by decide) (by decide) (by decide) (by decide))⟩, fun a ha => f a (by omega) (by omega) (by omega) (by omega) (by omega), fun z => f5 (z.keep (f1 197 (by decide) (by decide)) (f1 198 (by decide) (by decide)))⟩
theorem MR.rk {M M' : MM} {S : ST} (hc : MR M S) (hf : frK M M') : MR M' S := hc.keep (fun j hj => hf.2.1 j (by omega)) (fun a ha => hf.1 a (by omega) (by omega) (by omega))
theorem frK.m {M M' : MM} (hf : frK M M') : frM M M' := ⟨fun a ha => hf.1 a (by omega) (by omega) (by omega), hf.2.2⟩
section Mod
variable {Γ : GG} {L : Nat} {M : MM} {Q : QT} {S : ST}
theorem y_adds (hG : GOK Γ) (hc : MR M S) {p s q f : Int} (h : OutM Q L M (fAdds S p s q f)) : wp Γ mX10_adds 0 [some (VR 187), some (VI p), some (VI s), some (VI q), some (VI f)] [] 0 0 (W0 L) M Q := by
  have hc0 := hc.th
  have f0 := frM_th M
  obtain ⟨c1, c2, c3, c4, c5, c6⟩ := id hc0
  have n12 := c2.1
  have n0 := c1.1
  have bad : ¬ (inB p (qn (sG S)) ∧ inB q (qn (sG S)) ∧ inB s 9 ∧ inB f 3) → Q (some (VI (-1))) (W0 L) (upM M 187 0 0) := fun z => h.go (cit_n z) rfl hc0 f0
  refine vc_go hG 120 (B := bX10_adds) rfl ?_
  refine And.intro rfl ?_
  refine And.intro rfl (Exists.intro _ (And.intro rfl ?_))
  refine And.intro (Or.inl rfl) (Exists.intro 0 (And.intro rfl (And.intro (show 0 < 57 by decide) ?_)))
  refine m_in hG (fun z1 => ?_) (fun z1 => And.intro (fun _ => bad (fun z => z1 (by have := z.1; unfold inB at this; omega))) (fun c => absurd rfl c))
  refine And.intro (fun c => absurd c (by decide)) (fun c => ?_)
  refine And.intro rfl (Exists.intro _ (And.intro rfl ?_))
  refine And.intro (Or.inl rfl) (Exists.intro 0 (And.intro rfl (And.intro (show 0 < 57 by decide) ?_)))
  refine m_in hG (fun z2 => ?_) (fun z1 => And.intro (fun _ => bad (fun z => z1 (by have := z.2.1; unfold inB at this; omega))) (fun c => absurd rfl c))
  refine And.intro (fun c => absurd c (by decide)) (fun c => ?_)
  refine m_in hG (fun z3 => ?_) (fun z1 => And.intro (fun _ => bad (fun z => z1 (by have := z.2.2.1; unfold inB at this; omega))) (fun c => absurd rfl c))
  refine And.intro (fun c => absurd c (by decide)) (fun c => ?_)
  refine m_in hG (fun z4 => ?_) (fun z1 => And.intro (fun c => absurd rfl c) (fun _ => bad (fun z => z1 (by have := z.2.2.2; unfold inB at this; omega))))
  refine And.intro (fun c => ?_) (fun c => absurd c (by decide))
  have e1 : fAdds S p s q f = _ := cit_y ⟨⟨by omega, by omega⟩, ⟨by omega, by omega⟩, z3, z4⟩
  have ep : p = (p.toNat : Int) := by omega
  have es : s = (s.toNat : Int) := by omega
  have eq : q = (q.toNat : Int) := by omega
  have ef : f = (f.toNat : Int) := by omega
  have bp : p.toNat ≤ qn (sG S) := by omega
  have bq : q.toNat ≤ qn (sG S) := by omega
  have bs : s.toNat ≤ 9 := by omega
  have bf : f.toNat ≤ 3 := by omega
  refine And.intro rfl (Exists.intro _ (And.intro rfl (And.intro rfl ?_)))
  refine m_reckons hG (RwL_s L) (by decide) (by decide) c1 c2 (fun M1 o1 k1 => ?_)
  have hc1 := hc0.rk k1
  have f1 := f0.t k1.m
  have r1 := hc1.1
  refine And.intro rfl (Exists.intro _ (And.intro rfl ?_))
  refine And.intro (Or.inl rfl) (Exists.intro 56 (And.intro rfl (And.intro (show 56 < 57 by decide) ?_)))
  refine And.intro rfl ?_
  refine m_mayBe hG o1 (fun k hk => (WFG_V c2 k (by omega)).2.1) (fun k hk => by have := WFG_D c2 k (by omega); omega) (by omega) ep es eq ef r1.2.2.1 (by omega) bs (by omega) bf (fun mb => ?_) (fun mb => And.intro (fun c => absurd rfl c) (fun c => h.go (e1.trans (cit_n mb)) rfl hc1 f1))
  have mb : mayB (sG S) p.toNat s.toNat q.toNat f.toNat := mb
  refine And.intro (fun c => ?_) (fun c => absurd c (by decide))
  refine And.intro rfl (Exists.intro _ (And.intro rfl ?_))
  have q1 := r1.1
  refine And.intro (Or.inl rfl) (Exists.intro 0 (And.intro rfl (And.intro (show 0 < 57 by decide) ?_)))
  refine And.intro (fun x => ?_) (fun x => h.go (e1.trans ((cit_y mb).trans (cit_n (by omega)))) rfl hc1 f1)
  have hn : qn (sG S) < 12 := by omega
  have e3 := e1.trans ((cit_y mb).trans (cit_y hn))
  refine And.intro rfl ?_
  refine m_notes hG hc1.2.2.2.1 r1 c2 (fun M2 h2 g1 g2 => ?_)
  refine And.intro rfl (Exists.intro _ (And.intro rfl ?_))
  refine m_makes hG (RwL_s L) (r1.keep (g1 190 (by decide) (by decide))) c2 hn ep es eq ef (fun M3 r3 g3 => ?_)
  have hw := addG_wf c2 bp bs bq bf hn mb
  refine And.intro rfl (Exists.intro _ (And.intro rfl (And.intro rfl ?_)))
  refine m_reckons hG (RwL_s L) (by decide) (by decide) r3 hw (fun M4 o4 k4 => ?_)
  have r4 : RwR M4 190 (addG (sG S) p.toNat s.toNat q.toNat f.toNat) := r3.keep (k4.1 190 (by decide) (by decide) (by decide))
  have cp := MR_push hc1 h2 g1 g2 r4 hw (fun a a1 a2 a3 a4 => by rw [k4.1 a a1 a3 a4, g3 a a2]) (fun j hj => by rw [k4.2.1 j hj, g3 187 (by decide)]) (fun z => k4.2.2 (z.keep (g3 197 (by decide)) (g3 198 (by decide))))
  refine And.intro rfl (Exists.intro _ (And.intro rfl (And.intro rfl (Exists.intro _ (And.intro rfl ?_)))))
  refine And.intro (Or.inl rfl) (Exists.intro 0 (And.intro rfl (And.intro (show 0 < 57 by decide) ?_)))
  refine And.intro (Or.inl rfl) (Exists.intro (qn (sG S) + 1) (And.intro r4.1 (And.intro (show qn (sG S) + 1 < 14 by omega) ?_)))
  refine h.go e3 ?_ cp.1 (f1.t cp.2)
  rw [(o4.2 (qn (sG S) + 1) (show qn (sG S) + 1 < qn (sG S) + 1 + 1 by omega)).1]
  show ((upN _ _ _ _ : Nat) : Int) = _
  rw [upN_eq]
theorem y_forget (hG : GOK Γ) (hc : MR M S) (h : OutM Q L M (fForget S)) : wp Γ mX10_forget 0 [some (VR 187)] [] 0 0 (W0 L) M Q := by
  obtain ⟨c1, c2, c3, c4, c5, c6⟩ := hc.th
  refine vc_go hG 60 (B := bX10_forget) rfl ?_
  refine And.intro rfl (And.intro rfl (And.intro rfl ?_))
  exact h.go rfl c6.1 ⟨c1.keep (upM_ne (by decide)), c2, c3.keep (upM_k (by decide)) (upM_ne (by decide)), c4.keep (upM_k (by decide)) (upM_ne (by decide)), c5.keep (upM_ne (by decide)) (upM_ne (by decide)), ⟨upM_eq, Nat.zero_le _, fun k hk => absurd hk (Nat.not_lt_zero k)⟩⟩ (frM.o (fun a ha => by rw [upM_ne (by omega), upM_ne (by omega)]))
theorem y_takes (hG : GOK Γ) (hc : MR M S) (h : OutM Q L M (fTakes S)) : wp Γ mX10_takes_ 0 [some (VR 187)] [] 0 0 (W0 L) M Q := by
  have hc0 := hc.th
  have f0 := frM_th M
  obtain ⟨c1, c2, c3, c4, c5, c6⟩ := id hc0
  have n12 := c2.1
  have n0 := c1.1
  refine vc_go hG 120 (B := bX10_takes_) rfl ?_
  refine And.intro rfl ?_
  refine And.intro rfl (Exists.intro _ (And.intro rfl ?_))
  refine And.intro (Or.inl rfl) (Exists.intro 0 (And.intro rfl (And.intro (show 0 < 57 by decide) ?_)))
  refine And.intro (fun x => ?_) (fun x => h.go (cit_y (by omega)) rfl hc0 f0)
  have e3 : fTakes S = _ := cit_n (by omega)
  refine And.intro rfl ?_
  refine m_notes hG c4 c1 c2 (fun M2 h2 g1 g2 => ?_)
  have r2 := c1.keep (g1 190 (by decide) (by decide))
  refine And.intro rfl (Exists.intro _ (And.intro rfl (And.intro rfl ?_)))
  refine m_reckons hG (RwL_s L) (by decide) (by decide) r2 c2 (fun M3 o3 k3 => ?_)
  have r3 : RwR M3 190 (sG S) := r2.keep (k3.1 190 (by decide) (by decide) (by decide))
  have q3 := r3.1
  refine And.intro rfl (Exists.intro _ (And.intro rfl ?_))
  refine And.intro (Or.inl rfl) (Exists.intro 0 (And.intro rfl (And.intro (show 0 < 57 by decide) ?_)))
  refine And.intro (by omega) ?_
  refine And.intro rfl (Exists.intro 0 (And.intro rfl (And.intro (show 0 < 57 by decide) ?_)))
  refine And.intro rfl (Exists.intro _ (And.intro rfl (And.intro rfl (Exists.intro _ (And.intro rfl ?_)))))
  refine And.intro (Or.inl rfl) (Exists.intro 0 (And.intro rfl (And.intro (show 0 < 57 by decide) ?_)))
  have e0 : upM M3 190 0 (M3 190 0 - 1) 190 0 = ((qn (sG S) - 1 : Nat) : Int) := by rw [upM_eq, q3]; omega
  refine And.intro (by rw [e0]; omega) ?_
  refine And.intro (Or.inl rfl) (Exists.intro (qn (sG S)) (And.intro (by rw [e0]; omega) (And.intro (show qn (sG S) < 14 by omega) ?_)))
  have rt : RwR (upM M3 190 0 (M3 190 0 - 1)) 190 (tkG (sG S)) := by
    obtain ⟨s1, s2, s3, s4, s5⟩ := r3
    refine ⟨e0, by rw [upM_k (by decide)]; exact s2, by rw [upM_k (by decide)]; exact s3, fun k hk => ?_, fun k hk => by rw [upM_k (by omega)]; exact s5 k hk⟩
    have hk : k < qn (sG S) - 1 := hk
    rw [upM_k (by omega), upM_k (by omega), upM_k (by omega), upM_k (by omega)]
    exact s4 k (by omega)
  have cp := MR_push hc0 h2 g1 g2 rt (tkG_wf c2) (fun a a1 a2 a3 a4 => by rw [upM_ne a2, k3.1 a a1 a3 a4]) (fun j hj => by rw [upM_a (by decide), k3.2.1 j hj]) (fun z => (k3.2.2 z).up3 (by decide) (by decide))
  refine h.go e3 ?_ cp.1 (f0.t cp.2)
  rw [upM_a (by decide)]
  exact (o3.2 (qn (sG S)) (by omega)).1
end Mod
end
section
/-! ===== the model: images, undo, seen ===== -/
section Mod
variable {Γ : GG} {L : Nat} {M : MM} {Q : QT} {S : ST}
theorem l_mback (hG : GOK Γ) {i : Nat} (hi : i < 2) (M0 : MM) (h : ∀ M', (∀ x, x < 57 → M' 190 x = M0 192 (57 * i + x)) → (∀ a, a ≠ 190 → M' a = M0 a) → wp Γ mX10_back 59 [some (VR 187), some (VI i), some (VI 57)] [] 0 0 (W0 L) M' Q) : ∀ (j k : Nat) (M1 : MM), k + j = 57 → (∀ x, x < k → M1 190 x = M0 192 (57 * i + x)) → (∀ a, a ≠ 190 → M1 a = M0 a) → wp Γ mX10_back 30 [some (VR 187), some (VI i), some (VI k)] [] 0 0 (W0 L) M1 Q := by
  intro j
  induction j with
  | zero =>
    intro k M1 hk h1 hf
    have e : k = 57 := by omega
    subst e
    refine vc_goS hG 60 [59] (B := bX10_back) rfl ?_
    exact And.intro (fun y => h M1 h1 hf) (fun y => by omega)
  | succ j ih =>
    intro k M1 hk h1 hf
    refine vc_goS hG 60 [59] (B := bX10_back) rfl ?_
    refine And.intro (fun y => by omega) (fun y => ?_)
    refine And.intro rfl (Exists.intro _ (And.intro rfl (And.intro rfl (Exists.intro _ (And.intro rfl ?_)))))
    refine And.intro (by omega) (And.intro (by omega) ?_)
    refine And.intro (Or.inl rfl) (Exists.intro (57 * i + k) (And.intro (by omega) (And.intro (show 57 * i + k < 114 by omega) ?_)))
    refine And.intro rfl (Exists.intro k (And.intro rfl (And.intro (show k < 57 by omega) ?_)))
    refine And.intro (by omega) ?_
    refine ih (k + 1) _ (by omega) (fun x hx => ?_) (fun a ha => by rw [upM_ne ha]; exact hf a ha)
    by_cases q : x = k
    · subst q; rw [upM_eq, hf 192 (by decide)]
    · rw [upM_k q]; exact h1 x (by omega)
theorem y_back (hG : GOK Γ) (hc : MR M S) {i : Int} (h : OutM Q L M (fBack S i)) : wp Γ mX10_back 0 [some (VR 187), some (VI i)] [] 0 0 (W0 L) M Q := by
  have hc0 := hc.th
  have f0 := frM_th M
  obtain ⟨c1, c2, c3, c4, c5, c6⟩ := id hc0
  refine vc_go hG 60 (B := bX10_back) rfl ?_
  refine And.intro rfl ?_
  refine m_in hG (fun z => ?_) (fun z => And.intro (fun c => absurd rfl c) (fun c => h.go (cit_n z) rfl hc0 f0))
  refine And.intro (fun c => ?_) (fun c => absurd c (by decide))
  have e1 : fBack S i = _ := cit_y z
  obtain ⟨i1, i2, i3⟩ := c5 i.toNat (by omega)
  refine And.intro rfl (Exists.intro _ (And.intro rfl ?_))
  refine And.intro rfl (Exists.intro i.toNat (And.intro (by omega) (And.intro (show i.toNat < 2 by omega) ?_)))
  refine And.intro (fun y => ?_) (fun y => h.go (e1.trans (cit_n (by omega))) rfl hc0 f0)
  have e9 : sx S i.toNat = 1 := by omega
  obtain ⟨j1, j2⟩ := i3 e9
  have ei : i = ((i.toNat : Nat) : Int) := by omega
  have key := l_mback (L := L) (Q := Q) hG (i := i.toNat) (by omega) (upM M 187 0 0) (fun M1 a1 a2 => ?_) 57 0 (upM M 187 0 0) rfl (fun x hx => by omega) (fun a _ => rfl)
  · rw [← ei] at key
    exact key
  · have r1 : RwR M1 190 (sI S i.toNat) := (RwO.cp (o' := 0) (c := 190) (M' := M1) j1 j2 (fun x hx => by rw [Nat.zero_add]; exact a1 x hx)).z
    refine vc_go hG 60 (B := bX10_back) rfl ?_
    refine And.intro rfl ?_
    refine And.intro rfl (Exists.intro _ (And.intro rfl ?_))
    refine And.intro (Or.inl rfl) (Exists.intro 0 (And.intro rfl (And.intro (show 0 < 57 by decide) ?_)))
    refine h.go (e1.trans (cit_y e9)) (by rw [upM_a (by decide)]; exact r1.1) ⟨r1.keep (upM_ne (by decide)), j2, c3.keep (by rw [upM_k (by decide), a2 187 (by decide)]) (by rw [upM_ne (by decide), a2 188 (by decide)]), ⟨upM_eq, Nat.zero_le _, fun k hk => absurd hk (Nat.not_lt_zero k)⟩, c5.keep (by rw [upM_ne (by decide), a2 193 (by decide)]) (by rw [upM_ne (by decide), a2 192 (by decide)]), c6.keep (by rw [upM_k (by decide), a2 187 (by decide)]) (by rw [upM_ne (by decide), a2 195 (by decide)]) (by rw [upM_ne (by decide), a2 196 (by decide)])⟩ (frM.o (fun a ha => by rw [upM_ne (by omega), a2 a (by omega)]; exact upM_ne (by omega)))
theorem y_sees (hG : GOK Γ) (hc : MR M S) {m r : Int} (h : OutM Q L M (fSees S m r)) : wp Γ mX10_sees 0 [some (VR 187), some (VI m), some (VI r)] [] 0 0 (W0 L) M Q := by
  have hc0 := hc.th
  have f0 := frM_th M
  obtain ⟨c1, c2, c3, c4, c5, c6⟩ := id hc0
  obtain ⟨t1, t2, t3⟩ := id c6
  refine vc_go hG 80 (B := bX10_sees) rfl ?_
  refine And.intro rfl ?_
  refine m_in hG (fun z => ?_) (fun z => And.intro (fun c => h.go (cit_n (fun x => z x.1)) rfl hc0 f0) (fun c => absurd rfl c))
  refine And.intro (fun c => absurd c (by decide)) (fun c => ?_)
  refine And.intro (by omega) ?_
  refine m_in hG (fun z2 => ?_) (fun z2 => And.intro (fun c => absurd rfl c) (fun c => h.go (cit_n (fun x => z2 (by omega))) rfl hc0 f0))
  refine And.intro (fun c => ?_) (fun c => absurd c (by decide))
  have e1 : fSees S m r = _ := cit_y ⟨z, z2.1, by omega⟩
  refine And.intro rfl (And.intro (fun y => ?_) (fun y => h.go (e1.trans (cit_n (by omega))) rfl hc0 f0))
  have hn : su S < 6 := by omega
  refine And.intro rfl (Exists.intro _ (And.intro rfl (And.intro rfl ?_)))
  refine And.intro rfl (Exists.intro (su S) (And.intro t1 (And.intro (show su S < 6 from hn) ?_)))
  refine And.intro rfl (Exists.intro _ (And.intro rfl (And.intro rfl ?_)))
  refine And.intro rfl (Exists.intro (su S) (And.intro (by rw [upM_a (by decide)]; exact t1) (And.intro (show su S < 6 from hn) ?_)))
  refine And.intro rfl (And.intro ?_ (And.intro rfl (And.intro rfl ?_)))
  · rw [upM_a (by decide), upM_a (by decide), t1]; omega
  refine h.go (e1.trans (cit_y hn)) ?_ ⟨c1.keep (by rw [upM_ne (by decide), upM_ne (by decide), upM_ne (by decide)]), c2, c3.keep (by rw [upM_k (by decide), upM_a (by decide), upM_a (by decide)]) (by rw [upM_ne (by decide), upM_ne (by decide), upM_ne (by decide)]), c4.keep (by rw [upM_k (by decide), upM_a (by decide), upM_a (by decide)]) (by rw [upM_ne (by decide), upM_ne (by decide), upM_ne (by decide)]), c5.keep (by rw [upM_ne (by decide), upM_ne (by decide), upM_ne (by decide)]) (by rw [upM_ne (by decide), upM_ne (by decide), upM_ne (by decide)]), ⟨?_, by show su S + 1 ≤ 6; omega, fun k hk => ?_⟩⟩ (frM.o (fun a ha => by rw [upM_ne (by omega), upM_ne (by omega), upM_ne (by omega)]; exact upM_ne (by omega)))
  · rw [upM_eq, upM_a (by decide), upM_a (by decide), t1]
  · rw [upM_eq, upM_a (by decide), upM_a (by decide), t1]; rfl
  · have hk : k < su S + 1 := hk
    show _ = ((upN (sM S) (su S) m.toNat k : Nat) : Int) ∧ _ = ((upN (sR S) (su S) r.toNat k : Nat) : Int) ∧ 2 ≤ upN (sM S) (su S) m.toNat k ∧ upN (sM S) (su S) m.toNat k ≤ 9 ∧ upN (sR S) (su S) r.toNat k < upN (sM S) (su S) m.toNat k
    by_cases q : k = su S
    · subst q
      rw [upM_a (by decide), upM_a (by decide), upM_eq, upM_a (by decide), upM_eq, upN_eq, upN_eq]
      omega
    · have t4 := t3 k (by omega)
      rw [upM_a (by decide), upM_a (by decide)] at t4
      rw [upM_a (by decide), upM_a (by decide), upM_k q, upM_a (by decide), upM_a (by decide), upM_k q, upM_a (by decide), upM_a (by decide), upN_ne q, upN_ne q]
      exact t4
end Mod
end
section
/-! ===== the model: undo, keep, limits ===== -/
section Mod
variable {Γ : GG} {L : Nat} {M : MM} {Q : QT} {S : ST}
theorem l_mundo (hG : GOK Γ) {u : Nat} (hu : u ≤ 9) (M0 : MM) (h14 : M0 187 14 = u) (h : ∀ M', (∀ x, x < 57 → M' 190 x = M0 194 (57 * u + x)) → (∀ a, a ≠ 190 → M' a = M0 a) → Q (some (VI u)) (W0 L) M') : ∀ (j k : Nat) (M1 : MM), k + j = 57 → (∀ x, x < k → M1 190 x = M0 194 (57 * u + x)) → (∀ a, a ≠ 190 → M1 a = M0 a) → wp Γ mX10_undo 27 [some (VR 187), some (VI k)] [] 0 0 (W0 L) M1 Q := by
  intro j
  induction j with
  | zero =>
    intro k M1 hk h1 hf
    have e : k = 57 := by omega
    subst e
    have e14 : M1 187 14 = u := by rw [hf 187 (by decide)]; exact h14
    refine vc_go hG 60 (B := bX10_undo) rfl ?_
    refine And.intro (fun y => ?_) (fun y => by omega)
    have := h M1 h1 hf
    rw [← e14] at this
    exact And.intro rfl this
  | succ j ih =>
    intro k M1 hk h1 hf
    have e14 : M1 187 14 = u := by rw [hf 187 (by decide)]; exact h14
    refine vc_go hG 60 (B := bX10_undo) rfl ?_
    refine And.intro (fun y => by omega) (fun y => ?_)
    refine And.intro rfl (Exists.intro _ (And.intro rfl (And.intro rfl (Exists.intro _ (And.intro rfl (And.intro rfl ?_))))))
    refine And.intro (by omega) (And.intro (by omega) ?_)
    refine And.intro (Or.inl rfl) (Exists.intro (57 * u + k) (And.intro (by rw [e14]; omega) (And.intro (show 57 * u + k < 570 by omega) ?_)))
    refine And.intro rfl (Exists.intro k (And.intro rfl (And.intro (show k < 57 by omega) ?_)))
    refine And.intro (by omega) ?_
    refine ih (k + 1) _ (by omega) (fun x hx => ?_) (fun a ha => by rw [upM_ne ha]; exact hf a ha)
    by_cases q : x = k
    · subst q; rw [upM_eq, hf 194 (by decide)]
    · rw [upM_k q]; exact h1 x (by omega)
theorem y_undo (hG : GOK Γ) (hc : MR M S) (h : OutM Q L M (fUndo S)) : wp Γ mX10_undo 0 [some (VR 187)] [] 0 0 (W0 L) M Q := by
  have hc0 := hc.th
  have f0 := frM_th M
  obtain ⟨c1, c2, c3, c4, c5, c6⟩ := id hc0
  obtain ⟨k1, k2, k3⟩ := id c4
  refine vc_go hG 60 (B := bX10_undo) rfl ?_
  refine And.intro rfl ?_
  refine And.intro rfl (And.intro (fun y => ?_) (fun y => h.go (cit_y (by omega)) rfl hc0 f0))
  have e1 : fUndo S = _ := cit_n (by omega)
  refine And.intro rfl (And.intro (by omega) (And.intro rfl ?_))
  obtain ⟨g1, g2⟩ := k3 0 (by omega)
  refine l_mundo hG (u := sk S - 1) (by omega) (upM (upM M 187 0 0) 187 14 (upM M 187 0 0 187 14 - 1)) (by rw [upM_eq, k1]; omega) (fun M1 a1 a2 => ?_) 57 0 _ rfl (fun x hx => by omega) (fun a _ => rfl)
  have r1 : RwR M1 190 (sH S 0) := (RwO.cp (o' := 0) (c := 190) (M' := M1) g1 g2 (fun x hx => by rw [Nat.zero_add, a1 x hx, upM_a (by decide)]; rfl)).z
  refine h.go e1 (by omega) ⟨r1, g2, c3.keep (by rw [a2 187 (by decide), upM_k (by decide)]) (by rw [a2 188 (by decide), upM_ne (by decide)]), ⟨by rw [a2 187 (by decide), upM_eq, k1]; show (sk S : Int) - 1 = ((sk S - 1 : Nat) : Int); omega, by show sk S - 1 ≤ 10; omega, fun i hi => ?_⟩, c5.keep (by rw [a2 193 (by decide), upM_ne (by decide)]) (by rw [a2 192 (by decide), upM_ne (by decide)]), c6.keep (by rw [a2 187 (by decide), upM_k (by decide)]) (by rw [a2 195 (by decide), upM_ne (by decide)]) (by rw [a2 196 (by decide), upM_ne (by decide)])⟩ (frM.o (fun a ha => by rw [a2 a (by omega), upM_ne (by omega)]; exact upM_ne (by omega)))
  have hi : i < sk S - 1 := hi
  obtain ⟨p1, p2⟩ := k3 (i + 1) (by omega)
  refine ⟨RwO.cp p1 p2 (fun x hx => ?_), p2⟩
  show M1 194 (57 * (sk S - 1 - 1 - i) + x) = _
  rw [a2 194 (by decide), upM_ne (by decide), show sk S - 1 - 1 - i = sk S - 1 - (i + 1) by omega]
theorem l_mdeep (hG : GOK Γ) {m : Nat} {V D : Nat → Nat} (ho : OdR M m V D) (hm : m ≤ 14) (h : Q (some (VI (mxD D m : Nat))) (W0 L) M) : ∀ (j k : Nat), k + j = m → wp Γ mX10_deepest 12 [some (VR 187), some (VI (mxD D k : Nat)), some (VI k)] [] 0 0 (W0 L) M Q := by
  have e0 := ho.1
  intro j
  induction j with
  | zero =>
    intro k hk
    have e : k = m := by omega
    subst e
    refine vc_go hG 60 (B := bX10_deepest) rfl ?_
    exact And.intro rfl (And.intro (fun y => h) (fun y => by omega))
  | succ j ih =>
    intro k hk
    have e1 := (ho.2 k (by omega)).2
    have nx := ih (k + 1) (by omega)
    rw [show mxD D (k + 1) = max (mxD D k) (D k) from rfl] at nx
    refine vc_go hG 60 (B := bX10_deepest) rfl ?_
    refine And.intro rfl (And.intro (fun y => by omega) (fun y => ?_))
    refine And.intro rfl (Exists.intro _ (And.intro rfl ?_))
    refine And.intro (Or.inl rfl) (Exists.intro k (And.intro rfl (And.intro (show k < 14 by omega) ?_)))
    refine And.intro (fun z => ?_) (fun z => ?_)
    · rw [show max (mxD D k) (D k) = mxD D k by omega] at nx
      exact And.intro (by omega) nx
    · refine And.intro rfl (Exists.intro _ (And.intro rfl ?_))
      refine And.intro (Or.inl rfl) (Exists.intro k (And.intro rfl (And.intro (show k < 14 by omega) ?_)))
      rw [show max (mxD D k) (D k) = D k by omega, ← e1] at nx
      exact And.intro (by omega) nx
theorem m_deepest (hG : GOK Γ) (hc : MR M S) (h : ∀ M', MR M' S → OdR M' (qn (sG S) + 1) (qV (sG S)) (qD (sG S)) → frK M M' → Q (some (VI (mxD (qD (sG S)) (qn (sG S) + 1) : Nat))) (W0 L) M') : wp Γ mX10_deepest 0 [some (VR 187)] [] 0 0 (W0 L) M Q := by
  have n12 := hc.2.1.1
  refine vc_go hG 60 (B := bX10_deepest) rfl ?_
  refine And.intro rfl (Exists.intro _ (And.intro rfl (And.intro rfl ?_)))
  refine m_reckons hG (RwL_s L) (by decide) (by decide) hc.1 hc.2.1 (fun M1 o1 k1 => ?_)
  exact l_mdeep hG o1 (by omega) (h M1 (hc.rk k1) o1 k1) (qn (sG S) + 1) 0 (by omega)
theorem y_limits (hG : GOK Γ) (hc : MR M S) {l : Int} (h : OutM Q L M (fLim S l)) : wp Γ mX10_limits 0 [some (VR 187), some (VI l)] [] 0 0 (W0 L) M Q := by
  have hc0 := hc.th
  have f0 := frM_th M
  refine vc_go hG 60 (B := bX10_limits) rfl ?_
  refine And.intro rfl ?_
  refine m_in hG (fun z => ?_) (fun z => And.intro (fun c => absurd rfl c) (fun c => h.go (cit_n z) rfl hc0 f0))
  refine And.intro (fun c => ?_) (fun c => absurd c (by decide))
  have e1 : fLim S l = _ := cit_y z
  refine And.intro rfl ?_
  refine m_deepest hG hc0 (fun M1 hc1 o1 k1 => ?_)
  have f1 := f0.t k1.m
  refine And.intro (fun x => ?_) (fun x => h.go (e1.trans (cit_n (by omega))) rfl hc1 f1)
  have e2 := e1.trans (cit_y x)
  refine And.intro rfl ?_
  refine m_notes hG hc1.2.2.2.1 hc1.1 hc1.2.1 (fun M2 h2 g1 g2 => ?_)
  have r2 := hc1.1.keep (g1 190 (by decide) (by decide))
  obtain ⟨s1, s2, s3, s4, s5⟩ := id r2
  have m6 := hc1.2.1.2.1
  have n12 := hc1.2.1.1
  refine And.intro rfl (Exists.intro _ (And.intro rfl ?_))
  refine And.intro (Or.inl rfl) (Exists.intro 56 (And.intro rfl (And.intro (show 56 < 57 by decide) ?_)))
  refine And.intro rfl (Exists.intro _ (And.intro rfl ?_))
  refine And.intro rfl (Exists.intro 56 (And.intro rfl (And.intro (show 56 < 57 by decide) ?_)))
  have rt : RwR (upM M2 190 56 l) 190 (limG (sG S) l.toNat) := by
    refine ⟨by rw [upM_k (by decide)]; exact s1, by rw [upM_k (by decide)]; exact s2, by rw [upM_eq]; show l = ((l.toNat : Nat) : Int); omega, fun k hk => ?_, fun k hk => ?_⟩
    · have hk : k < qn (sG S) := hk
      rw [upM_k (by omega), upM_k (by omega), upM_k (by omega), upM_k (by omega)]
      exact s4 k hk
    · have hk : k < qm (sG S) := hk
      rw [upM_k (by omega)]
      exact s5 k hk
  have cp := MR_push hc1 h2 g1 g2 rt (limG_wf hc1.2.1 (by omega)) (fun a a1 a2 a3 a4 => by rw [upM_ne a2]) (fun j hj => by rw [upM_a (by decide)]) (fun z => z.up3 (by decide) (by decide))
  exact h.go e2 s3 cp.1 (f1.t cp.2)
end Mod
end
section
/-! ===== the model: keep ===== -/
section Mod
variable {Γ : GG} {L : Nat} {M : MM} {Q : QT} {S : ST}
theorem l_mkeep (hG : GOK Γ) {i : Nat} (hi : i < 2) (M0 : MM) (h : ∀ M', (∀ x, x < 57 → M' 192 (57 * i + x) = M0 190 x) → (∀ y, (y < 57 * i ∨ 57 * i + 57 ≤ y) → M' 192 y = M0 192 y) → (∀ a, a ≠ 192 → M' a = M0 a) → wp Γ mX10_keep 47 [some (VR 187), some (VI i), some (VI 57)] [] 0 0 (W0 L) M' Q) : ∀ (j k : Nat) (M1 : MM), k + j = 57 → (∀ x, x < k → M1 192 (57 * i + x) = M0 190 x) → (∀ y, (y < 57 * i ∨ 57 * i + 57 ≤ y) → M1 192 y = M0 192 y) → (∀ a, a ≠ 192 → M1 a = M0 a) → wp Γ mX10_keep 18 [some (VR 187), some (VI i), some (VI k)] [] 0 0 (W0 L) M1 Q := by
  intro j
  induction j with
  | zero =>
    intro k M1 hk h1 h2 hf
    have e : k = 57 := by omega
    subst e
    refine vc_goS hG 60 [47] (B := bX10_keep) rfl ?_
    exact And.intro (fun y => h M1 h1 h2 hf) (fun y => by omega)
  | succ j ih =>
    intro k M1 hk h1 h2 hf
    refine vc_goS hG 60 [47] (B := bX10_keep) rfl ?_
    refine And.intro (fun y => by omega) (fun y => ?_)
    refine And.intro rfl (Exists.intro _ (And.intro rfl ?_))
    refine And.intro (by omega) (And.intro (by omega) ?_)
    refine And.intro rfl (Exists.intro _ (And.intro rfl ?_))
    refine And.intro (Or.inl rfl) (Exists.intro k (And.intro rfl (And.intro (show k < 57 by omega) ?_)))
    refine And.intro rfl (Exists.intro (57 * i + k) (And.intro (by omega) (And.intro (show 57 * i + k < 114 by omega) ?_)))
    refine And.intro (by omega) ?_
    refine ih (k + 1) _ (by omega) (fun x hx => ?_) (fun y hy => by rw [upM_k (by omega)]; exact h2 y hy) (fun a ha => by rw [upM_ne ha]; exact hf a ha)
    by_cases q : x = k
    · subst q; rw [upM_eq, hf 190 (by decide)]
    · rw [upM_k (by omega)]; exact h1 x (by omega)
theorem y_keep (hG : GOK Γ) (hc : MR M S) {i : Int} (h : OutM Q L M (fKeep S i)) : wp Γ mX10_keep 0 [some (VR 187), some (VI i)] [] 0 0 (W0 L) M Q := by
  have hc0 := hc.th
  have f0 := frM_th M
  obtain ⟨c1, c2, c3, c4, c5, c6⟩ := id hc0
  refine vc_go hG 60 (B := bX10_keep) rfl ?_
  refine And.intro rfl ?_
  refine m_in hG (fun z => ?_) (fun z => And.intro (fun c => absurd rfl c) (fun c => h.go (cit_n z) rfl hc0 f0))
  refine And.intro (fun c => ?_) (fun c => absurd c (by decide))
  have e1 : fKeep S i = _ := cit_y z
  have ei : i = ((i.toNat : Nat) : Int) := by omega
  have hi : i.toNat < 2 := by omega
  have key := l_mkeep (L := L) (Q := Q) hG (i := i.toNat) hi (upM M 187 0 0) (fun M1 a1 a2 a3 => ?_) 57 0 (upM M 187 0 0) rfl (fun x hx => by omega) (fun y _ => rfl) (fun a _ => rfl)
  · rw [← ei] at key
    exact key
  · have r1 : RwR M1 190 (sG S) := c1.keep (a3 190 (by decide))
    refine vc_go hG 60 (B := bX10_keep) rfl ?_
    refine And.intro rfl (Exists.intro _ (And.intro rfl ?_))
    refine And.intro rfl (Exists.intro i.toNat (And.intro rfl (And.intro (show i.toNat < 2 from hi) (And.intro (Or.inr rfl) ?_))))
    refine And.intro rfl (Exists.intro _ (And.intro rfl ?_))
    refine And.intro (Or.inl rfl) (Exists.intro 0 (And.intro rfl (And.intro (show 0 < 57 by decide) ?_)))
    refine h.go e1 (by rw [upM_a (by decide)]; exact r1.1) ⟨r1.keep (upM_ne (by decide)), c2, c3.keep (by rw [upM_a (by decide), a3 187 (by decide)]) (by rw [upM_ne (by decide), a3 188 (by decide)]), c4.keep (by rw [upM_a (by decide), a3 187 (by decide)]) (by rw [upM_ne (by decide), a3 194 (by decide)]), fun j hj => ?_, c6.keep (by rw [upM_a (by decide), a3 187 (by decide)]) (by rw [upM_ne (by decide), a3 195 (by decide)]) (by rw [upM_ne (by decide), a3 196 (by decide)])⟩ (frM.o (fun a ha => by rw [upM_ne (by omega), a3 a (by omega)]; exact upM_ne (by omega)))
    show _ = ((upN (sx S) i.toNat 1 j : Nat) : Int) ∧ upN (sx S) i.toNat 1 j ≤ 1 ∧ (upN (sx S) i.toNat 1 j = 1 → RwO _ 192 (57 * j) (upN (sI S) i.toNat (sG S) j) ∧ WFG (upN (sI S) i.toNat (sG S) j))
    by_cases q : j = i.toNat
    · subst q
      rw [upM_eq, upN_eq, upN_eq]
      exact ⟨rfl, Nat.le_refl _, fun _ => ⟨RwO.cp c1.o c2 (fun x hx => by rw [upM_a (by decide), Nat.zero_add]; exact a1 x hx), c2⟩⟩
    · rw [upM_k q, upN_ne q, upN_ne q, a3 193 (by decide)]
      obtain ⟨i1, i2, i3⟩ := c5 j hj
      refine ⟨i1, i2, fun z9 => ⟨RwO.cp (i3 z9).1 (i3 z9).2 (fun x hx => ?_), (i3 z9).2⟩⟩
      rw [upM_a (by decide)]
      exact a2 _ (by omega)
end Mod
end
section
/-! ===== the model: what is wanted ===== -/
section Mod
variable {Γ : GG} {L : Nat} {M : MM} {Q : QT} {S : ST} {G : GT}
theorem l_wantedAt (hG : GOK Γ) {a : Nat} (ha : RwL L a) (hr : RwR M a G) (hw : WFG G) {c : Nat} (h1 : ∀ k, k < qm G → qC G k = c → Q (some (VI k)) (W0 L) M) (h0 : (∀ k, k < qm G → qC G k ≠ c) → Q (some (VI (-1))) (W0 L) M) : ∀ (j k : Nat) (z : Int), k + j = qm G → ((z = -1 ∧ ∀ i, i < k → qC G i ≠ c) ∨ ∃ i : Nat, i < k ∧ z = i ∧ qC G i = c) → wp Γ mX10_wantedAt 4 [some (VR a), some (VI c), some (VI z), some (VI k)] [] 0 0 (W0 L) M Q := by
  have m6 := hw.2.1
  have e0 := hr.2.1
  intro j
  induction j with
  | zero =>
    intro k z hk hz
    have e : k = qm G := by omega
    subst e
    refine vc_go hG 60 (B := bX10_wantedAt) rfl ?_
    refine And.intro (Or.inl ha.1) (Exists.intro 49 (And.intro rfl (And.intro (by rw [ha.2]; decide) ?_)))
    refine And.intro (fun y => ?_) (fun y => by omega)
    rcases hz with ⟨z1, z2⟩ | ⟨i, i1, i2, i3⟩
    · subst z1
      exact h0 z2
    · subst i2
      exact h1 i i1 i3
  | succ j ih =>
    intro k z hk hz
    have e1 := hr.2.2.2.2 k (by omega)
    refine vc_goS hG 60 [27] (B := bX10_wantedAt) rfl ?_
    refine And.intro (Or.inl ha.1) (Exists.intro 49 (And.intro rfl (And.intro (by rw [ha.2]; decide) ?_)))
    refine And.intro (fun y => by omega) (fun y => ?_)
    refine And.intro (by omega) ?_
    refine And.intro (Or.inl ha.1) (Exists.intro (50 + k) (And.intro (by omega) (And.intro (by rw [ha.2]; omega) ?_)))
    refine And.intro (fun y => ?_) (fun y => ?_)
    · refine vc_go hG 60 (B := bX10_wantedAt) rfl ?_
      refine And.intro (by omega) ?_
      refine ih (k + 1) z (by omega) ?_
      have ne : qC G k ≠ c := by omega
      rcases hz with ⟨z1, z2⟩ | ⟨i, i1, i2, i3⟩
      · refine Or.inl ⟨z1, fun i hi => ?_⟩
        by_cases q : i = k
        · subst q; exact ne
        · exact z2 i (by omega)
      · exact Or.inr ⟨i, by omega, i2, i3⟩
    · refine vc_go hG 60 (B := bX10_wantedAt) rfl ?_
      refine And.intro (by omega) ?_
      exact ih (k + 1) k (by omega) (Or.inr ⟨k, by omega, rfl, by omega⟩)
theorem m_wantedAt (hG : GOK Γ) {a : Nat} (ha : RwL L a) (hr : RwR M a G) (hw : WFG G) {cI : Int} {c : Nat} (ec : cI = c) (h1 : ∀ k, k < qm G → qC G k = c → Q (some (VI k)) (W0 L) M) (h0 : (∀ k, k < qm G → qC G k ≠ c) → Q (some (VI (-1))) (W0 L) M) : wp Γ mX10_wantedAt 0 [some (VR a), some (VI cI)] [] 0 0 (W0 L) M Q := by
  subst ec
  refine vc_go hG 60 (B := bX10_wantedAt) rfl ?_
  exact l_wantedAt hG ha hr hw h1 h0 (qm G) 0 (-1) (by omega) (Or.inl ⟨rfl, fun i hi => by omega⟩)
/-- one more wanted -/
theorem RwR.wsh {M : MM} {a : Nat} {G : GT} (hr : RwR M a G) (hw : WFG G) (hm : qm G < 6) {c : Nat} {M' : MM} (h1 : M' a 49 = ((qm G + 1 : Nat) : Int)) (h2 : M' a (50 + qm G) = c) (h3 : ∀ i, i ≠ 49 → i ≠ 50 + qm G → M' a i = M a i) : RwR M' a (wshG G c) := by
  have n12 := hw.1
  obtain ⟨s1, s2, s3, s4, s5⟩ := hr
  refine ⟨by rw [h3 0 (by omega) (by omega)]; exact s1, h1, by rw [h3 56 (by omega) (by omega)]; exact s3, fun k hk => ?_, fun k hk => ?_⟩
  · have hk : k < qn G := hk
    rw [h3 _ (by omega) (by omega), h3 _ (by omega) (by omega), h3 _ (by omega) (by omega), h3 _ (by omega) (by omega)]
    exact s4 k hk
  · have hk : k < qm G + 1 := hk
    show _ = ((upN (qC G) (qm G) c k : Nat) : Int)
    by_cases q : k = qm G
    · subst q
      rw [upN_eq]; exact h2
    · rw [upN_ne q, h3 _ (by omega) (by omega)]
      exact s5 k (by omega)
theorem RwR.drp {M : MM} {a : Nat} {G : GT} (hr : RwR M a G) (hw : WFG G) {p : Nat} (hp : p < qm G) {M' : MM} (h1 : M' a 49 = ((qm G - 1 : Nat) : Int)) (h2 : ∀ i, i < p → M' a (50 + i) = M a (50 + i)) (h3 : ∀ i, p ≤ i → i + 1 < qm G → M' a (50 + i) = M a (50 + (i + 1))) (h4 : ∀ i, (i < 49 ∨ 55 < i) → M' a i = M a i) : RwR M' a (drpG G p) := by
  have n12 := hw.1
  obtain ⟨s1, s2, s3, s4, s5⟩ := hr
  refine ⟨by rw [h4 0 (by omega)]; exact s1, h1, by rw [h4 56 (by omega)]; exact s3, fun k hk => ?_, fun k hk => ?_⟩
  · have hk : k < qn G := hk
    rw [h4 _ (by omega), h4 _ (by omega), h4 _ (by omega), h4 _ (by omega)]
    exact s4 k hk
  · have hk : k < qm G - 1 := hk
    show _ = (((if k < p then qC G k else qC G (k + 1)) : Nat) : Int)
    by_cases q : k < p
    · rw [if_pos q, h2 k q]; exact s5 k (by omega)
    · rw [if_neg q, h3 k (by omega) (by omega)]; exact s5 (k + 1) (by omega)
theorem l_mdrop (hG : GOK Γ) {p m : Nat} {c : Int} (hm : m ≤ 6) (hp : p < m) (M0 : MM) (e49 : M0 190 49 = m) (h : ∀ M', M' 190 49 = ((m - 1 : Nat) : Int) → (∀ i, i < p → M' 190 (50 + i) = M0 190 (50 + i)) → (∀ i, p ≤ i → i + 1 < m → M' 190 (50 + i) = M0 190 (50 + (i + 1))) → (∀ i, (i < 49 ∨ 55 < i) → M' 190 i = M0 190 i) → (∀ a, a ≠ 190 → M' a = M0 a) → Q (some (VI ((m - 1 : Nat) : Int))) (W0 L) M') : ∀ (j k : Nat) (M1 : MM), k + j + 1 = m → p ≤ k → (∀ i, i < p → M1 190 (50 + i) = M0 190 (50 + i)) → (∀ i, p ≤ i → i < k → M1 190 (50 + i) = M0 190 (50 + (i + 1))) → (∀ i, k ≤ i → M1 190 (50 + i) = M0 190 (50 + i)) → (∀ i, (i < 50 ∨ 55 < i) → M1 190 i = M0 190 i) → (∀ a, a ≠ 190 → M1 a = M0 a) → wp Γ mX10_wishes 86 [some (VR 187), some (VI c), some (VI (p : Nat)), some (VI (k : Nat))] [] 0 0 (W0 L) M1 Q := by
  intro j
  induction j with
  | zero =>
    intro k M1 hk hpk h1 h2 h3 h4 hf
    have e : M1 190 49 = m := by rw [h4 49 (by omega)]; exact e49
    refine vc_go hG 60 (B := bX10_wishes) rfl ?_
    refine And.intro (by omega) ?_
    refine And.intro rfl (Exists.intro _ (And.intro rfl ?_))
    refine And.intro (Or.inl rfl) (Exists.intro (49) (And.intro (by omega) (And.intro (show 49 < 57 by omega) ?_)))
    refine And.intro (fun y => ?_) (fun y => by omega)
    refine And.intro rfl (Exists.intro _ (And.intro rfl ?_))
    refine And.intro (Or.inl rfl) (Exists.intro (49) (And.intro (by omega) (And.intro (show 49 < 57 by omega) ?_)))
    refine And.intro (by omega) ?_
    refine And.intro rfl (Exists.intro (49) (And.intro (by omega) (And.intro (show 49 < 57 by omega) ?_)))
    refine And.intro rfl (Exists.intro _ (And.intro rfl ?_))
    refine And.intro (Or.inl rfl) (Exists.intro (49) (And.intro (by omega) (And.intro (show 49 < 57 by omega) ?_)))
    have e2 : M1 190 49 - 1 = ((m - 1 : Nat) : Int) := by omega
    rw [upM_eq, e2]
    refine h _ upM_eq (fun i hi => by rw [upM_k (by omega)]; exact h1 i hi) (fun i i1 i2 => by rw [upM_k (by omega)]; exact h2 i i1 (by omega)) (fun i hi => by rw [upM_k (by omega)]; exact h4 i (by omega)) (fun a ha => by rw [upM_ne ha]; exact hf a ha)
  | succ j ih =>
    intro k M1 hk hpk h1 h2 h3 h4 hf
    have e : M1 190 49 = m := by rw [h4 49 (by omega)]; exact e49
    refine vc_go hG 60 (B := bX10_wishes) rfl ?_
    refine And.intro (by omega) ?_
    refine And.intro rfl (Exists.intro _ (And.intro rfl ?_))
    refine And.intro (Or.inl rfl) (Exists.intro (49) (And.intro (by omega) (And.intro (show 49 < 57 by omega) ?_)))
    refine And.intro (fun y => by omega) (fun y => ?_)
    refine And.intro rfl (Exists.intro _ (And.intro rfl ?_))
    refine And.intro (by omega) ?_
    refine And.intro rfl (Exists.intro _ (And.intro rfl ?_))
    refine And.intro (by omega) ?_
    refine And.intro (by omega) ?_
    refine And.intro (Or.inl rfl) (Exists.intro (50 + (k + 1)) (And.intro (by omega) (And.intro (show 50 + (k + 1) < 57 by omega) ?_)))
    refine And.intro rfl (Exists.intro (50 + k) (And.intro (by omega) (And.intro (show 50 + k < 57 by omega) ?_)))
    refine And.intro (by omega) ?_
    refine ih (k + 1) _ (by omega) (by omega) (fun i hi => by rw [upM_k (by omega)]; exact h1 i hi) (fun i i1 i2 => ?_) (fun i hi => by rw [upM_k (by omega)]; exact h3 i (by omega)) (fun i hi => by rw [upM_k (by omega)]; exact h4 i hi) (fun a ha => by rw [upM_ne ha]; exact hf a ha)
    by_cases q : i = k
    · subst q; rw [upM_eq]; exact h3 (i + 1) (by omega)
    · rw [upM_k (by omega)]; exact h2 i i1 (by omega)
theorem y_wishes (hG : GOK Γ) (hc : MR M S) {c : Int} (h : OutM Q L M (fWish S c)) : wp Γ mX10_wishes 0 [some (VR 187), some (VI c)] [] 0 0 (W0 L) M Q := by
  have hc0 := hc.th
  have f0 := frM_th M
  have n12 := hc.2.1.1
  have m6 := hc.2.1.2.1
  refine vc_go hG 60 (B := bX10_wishes) rfl ?_
  refine And.intro rfl ?_
  refine m_in hG (fun z => ?_) (fun z => And.intro (fun y => absurd rfl y) (fun y => h.go (cit_n z) rfl hc0 f0))
  refine And.intro (fun y => ?_) (fun y => absurd y (by decide))
  have e1 : fWish S c = _ := cit_y z
  have ec : c = (c.toNat : Int) := by omega
  refine And.intro rfl (Exists.intro _ (And.intro rfl ?_))
  refine m_wantedAt hG (RwL_s L) hc0.1 hc0.2.1 ec (fun k hk ek => ?_) (fun hno => ?_)
  · have ep : plc (qC (sG S)) c.toNat (qm (sG S)) = k := plc_eq hk ek (fun i hi e => hc.2.1.2.2.2.2.2.2.2 i k hi hk (e.trans ek.symm))
    rw [ep] at e1
    have e2 := e1.trans (cit_y hk)
    refine And.intro (fun x => ?_) (fun x => by omega)
    refine And.intro rfl ?_
    refine m_notes hG hc0.2.2.2.1 hc0.1 hc0.2.1 (fun M2 h2 g1 g2 => ?_)
    have r2 := hc0.1.keep (g1 190 (by decide) (by decide))
    refine And.intro (fun x => ?_) (fun x => by omega)
    refine l_mdrop hG m6 hk M2 r2.2.1 (fun M3 a1 a2 a3 a4 a5 => ?_) (qm (sG S) - 1 - k) k M2 (by omega) (Nat.le_refl _) (fun _ _ => rfl) (fun i i1 i2 => by omega) (fun _ _ => rfl) (fun _ _ => rfl) (fun _ _ => rfl)
    have cp := MR_push hc0 h2 g1 g2 (r2.drp hc0.2.1 hk a1 a2 a3 a4) (drpG_wf hc0.2.1 hk) (fun a b1 b2 b3 b4 => a5 a b2) (fun j hj => by rw [a5 187 (by decide)]) (fun z => z.keep (a5 197 (by decide)) (a5 198 (by decide)))
    exact h.go e2 (by omega) cp.1 (f0.t cp.2)
  · have ep : plc (qC (sG S)) c.toNat (qm (sG S)) = qm (sG S) := plc_no hno
    rw [ep] at e1
    have e2 := e1.trans (cit_n (Nat.lt_irrefl _))
    have i49 := hc0.1.2.1
    refine And.intro (fun x => absurd x (by decide)) (fun x => ?_)
    refine And.intro rfl (Exists.intro _ (And.intro rfl ?_))
    refine And.intro (Or.inl rfl) (Exists.intro (49) (And.intro (by omega) (And.intro (show 49 < 57 by omega) ?_)))
    refine And.intro (fun x => ?_) (fun x => h.go (e2.trans (cit_n (by omega))) rfl hc0 f0)
    have hm : qm (sG S) < 6 := by omega
    have e3 := e2.trans (cit_y hm)
    refine And.intro rfl ?_
    refine m_notes hG hc0.2.2.2.1 hc0.1 hc0.2.1 (fun M2 h2 g1 g2 => ?_)
    have r2 := hc0.1.keep (g1 190 (by decide) (by decide))
    have j49 := r2.2.1
    refine And.intro (fun x => absurd x (by decide)) (fun x => ?_)
    refine And.intro rfl (Exists.intro _ (And.intro rfl ?_))
    refine And.intro rfl (Exists.intro _ (And.intro rfl ?_))
    refine And.intro (Or.inl rfl) (Exists.intro (49) (And.intro (by omega) (And.intro (show 49 < 57 by omega) ?_)))
    refine And.intro (by omega) ?_
    refine And.intro rfl (Exists.intro (50 + qm (sG S)) (And.intro (by omega) (And.intro (show 50 + qm (sG S) < 57 by omega) ?_)))
    refine And.intro rfl (Exists.intro _ (And.intro rfl ?_))
    refine And.intro (Or.inl rfl) (Exists.intro (49) (And.intro (by omega) (And.intro (show 49 < 57 by omega) ?_)))
    refine And.intro (by rw [upM_k (by omega)]; omega) ?_
    refine And.intro rfl (Exists.intro (49) (And.intro (by omega) (And.intro (show 49 < 57 by omega) ?_)))
    refine And.intro rfl (Exists.intro _ (And.intro rfl ?_))
    refine And.intro (Or.inl rfl) (Exists.intro (49) (And.intro (by omega) (And.intro (show 49 < 57 by omega) ?_)))
    have cp := MR_push (M2 := upM (upM M2 190 (50 + qm (sG S)) c) 190 49 (upM M2 190 (50 + qm (sG S)) c 190 49 + 1)) hc0 h2 g1 g2 (r2.wsh hc0.2.1 hm (c := c.toNat) (by rw [upM_eq, upM_k (by omega), j49]; omega) (by rw [upM_k (by omega), upM_eq]; exact ec) (fun i i1 i2 => by rw [upM_k i1, upM_k i2])) (wshG_wf hc0.2.1 hm (by omega) hno) (fun a b1 b2 b3 b4 => by rw [upM_ne b2, upM_ne b2]) (fun j hj => by rw [upM_a (by decide), upM_a (by decide)]) (fun z => (z.up3 (by decide) (by decide)).up3 (by decide) (by decide))
    exact h.go e3 (by rw [upM_eq, upM_k (by omega), j49]) cp.1 (f0.t cp.2)
end Mod
end
section
/-! ===== the model: odd, wanted, count, product ===== -/
theorem hv_odd {n : Nat} (h : n % 2 = 1) : hv n = 0 := by
  show hvF 11 n = 0
  unfold hvF
  rw [if_neg (fun z => by omega)]
theorem hv_half {n : Nat} (h0 : n ≠ 0) (h2 : n < 2048) (h : n % 2 = 0) : hv n = hv (n / 2) + 1 := by
  refine ((odd_uniq (a := odp (n / 2)) (b := odp n) (i := hv (n / 2) + 1) (j := hv n) (odp_odd (by omega) (by omega)) (odp_odd h0 h2) ?_).2).symm
  rw [odp_mul, Nat.pow_succ, ← Nat.mul_assoc, odp_mul]
  omega
section Mod
variable {Γ : GG} {L : Nat} {M : MM} {Q : QT} {S : ST} {G : GT}
theorem l_mhalf (hG : GOK Γ) {x0 x1 x2 x3 : Option AV} {t : Nat} (ht : t ≤ 100) (h : Q (some (VI t)) (W0 L) M) : ∀ (j m n : Nat), m < 2 ^ j → m < 2048 → m ≠ 0 → n + hv m = t → wp Γ mX10_odd 204 [x0, x1, x2, x3, some (VI m), some (VI n)] [] 0 0 (W0 L) M Q := by
  intro j
  induction j with
  | zero =>
    intro m n h1 h2 h3 h4
    simp at h1
    omega
  | succ j ih =>
    intro m n h1 h2 h3 h4
    refine vc_go hG 60 (B := bX10_odd) rfl ?_
    refine And.intro ⟨by omega, by decide⟩ (And.intro (fun b => ?_) (fun b => ?_))
    · have e : m % 2 = 1 := by omega
      rw [hv_odd e] at h4
      subst h4
      exact h
    · refine And.intro ⟨by omega, by decide⟩ ?_
      have e : (m : Int) / 2 = ((m / 2 : Nat) : Int) := rfl
      rw [e]
      have e2 := hv_half h3 h2 (by omega)
      rw [Nat.pow_succ] at h1
      exact And.intro (by omega) (ih (m / 2) (n + 1) (by omega) (by omega) (by omega) (by omega))
theorem y_odd (hG : GOK Γ) (hc : MR M S) {k w : Int} (h : OutM Q L M (fOdd S k w)) : wp Γ mX10_odd 0 [some (VR 187), some (VI k), some (VI w)] [] 0 0 (W0 L) M Q := by
  have hc0 := hc.th
  have f0 := frM_th M
  have n12 := hc.2.1.1
  have i0 := hc0.1.1
  refine vc_go hG 100 (B := bX10_odd) rfl ?_
  refine And.intro rfl ?_
  refine And.intro rfl (Exists.intro _ (And.intro rfl ?_))
  refine And.intro (Or.inl rfl) (Exists.intro (0) (And.intro (by omega) (And.intro (show 0 < 57 by omega) ?_)))
  refine m_in hG (fun z1 => ?_) (fun z1 => And.intro (fun c => h.go (cit_n (fun z => z1 (by have := z.1.1; have := z.1.2; omega))) rfl hc0 f0) (fun c => absurd rfl c))
  refine And.intro (fun c => absurd c (by decide)) (fun c => ?_)
  refine m_in hG (fun z2 => ?_) (fun z2 => And.intro (fun c => absurd rfl c) (fun c => h.go (cit_n (fun z => z2 (by have := z.2.1; have := z.2.2; omega))) rfl hc0 f0))
  refine And.intro (fun c => ?_) (fun c => absurd c (by decide))
  have e1 : fOdd S k w = _ := cit_y ⟨⟨z1.1, by omega⟩, ⟨z2.1, by omega⟩⟩
  refine And.intro rfl (Exists.intro _ (And.intro rfl ?_))
  refine And.intro rfl ?_
  refine m_reckons hG (RwL_s L) (by decide) (by decide) hc0.1 hc0.2.1 (fun M1 o1 k1 => ?_)
  have hc1 := hc0.rk k1
  have f1 := f0.t k1.m
  have fin : ∀ r : Int, r = oddF (sG S) k.toNat w.toNat → Q (some (VI r)) (W0 L) M1 := fun r hr => h.go e1 hr hc1 f1
  unfold oddF at fin
  have ok := o1.2 k.toNat (by omega)
  have ek : k = (k.toNat : Int) := by omega
  refine And.intro (fun y => ?_) (fun y => ?_)
  · refine And.intro (fun y2 => ?_) (fun y2 => ?_)
    · have p1 : ∀ j, k = ((j : Nat) : Int) + 1 → _ := fun j hj => hc1.1.2.2.2.1 j (by omega)
      have q1 := p1 (k.toNat - 1) (by omega)
      obtain ⟨w1, w2, w3, w4, w5, w6, w7, w8⟩ := hc1.2.1.2.2.2.2.2.1 (k.toNat - 1) (by omega)
      rw [if_neg (by omega), if_neg (by omega), if_neg (by omega)] at fin
      refine And.intro (by omega) ?_
      refine And.intro (fun y3 => ?_) (fun y3 => ?_)
      · have v1 := WFG_V hc1.2.1 (qP (sG S) (k.toNat - 1)) (by omega)
        have v2 := WFG_V hc1.2.1 (qQ (sG S) (k.toNat - 1)) (by omega)
        have oo1 := (o1.2 (qP (sG S) (k.toNat - 1)) (by omega)).1
        have oo2 := (o1.2 (qQ (sG S) (k.toNat - 1)) (by omega)).1
        rw [if_neg (by omega), if_neg (by omega), if_neg (by omega), if_neg (by omega)] at fin
        refine And.intro rfl (Exists.intro _ (And.intro rfl ?_))
        refine And.intro rfl (Exists.intro _ (And.intro rfl ?_))
        refine And.intro (by omega) ?_
        refine And.intro (Or.inl rfl) (Exists.intro (1 + (k.toNat - 1)) (And.intro (by omega) (And.intro (show 1 + (k.toNat - 1) < 57 by omega) ?_)))
        refine And.intro (Or.inl rfl) (Exists.intro (qP (sG S) (k.toNat - 1)) (And.intro q1.1 (And.intro (show qP (sG S) (k.toNat - 1) < 14 by omega) ?_)))
        refine And.intro rfl (Exists.intro _ (And.intro rfl ?_))
        refine And.intro (by omega) ?_
        refine And.intro (Or.inl rfl) (Exists.intro (13 + (k.toNat - 1)) (And.intro (by omega) (And.intro (show 13 + (k.toNat - 1) < 57 by omega) ?_)))
        refine And.intro rfl (Exists.intro _ (And.intro rfl ?_))
        refine And.intro rfl (Exists.intro _ (And.intro rfl ?_))
        refine And.intro (by omega) ?_
        refine And.intro (Or.inl rfl) (Exists.intro (25 + (k.toNat - 1)) (And.intro (by omega) (And.intro (show 25 + (k.toNat - 1) < 57 by omega) ?_)))
        refine And.intro (Or.inl rfl) (Exists.intro (qQ (sG S) (k.toNat - 1)) (And.intro q1.2.2.1 (And.intro (show qQ (sG S) (k.toNat - 1) < 14 by omega) ?_)))
        refine And.intro rfl (Exists.intro _ (And.intro rfl ?_))
        refine And.intro (by omega) ?_
        refine And.intro (Or.inl rfl) (Exists.intro (37 + (k.toNat - 1)) (And.intro (by omega) (And.intro (show 37 + (k.toNat - 1) < 57 by omega) ?_)))
        refine m_comes hG oo1 q1.2.1 oo2 q1.2.2.2 v1.2.1 w3 v2.2.1 w4 ?_
        have w6' : qX (sG S) (k.toNat - 1) < 2048 := by omega
        exact l_mhalf hG (t := hv (qX (sG S) (k.toNat - 1))) (by have := hv_le (qX (sG S) (k.toNat - 1)); omega) (fin _ rfl) 11 (qX (sG S) (k.toNat - 1)) 0 w6' w6' (by omega) (by omega)
      · refine And.intro (fun y4 => ?_) (fun y4 => ?_)
        · refine And.intro (fun y5 => ?_) (fun y5 => ?_)
          · refine And.intro (fun y6 => ?_) (fun y6 => ?_)
            · rw [if_neg (by omega), if_neg (by omega), if_neg (by omega), if_pos (by omega)] at fin
              refine And.intro rfl (Exists.intro _ (And.intro rfl ?_))
              refine And.intro (by omega) ?_
              refine And.intro (Or.inl rfl) (Exists.intro (37 + (k.toNat - 1)) (And.intro (by omega) (And.intro (show 37 + (k.toNat - 1) < 57 by omega) ?_)))
              exact fin _ q1.2.2.2
            · rw [if_neg (by omega), if_neg (by omega), if_pos (by omega)] at fin
              refine And.intro rfl (Exists.intro _ (And.intro rfl ?_))
              refine And.intro (by omega) ?_
              refine And.intro (Or.inl rfl) (Exists.intro (13 + (k.toNat - 1)) (And.intro (by omega) (And.intro (show 13 + (k.toNat - 1) < 57 by omega) ?_)))
              exact fin _ q1.2.1
          · rw [if_neg (by omega), if_pos (by omega)] at fin
            refine And.intro rfl (Exists.intro _ (And.intro rfl ?_))
            refine And.intro (by omega) ?_
            refine And.intro (Or.inl rfl) (Exists.intro (25 + (k.toNat - 1)) (And.intro (by omega) (And.intro (show 25 + (k.toNat - 1) < 57 by omega) ?_)))
            exact fin _ q1.2.2.1
        · rw [if_pos (by omega)] at fin
          refine And.intro rfl (Exists.intro _ (And.intro rfl ?_))
          refine And.intro (by omega) ?_
          refine And.intro (Or.inl rfl) (Exists.intro (1 + (k.toNat - 1)) (And.intro (by omega) (And.intro (show 1 + (k.toNat - 1) < 57 by omega) ?_)))
          exact fin _ q1.1
    · rw [if_neg (by omega), if_neg (by omega), if_pos (by omega)] at fin
      refine And.intro (fun y3 => ?_) (fun y3 => ?_)
      · rw [if_neg (by omega)] at fin
        exact fin _ rfl
      · rw [if_pos (by omega)] at fin
        exact fin _ rfl
  · refine And.intro (fun y2 => ?_) (fun y2 => ?_)
    · rw [if_neg (by omega), if_pos (by omega)] at fin
      refine And.intro rfl (Exists.intro _ (And.intro rfl ?_))
      refine And.intro (Or.inl rfl) (Exists.intro (k.toNat) (And.intro (by omega) (And.intro (show k.toNat < 14 by omega) ?_)))
      exact fin _ ok.2
    · rw [if_pos (by omega)] at fin
      refine And.intro rfl (Exists.intro _ (And.intro rfl ?_))
      refine And.intro (Or.inl rfl) (Exists.intro (k.toNat) (And.intro (by omega) (And.intro (show k.toNat < 14 by omega) ?_)))
      exact fin _ ok.1
theorem y_wanted (hG : GOK Γ) (hc : MR M S) {k w : Int} (h : OutM Q L M (fWanted S k w)) : wp Γ mX10_wanted 0 [some (VR 187), some (VI k), some (VI w)] [] 0 0 (W0 L) M Q := by
  have hc0 := hc.th
  have f0 := frM_th M
  have m6 := hc.2.1.2.1
  have i0 := hc0.1.2.1
  refine vc_go hG 100 (B := bX10_wanted) rfl ?_
  refine And.intro rfl ?_
  refine And.intro rfl (Exists.intro _ (And.intro rfl ?_))
  refine And.intro (Or.inl rfl) (Exists.intro (49) (And.intro (by omega) (And.intro (show 49 < 57 by omega) ?_)))
  refine And.intro (by omega) ?_
  refine m_in hG (fun z1 => ?_) (fun z1 => And.intro (fun c => h.go (cit_n (fun z => z1 (by have := z.1.1; have := z.1.2; omega))) rfl hc0 f0) (fun c => absurd rfl c))
  refine And.intro (fun c => absurd c (by decide)) (fun c => ?_)
  refine m_in hG (fun z2 => ?_) (fun z2 => And.intro (fun c => absurd rfl c) (fun c => h.go (cit_n (fun z => z2 (by have := z.2.1; have := z.2.2; omega))) rfl hc0 f0))
  refine And.intro (fun c => ?_) (fun c => absurd c (by decide))
  have e1 : fWanted S k w = _ := cit_y ⟨⟨z1.1, by omega⟩, ⟨z2.1, by omega⟩⟩
  refine And.intro rfl (Exists.intro _ (And.intro rfl ?_))
  refine And.intro rfl ?_
  refine m_reckons hG (RwL_s L) (by decide) (by decide) hc0.1 hc0.2.1 (fun M1 o1 k1 => ?_)
  have hc1 := hc0.rk k1
  have f1 := f0.t k1.m
  have n12 := hc.2.1.1
  have cc := hc1.1.2.2.2.2 k.toNat (by omega)
  have cb := hc1.2.1.2.2.2.2.2.2.1 k.toNat (by omega)
  refine And.intro (fun y => ?_) (fun y => ?_)
  · have e2 := e1.trans (cit_n y)
    refine And.intro rfl (Exists.intro _ (And.intro rfl ?_))
    refine And.intro (by omega) ?_
    refine And.intro (Or.inl rfl) (Exists.intro (50 + k.toNat) (And.intro (by omega) (And.intro (show 50 + k.toNat < 57 by omega) ?_)))
    refine m_oddPart hG cc (by omega) ?_
    refine And.intro rfl ?_
    refine m_isOdds hG o1 (by omega) rfl (fun q => ?_) (fun q => ?_)
    · refine And.intro (fun y => absurd y (by decide)) (fun y => ?_)
      obtain ⟨i, i1, i2⟩ := q
      exact h.go (e2.trans (cit_y ⟨i, by omega, i2⟩)) rfl hc1 f1
    · refine And.intro (fun y => ?_) (fun y => absurd rfl y)
      refine h.go (e2.trans (cit_n (fun z => ?_))) rfl hc1 f1
      obtain ⟨i, i1, i2⟩ := z
      exact q i (by omega) i2
  · refine And.intro rfl (Exists.intro _ (And.intro rfl ?_))
    refine And.intro (by omega) ?_
    refine And.intro (Or.inl rfl) (Exists.intro (50 + k.toNat) (And.intro (by omega) (And.intro (show 50 + k.toNat < 57 by omega) ?_)))
    exact h.go (e1.trans (cit_y y)) cc hc1 f1
theorem l_unmet (hG : GOK Γ) {a : Nat} (ha : RwL L a) (hr : RwR M a G) (hw : WFG G) (ho : OdR M (qn G + 1) (qV G) (qD G)) (h : Q (some (VI (nMt G (qm G) : Nat))) (W0 L) M) : ∀ (j k : Nat), k + j = qm G → nMt G k ≤ k → wp Γ mX10_unmet 4 [some (VR 187), some (VR a), some (VI (nMt G k : Nat)), some (VI k)] [] 0 0 (W0 L) M Q := by
  have m6 := hw.2.1
  have n12 := hw.1
  have e0 := hr.2.1
  intro j
  induction j with
  | zero =>
    intro k hk hl
    have e : k = qm G := by omega
    subst e
    refine vc_go hG 60 (B := bX10_unmet) rfl ?_
    refine And.intro (Or.inl ha.1) (Exists.intro 49 (And.intro rfl (And.intro (by rw [ha.2]; decide) ?_)))
    exact And.intro (fun y => h) (fun y => by omega)
  | succ j ih =>
    intro k hk hl
    have e1 := hr.2.2.2.2 k (by omega)
    have cb := hw.2.2.2.2.2.2.1 k (by omega)
    have nx := ih (k + 1) (by omega)
    have en : nMt G (k + 1) = nMt G k + (@ite _ (isMt G (qC G k)) (Classical.propDecidable _) 0 1) := rfl
    rw [en] at nx
    refine vc_go hG 60 (B := bX10_unmet) rfl ?_
    refine And.intro (Or.inl ha.1) (Exists.intro 49 (And.intro rfl (And.intro (by rw [ha.2]; decide) ?_)))
    refine And.intro (fun y => by omega) (fun y => ?_)
    refine And.intro (by omega) ?_
    refine And.intro (Or.inl ha.1) (Exists.intro (50 + k) (And.intro (by omega) (And.intro (by rw [ha.2]; omega) ?_)))
    refine m_oddPart hG e1 (by omega) ?_
    refine And.intro rfl ?_
    refine m_isOdds hG ho (by omega) rfl (fun q => ?_) (fun q => ?_)
    · refine And.intro (fun y => absurd y (by decide)) (fun y => ?_)
      obtain ⟨i, i1, i2⟩ := q
      have mt : isMt G (qC G k) := ⟨i, by omega, i2⟩
      rw [if_pos mt] at nx
      refine And.intro (by omega) (And.intro (by omega) ?_)
      exact nx (by omega)
    · refine And.intro (fun y => ?_) (fun y => absurd rfl y)
      have mt : ¬ isMt G (qC G k) := fun z => by
        obtain ⟨i, i1, i2⟩ := z
        exact q i (by omega) i2
      rw [if_neg mt] at nx
      refine And.intro (by omega) (And.intro (by omega) ?_)
      exact nx (by omega)
theorem m_unmet (hG : GOK Γ) {a : Nat} (ha : RwL L a) (hr : RwR M a G) (hw : WFG G) (ho : OdR M (qn G + 1) (qV G) (qD G)) (h : Q (some (VI (nMt G (qm G) : Nat))) (W0 L) M) : wp Γ mX10_unmet 0 [some (VR 187), some (VR a)] [] 0 0 (W0 L) M Q := by
  refine vc_go hG 60 (B := bX10_unmet) rfl ?_
  exact l_unmet hG ha hr hw ho h (qm G) 0 (by omega) (Nat.le_refl _)
theorem y_count (hG : GOK Γ) (hc : MR M S) {w : Int} (h : OutM Q L M (fCount S w)) : wp Γ mX10_count 0 [some (VR 187), some (VI w)] [] 0 0 (W0 L) M Q := by
  have hc0 := hc.th
  have f0 := frM_th M
  unfold fCount at h
  refine vc_go hG 60 (B := bX10_count) rfl ?_
  refine And.intro rfl ?_
  refine m_in hG (fun z => ?_) (fun z => And.intro (fun c => absurd rfl c) (fun c => ?_))
  · refine And.intro (fun c => ?_) (fun c => absurd c (by decide))
    refine And.intro (fun y => ?_) (fun y => ?_)
    · rw [if_neg (by omega), if_neg (by omega), if_neg (by omega)] at h
      refine And.intro (fun y => ?_) (fun y => ?_)
      · rw [if_neg (by omega), if_neg (by omega)] at h
        refine And.intro (fun y => ?_) (fun y => ?_)
        · rw [if_neg (by omega)] at h
          refine And.intro (fun y => ?_) (fun y => ?_)
          · rw [if_neg (by omega), if_pos (by omega)] at h
            exact And.intro rfl (h.go rfl hc0.2.2.2.1.1 hc0 f0)
          · rw [if_pos (by omega)] at h
            exact And.intro rfl (h.go rfl hc0.2.2.1.1 hc0 f0)
        · rw [if_pos (by omega)] at h
          exact And.intro rfl (h.go rfl hc0.2.2.2.2.2.1 hc0 f0)
      · refine And.intro rfl ?_
        refine m_deepest hG hc0 (fun M1 hc1 o1 k1 => ?_)
        have f1 := f0.t k1.m
        refine And.intro (fun y => ?_) (fun y => ?_)
        · rw [if_neg (by omega), if_pos (by omega)] at h
          exact h.go rfl rfl hc1 f1
        · rw [if_pos (by omega)] at h
          refine And.intro rfl (Exists.intro _ (And.intro rfl ?_))
          refine And.intro rfl ?_
          exact m_unmet hG (RwL_s L) hc1.1 hc1.2.1 o1 (h.go rfl rfl hc1 f1)
    · refine And.intro (fun y => ?_) (fun y => ?_)
      · rw [if_neg (by omega)] at h
        refine And.intro (fun y => ?_) (fun y => ?_)
        · rw [if_neg (by omega), if_pos (by omega)] at h
          refine And.intro rfl (Exists.intro _ (And.intro rfl ?_))
          refine And.intro (Or.inl rfl) (Exists.intro (56) (And.intro (by omega) (And.intro (show 56 < 57 by omega) ?_)))
          exact h.go rfl hc0.1.2.2.1 hc0 f0
        · rw [if_pos (by omega)] at h
          refine And.intro rfl (Exists.intro _ (And.intro rfl ?_))
          refine And.intro (Or.inl rfl) (Exists.intro (49) (And.intro (by omega) (And.intro (show 49 < 57 by omega) ?_)))
          exact h.go rfl hc0.1.2.1 hc0 f0
      · rw [if_pos (by omega)] at h
        refine And.intro rfl (Exists.intro _ (And.intro rfl ?_))
        refine And.intro (Or.inl rfl) (Exists.intro (0) (And.intro (by omega) (And.intro (show 0 < 57 by omega) ?_)))
        exact h.go rfl hc0.1.1 hc0 f0
  · rw [if_neg (by omega), if_neg (by omega), if_neg (by omega), if_neg (by omega), if_neg (by omega), if_neg (by omega), if_neg (by omega), if_neg (by omega)] at h
    exact h.go rfl rfl hc0 f0
theorem y_product (hG : GOK Γ) (hc : MR M S) {k x : Int} (h : ∀ M', MR M' S → frM M M' → Q (some (VL (fProd S k x))) (W0 L) M') : wp Γ mX10_product 0 [some (VR 187), some (VI k), some (VI x)] [] 0 0 (W0 L) M Q := by
  have hc0 := hc.th
  have f0 := frM_th M
  have n12 := hc.2.1.1
  have i0 := hc0.1.1
  have bad : ¬ (inB k (qn (sG S)) ∧ -99999 ≤ x ∧ x ≤ 99999) → Q (some (VL 0)) (W0 L) (upM M 187 0 0) := fun z => by
    have := h _ hc0 f0
    unfold fProd at this
    rw [cit_n z] at this
    exact this
  refine vc_go hG 60 (B := bX10_product) rfl ?_
  refine And.intro rfl ?_
  refine And.intro rfl (Exists.intro _ (And.intro rfl ?_))
  refine And.intro (Or.inl rfl) (Exists.intro (0) (And.intro (by omega) (And.intro (show 0 < 57 by omega) ?_)))
  refine m_in hG (fun z1 => ?_) (fun z1 => And.intro (fun c => bad (fun z => z1 (by have := z.1.1; have := z.1.2; omega))) (fun c => absurd rfl c))
  refine And.intro (fun c => absurd c (by decide)) (fun c => ?_)
  refine m_in hG (fun z2 => ?_) (fun z2 => And.intro (fun c => absurd rfl c) (fun c => bad (fun z => z2 z.2)))
  refine And.intro (fun c => ?_) (fun c => absurd c (by decide))
  refine And.intro rfl (Exists.intro _ (And.intro rfl ?_))
  refine And.intro rfl ?_
  refine m_reckons hG (RwL_s L) (by decide) (by decide) hc0.1 hc0.2.1 (fun M1 o1 k1 => ?_)
  have hc1 := hc0.rk k1
  have f1 := f0.t k1.m
  have ok := (o1.2 k.toNat (by omega)).1
  have v1 := WFG_V hc.2.1 k.toNat (by omega)
  refine And.intro rfl (Exists.intro _ (And.intro rfl ?_))
  refine And.intro (Or.inl rfl) (Exists.intro (k.toNat) (And.intro (by omega) (And.intro (show k.toNat < 14 by omega) ?_)))
  have := h _ hc1 f1
  unfold fProd at this
  have z2 : -99999 ≤ x ∧ x ≤ 99999 := z2
  rw [cit_y ⟨⟨z1.1, by omega⟩, z2⟩] at this
  rw [ok]
  refine And.intro ?_ this
  generalize qV (sG S) k.toNat = V at *
  have hv : (0 : Int) ≤ V ∧ (V : Int) ≤ 1023 := by omega
  constructor
  · have : -(1023 * 99999 : Int) ≤ (V : Int) * x := by
      rcases Int.le_total 0 x with q | q
      · have := Int.mul_nonneg hv.1 q
        omega
      · have h1 : (V : Int) * (-x) ≤ 1023 * 99999 := Int.mul_le_mul hv.2 (by omega) (by omega) (by omega)
        have h2 : (V : Int) * (-x) = -((V : Int) * x) := Int.mul_neg _ _
        omega
    omega
  · have : (V : Int) * x ≤ 1023 * 99999 := by
      rcases Int.le_total 0 x with q | q
      · exact Int.mul_le_mul hv.2 (by omega) (by omega) (by omega)
      · have h1 : 0 ≤ (V : Int) * (-x) := Int.mul_nonneg hv.1 (by omega)
        have h2 : (V : Int) * (-x) = -((V : Int) * x) := Int.mul_neg _ _
        omega
    omega
end Mod
end
section
/-! ===== the model: digits ===== -/
theorem dgA (v e : Nat) : v / 2 ^ (e + 1) = v / 2 ^ e / 2 := by rw [Nat.pow_succ, Nat.div_div_eq_div_mul]
theorem dg3 (v : Nat) : ∀ e, 3 * (v / 2 ^ e) ≤ 3 * v / 2 ^ e ∧ 3 * v / 2 ^ e ≤ 3 * (v / 2 ^ e) + 2
  | 0 => by simp
  | e + 1 => by
    have := dg3 v e
    rw [dgA, dgA]
    omega
section Mod
variable {Γ : GG} {L : Nat} {M : MM} {Q : QT} {S : ST} {G : GT}
theorem l_digitOf (hG : GOK Γ) {w : Wd} {v k : Nat} (hv : v ≤ 1023) (hk : k ≤ 11) (h : Q (some (VI (sgd v k))) w M) : ∀ (j e : Nat) (x z : Int), e + j = k + 1 → x = ((3 * v / 2 ^ (e + 1) : Nat) : Int) - ((v / 2 ^ (e + 1) : Nat) : Int) → (e = 0 ∨ z = sgd v (e - 1)) → wp Γ mX10_digitOf 7 [some (VI v), some (VI k), some (VI x), some (VI z), some (VI e)] [] 0 0 w M Q := by
  intro j
  induction j with
  | zero =>
    intro e x z he hx hz
    have ee : e = k + 1 := by omega
    subst ee
    refine vc_go hG 60 (B := bX10_digitOf) rfl ?_
    refine And.intro (fun y => ?_) (fun y => by omega)
    rcases hz with q | q
    · omega
    · subst q
      exact h
  | succ j ih =>
    intro e x z he hx hz
    have d := dg3 v (e + 1)
    have hA : 3 * v / 2 ^ (e + 1) ≤ 3 * v := Nat.div_le_self _ _
    have hA2 := dgA (3 * v) (e + 1)
    have hB2 := dgA v (e + 1)
    have es : sgd v e = ((3 * v / 2 ^ (e + 1) % 2 : Nat) : Int) - ((v / 2 ^ (e + 1) % 2 : Nat) : Int) := rfl
    have nx := fun x' z' => ih (e + 1) x' z' (by omega)
    rw [hA2, hB2, show e + 1 - 1 = e from rfl, es] at nx
    generalize 3 * v / 2 ^ (e + 1) = A at *
    generalize v / 2 ^ (e + 1) = B at *
    have fin : ∀ z' : Int, z' = ((A % 2 : Nat) : Int) - ((B % 2 : Nat) : Int) → wp Γ mX10_digitOf 36 [some (VI v), some (VI k), some (VI x), some (VI z'), some (VI e)] [] 0 0 w M Q := by
      intro z' hz'
      refine vc_go hG 60 (B := bX10_digitOf) rfl ?_
      refine And.intro (by omega) (And.intro ⟨by omega, by decide⟩ (And.intro (by omega) ?_))
      exact nx _ z' (by omega) (Or.inr hz')
    refine vc_goS hG 60 [36] (B := bX10_digitOf) rfl ?_
    refine And.intro (fun y => by omega) (fun y => ?_)
    refine And.intro ⟨by omega, by decide⟩ (And.intro (fun y2 => ?_) (fun y2 => ?_))
    · refine And.intro ⟨by omega, by decide⟩ (And.intro (fun y3 => ?_) (fun y3 => ?_))
      · exact fin (-1) (by omega)
      · exact fin 1 (by omega)
    · exact fin 0 (by omega)
theorem m_digitOf (hG : GOK Γ) {w : Wd} {vI kI : Int} {v k : Nat} (ev : vI = v) (ek : kI = k) (hv : v ≤ 1023) (hk : k ≤ 11) (h : Q (some (VI (sgd v k))) w M) : wp Γ mX10_digitOf 0 [some (VI vI), some (VI kI)] [] 0 0 w M Q := by
  subst ev ek
  refine vc_go hG 60 (B := bX10_digitOf) rfl ?_
  refine l_digitOf hG hv hk h (k + 1) 0 v 0 (by omega) ?_ (Or.inl rfl)
  rw [show (0 : Nat) + 1 = 1 from rfl, Nat.pow_one]
  omega
theorem m_isConstant (hG : GOK Γ) {w : Wd} {x : Int} (h1 : 1 ≤ x ∧ x ≤ 1023 → Q (some (VI 1)) w M) (h0 : ¬ (1 ≤ x ∧ x ≤ 1023) → Q (some (VI 0)) w M) : wp Γ mX10_isConstant 0 [some (VI x)] [] 0 0 w M Q := by
  refine vc_go hG 60 (B := bX10_isConstant) rfl ?_
  exact m_in hG (fun z => And.intro (Or.inr rfl) (h1 z)) (fun z => And.intro (Or.inl rfl) (h0 z))
theorem y_digit (hG : GOK Γ) (hc : MR M S) {v k : Int} (h : OutM Q L M (fDigit S v k)) : wp Γ mX10_digit 0 [some (VR 187), some (VI v), some (VI k)] [] 0 0 (W0 L) M Q := by
  have hc0 := hc.th
  have f0 := frM_th M
  refine vc_go hG 60 (B := bX10_digit) rfl ?_
  refine And.intro rfl ?_
  refine m_isConstant hG (fun z1 => ?_) (fun z1 => And.intro (fun c => h.go (cit_n (fun z => z1 z.1)) rfl hc0 f0) (fun c => absurd rfl c))
  refine And.intro (fun c => absurd c (by decide)) (fun c => ?_)
  refine m_in hG (fun z2 => ?_) (fun z2 => And.intro (fun c => h.go (cit_n (fun z => z2 z.2)) rfl hc0 f0) (fun c => absurd rfl c))
  refine And.intro (fun c => absurd c (by decide)) (fun c => ?_)
  refine m_digitOf hG (v := v.toNat) (k := k.toNat) (by omega) (by omega) (by omega) (by omega) ?_
  have b : -1 ≤ sgd v.toNat k.toNat ∧ sgd v.toNat k.toNat ≤ 1 := by unfold sgd; omega
  refine And.intro (by omega) ?_
  exact h.go (cit_y ⟨z1, z2⟩) rfl hc0 f0
theorem l_mdigits (hG : GOK Γ) {v : Nat} (hv : v ≤ 1023) (h : Q (some (VI (dgc v 12 : Nat))) (W0 L) M) : ∀ (j k : Nat), k + j = 12 → wp Γ mX10_digits 18 [some (VR 187), some (VI v), some (VI (dgc v k : Nat)), some (VI k)] [] 0 0 (W0 L) M Q := by
  intro j
  induction j with
  | zero =>
    intro k hk
    have e : k = 12 := by omega
    subst e
    refine vc_go hG 60 (B := bX10_digits) rfl ?_
    exact And.intro (fun y => h) (fun y => by omega)
  | succ j ih =>
    intro k hk
    have dl := dgc_le v k
    have ed : dgc v (k + 1) = dgc v k + (if sgd v k = 0 then 0 else 1) := rfl
    have nx := ih (k + 1) (by omega)
    rw [ed] at nx
    refine vc_go hG 60 (B := bX10_digits) rfl ?_
    refine And.intro (fun y => by omega) (fun y => ?_)
    refine m_digitOf hG rfl rfl hv (by omega) ?_
    refine And.intro (fun z => ?_) (fun z => ?_)
    · rw [if_pos z] at nx
      exact And.intro (by omega) (And.intro (by omega) nx)
    · rw [if_neg z] at nx
      exact And.intro (by omega) (And.intro (by omega) nx)
theorem y_digits (hG : GOK Γ) (hc : MR M S) {v : Int} (h : OutM Q L M (fDigits S v)) : wp Γ mX10_digits 0 [some (VR 187), some (VI v)] [] 0 0 (W0 L) M Q := by
  have hc0 := hc.th
  have f0 := frM_th M
  refine vc_go hG 60 (B := bX10_digits) rfl ?_
  refine And.intro rfl ?_
  refine m_isConstant hG (fun z1 => ?_) (fun z1 => And.intro (fun c => absurd rfl c) (fun c => h.go (cit_n z1) rfl hc0 f0))
  refine And.intro (fun c => ?_) (fun c => absurd c (by decide))
  have ev : v = ((v.toNat : Nat) : Int) := by omega
  have := l_mdigits (L := L) (M := upM M 187 0 0) hG (v := v.toNat) (by omega) (h.go (cit_y z1) rfl hc0 f0) 12 0 rfl
  rw [← ev] at this
  exact this
end Mod
end
section
/-! ===== the model: tokens ===== -/
theorem tok_e {T : Nat → Nat} {n b : Nat} (hs : skp T n (n - b) b = n) : tok T n b = (n, n, -1, 0) := by
  unfold tok
  rw [hs, Nat.sub_self]
  show tokE T n n (n, 0) = _
  unfold tokE
  rw [if_pos (Nat.le_refl _)]
theorem tok_d {T : Nat → Nat} {n b st : Nat} {ev : Nat × Nat} (hs : skp T n (n - b) b = st) (h : st < n) (hd : isDg (T st)) (he : dgs T n (n - st) st 0 = ev) : tok T n b = (st, ev.1, if (T st = 48 ∧ 1 < ev.1 - st) ∨ 9999 < ev.2 then -3 else -2, ev.2) ∧ st < ev.1 := by
  have hl : st < ev.1 := by
    rw [← he, show n - st = (n - st - 1) + 1 by omega]
    rw [show dgs T n (n - st - 1 + 1) st 0 = if st < n ∧ isDg (T st) then dgs T n (n - st - 1) (st + 1) (min (0 * 10 + T st - 48) 10000) else (st, 0) from rfl, if_pos ⟨h, hd⟩]
    have := dgs_b T n (n - st - 1) (st + 1) (min (0 * 10 + T st - 48) 10000) (by omega) (by omega)
    omega
  refine ⟨?_, hl⟩
  unfold tok
  rw [hs, he]
  unfold tokE
  rw [if_neg (by omega), if_pos hl]
theorem tok_c {T : Nat → Nat} {n b st : Nat} (hs : skp T n (n - b) b = st) (h : st < n) (hd : ¬ isDg (T st)) : tok T n b = (st, st + 1, (T st : Int), 0) := by
  have he : dgs T n (n - st) st 0 = (st, 0) := by
    rw [show n - st = (n - st - 1) + 1 by omega]
    rw [show dgs T n (n - st - 1 + 1) st 0 = if st < n ∧ isDg (T st) then dgs T n (n - st - 1) (st + 1) (min (0 * 10 + T st - 48) 10000) else (st, 0) from rfl, if_neg (fun z => hd z.2)]
  unfold tok
  rw [hs, he]
  unfold tokE
  rw [if_neg (by omega), if_neg (Nat.lt_irrefl _)]
def tkV (k v : Int) (t : TK) : Prop := (tK t = -1 → k = 0) ∧ (tK t = -2 → k = 2 ∧ v = tN t) ∧ (tK t = -3 → k = 4) ∧ (0 ≤ tK t → v = tK t ∧ k = (if tK t = 59 then 3 else if tK t = 108 ∨ tK t = 119 ∨ tK t = 97 then 1 else 4)) ∧ -3 ≤ tK t
theorem tkV_3 {v : Int} {a b c : Nat} : tkV 4 v (a, b, -3, c) := ⟨fun y => absurd (show (-3 : Int) = -1 from y) (by decide), fun y => absurd (show (-3 : Int) = -2 from y) (by decide), fun _ => rfl, fun y => absurd (show (0 : Int) ≤ -3 from y) (by decide), show (-3 : Int) ≤ -3 by decide⟩
theorem tkV_2 {v : Int} {a b c : Nat} (h : v = c) : tkV 2 v (a, b, -2, c) := ⟨fun y => absurd (show (-2 : Int) = -1 from y) (by decide), fun _ => ⟨rfl, h⟩, fun y => absurd (show (-2 : Int) = -3 from y) (by decide), fun y => absurd (show (0 : Int) ≤ -2 from y) (by decide), show (-3 : Int) ≤ -2 by decide⟩
theorem tkV_1 {v : Int} {a b c : Nat} : tkV 0 v (a, b, -1, c) := ⟨fun _ => rfl, fun y => absurd (show (-1 : Int) = -2 from y) (by decide), fun y => absurd (show (-1 : Int) = -3 from y) (by decide), fun y => absurd (show (0 : Int) ≤ -1 from y) (by decide), show (-3 : Int) ≤ -1 by decide⟩
def mTk (M : MM) (t : TK) : Prop := M 187 3 = tB t ∧ M 187 5 = tS t ∧ tkV (M 187 4) (M 187 6) t
def frT (M M' : MM) : Prop := (∀ a, a ≠ 187 → M' a = M a) ∧ ∀ j, (j < 3 ∨ 6 < j) → M' 187 j = M 187 j
theorem frT_r (M : MM) : frT M M := ⟨fun _ _ => rfl, fun _ _ => rfl⟩
theorem frT.t {M M' M2 : MM} (h1 : frT M M') (h2 : frT M' M2) : frT M M2 := ⟨fun a ha => (h2.1 a ha).trans (h1.1 a ha), fun j hj => (h2.2 j hj).trans (h1.2 j hj)⟩
theorem frT.u {M M' : MM} (h : frT M M') {j : Nat} {x : Int} (hj : 3 ≤ j ∧ j ≤ 6) : frT M (upM M' 187 j x) := ⟨fun a ha => by rw [upM_ne ha]; exact h.1 a ha, fun i hi => by rw [upM_k (by omega)]; exact h.2 i hi⟩
theorem mTx.fr {M M' : MM} {n : Nat} {T : Nat → Nat} (h : mTx M n T) (hf : frT M M') : mTx M' n T := h.keep (hf.2 2 (by decide)) (hf.1 188 (by decide))
section Mod
variable {Γ : GG} {L : Nat} {M : MM} {Q : QT} {n : Nat} {T : Nat → Nat}
theorem m_letterAt (hG : GOK Γ) (hh : mTx M n T) {kI : Int} {k : Nat} (ek : kI = k) (h1 : k < n → Q (some (VI (T k))) (W0 L) M) (h0 : n ≤ k → Q (some (VI (-1))) (W0 L) M) : wp Γ mX10_letterAt 0 [some (VR 187), some (VI kI)] [] 0 0 (W0 L) M Q := by
  subst ek
  obtain ⟨t1, t2, t3⟩ := hh
  refine vc_go hG 60 (B := bX10_letterAt) rfl ?_
  refine And.intro rfl (And.intro (fun y => h0 (by omega)) (fun y => ?_))
  have hk : k < n := by omega
  have e := (t3 k hk).1
  refine And.intro rfl (Exists.intro _ (And.intro rfl ?_))
  refine And.intro (Or.inl rfl) (Exists.intro (k) (And.intro (by omega) (And.intro (show k < 80 by omega) ?_)))
  have h2 := h1 hk
  rw [← e] at h2
  exact h2
theorem l_mskip (hG : GOK Γ) (hh : mTx M n T) (st : Nat) (h : ∀ M' : MM, M' 187 3 = st → frT M M' → wp Γ mX10_advances 26 [some (VR 187)] [] 0 0 (W0 L) M' Q) : ∀ (j b : Nat) (M1 : MM), b + j = n → M1 187 3 = b → frT M M1 → skp T n j b = st → wp Γ mX10_advances 0 [some (VR 187)] [] 0 0 (W0 L) M1 Q := by
  have n80 := hh.2.1
  intro j
  induction j with
  | zero =>
    intro b M1 hb h3 hf hs
    have hs : b = st := hs
    refine vc_goS hG 60 [26] (B := bX10_advances) rfl ?_
    refine And.intro rfl ?_
    refine And.intro rfl ?_
    refine m_letterAt hG (hh.fr hf) h3 (fun z => by omega) (fun z => ?_)
    exact And.intro (fun y => h M1 (by omega) hf) (fun y => absurd y (by decide))
  | succ j ih =>
    intro b M1 hb h3 hf hs
    rw [show skp T n (j + 1) b = if b < n ∧ T b = 32 then skp T n j (b + 1) else b from rfl] at hs
    refine vc_goS hG 60 [26] (B := bX10_advances) rfl ?_
    refine And.intro rfl ?_
    refine And.intro rfl ?_
    refine m_letterAt hG (hh.fr hf) h3 (fun z => ?_) (fun z => by omega)
    refine And.intro (fun y => ?_) (fun y => ?_)
    · rw [if_neg (fun q => by omega)] at hs
      exact h M1 (by omega) hf
    · rw [if_pos ⟨z, by omega⟩] at hs
      refine And.intro rfl ?_
      refine And.intro (by omega) ?_
      refine And.intro rfl ?_
      exact ih (b + 1) _ (by omega) (by rw [upM_eq, h3]; rfl) (hf.u (by decide)) hs
theorem l_mdgs (hG : GOK Γ) (hh : mTx M n T) (c : Int) (ev : Nat × Nat) (h : ∀ (M' : MM) (x : Nat), M' 187 3 = ev.1 → M' 187 6 = x → x ≤ 99999 → min x 10000 = ev.2 → (∀ a, a ≠ 187 → M' a = M a) → (∀ i, i ≠ 3 → i ≠ 6 → M' 187 i = M 187 i) → wp Γ mX10_advances 142 [some (VR 187), some (VI c)] [] 0 0 (W0 L) M' Q) : ∀ (j e v x : Nat) (M1 : MM), e + j = n → M1 187 3 = e → M1 187 6 = x → x ≤ 99999 → min x 10000 = v → (∀ a, a ≠ 187 → M1 a = M a) → (∀ i, i ≠ 3 → i ≠ 6 → M1 187 i = M 187 i) → dgs T n j e v = ev → wp Γ mX10_advances 71 [some (VR 187), some (VI c)] [] 0 0 (W0 L) M1 Q := by
  have n80 := hh.2.1
  intro j
  induction j with
  | zero =>
    intro e v x M1 hb h3 h6 hx hv hf hg hs
    have hs : (e, v) = ev := hs
    subst hs
    refine vc_goS hG 60 [142] (B := bX10_advances) rfl ?_
    refine And.intro rfl ?_
    refine And.intro rfl ?_
    refine m_letterAt hG (hh.keep (hg 2 (by decide) (by decide)) (hf 188 (by decide))) h3 (fun z => by omega) (fun z => ?_)
    refine m_in hG (fun z => by omega) (fun z => ?_)
    exact And.intro (fun y => h M1 x h3 h6 hx hv hf hg) (fun y => absurd rfl y)
  | succ j ih =>
    intro e v x M1 hb h3 h6 hx hv hf hg hs
    rw [show dgs T n (j + 1) e v = if e < n ∧ isDg (T e) then dgs T n j (e + 1) (min (v * 10 + T e - 48) 10000) else (e, v) from rfl] at hs
    have hh1 := hh.keep (hg 2 (by decide) (by decide)) (hf 188 (by decide))
    refine vc_goS hG 60 [142, 129] (B := bX10_advances) rfl ?_
    refine And.intro rfl ?_
    refine And.intro rfl ?_
    refine m_letterAt hG hh1 h3 (fun z => ?_) (fun z => by omega)
    refine m_in hG (fun z2 => ?_) (fun z2 => ?_)
    · rw [if_pos ⟨z, by omega⟩] at hs
      refine And.intro (fun y => absurd y (by decide)) (fun y => ?_)
      have fin : ∀ (y : Int) (x' : Nat), y = x' → x' ≤ 99999 → min x' 10000 = min (v * 10 + T e - 48) 10000 → wp Γ mX10_advances 129 [some (VR 187), some (VI c)] [] 0 0 (W0 L) (upM M1 187 6 y) Q := by
        intro y x' hy hx' hm
        refine vc_go hG 60 (B := bX10_advances) rfl ?_
        refine And.intro rfl ?_
        refine And.intro (by rw [upM_k (by decide)]; omega) ?_
        refine And.intro rfl ?_
        refine ih (e + 1) _ x' _ (by omega) (by rw [upM_eq, upM_k (by decide), h3]; rfl) (by rw [upM_k (by decide), upM_eq]; exact hy) hx' hm (fun a ha => by rw [upM_ne ha, upM_ne ha]; exact hf a ha) (fun i i1 i2 => by rw [upM_k i1, upM_k i2]; exact hg i i1 i2) hs
      refine And.intro rfl ?_
      refine And.intro (fun y2 => ?_) (fun y2 => ?_)
      · refine And.intro rfl ?_
        refine And.intro (by omega) ?_
        refine And.intro rfl ?_
        refine And.intro rfl ?_
        refine m_letterAt hG hh1 h3 (fun z => ?_) (fun z => by omega)
        refine And.intro (by omega) ?_
        refine And.intro (by omega) ?_
        refine And.intro rfl ?_
        exact fin _ (10 * x + T e - 48) (by omega) (by omega) (by omega)
      · refine And.intro rfl ?_
        refine And.intro rfl ?_
        exact fin _ x h6 hx (by omega)
    · rw [if_neg (fun q => by omega)] at hs
      subst hs
      exact And.intro (fun y => h M1 x h3 h6 hx hv hf hg) (fun y => absurd rfl y)
theorem m_advances (hG : GOK Γ) (hh : mTx M n T) {b : Nat} (hb : b ≤ n) (h3 : M 187 3 = b) (h : ∀ M', mTk M' (tok T n b) → frT M M' → Q none (W0 L) M') : wp Γ mX10_advances 0 [some (VR 187)] [] 0 0 (W0 L) M Q := by
  have n80 := hh.2.1
  have sb := skp_b T n (n - b) b (by omega)
  refine l_mskip hG hh (skp T n (n - b) b) (fun M1 a1 f1 => ?_) (n - b) b M (by omega) h3 (frT_r M) rfl
  generalize es : skp T n (n - b) b = st at *
  have f2 : frT M (upM M1 187 5 (M1 187 3)) := f1.u (by decide)
  have p5 : upM M1 187 5 (M1 187 3) 187 5 = st := by rw [upM_eq]; exact a1
  have p3 : upM M1 187 5 (M1 187 3) 187 3 = st := by rw [upM_k (by decide)]; exact a1
  refine vc_go hG 60 (B := bX10_advances) rfl ?_
  refine And.intro rfl ?_
  refine And.intro rfl ?_
  refine And.intro rfl ?_
  refine And.intro rfl ?_
  generalize upM M1 187 5 (M1 187 3) = M2 at f2 p5 p3
  refine m_letterAt hG (hh.fr f2) p3 (fun z => ?_) (fun z => ?_)
  · have t255 := (hh.2.2 st z).2
    refine And.intro (fun y => ?_) (fun y => by omega)
    refine m_in hG (fun z2 => ?_) (fun z2 => ?_)
    · refine And.intro (fun y => absurd y (by decide)) (fun y => ?_)
      refine And.intro rfl ?_
      have hd : isDg (T st) := by omega
      obtain ⟨et, hl⟩ := tok_d es z hd rfl
      have db := dgs_b T n (n - st) st 0 (by omega) (by omega)
      refine l_mdgs (M := upM M2 187 6 0) hG ((hh.fr f2).keep (upM_k (by decide)) (upM_ne (by decide))) _ (dgs T n (n - st) st 0) (fun M3 x b3 b6 bx bm bf bg => ?_) (n - st) st 0 0 _ (by omega) (by rw [upM_k (by decide)]; exact p3) upM_eq (by omega) (by omega) (fun _ _ => rfl) (fun _ _ _ => rfl) rfl
      have f3 : frT M M3 := ⟨fun a ha => by rw [bf a ha, upM_ne ha]; exact f2.1 a ha, fun i hi => by rw [bg i (by omega) (by omega), upM_k (by omega)]; exact f2.2 i hi⟩
      have q5 : M3 187 5 = st := by rw [bg 5 (by decide) (by decide), upM_k (by decide)]; exact p5
      rw [et] at h
      generalize dgs T n (n - st) st 0 = ev at *
      have fin : ∀ k : Int, k = (if (T st = 48 ∧ 1 < ev.1 - st) ∨ 9999 < ev.2 then 4 else 2) → Q none (W0 L) (upM M3 187 4 k) := by
        intro k hk
        refine h _ ⟨by rw [upM_k (by decide)]; exact b3, by rw [upM_k (by decide)]; exact q5, ?_⟩ (f3.u (by decide))
        rw [upM_eq, upM_k (by decide), b6, hk]
        by_cases q : (T st = 48 ∧ 1 < ev.1 - st) ∨ 9999 < ev.2
        · rw [if_pos q, if_pos q]
          exact tkV_3
        · rw [if_neg q, if_neg q]
          exact tkV_2 (by omega)
      refine vc_go hG 60 (B := bX10_advances) rfl ?_
      refine And.intro rfl ?_
      refine And.intro (fun y1 => ?_) (fun y1 => ?_)
      · refine And.intro rfl ?_
        exact fin 4 (by rw [if_pos (Or.inr (by omega))])
      · refine And.intro (fun y2 => ?_) (fun y2 => ?_)
        · refine And.intro rfl ?_
          exact fin 2 (by rw [if_neg (fun q => by omega)])
        · refine And.intro rfl ?_
          refine And.intro rfl ?_
          refine And.intro (by omega) ?_
          refine And.intro (fun y3 => ?_) (fun y3 => ?_)
          · refine And.intro rfl ?_
            exact fin 2 (by rw [if_neg (fun q => by omega)])
          · refine And.intro rfl ?_
            exact fin 4 (by rw [if_pos (Or.inl (by omega))])
    · have hd : ¬ isDg (T st) := by omega
      rw [tok_c es z hd] at h
      refine And.intro (fun y => ?_) (fun y => absurd rfl y)
      refine And.intro rfl ?_
      refine And.intro (by omega) ?_
      refine And.intro rfl ?_
      refine And.intro rfl ?_
      have fin : ∀ k : Int, k = (if (T st : Int) = 59 then 3 else if (T st : Int) = 108 ∨ (T st : Int) = 119 ∨ (T st : Int) = 97 then 1 else 4) → Q none (W0 L) (upM (upM (upM M2 187 3 (M2 187 3 + 1)) 187 6 (T st)) 187 4 k) := by
        intro k hk
        refine h _ ⟨by rw [upM_k (by decide), upM_k (by decide), upM_eq, p3]; rfl, by rw [upM_k (by decide), upM_k (by decide), upM_k (by decide)]; exact p5, ?_⟩ (((f2.u (by decide)).u (by decide)).u (by decide))
        rw [upM_eq, upM_k (by decide), upM_eq]
        refine ⟨fun y => ?_, fun y => ?_, fun y => ?_, fun y => ⟨rfl, hk⟩, ?_⟩
        · have y : (T st : Int) = -1 := y
          omega
        · have y : (T st : Int) = -2 := y
          omega
        · have y : (T st : Int) = -3 := y
          omega
        · show -3 ≤ (T st : Int)
          omega
      refine And.intro (fun y1 => ?_) (fun y1 => ?_)
      · refine And.intro (fun y2 => ?_) (fun y2 => ?_)
        · refine And.intro rfl ?_
          exact fin 1 (by rw [if_neg y1, if_pos (Or.inl y2)])
        · refine And.intro (fun y3 => ?_) (fun y3 => ?_)
          · refine And.intro rfl ?_
            exact fin 1 (by rw [if_neg y1, if_pos (Or.inr (Or.inl y3))])
          · refine And.intro (fun y4 => ?_) (fun y4 => ?_)
            · refine And.intro rfl ?_
              exact fin 4 (by rw [if_neg y1, if_neg (fun q => by omega)])
            · refine And.intro rfl ?_
              exact fin 1 (by rw [if_neg y1, if_pos (Or.inr (Or.inr y4))])
      · refine And.intro rfl ?_
        exact fin 3 (by rw [if_pos y1])
  · have e : st = n := by omega
    subst e
    rw [tok_e es] at h
    refine And.intro (fun y => absurd y (by decide)) (fun y => ?_)
    refine And.intro rfl ?_
    refine h _ ⟨by rw [upM_k (by decide)]; exact p3, by rw [upM_k (by decide)]; exact p5, ?_⟩ (f2.u (by decide))
    rw [upM_eq]
    exact tkV_1
end Mod
end
section
/-! ===== the model: reading ===== -/
def frD (M M' : MM) : Prop := (∀ a, a ≠ 187 → a ≠ 189 → a ≠ 197 → a ≠ 198 → M' a = M a) ∧ (∀ j, (j < 3 ∨ (7 < j ∧ j ≠ 20)) → M' 187 j = M 187 j) ∧ (OB M → OB M')
theorem frD.t {M M' M2 : MM} (h1 : frD M M') (h2 : frD M' M2) : frD M M2 := ⟨fun a a1 a2 a3 a4 => (h2.1 a a1 a2 a3 a4).trans (h1.1 a a1 a2 a3 a4), fun j hj => (h2.2.1 j hj).trans (h1.2.1 j hj), fun z => h2.2.2 (h1.2.2 z)⟩
theorem frD_r (M : MM) : frD M M := ⟨fun _ _ _ _ _ => rfl, fun _ _ => rfl, fun z => z⟩
theorem frT.d {M M' : MM} (h : frT M M') : frD M M' := ⟨fun a a1 _ _ _ => h.1 a a1, fun j hj => h.2 j (by omega), fun z => z.keep (h.1 197 (by decide)) (h.1 198 (by decide))⟩
theorem frK.d {M M' : MM} (h : frK M M') : frD M M' := ⟨fun a a1 _ a3 a4 => h.1 a a1 a3 a4, fun j hj => h.2.1 j (by omega), h.2.2⟩
theorem frD_7 (M : MM) (x : Int) : frD M (upM M 187 7 x) := ⟨fun a a1 _ _ _ => upM_ne a1, fun j hj => upM_k (by omega), fun z => z.up3 (by decide) (by decide)⟩
theorem frD_9 {M M' : MM} (h : ∀ b, b ≠ 189 → M' b = M b) : frD M M' := ⟨fun a _ a2 _ _ => h a a2, fun j _ => by rw [h 187 (by decide)], fun z => z.keep (h 197 (by decide)) (h 198 (by decide))⟩
def RW (M : MM) (n : Nat) (T : Nat → Nat) (t : TK) (G : GT) : Prop := mTx M n T ∧ M 187 7 = -1 ∧ mTk M t ∧ RwR M 189 G ∧ WFG G ∧ OB M ∧ tS t ≤ n ∧ tB t ≤ n
def RF (M : MM) (n : Nat) (T : Nat → Nat) (f : Nat) : Prop := mTx M n T ∧ M 187 7 = f ∧ OB M ∧ f ≤ n
theorem RW.rk {M M' : MM} {n : Nat} {T : Nat → Nat} {t : TK} {G : GT} (h : RW M n T t G) (hf : frK M M') : RW M' n T t G := by
  obtain ⟨h1, h2, h3, h4, h5, h6, h7⟩ := h
  refine ⟨h1.keep (hf.2.1 2 (by decide)) (hf.1 188 (by decide) (by decide) (by decide)), by rw [hf.2.1 7 (by decide)]; exact h2, ?_, h4.keep (hf.1 189 (by decide) (by decide) (by decide)), h5, hf.2.2 h6, h7⟩
  unfold mTk
  rw [hf.2.1 3 (by decide), hf.2.1 4 (by decide), hf.2.1 5 (by decide), hf.2.1 6 (by decide)]
  exact h3
theorem RW.rw {M M' : MM} {n : Nat} {T : Nat → Nat} {t : TK} {G G' : GT} (h : RW M n T t G) (hf : ∀ b, b ≠ 189 → M' b = M b) (hr : RwR M' 189 G') (hw : WFG G') : RW M' n T t G' := by
  obtain ⟨h1, h2, h3, h4, h5, h6, h7⟩ := h
  refine ⟨h1.keep (by rw [hf 187 (by decide)]) (hf 188 (by decide)), by rw [hf 187 (by decide)]; exact h2, ?_, hr, hw, h6.keep (hf 197 (by decide)) (hf 198 (by decide)), h7⟩
  unfold mTk
  rw [hf 187 (by decide)]
  exact h3
theorem RW.ft {M : MM} {n : Nat} {T : Nat → Nat} {t : TK} {G : GT} (h : RW M n T t G) : RF (upM M 187 7 (M 187 5)) n T (tS t) := by
  obtain ⟨h1, h2, h3, h4, h5, h6, h7⟩ := h
  exact ⟨h1.keep (upM_k (by decide)) (upM_ne (by decide)), by rw [upM_eq]; exact h3.2.1, h6.up3 (by decide) (by decide), h7.1⟩
theorem RF.k {M M' : MM} {n f : Nat} {T : Nat → Nat} (h : RF M n T f) (hf : ∀ b, b ≠ 189 → M' b = M b) : RF M' n T f := by
  obtain ⟨h1, h2, h3, h4⟩ := h
  exact ⟨h1.keep (by rw [hf 187 (by decide)]) (hf 188 (by decide)), by rw [hf 187 (by decide)]; exact h2, h3.keep (hf 197 (by decide)) (hf 198 (by decide)), h4⟩
theorem tk_num {k v : Int} {t : TK} (h : tkV k v t) {lo hi : Nat} {hI lI : Int} (el : lI = lo) (eh : hI = hi) : (k = 2 ∧ lI ≤ v ∧ v ≤ hI) ↔ isN t lo hi := by
  subst el eh
  obtain ⟨h1, h2, h3, h4, h5⟩ := h
  unfold isN
  constructor
  · rintro ⟨a1, a2, a3⟩
    have e : tK t = -2 := by
      by_cases q1 : tK t = -1
      · have := h1 q1; omega
      · by_cases q3 : tK t = -3
        · have := h3 q3; omega
        · by_cases q2 : 0 ≤ tK t
          · have h6 := (h4 q2).2
            rw [a1] at h6
            split at h6
            · omega
            · split at h6 <;> omega
          · omega
    have := (h2 e).2
    exact ⟨e, by omega, by omega⟩
  · rintro ⟨a1, a2, a3⟩
    have := h2 a1
    exact ⟨this.1, by omega, by omega⟩
theorem tk_stop {k v : Int} {t : TK} (h : tkV k v t) : k = 3 ↔ tK t = 59 := by
  obtain ⟨h1, h2, h3, h4, h5⟩ := h
  by_cases q1 : tK t = -1
  · have := h1 q1; omega
  · by_cases q3 : tK t = -3
    · have := h3 q3; omega
    · by_cases q2 : tK t = -2
      · have := h2 q2; omega
      · have h6 := (h4 (by omega)).2
        rw [h6]
        split
        · omega
        · split <;> omega
theorem tk_end {k v : Int} {t : TK} (h : tkV k v t) : k = 0 ↔ tK t = -1 := by
  obtain ⟨h1, h2, h3, h4, h5⟩ := h
  by_cases q1 : tK t = -1
  · have := h1 q1; omega
  · by_cases q3 : tK t = -3
    · have := h3 q3; omega
    · by_cases q2 : tK t = -2
      · have := h2 q2; omega
      · have h6 := (h4 (by omega)).2
        rw [h6]
        split
        · omega
        · split <;> omega
theorem tk_let {k v : Int} {t : TK} (h : tkV k v t) : (k = 1 ↔ (tK t = 108 ∨ tK t = 119 ∨ tK t = 97)) ∧ (0 ≤ tK t → v = tK t) := by
  obtain ⟨h1, h2, h3, h4, h5⟩ := h
  refine ⟨?_, fun z => (h4 z).1⟩
  by_cases q1 : tK t = -1
  · have := h1 q1; omega
  · by_cases q3 : tK t = -3
    · have := h3 q3; omega
    · by_cases q2 : tK t = -2
      · have := h2 q2; omega
      · have h6 := (h4 (by omega)).2
        rw [h6]
        split
        · omega
        · split <;> omega
section Mod
variable {Γ : GG} {L : Nat} {M : MM} {Q : QT} {n : Nat} {T : Nat → Nat} {G : GT} {t : TK}
theorem m_isWell (hG : GOK Γ) (h1 : M 187 7 < 0 → Q (some (VI 1)) (W0 L) M) (h0 : 0 ≤ M 187 7 → Q (some (VI 0)) (W0 L) M) : wp Γ mX10_isWell 0 [some (VR 187)] [] 0 0 (W0 L) M Q := by
  refine vc_go hG 60 (B := bX10_isWell) rfl ?_
  exact And.intro rfl (And.intro (fun y => And.intro (Or.inl rfl) (h0 y)) (fun y => And.intro (Or.inr rfl) (h1 y)))
theorem m_takesF (hG : GOK Γ) (hf : 0 ≤ M 187 7) {z : Int} (h : Q (some (VI 0)) (W0 L) M) : wp Γ mX10_takes 0 [some (VR 187), some (VI z)] [] 0 0 (W0 L) M Q := by
  refine vc_go hG 60 (B := bX10_takes) rfl ?_
  refine And.intro rfl ?_
  refine m_isWell hG (fun y => by omega) (fun y => ?_)
  exact And.intro (fun y => absurd rfl y) (fun y => h)
theorem m_takes0 (hG : GOK Γ) (hf : M 187 7 = -1) (h : Q (some (VI 0)) (W0 L) (upM M 187 7 (M 187 5))) : wp Γ mX10_takes 0 [some (VR 187), some (VI 0)] [] 0 0 (W0 L) M Q := by
  refine vc_go hG 60 (B := bX10_takes) rfl ?_
  refine And.intro rfl ?_
  refine m_isWell hG (fun y => ?_) (fun y => by omega)
  refine And.intro (fun y => ?_) (fun y => absurd y (by decide))
  refine And.intro (fun y => absurd rfl y) (fun y => ?_)
  exact And.intro rfl (And.intro rfl h)
theorem m_takes1 (hG : GOK Γ) (hw : RW M n T t G) (h : ∀ M', RW M' n T (tok T n (tB t)) G → frD M M' → (∀ a, a ≠ 187 → M' a = M a) → Q (some (VI (M 187 6))) (W0 L) M') : wp Γ mX10_takes 0 [some (VR 187), some (VI 1)] [] 0 0 (W0 L) M Q := by
  obtain ⟨h1, h2, h3, h4, h5, h6, h7, h8⟩ := hw
  refine vc_go hG 60 (B := bX10_takes) rfl ?_
  refine And.intro rfl ?_
  refine m_isWell hG (fun y => ?_) (fun y => by omega)
  refine And.intro (fun y => ?_) (fun y => absurd y (by decide))
  refine And.intro (fun y => ?_) (fun y => absurd y (by decide))
  refine And.intro rfl ?_
  refine And.intro rfl ?_
  refine m_advances hG h1 h8 h3.1 (fun M1 t1 f1 => ?_)
  have tb := tok_b (T := T) h8
  exact h M1 ⟨h1.fr f1, by rw [f1.2 7 (by decide)]; exact h2, t1, h4.keep (f1.1 189 (by decide)), h5, f1.d.2.2 h6, Nat.le_trans tb.2.1 tb.2.2.1, tb.2.2.1⟩ f1.d f1.1
theorem m_isNumber (hG : GOK Γ) {lo hi : Int} (h1 : (M 187 4 = 2 ∧ lo ≤ M 187 6 ∧ M 187 6 ≤ hi) → Q (some (VI 1)) (W0 L) M) (h0 : ¬ (M 187 4 = 2 ∧ lo ≤ M 187 6 ∧ M 187 6 ≤ hi) → Q (some (VI 0)) (W0 L) M) : wp Γ mX10_isNumber 0 [some (VR 187), some (VI lo), some (VI hi)] [] 0 0 (W0 L) M Q := by
  refine vc_go hG 60 (B := bX10_isNumber) rfl ?_
  refine And.intro rfl (And.intro (fun y => And.intro (Or.inl rfl) (h0 (fun z => y z.1))) (fun y => ?_))
  refine And.intro rfl ?_
  refine m_in hG (fun z => ?_) (fun z => And.intro (fun c => And.intro (Or.inl rfl) (h0 (fun x => z x.2))) (fun c => absurd rfl c))
  exact And.intro (fun c => absurd c (by decide)) (fun c => And.intro (Or.inr rfl) (h1 ⟨y, z⟩))
/-- a number is asked for, and taken -/
theorem m_num (hG : GOK Γ) (hw : RW M n T t G) {lI hI : Int} {lo hi : Nat} (el : lI = lo) (eh : hI = hi) (h1 : isN t lo hi → Q (some (VI 1)) (W0 L) M) (h0 : ¬ isN t lo hi → Q (some (VI 0)) (W0 L) M) : wp Γ mX10_isNumber 0 [some (VR 187), some (VI lI), some (VI hI)] [] 0 0 (W0 L) M Q := by
  have e := tk_num hw.2.2.1.2.2 el eh
  exact m_isNumber hG (fun z => h1 (e.1 z)) (fun z => h0 (fun x => z (e.2 x)))
theorem RW.v {lo hi : Nat} (hw : RW M n T t G) (h : isN t lo hi) : M 187 6 = tN t := (hw.2.2.1.2.2.2.1 h.1).2
def MdY (Q : QT) (L : Nat) (M : MM) (n : Nat) (T : Nat → Nat) (R : RS) : Prop := ∀ (M' : MM) (b' : Nat) (G' : GT), R = rdSemi T n b' G' → b' ≤ n → RW M' n T (tok T n b') G' → frD M M' → Q none (W0 L) M'
def MdN (Q : QT) (L : Nat) (M : MM) (n : Nat) (T : Nat → Nat) (R : RS) : Prop := ∀ (M' : MM) (f : Nat), R = .inl f → RF M' n T f → frD M M' → Q none (W0 L) M'
theorem MdY.s {M1 : MM} {R R' : RS} (h : MdY Q L M n T R) (e : R = R') (hf : frD M M1) : MdY Q L M1 n T R' := fun M' b' G' z1 z2 z3 z4 => h M' b' G' (e.trans z1) z2 z3 (hf.t z4)
theorem MdN.s {M1 : MM} {R R' : RS} (h : MdN Q L M n T R) (e : R = R') (hf : frD M M1) : MdN Q L M1 n T R' := fun M' f z1 z2 z3 => h M' f (e.trans z1) z2 (hf.t z3)
-- an adder, once something was wrong
theorem fl42 (hG : GOK Γ) (hf : 0 ≤ M 187 7) (hb : OB M) {l p s q : Nat} (hl : M 189 56 = l) (hp : p ≤ 12) (hs : s ≤ 9) (hq : q ≤ 12) {nI pI sI qI : Int} (ep : pI = p) (es : sI = s) (eq : qI = q) (h : Q none (W0 L) M) : wp Γ mX10_readsAdder 42 [some (VR 187), some (VI nI), some (VI pI), some (VI sI), some (VI qI)] [] 0 0 (W0 L) M Q := by
  subst ep es eq
  refine vc_goS hG 60 [94] (B := bX10_readsAdder) rfl ?_
  have fin : ∀ z : Int, wp Γ mX10_readsAdder 94 [some (VR 187), some (VI nI), some (VI (p : Nat)), some (VI (s : Nat)), some (VI (q : Nat))] [VI z, VR 187] 0 0 (W0 L) M Q := by
    intro z
    refine vc_go hG 60 (B := bX10_readsAdder) rfl ?_
    refine And.intro rfl ?_
    refine m_takesF hG hf ?_
    refine And.intro rfl ?_
    refine m_isWell hG (fun y => by omega) (fun y => ?_)
    exact And.intro (fun y => h) (fun y => absurd rfl y)
  refine And.intro rfl ?_
  refine m_isWell hG (fun y => by omega) (fun y => ?_)
  refine And.intro (fun y => ?_) (fun y => absurd rfl y)
  refine And.intro rfl ?_
  refine m_isNumber hG (fun z => ?_) (fun z => ?_)
  · refine And.intro (fun y => absurd y (by decide)) (fun y => ?_)
    refine And.intro rfl ?_
    refine And.intro rfl (Exists.intro _ (And.intro rfl ?_))
    refine And.intro (Or.inl rfl) (Exists.intro (56) (And.intro (by omega) (And.intro (show 56 < 57 by omega) ?_)))
    refine And.intro rfl ?_
    refine m_mayBeB hG (m := 14) (V := fun k => (M 197 k).toNat) (D := fun k => (M 198 k).toNat) (fun k hk => by have := hb k hk; constructor <;> omega) (fun k hk => by have := hb k hk; show (M 197 k).toNat ≤ 1023; omega) (fun k hk => by have := hb k hk; show (M 198 k).toNat ≤ 13; omega) (by decide) rfl rfl rfl (f := (M 187 6).toNat) (by omega) hl (by omega) hs (by omega) (by omega) (fun mb => ?_) (fun mb => ?_)
    · exact And.intro (fun y => absurd y (by decide)) (fun y => fin 1)
    · exact And.intro (fun y => fin 0) (fun y => absurd rfl y)
  · exact And.intro (fun y => fin 0) (fun y => absurd rfl y)
theorem fl30 (hG : GOK Γ) (hf : 0 ≤ M 187 7) (hb : OB M) {l p s : Nat} (hl : M 189 56 = l) (hp : p ≤ 12) (hs : s ≤ 9) {nI pI sI : Int} (ep : pI = p) (es : sI = s) (h : Q none (W0 L) M) : wp Γ mX10_readsAdder 30 [some (VR 187), some (VI nI), some (VI pI), some (VI sI)] [] 0 0 (W0 L) M Q := by
  refine vc_goS hG 60 [42] (B := bX10_readsAdder) rfl ?_
  have fin := fl42 (Q := Q) (L := L) hG hf hb (nI := nI) (q := 0) hl hp hs (by decide) ep es rfl h
  refine And.intro rfl ?_
  refine m_isNumber hG (fun z => ?_) (fun z => ?_)
  · refine And.intro rfl ?_
    exact m_takesF hG hf fin
  · refine And.intro rfl ?_
    exact m_takesF hG hf fin
theorem fl18 (hG : GOK Γ) (hf : 0 ≤ M 187 7) (hb : OB M) {l p : Nat} (hl : M 189 56 = l) (hp : p ≤ 12) {nI pI : Int} (ep : pI = p) (h : Q none (W0 L) M) : wp Γ mX10_readsAdder 18 [some (VR 187), some (VI nI), some (VI pI)] [] 0 0 (W0 L) M Q := by
  refine vc_goS hG 60 [30] (B := bX10_readsAdder) rfl ?_
  have fin := fl30 (Q := Q) (L := L) hG hf hb (nI := nI) (s := 0) hl hp (by decide) ep rfl h
  refine And.intro rfl ?_
  refine m_isNumber hG (fun z => ?_) (fun z => ?_)
  · refine And.intro rfl ?_
    exact m_takesF hG hf fin
  · refine And.intro rfl ?_
    exact m_takesF hG hf fin
end Mod
end
section
/-! ===== the model: reading items ===== -/
section Mod
variable {Γ : GG} {L : Nat} {M : MM} {Q : QT} {n : Nat} {T : Nat → Nat} {G : GT} {t : TK}
theorem RW.q {b : Nat} (h : RW M n T (tok T n b) G) : tB (tok T n b) ≤ n := h.2.2.2.2.2.2.2
theorem ra42 (hG : GOK Γ) {b : Nat} (hw : RW M n T (tok T n b) G) (hn : qn G < 12) {nI pI sI qI : Int} {p s q : Nat} (ep : pI = p) (es : sI = s) (eq : qI = q) (hp : p ≤ qn G) (hs : s ≤ 9) (hq : q ≤ qn G) (h1 : MdY Q L M n T (rdA4 T n b G p s q)) (h0 : MdN Q L M n T (rdA4 T n b G p s q)) : wp Γ mX10_readsAdder 42 [some (VR 187), some (VI nI), some (VI pI), some (VI sI), some (VI qI)] [] 0 0 (W0 L) M Q := by
  have n12 := hw.2.2.2.2.1.1
  have w5 := hw.2.2.2.2.1
  have w7 := hw.2.1
  refine vc_goS hG 60 [57] (B := bX10_readsAdder) rfl ?_
  refine And.intro rfl ?_
  refine m_isWell hG (fun y => ?_) (fun y => by omega)
  refine And.intro (fun y => absurd y (by decide)) (fun y => ?_)
  refine And.intro rfl (Exists.intro _ (And.intro rfl ?_))
  refine And.intro rfl ?_
  refine m_reckons hG (RwL_d L) (by decide) (by decide) hw.2.2.2.1 w5 (fun M1 o1 k1 => ?_)
  have hw1 := hw.rk k1
  have v7 := hw1.2.1
  have fail : rdA4 T n b G p s q = .inl (tS (tok T n b)) → wp Γ mX10_readsAdder 94 [some (VR 187), some (VI nI), some (VI pI), some (VI sI), some (VI qI)] [VI 0, VR 187] 0 0 (W0 L) M1 Q := by
    intro e
    refine vc_go hG 60 (B := bX10_readsAdder) rfl ?_
    refine And.intro rfl ?_
    refine m_takes0 hG v7 ?_
    have ft := hw1.ft
    have ft7 := ft.2.1
    refine And.intro rfl ?_
    refine m_isWell hG (fun y => by omega) (fun y => ?_)
    exact And.intro (fun y => h0 _ _ e ft (k1.d.t (frD_7 _ _))) (fun y => absurd rfl y)
  refine vc_goS hG 60 [94] (B := bX10_readsAdder) rfl ?_
  refine And.intro rfl ?_
  refine m_num hG hw1 (lo := 0) (hi := 3) rfl rfl (fun z => ?_) (fun z => ?_)
  · refine And.intro (fun y => absurd y (by decide)) (fun y => ?_)
    have v6 := hw1.v z
    refine And.intro rfl ?_
    refine And.intro rfl (Exists.intro _ (And.intro rfl ?_))
    refine And.intro (Or.inl rfl) (Exists.intro (56) (And.intro (by omega) (And.intro (show 56 < 57 by omega) ?_)))
    refine And.intro rfl ?_
    refine m_mayBe hG o1 (fun k hk => (WFG_V w5 k (by omega)).2.1) (fun k hk => by have := WFG_D w5 k (by omega); omega) (by omega) ep es eq v6 hw1.2.2.2.1.2.2.1 (by omega) hs (by omega) z.2.2 (fun mb => ?_) (fun mb => ?_)
    · refine And.intro (fun y => absurd y (by decide)) (fun y => ?_)
      have e : rdA4 T n b G p s q = _ := cit_y ⟨z, mb⟩
      refine vc_go hG 60 (B := bX10_readsAdder) rfl ?_
      refine And.intro rfl ?_
      refine m_takes1 hG hw1 (fun M2 hw2 f2 g2 => ?_)
      have u7 := hw2.2.1
      refine And.intro rfl ?_
      refine m_isWell hG (fun y => ?_) (fun y => by omega)
      refine And.intro (fun y => absurd y (by decide)) (fun y => ?_)
      refine And.intro rfl (Exists.intro _ (And.intro rfl ?_))
      refine m_makes hG (RwL_d L) hw2.2.2.2.1 w5 hn ep es eq v6 (fun M3 r3 g3 => ?_)
      exact h1 M3 _ _ e hw1.q (hw2.rw g3 r3 (addG_wf w5 hp hs hq z.2.2 hn mb)) ((k1.d.t f2).t (frD_9 g3))
    · refine And.intro (fun y => ?_) (fun y => absurd rfl y)
      exact fail (cit_n (fun x => mb x.2))
  · refine And.intro (fun y => ?_) (fun y => absurd rfl y)
    exact fail (cit_n (fun x => z x.1))
theorem ra30 (hG : GOK Γ) {b : Nat} (hw : RW M n T (tok T n b) G) (hn : qn G < 12) {nI pI sI : Int} {p s : Nat} (en : nI = qn G) (ep : pI = p) (es : sI = s) (hp : p ≤ qn G) (hs : s ≤ 9) (h1 : MdY Q L M n T (rdA3 T n b G p s)) (h0 : MdN Q L M n T (rdA3 T n b G p s)) : wp Γ mX10_readsAdder 30 [some (VR 187), some (VI nI), some (VI pI), some (VI sI)] [] 0 0 (W0 L) M Q := by
  refine vc_goS hG 60 [42] (B := bX10_readsAdder) rfl ?_
  refine And.intro rfl ?_
  refine m_num hG hw (lo := 0) rfl en (fun z => ?_) (fun z => ?_)
  · have e : rdA3 T n b G p s = _ := cit_y z
    refine And.intro rfl ?_
    refine m_takes1 hG hw (fun M2 hw2 f2 g2 => ?_)
    exact ra42 hG hw2 hn ep es (hw.v z) hp hs z.2.2 (h1.s e f2) (h0.s e f2)
  · have e : rdA3 T n b G p s = _ := cit_n z
    have ft := hw.ft
    refine And.intro rfl ?_
    refine m_takes0 hG hw.2.1 ?_
    exact fl42 hG (by have := ft.2.1; omega) ft.2.2.1 (l := qL G) (q := 0) (by rw [upM_a (by decide)]; exact hw.2.2.2.1.2.2.1) (by omega) hs (by decide) ep es rfl (h0 _ _ e ft (frD_7 _ _))
theorem ra18 (hG : GOK Γ) {b : Nat} (hw : RW M n T (tok T n b) G) (hn : qn G < 12) {nI pI : Int} {p : Nat} (en : nI = qn G) (ep : pI = p) (hp : p ≤ qn G) (h1 : MdY Q L M n T (rdA2 T n b G p)) (h0 : MdN Q L M n T (rdA2 T n b G p)) : wp Γ mX10_readsAdder 18 [some (VR 187), some (VI nI), some (VI pI)] [] 0 0 (W0 L) M Q := by
  refine vc_goS hG 60 [30] (B := bX10_readsAdder) rfl ?_
  refine And.intro rfl ?_
  refine m_num hG hw (lo := 0) (hi := 9) rfl rfl (fun z => ?_) (fun z => ?_)
  · have e : rdA2 T n b G p = _ := cit_y z
    refine And.intro rfl ?_
    refine m_takes1 hG hw (fun M2 hw2 f2 g2 => ?_)
    exact ra30 hG hw2 hn en ep (hw.v z) hp z.2.2 (h1.s e f2) (h0.s e f2)
  · have e : rdA2 T n b G p = _ := cit_n z
    have ft := hw.ft
    refine And.intro rfl ?_
    refine m_takes0 hG hw.2.1 ?_
    exact fl30 hG (by have := ft.2.1; omega) ft.2.2.1 (l := qL G) (s := 0) (by rw [upM_a (by decide)]; exact hw.2.2.2.1.2.2.1) (by omega) (by decide) ep rfl (h0 _ _ e ft (frD_7 _ _))
theorem m_readsAdder (hG : GOK Γ) {b : Nat} (hw : RW M n T (tok T n b) G) (hn : qn G < 12) (h1 : MdY Q L M n T (rdA1 T n b G)) (h0 : MdN Q L M n T (rdA1 T n b G)) : wp Γ mX10_readsAdder 0 [some (VR 187)] [] 0 0 (W0 L) M Q := by
  refine vc_goS hG 60 [18] (B := bX10_readsAdder) rfl ?_
  refine And.intro rfl (Exists.intro _ (And.intro rfl ?_))
  refine And.intro (Or.inl rfl) (Exists.intro (0) (And.intro (by omega) (And.intro (show 0 < 57 by omega) ?_)))
  refine And.intro rfl ?_
  refine m_num hG hw (lo := 0) rfl hw.2.2.2.1.1 (fun z => ?_) (fun z => ?_)
  · have e : rdA1 T n b G = _ := cit_y z
    refine And.intro rfl ?_
    refine m_takes1 hG hw (fun M2 hw2 f2 g2 => ?_)
    exact ra18 hG hw2 hn hw.2.2.2.1.1 (hw.v z) z.2.2 (h1.s e f2) (h0.s e f2)
  · have e : rdA1 T n b G = _ := cit_n z
    have ft := hw.ft
    refine And.intro rfl ?_
    refine m_takes0 hG hw.2.1 ?_
    exact fl18 hG (by have := ft.2.1; omega) ft.2.2.1 (l := qL G) (p := 0) (by rw [upM_a (by decide)]; exact hw.2.2.2.1.2.2.1) (by decide) rfl (h0 _ _ e ft (frD_7 _ _))
theorem ri108 (hG : GOK Γ) {b : Nat} (hw : RW M n T (tok T n b) G) (h1 : MdY Q L M n T (rdLim T n b G)) (h0 : MdN Q L M n T (rdLim T n b G)) : wp Γ mX10_readsItem 0 [some (VR 187), some (VI 108)] [] 0 0 (W0 L) M Q := by
  have n12 := hw.2.2.2.2.1.1
  have m6 := hw.2.2.2.2.1.2.1
  refine vc_go hG 60 (B := bX10_readsItem) rfl ?_
  refine And.intro (fun y => absurd rfl y) (fun y => ?_)
  refine And.intro rfl (Exists.intro _ (And.intro rfl ?_))
  refine And.intro rfl ?_
  refine m_num hG hw (lo := 1) (hi := 9) rfl rfl (fun z => ?_) (fun z => ?_)
  · have e : rdLim T n b G = _ := cit_y z
    refine And.intro rfl ?_
    refine m_takes1 hG hw (fun M2 hw2 f2 g2 => ?_)
    refine And.intro rfl (Exists.intro (56) (And.intro (by omega) (And.intro (show 56 < 57 by omega) ?_)))
    have hv := hw.v z
    refine h1 _ _ _ e hw.q (hw2.rw (fun b hb => upM_ne hb) ?_ (limG_wf hw.2.2.2.2.1 z.2)) (f2.t (frD_9 (fun b hb => upM_ne hb)))
    obtain ⟨s1, s2, s3, s4, s5⟩ := hw2.2.2.2.1
    refine ⟨by rw [upM_k (by decide)]; exact s1, by rw [upM_k (by decide)]; exact s2, by rw [upM_eq]; exact hv, fun k hk => ?_, fun k hk => ?_⟩
    · have hk : k < qn G := hk
      rw [upM_k (by omega), upM_k (by omega), upM_k (by omega), upM_k (by omega)]
      exact s4 k hk
    · have hk : k < qm G := hk
      rw [upM_k (by omega)]
      exact s5 k hk
  · have e : rdLim T n b G = _ := cit_n z
    refine And.intro rfl ?_
    refine m_takes0 hG hw.2.1 ?_
    refine And.intro rfl (Exists.intro (56) (And.intro (by omega) (And.intro (show 56 < 57 by omega) ?_)))
    exact h0 _ _ e (hw.ft.k (fun b hb => upM_ne hb)) ((frD_7 _ _).t (frD_9 (fun b hb => upM_ne hb)))
theorem ri119 (hG : GOK Γ) {b : Nat} (hw : RW M n T (tok T n b) G) (hm : qm G < 6) (h1 : MdY Q L M n T (rdWsh T n b G)) (h0 : MdN Q L M n T (rdWsh T n b G)) : wp Γ mX10_readsItem 0 [some (VR 187), some (VI 119)] [] 0 0 (W0 L) M Q := by
  have w7 := hw.2.1
  have fail : rdWsh T n b G = .inl (tS (tok T n b)) → wp Γ mX10_readsItem 64 [some (VR 187), some (VI 119)] [VI 0, VR 187] 0 0 (W0 L) M Q := by
    intro e
    refine vc_go hG 60 (B := bX10_readsItem) rfl ?_
    refine And.intro rfl ?_
    refine m_takes0 hG w7 ?_
    have ft := hw.ft
    have ft7 := ft.2.1
    refine And.intro rfl ?_
    refine m_isWell hG (fun y => by omega) (fun y => ?_)
    exact And.intro (fun y => h0 _ _ e ft (frD_7 _ _)) (fun y => absurd rfl y)
  refine vc_goS hG 60 [64] (B := bX10_readsItem) rfl ?_
  refine And.intro (fun y => ?_) (fun y => absurd y (by decide))
  refine And.intro (fun y => absurd rfl y) (fun y => ?_)
  refine And.intro rfl ?_
  refine m_num hG hw (lo := 1) (hi := 1023) rfl rfl (fun z => ?_) (fun z => ?_)
  · refine And.intro (fun y => absurd y (by decide)) (fun y => ?_)
    have hv := hw.v z
    refine And.intro rfl (Exists.intro _ (And.intro rfl ?_))
    refine And.intro rfl ?_
    refine m_wantedAt hG (RwL_d L) hw.2.2.2.1 hw.2.2.2.2.1 hv (fun k hk ek => ?_) (fun hno => ?_)
    · exact And.intro (fun y => fail (cit_n (fun x => x.2 k hk ek))) (fun y => by omega)
    · refine And.intro (fun y => absurd y (by decide)) (fun y => ?_)
      have e : rdWsh T n b G = _ := cit_y ⟨z, hno⟩
      refine vc_go hG 60 (B := bX10_readsItem) rfl ?_
      refine And.intro rfl ?_
      refine m_takes1 hG hw (fun M2 hw2 f2 g2 => ?_)
      have u7 := hw2.2.1
      refine And.intro rfl ?_
      refine m_isWell hG (fun y => ?_) (fun y => by omega)
      refine And.intro (fun y => absurd y (by decide)) (fun y => ?_)
      have r2 := hw2.2.2.2.1
      have j49 := r2.2.1
      refine And.intro rfl (Exists.intro _ (And.intro rfl ?_))
      refine And.intro rfl (Exists.intro _ (And.intro rfl ?_))
      refine And.intro (Or.inl rfl) (Exists.intro (49) (And.intro (by omega) (And.intro (show 49 < 57 by omega) ?_)))
      refine And.intro (by omega) ?_
      refine And.intro rfl (Exists.intro (50 + qm G) (And.intro (by omega) (And.intro (show 50 + qm G < 57 by omega) ?_)))
      refine And.intro rfl (Exists.intro _ (And.intro rfl ?_))
      refine And.intro (Or.inl rfl) (Exists.intro (49) (And.intro (by omega) (And.intro (show 49 < 57 by omega) ?_)))
      refine And.intro (by rw [upM_k (by omega)]; omega) ?_
      refine And.intro rfl (Exists.intro (49) (And.intro (by omega) (And.intro (show 49 < 57 by omega) ?_)))
      refine h1 _ _ _ e hw.q (hw2.rw (fun b hb => by rw [upM_ne hb, upM_ne hb]) (r2.wsh hw2.2.2.2.2.1 hm (by rw [upM_eq, upM_k (by omega), j49]; omega) (by rw [upM_k (by omega), upM_eq]; exact hv) (fun i i1 i2 => by rw [upM_k i1, upM_k i2])) (wshG_wf hw.2.2.2.2.1 hm z.2 hno)) (f2.t (frD_9 (fun b hb => by rw [upM_ne hb, upM_ne hb])))
  · exact And.intro (fun y => fail (cit_n (fun x => z x.1))) (fun y => absurd rfl y)
theorem ri97 (hG : GOK Γ) {b : Nat} (hw : RW M n T (tok T n b) G) (hn : qn G < 12) (h1 : MdY Q L M n T (rdA1 T n b G)) (h0 : MdN Q L M n T (rdA1 T n b G)) : wp Γ mX10_readsItem 0 [some (VR 187), some (VI 97)] [] 0 0 (W0 L) M Q := by
  refine vc_go hG 60 (B := bX10_readsItem) rfl ?_
  refine And.intro (fun y => ?_) (fun y => absurd y (by decide))
  refine And.intro (fun y => ?_) (fun y => absurd y (by decide))
  refine And.intro rfl ?_
  exact m_readsAdder hG hw hn h1 h0
theorem m_mayBegin (hG : GOK Γ) (hr : RwR M 189 G) {kI : Int} {k : Nat} (ek : kI = k) (h1 : ((M 187 6 = 108 ∧ k = 0) ∨ (M 187 6 = 119 ∧ qm G < 6) ∨ (M 187 6 ≠ 108 ∧ M 187 6 ≠ 119 ∧ qn G < 12)) → Q (some (VI 1)) (W0 L) M) (h0 : ((M 187 6 = 108 ∧ k ≠ 0) ∨ (M 187 6 = 119 ∧ ¬ qm G < 6) ∨ (M 187 6 ≠ 108 ∧ M 187 6 ≠ 119 ∧ ¬ qn G < 12)) → Q (some (VI 0)) (W0 L) M) : wp Γ mX10_mayBegin 0 [some (VR 187), some (VI kI)] [] 0 0 (W0 L) M Q := by
  subst ek
  have r1 := hr.1
  have r2 := hr.2.1
  refine vc_go hG 60 (B := bX10_mayBegin) rfl ?_
  refine And.intro rfl ?_
  refine And.intro (fun y => ?_) (fun y => ?_)
  · refine And.intro rfl ?_
    refine And.intro (fun y2 => ?_) (fun y2 => ?_)
    · refine And.intro rfl (Exists.intro _ (And.intro rfl ?_))
      refine And.intro (Or.inl rfl) (Exists.intro (0) (And.intro (by omega) (And.intro (show 0 < 57 by omega) ?_)))
      exact And.intro (fun y3 => And.intro (Or.inl rfl) (h0 (Or.inr (Or.inr ⟨y, y2, by omega⟩)))) (fun y3 => And.intro (Or.inr rfl) (h1 (Or.inr (Or.inr ⟨y, y2, by omega⟩))))
    · refine And.intro rfl (Exists.intro _ (And.intro rfl ?_))
      refine And.intro (Or.inl rfl) (Exists.intro (49) (And.intro (by omega) (And.intro (show 49 < 57 by omega) ?_)))
      exact And.intro (fun y3 => And.intro (Or.inl rfl) (h0 (Or.inr (Or.inl ⟨y2, by omega⟩)))) (fun y3 => And.intro (Or.inr rfl) (h1 (Or.inr (Or.inl ⟨y2, by omega⟩))))
  · exact And.intro (fun y3 => And.intro (Or.inl rfl) (h0 (Or.inl ⟨y, by omega⟩))) (fun y3 => And.intro (Or.inr rfl) (h1 (Or.inl ⟨y, by omega⟩)))
/-- all is told: it is there -/
theorem m_settles (hG : GOK Γ) (hr : RwR M 189 G) (hw : WFG G) {T : Nat → Nat} {H I : Nat → GT} {m r : Nat → Nat} (h : ∀ M', MR M' (G, (0, T), (0, H), (fun _ => 0, I), (0, m, r)) → frM M M' → Q none (W0 L) M') : wp Γ mX10_settles 0 [some (VR 187)] [] 0 0 (W0 L) M Q := by
  refine vc_go hG 60 (B := bX10_settles) rfl ?_
  refine And.intro rfl (Exists.intro _ (And.intro rfl ?_))
  refine And.intro rfl (Exists.intro _ (And.intro rfl ?_))
  refine m_copies hG (RwL_d L) (RwL_s L) (by decide) (fun M1 c1 c2 => ?_)
  refine And.intro rfl ?_
  refine And.intro rfl ?_
  refine And.intro rfl ?_
  refine And.intro rfl (Exists.intro _ (And.intro rfl ?_))
  refine And.intro rfl (Exists.intro 0 (And.intro rfl (And.intro (show 0 < 2 by decide) (And.intro (Or.inl rfl) ?_))))
  refine And.intro rfl (Exists.intro _ (And.intro rfl ?_))
  refine And.intro rfl (Exists.intro 1 (And.intro rfl (And.intro (show 1 < 2 by decide) (And.intro (Or.inl rfl) ?_))))
  refine h _ ⟨(hr.cp hw c1).keep (by rw [upM_ne (by decide), upM_ne (by decide), upM_ne (by decide), upM_ne (by decide), upM_ne (by decide)]), hw, ⟨by rw [upM_a (by decide), upM_a (by decide), upM_k (by decide), upM_k (by decide), upM_eq]; rfl, Nat.zero_le _, fun k hk => absurd hk (Nat.not_lt_zero k)⟩, ⟨by rw [upM_a (by decide), upM_a (by decide), upM_eq]; rfl, Nat.zero_le _, fun k hk => absurd hk (Nat.not_lt_zero k)⟩, fun i hi => ⟨?_, Nat.zero_le _, fun z => absurd z (show ¬ (0 : Nat) = 1 by decide)⟩, ⟨by rw [upM_a (by decide), upM_a (by decide), upM_k (by decide), upM_eq]; rfl, Nat.zero_le _, fun k hk => absurd hk (Nat.not_lt_zero k)⟩⟩ (frM.o (fun a ha => by rw [upM_ne (by omega), upM_ne (by omega), upM_ne (by omega), upM_ne (by omega), upM_ne (by omega)]; exact c2 a (by omega)))
  show _ = (0 : Int)
  by_cases q : i = 1
  · subst q; rw [upM_eq]
  · have e : i = 0 := by omega
    subst e
    rw [upM_k (by decide), upM_eq]
-- the text, from its beginning
theorem mg_fault (hG : GOK Γ) {f : Nat} (hf : RF M n T f) {kI : Int} (h : Q (some (VI (-10 - (f : Int)))) (W0 L) M) : wp Γ mX10_graph 25 [some (VR 187), some (VI kI)] [] 0 0 (W0 L) M Q := by
  obtain ⟨h1, h2, h3, h4⟩ := hf
  have n80 := h1.2.1
  refine vc_go hG 60 (B := bX10_graph) rfl ?_
  refine And.intro rfl ?_
  refine m_isWell hG (fun y => by omega) (fun y => ?_)
  refine And.intro (fun y => ?_) (fun y => absurd rfl y)
  refine And.intro rfl ?_
  refine m_isWell hG (fun y => by omega) (fun y => ?_)
  refine And.intro (fun y => absurd rfl y) (fun y => ?_)
  refine And.intro rfl ?_
  refine And.intro (by omega) ?_
  rw [h2]
  exact h
/-- the item's end, once something was wrong -/
theorem mg_fault77 (hG : GOK Γ) {f : Nat} (hf : RF M n T f) {k : Nat} (hk : k ≤ 80) {wI : Int} (h : Q (some (VI (-10 - (f : Int)))) (W0 L) M) : wp Γ mX10_graph 77 [some (VR 187), some (VI k), some (VI wI)] [] 0 0 (W0 L) M Q := by
  have h2 := hf.2.1
  have fin : ∀ kI : Int, wp Γ mX10_graph 25 [some (VR 187), some (VI kI), some (VI wI)] [] 0 0 (W0 L) M Q := fun kI => wp_pre [some (VR 187), some (VI kI)] [some (VI wI)] (mg_fault hG hf h)
  refine vc_go hG 60 (B := bX10_graph) rfl ?_
  refine And.intro rfl ?_
  refine And.intro (fun y => ?_) (fun y => ?_)
  · refine And.intro rfl ?_
    refine m_takesF hG (by omega) ?_
    exact And.intro (by omega) (fin _)
  · refine And.intro rfl ?_
    refine m_takesF hG (by omega) ?_
    exact And.intro (by omega) (fin _)
theorem l_mgraph (hG : GOK Γ) (R : RS) (h1 : ∀ (M' : MM) (k : Nat) (G' : GT), R = .inr (k, G') → RwR M' 189 G' → WFG G' → frD M M' → wp Γ mX10_graph 116 [some (VR 187), some (VI k)] [] 0 0 (W0 L) M' Q)
    (h0 : ∀ (M' : MM) (f : Nat), R = .inl f → frD M M' → Q (some (VI (-10 - (f : Int)))) (W0 L) M') :
    ∀ (j k b : Nat) (G : GT) (M1 : MM), k + j = 80 → k ≤ b → b ≤ n → RW M1 n T (tok T n b) G → frD M M1 → rdAll T n j k (tok T n b) G = R → wp Γ mX10_graph 25 [some (VR 187), some (VI k)] [] 0 0 (W0 L) M1 Q := by
  intro j
  induction j with
  | zero =>
    intro k b G M1 hj hkb hbn hw hf hR
    have n80 := hw.1.2.1
    have w7 := hw.2.1
    have tb := tok_b (T := T) hbn
    have te : tK (tok T n b) = -1 := tb.2.2.2.2.2.1 (by omega)
    have t0 := (tk_end hw.2.2.1.2.2).2 te
    refine vc_goS hG 60 [116] (B := bX10_graph) rfl ?_
    refine And.intro rfl ?_
    refine m_isWell hG (fun y => ?_) (fun y => by omega)
    refine And.intro (fun y => absurd y (by decide)) (fun y => ?_)
    refine And.intro rfl (And.intro (fun y => ?_) (fun y => absurd t0 y))
    refine And.intro rfl ?_
    refine m_isWell hG (fun y => ?_) (fun y => by omega)
    refine And.intro (fun y => ?_) (fun y => absurd y (by decide))
    exact h1 M1 k G hR.symm hw.2.2.2.1 hw.2.2.2.2.1 hf
  | succ j ih =>
    intro k b G M1 hj hkb hbn hw hf hR
    have n80 := hw.1.2.1
    have w7 := hw.2.1
    have tb := tok_b (T := T) hbn
    have tv := hw.2.2.1.2.2
    have er : rdAll T n (j + 1) k (tok T n b) G = cit (tK (tok T n b) = -1) (.inr (k, G)) (match rdItem T n (tok T n b) k G with
      | .inl f => .inl f
      | .inr bg => rdAll T n j (k + 1) (tok T n bg.1) bg.2) := rfl
    rw [er] at hR
    refine vc_goS hG 60 [116, 61] (B := bX10_graph) rfl ?_
    refine And.intro rfl ?_
    refine m_isWell hG (fun y => ?_) (fun y => by omega)
    refine And.intro (fun y => absurd y (by decide)) (fun y => ?_)
    refine And.intro rfl (And.intro (fun y => ?_) (fun y => ?_))
    · have te := (tk_end tv).1 y
      rw [cit_y te] at hR
      refine And.intro rfl ?_
      refine m_isWell hG (fun y => ?_) (fun y => by omega)
      refine And.intro (fun y => ?_) (fun y => absurd y (by decide))
      exact h1 M1 k G hR.symm hw.2.2.2.1 hw.2.2.2.2.1 hf
    · have te : ¬ tK (tok T n b) = -1 := fun x => y ((tk_end tv).2 x)
      rw [cit_n te] at hR
      have tl := tk_let tv
      -- it does not begin
      have fail : rdItem T n (tok T n b) k G = .inl (tS (tok T n b)) → wp Γ mX10_graph 61 [some (VR 187), some (VI (k : Nat))] [VI 0, VR 187] 0 0 (W0 L) M1 Q := by
        intro e
        rw [e] at hR
        refine vc_goS hG 60 [77] (B := bX10_graph) rfl ?_
        refine And.intro rfl ?_
        refine m_takes0 hG w7 ?_
        have ft := hw.ft
        have ft7 := ft.2.1
        refine And.intro rfl ?_
        refine m_isWell hG (fun y => by omega) (fun y => ?_)
        refine And.intro (fun y => ?_) (fun y => absurd rfl y)
        exact mg_fault77 hG ft (by omega) (h0 _ _ hR.symm (hf.t (frD_7 _ _)))
      -- behind the item
      have goY : ∀ (M3 : MM) (b' : Nat) (G' : GT) (wI : Int), rdItem T n (tok T n b) k G = rdSemi T n b' G' → b' ≤ n → RW M3 n T (tok T n b') G' → frD M M3 → wp Γ mX10_graph 77 [some (VR 187), some (VI (k : Nat)), some (VI wI)] [] 0 0 (W0 L) M3 Q := by
        intro M3 b' G' wI e hb' hw3 f3
        have ts := tk_stop hw3.2.2.1.2.2
        refine vc_go hG 60 (B := bX10_graph) rfl ?_
        refine And.intro rfl ?_
        refine And.intro (fun y => ?_) (fun y => ?_)
        · have e2 : rdSemi T n b' G' = _ := cit_n (fun x => y (ts.2 x))
          rw [e.trans e2] at hR
          refine And.intro rfl ?_
          refine m_takes0 hG hw3.2.1 ?_
          have ft := hw3.ft
          refine And.intro (by omega) ?_
          refine wp_pre [some (VR 187), some (VI _)] [some (VI wI)] ?_
          exact mg_fault hG ft (h0 _ _ hR.symm (f3.t (frD_7 _ _)))
        · have e2 : rdSemi T n b' G' = _ := cit_y (ts.1 y)
          have is := item_s hw.q (e.trans e2)
          rw [e.trans e2] at hR
          refine And.intro rfl ?_
          refine m_takes1 hG hw3 (fun M4 hw4 f4 g4 => ?_)
          refine And.intro (by omega) ?_
          refine wp_pre [some (VR 187), some (VI ((k + 1 : Nat) : Int))] [some (VI wI)] ?_
          exact ih (k + 1) (tB (tok T n b')) G' M4 (by omega) (by have := is.1; have := (tok_l (T := T) hbn).2.2; show k + 1 ≤ tB (tok T n b'); omega) hw3.q hw4 (f3.t f4) hR
      -- it begins
      have go : ∀ (wI : Int), (tK (tok T n b) = 108 ∨ tK (tok T n b) = 119 ∨ tK (tok T n b) = 97) → wI = tK (tok T n b) → (tK (tok T n b) = 108 → k = 0) → (tK (tok T n b) = 119 → qm G < 6) → (tK (tok T n b) = 97 → qn G < 12) → M1 187 6 = wI → wp Γ mX10_graph 61 [some (VR 187), some (VI (k : Nat))] [VI 1, VR 187] 0 0 (W0 L) M1 Q := by
        intro wI hl hwI c1 c2 c3 hv
        refine vc_goS hG 60 [77] (B := bX10_graph) rfl ?_
        refine And.intro rfl ?_
        refine m_takes1 hG hw (fun M2 hw2 f2 g2 => ?_)
        have u7 := hw2.2.1
        refine And.intro rfl ?_
        refine m_isWell hG (fun y => ?_) (fun y => by omega)
        refine And.intro (fun y => absurd y (by decide)) (fun y => ?_)
        refine And.intro rfl ?_
        rw [hv, hwI]
        have goN : ∀ (M3 : MM) (f : Nat), rdItem T n (tok T n b) k G = .inl f → RF M3 n T f → frD M2 M3 → wp Γ mX10_graph 77 [some (VR 187), some (VI (k : Nat)), some (VI (tK (tok T n b)))] [] 0 0 (W0 L) M3 Q := by
          intro M3 f e ft f3
          rw [e] at hR
          exact mg_fault77 hG ft (by omega) (h0 _ _ hR.symm ((hf.t f2).t f3))
        rcases hl with q | q | q
        · have e : rdItem T n (tok T n b) k G = _ := (cit_y q).trans (cit_y (c1 q))
          rw [q] at goN ⊢
          exact ri108 hG hw2 (fun M3 b' G' z1 z2 z3 z4 => goY M3 b' G' _ (e.trans z1) z2 z3 ((hf.t f2).t z4)) (fun M3 f z1 z2 z3 => goN M3 f (e.trans z1) z2 z3)
        · have e : rdItem T n (tok T n b) k G = _ := (cit_n (by omega)).trans ((cit_y q).trans (cit_y (c2 q)))
          rw [q] at goN ⊢
          exact ri119 hG hw2 (c2 q) (fun M3 b' G' z1 z2 z3 z4 => goY M3 b' G' _ (e.trans z1) z2 z3 ((hf.t f2).t z4)) (fun M3 f z1 z2 z3 => goN M3 f (e.trans z1) z2 z3)
        · have e : rdItem T n (tok T n b) k G = _ := (cit_n (by omega)).trans ((cit_n (by omega)).trans ((cit_y q).trans (cit_y (c3 q))))
          rw [q] at goN ⊢
          exact ri97 hG hw2 (c3 q) (fun M3 b' G' z1 z2 z3 z4 => goY M3 b' G' _ (e.trans z1) z2 z3 ((hf.t f2).t z4)) (fun M3 f z1 z2 z3 => goN M3 f (e.trans z1) z2 z3)
      refine And.intro rfl (And.intro (fun y1 => fail ?_) (fun y1 => ?_))
      · have q : ¬ (tK (tok T n b) = 108 ∨ tK (tok T n b) = 119 ∨ tK (tok T n b) = 97) := fun x => y1 (tl.1.2 x)
        exact (cit_n (fun x => q (Or.inl x))).trans ((cit_n (fun x => q (Or.inr (Or.inl x)))).trans (cit_n (fun x => q (Or.inr (Or.inr x)))))
      · have q := tl.1.1 y1
        have v := tl.2 (by omega)
        refine And.intro rfl ?_
        refine m_mayBegin hG hw.2.2.2.1 rfl (fun z => ?_) (fun z => ?_)
        · refine And.intro (fun y => absurd y (by decide)) (fun y => ?_)
          exact go _ q rfl (fun x => by omega) (fun x => by omega) (fun x => by omega) v
        · refine And.intro (fun y => fail ?_) (fun y => absurd rfl y)
          rcases q with q | q | q
          · exact (cit_y q).trans (cit_n (by omega))
          · exact (cit_n (by omega)).trans ((cit_y q).trans (cit_n (by omega)))
          · exact (cit_n (by omega)).trans ((cit_n (by omega)).trans ((cit_y q).trans (cit_n (by omega))))
theorem frD.m {M M' : MM} (h : frD M M') : frM M M' := ⟨fun a ha => h.1 a (by omega) (by omega) (by omega) (by omega), h.2.2⟩
theorem MR.dr {M M' : MM} {S : ST} (hc : MR M S) (h : frD M M') : MR M' S := hc.keep (fun j hj => h.2.1 j (by omega)) (fun a ha => h.1 a (by omega) (by omega) (by omega) (by omega))
theorem y_graph (hG : GOK Γ) {S : ST} (hc : MR M S) (hob : OB M) (h : OutM Q L M (fGraph S)) : wp Γ mX10_graph 0 [some (VR 187)] [] 0 0 (W0 L) M Q := by
  have hc0 := hc.th
  have f0 := frM_th M
  have ob0 := f0.2 hob
  refine vc_go hG 60 (B := bX10_graph) rfl ?_
  refine And.intro rfl ?_
  refine And.intro rfl ?_
  refine And.intro rfl ?_
  refine And.intro rfl ?_
  refine m_begins hG (fun M1 r1 g1 => ?_)
  have f1 : frD (upM M 187 0 0) M1 := by
    refine ⟨fun a a1 a2 a3 a4 => by rw [g1 a a2, upM_ne a1, upM_ne a1], fun j hj => by rw [g1 187 (by decide), upM_k (by omega), upM_k (by omega)], fun z => ((z.up3 (by decide) (by decide)).up3 (by decide) (by decide)).keep (g1 197 (by decide)) (g1 198 (by decide))⟩
  have e3 : M1 187 3 = ((0 : Nat) : Int) := by rw [g1 187 (by decide), upM_eq]; rfl
  have e7 : M1 187 7 = -1 := by rw [g1 187 (by decide), upM_k (by decide), upM_eq]
  have hc1 := hc0.dr f1
  have tb := tok_b (T := sT S) (Nat.zero_le (sn S))
  refine And.intro rfl ?_
  refine m_advances hG hc1.2.2.1 (b := 0) (Nat.zero_le _) e3 (fun M2 t2 f2 => ?_)
  have ef : fGraph S = (match rdAll (sT S) (sn S) 80 0 (tok (sT S) (sn S) 0) E6 with
    | .inl f => (-10 - (f : Int), S)
    | .inr kg => ((kg.1 : Int), (kg.2, (0, sT S), (0, sH S), (fun _ => 0, sI S), (0, sM S, sR S)))) := rfl
  refine l_mgraph (M := upM M 187 0 0) hG _ (fun M3 k G' hR r3 w3 f3 => ?_) (fun M3 f hR f3 => ?_) 80 0 0 E6 M2 rfl (Nat.le_refl _) (Nat.zero_le _) ⟨hc1.2.2.1.fr f2, by rw [f2.2 7 (by decide)]; exact e7, t2, r1.keep (f2.1 189 (by decide)), E6_wf, f2.d.2.2 (f1.2.2 ob0), Nat.le_trans tb.2.1 tb.2.2.1, tb.2.2.1⟩ (f1.t f2.d) rfl
  · rw [hR] at ef
    refine vc_go hG 60 (B := bX10_graph) rfl ?_
    refine And.intro rfl ?_
    refine m_settles hG r3 w3 (T := sT S) (H := sH S) (I := sI S) (m := sM S) (r := sR S) (fun M4 c4 f4 => ?_)
    exact h.go ef rfl c4 ((f0.t f3.m).t f4)
  · rw [hR] at ef
    exact h.go ef rfl (hc0.dr f3) (f0.t f3.m)
end Mod
end
section
/-! ===== the model: what is near ===== -/
def mcd (p q s f : Nat) : Nat := 1000 * p + 50 * q + 4 * s + f
def XM (V D : Nat → Nat) (lim m : Nat) : XP := fun p q s f => p < m ∧ q < m ∧ s ≤ 9 ∧ f ≤ 3 ∧ mayV V D lim p s q f
abbrev mkM (V : Nat → Nat) (p q s f : Nat) : Nat := odp (cms (V p) s (V q) f)
def FB (M : MM) (V D : Nat → Nat) (lim m B : Nat) : Prop := ∀ v, v < 1024 → (M 199 v = 0 ∧ ∀ p q s f, XM V D lim m p q s f → mcd p q s f < B → mkM V p q s f ≠ v) ∨ (∃ p q s f, XM V D lim m p q s f ∧ mcd p q s f < B ∧ mkM V p q s f = v ∧ M 199 v = ((mcd p q s f + 1 : Nat) : Int) ∧ ∀ p' q' s' f', XM V D lim m p' q' s' f' → mkM V p' q' s' f' = v → mcd p q s f ≤ mcd p' q' s' f')
theorem mcd_inj {m p q s f p' q' s' f' : Nat} (hm : m ≤ 14) (h1 : q < m ∧ s ≤ 9 ∧ f ≤ 3) (h2 : q' < m ∧ s' ≤ 9 ∧ f' ≤ 3) (h : mcd p q s f = mcd p' q' s' f') : p = p' ∧ q = q' ∧ s = s' ∧ f = f' := by
  unfold mcd at h
  have u1 : 4 * s + f ≤ 39 := by omega
  have u2 : 4 * s' + f' ≤ 39 := by omega
  have e1 : p = p' := by
    rcases Nat.lt_trichotomy p p' with c | c | c
    · omega
    · exact c
    · omega
  subst e1
  have e2 : q = q' := by
    rcases Nat.lt_trichotomy q q' with c | c | c
    · omega
    · exact c
    · omega
  subst e2
  have e3 : s = s' := by omega
  subst e3
  exact ⟨rfl, rfl, rfl, by omega⟩
/-- behind all of p, q stands nothing but what comes next -/
theorem mcd_q {m p q p' q' s' f' : Nat} (hm : m ≤ 14) (hq : q < m) (h2 : q' < m ∧ s' ≤ 9 ∧ f' ≤ 3) (h : mcd p' q' s' f' < mcd p (q + 1) 0 0) : mcd p' q' s' f' < mcd p q 10 0 := by
  unfold mcd at h ⊢
  rcases Nat.lt_trichotomy p' p with c | c | c
  · omega
  · subst c
    rcases Nat.lt_trichotomy q' q with c | c | c <;> omega
  · omega
theorem mcd_p {m p p' q' s' f' : Nat} (hm : m ≤ 14) (h2 : q' < m ∧ s' ≤ 9 ∧ f' ≤ 3) (h : mcd p' q' s' f' < mcd (p + 1) 0 0 0) : mcd p' q' s' f' < mcd p m 0 0 := by
  unfold mcd at h ⊢
  rcases Nat.lt_trichotomy p' p with c | c | c
  · omega
  · subst c
    omega
  · omega
theorem FB.w {M : MM} {V D : Nat → Nat} {lim m B B' : Nat} (h : FB M V D lim m B) (hb : B ≤ B') (hn : ∀ p q s f, XM V D lim m p q s f → mcd p q s f < B' → mcd p q s f < B) : FB M V D lim m B' := by
  intro v hv
  rcases h v hv with ⟨a1, a2⟩ | ⟨p, q, s, f, a1, a2, a3⟩
  · exact Or.inl ⟨a1, fun p q s f x1 x2 => a2 p q s f x1 (hn p q s f x1 x2)⟩
  · exact Or.inr ⟨p, q, s, f, a1, by omega, a3⟩
theorem FB.put {M : MM} {V D : Nat → Nat} {lim m p q s f : Nat} (hm : m ≤ 14) (h : FB M V D lim m (mcd p q s f)) (hx : XM V D lim m p q s f) {y : Int} (h0 : M 199 (mkM V p q s f) = 0 → y = ((mcd p q s f + 1 : Nat) : Int)) (h1 : M 199 (mkM V p q s f) ≠ 0 → y = M 199 (mkM V p q s f)) : FB (upM M 199 (mkM V p q s f) y) V D lim m (mcd p q s f + 1) := by
  intro v hv
  by_cases e : v = mkM V p q s f
  · subst e
    rw [upM_eq]
    rcases h _ hv with ⟨a1, a2⟩ | ⟨p', q', s', f', a1, a2, a3, a4, a5⟩
    · refine Or.inr ⟨p, q, s, f, hx, by omega, rfl, h0 a1, fun p' q' s' f' x1 x2 => ?_⟩
      by_cases c : mcd p' q' s' f' < mcd p q s f
      · exact absurd x2 (a2 p' q' s' f' x1 c)
      · omega
    · exact Or.inr ⟨p', q', s', f', a1, by omega, a3, (h1 (by omega)).trans a4, a5⟩
  · rw [upM_k e]
    rcases h _ hv with ⟨a1, a2⟩ | ⟨p', q', s', f', a1, a2, a3, a4, a5⟩
    · refine Or.inl ⟨a1, fun p' q' s' f' x1 x2 => ?_⟩
      by_cases c : mcd p' q' s' f' < mcd p q s f
      · exact a2 p' q' s' f' x1 c
      · obtain ⟨e1, e2, e3, e4⟩ := mcd_inj hm ⟨x1.2.1, x1.2.2.1, x1.2.2.2.1⟩ ⟨hx.2.1, hx.2.2.1, hx.2.2.2.1⟩ (show mcd p' q' s' f' = mcd p q s f by omega)
        subst e1 e2 e3 e4
        exact fun z => e z.symm
    · exact Or.inr ⟨p', q', s', f', a1, by omega, a3, a4, a5⟩
theorem FB.no {M : MM} {V D : Nat → Nat} {lim m p q s f : Nat} (hm : m ≤ 14) (h : FB M V D lim m (mcd p q s f)) (hb : q < m ∧ s ≤ 9 ∧ f ≤ 3) (hx : ¬ mayV V D lim p s q f) : FB M V D lim m (mcd p q s f + 1) := by
  refine h.w (by omega) (fun p' q' s' f' x1 x2 => ?_)
  by_cases c : mcd p' q' s' f' = mcd p q s f
  · obtain ⟨e1, e2, e3, e4⟩ := mcd_inj hm ⟨x1.2.1, x1.2.2.1, x1.2.2.2.1⟩ hb c
    subst e1 e2 e3 e4
    exact absurd x1.2.2.2.2 hx
  · omega
section Mod
variable {Γ : GG} {L : Nat} {M : MM} {Q : QT} {V D : Nat → Nat} {lim m : Nat}
theorem n55 (hG : GOK Γ) (hm : m ≤ 14) (hV : ∀ k, k < m → V k ≤ 1023) (hD : ∀ k, k < m → D k ≤ 13) {p q s : Nat} (hp : p < m) (hq : q < m) (hs : s ≤ 9) (ho : OdR M m V D)
    (h : ∀ M', FB M' V D lim m (mcd p q s 4) → (∀ a, a ≠ 199 → M' a = M a) → wp Γ mX10_nears 45 [some (VR 187), some (VI lim), some (VI p), some (VI q), some (VI ((s + 1 : Nat) : Int))] [] 0 0 (W0 L) M' Q) :
    ∀ (j f : Nat) (M1 : MM), f + j = 4 → FB M1 V D lim m (mcd p q s f) → (∀ a, a ≠ 199 → M1 a = M a) → wp Γ mX10_nears 55 [some (VR 187), some (VI lim), some (VI p), some (VI q), some (VI s), some (VI f)] [] 0 0 (W0 L) M1 Q := by
  intro j
  induction j with
  | zero =>
    intro f M1 hj hF hf
    have e : f = 4 := by omega
    subst e
    refine vc_go hG 60 (B := bX10_nears) rfl ?_
    refine And.intro (fun y => ?_) (fun y => by omega)
    refine And.intro (by omega) ?_
    exact wp_pre [some (VR 187), some (VI lim), some (VI p), some (VI q), some (VI ((s + 1 : Nat) : Int))] [some (VI 4)] (h M1 hF hf)
  | succ j ih =>
    intro f M1 hj hF hf
    have ho1 : OdR M1 m V D := ho.keep (by rw [hf 187 (by decide)]) (hf 197 (by decide)) (hf 198 (by decide))
    have o1 := (ho1.2 p hp).1
    have o2 := (ho1.2 q hq).1
    have f3 : f ≤ 3 := by omega
    refine vc_goS hG 60 [145] (B := bX10_nears) rfl ?_
    refine And.intro (fun y => by omega) (fun y => ?_)
    refine And.intro rfl ?_
    refine m_mayBe hG ho1 hV hD hm rfl rfl rfl rfl rfl hp hs hq f3 (fun mb => ?_) (fun mb => ?_)
    · refine And.intro (fun y => absurd y (by decide)) (fun y => ?_)
      have hx : XM V D lim m p q s f := ⟨hp, hq, hs, f3, mb⟩
      have hc := mb.2.1
      have hc1 := mb.1
      refine And.intro rfl (Exists.intro _ (And.intro rfl ?_))
      refine And.intro (Or.inl rfl) (Exists.intro (p) (And.intro (by omega) (And.intro (show p < 14 by omega) ?_)))
      refine And.intro rfl (Exists.intro _ (And.intro rfl ?_))
      refine And.intro (Or.inl rfl) (Exists.intro (q) (And.intro (by omega) (And.intro (show q < 14 by omega) ?_)))
      refine m_comes hG o1 rfl o2 rfl (hV p hp) hs (hV q hq) f3 ?_
      refine m_oddPart hG rfl (by omega) ?_
      have hl : mkM V p q s f ≤ 1023 := Nat.le_trans (odp_le _) hc
      have fin : ∀ y : Int, (M1 199 (mkM V p q s f) = 0 → y = ((mcd p q s f + 1 : Nat) : Int)) → (M1 199 (mkM V p q s f) ≠ 0 → y = M1 199 (mkM V p q s f)) → wp Γ mX10_nears 145 [some (VR 187), some (VI lim), some (VI p), some (VI q), some (VI s), some (VI f), some (VI (mkM V p q s f : Nat))] [VI y, VI (mkM V p q s f : Nat), VR 199] 0 0 (W0 L) M1 Q := by
        intro y y0 y1
        refine vc_go hG 60 (B := bX10_nears) rfl ?_
        refine And.intro rfl (Exists.intro (mkM V p q s f) (And.intro rfl (And.intro (show mkM V p q s f < 1024 by omega) ?_)))
        refine And.intro (by omega) ?_
        refine wp_pre [some (VR 187), some (VI lim), some (VI p), some (VI q), some (VI s), some (VI ((f + 1 : Nat) : Int))] [some (VI (mkM V p q s f : Nat))] ?_
        exact ih (f + 1) _ (by omega) (hF.put hm hx y0 y1) (fun a ha => by rw [upM_ne ha]; exact hf a ha)
      refine And.intro rfl (Exists.intro _ (And.intro rfl ?_))
      refine And.intro rfl (Exists.intro _ (And.intro rfl ?_))
      refine And.intro (Or.inl rfl) (Exists.intro (mkM V p q s f) (And.intro rfl (And.intro (show mkM V p q s f < 1024 by omega) ?_)))
      refine And.intro (fun y2 => ?_) (fun y2 => ?_)
      · refine And.intro rfl (Exists.intro _ (And.intro rfl ?_))
        refine And.intro (Or.inl rfl) (Exists.intro (mkM V p q s f) (And.intro rfl (And.intro (show mkM V p q s f < 1024 by omega) ?_)))
        exact fin _ (fun z => absurd z y2) (fun _ => rfl)
      · refine And.intro (by omega) ?_
        refine And.intro (by omega) ?_
        refine And.intro (by omega) ?_
        refine And.intro (by omega) ?_
        refine And.intro (by omega) ?_
        refine And.intro (by omega) ?_
        refine And.intro (by omega) ?_
        exact fin _ (fun _ => by unfold mcd; omega) (fun z => absurd y2 z)
    · refine And.intro (fun y => ?_) (fun y => absurd rfl y)
      refine And.intro (by omega) ?_
      exact ih (f + 1) M1 (by omega) (hF.no hm ⟨hq, hs, f3⟩ mb) hf
theorem n45 (hG : GOK Γ) (hm : m ≤ 14) (hV : ∀ k, k < m → V k ≤ 1023) (hD : ∀ k, k < m → D k ≤ 13) {p q : Nat} (hp : p < m) (hq : q < m) (ho : OdR M m V D)
    (h : ∀ M', FB M' V D lim m (mcd p q 10 0) → (∀ a, a ≠ 199 → M' a = M a) → wp Γ mX10_nears 34 [some (VR 187), some (VI lim), some (VI p), some (VI ((q + 1 : Nat) : Int))] [] 0 0 (W0 L) M' Q) :
    ∀ (j s : Nat) (M1 : MM), s + j = 10 → FB M1 V D lim m (mcd p q s 0) → (∀ a, a ≠ 199 → M1 a = M a) → wp Γ mX10_nears 45 [some (VR 187), some (VI lim), some (VI p), some (VI q), some (VI s)] [] 0 0 (W0 L) M1 Q := by
  intro j
  induction j with
  | zero =>
    intro s M1 hj hF hf
    have e : s = 10 := by omega
    subst e
    refine vc_go hG 60 (B := bX10_nears) rfl ?_
    refine And.intro (fun y => ?_) (fun y => by omega)
    refine And.intro (by omega) ?_
    exact wp_pre [some (VR 187), some (VI lim), some (VI p), some (VI ((q + 1 : Nat) : Int))] [some (VI 10)] (h M1 hF hf)
  | succ j ih =>
    intro s M1 hj hF hf
    refine vc_go hG 60 (B := bX10_nears) rfl ?_
    refine And.intro (fun y => by omega) (fun y => ?_)
    refine n55 hG hm hV hD hp hq (by omega) (ho.keep (by rw [hf 187 (by decide)]) (hf 197 (by decide)) (hf 198 (by decide))) (fun M2 F2 g2 => ?_) 4 0 M1 rfl hF (fun _ _ => rfl)
    exact ih (s + 1) M2 (by omega) (by rw [show mcd p q (s + 1) 0 = mcd p q s 4 by unfold mcd; omega]; exact F2) (fun a ha => by rw [g2 a ha]; exact hf a ha)
theorem n34 (hG : GOK Γ) (hm : m ≤ 14) (hV : ∀ k, k < m → V k ≤ 1023) (hD : ∀ k, k < m → D k ≤ 13) {p : Nat} (hp : p < m) (ho : OdR M m V D)
    (h : ∀ M', FB M' V D lim m (mcd p m 0 0) → (∀ a, a ≠ 199 → M' a = M a) → wp Γ mX10_nears 24 [some (VR 187), some (VI lim), some (VI ((p + 1 : Nat) : Int))] [] 0 0 (W0 L) M' Q) :
    ∀ (j q : Nat) (M1 : MM), q + j = m → FB M1 V D lim m (mcd p q 0 0) → (∀ a, a ≠ 199 → M1 a = M a) → wp Γ mX10_nears 34 [some (VR 187), some (VI lim), some (VI p), some (VI q)] [] 0 0 (W0 L) M1 Q := by
  intro j
  induction j with
  | zero =>
    intro q M1 hj hF hf
    have e : q = m := by omega
    subst e
    have e20 : M1 187 20 = q := by rw [hf 187 (by decide)]; exact ho.1
    refine vc_go hG 60 (B := bX10_nears) rfl ?_
    refine And.intro rfl ?_
    refine And.intro (fun y => ?_) (fun y => by omega)
    refine And.intro (by omega) ?_
    exact wp_pre [some (VR 187), some (VI lim), some (VI ((p + 1 : Nat) : Int))] [some (VI q)] (h M1 hF hf)
  | succ j ih =>
    intro q M1 hj hF hf
    have ho1 : OdR M1 m V D := ho.keep (by rw [hf 187 (by decide)]) (hf 197 (by decide)) (hf 198 (by decide))
    have e20 := ho1.1
    refine vc_go hG 60 (B := bX10_nears) rfl ?_
    refine And.intro rfl ?_
    refine And.intro (fun y => by omega) (fun y => ?_)
    refine n45 hG hm hV hD hp (by omega) ho1 (fun M2 F2 g2 => ?_) 10 0 M1 rfl hF (fun _ _ => rfl)
    refine ih (q + 1) M2 (by omega) (F2.w (by unfold mcd; omega) (fun p' q' s' f' x1 x2 => ?_)) (fun a ha => by rw [g2 a ha]; exact hf a ha)
    exact mcd_q hm (by omega) ⟨x1.2.1, x1.2.2.1, x1.2.2.2.1⟩ x2
theorem n24 (hG : GOK Γ) (hm : m ≤ 14) (hV : ∀ k, k < m → V k ≤ 1023) (hD : ∀ k, k < m → D k ≤ 13) (ho : OdR M m V D)
    (h : ∀ M', FB M' V D lim m (mcd m 0 0 0) → (∀ a, a ≠ 199 → M' a = M a) → wp Γ mX10_nears 172 [some (VR 187), some (VI lim), some (VI 0)] [] 0 0 (W0 L) M' Q) :
    ∀ (j p : Nat) (M1 : MM), p + j = m → FB M1 V D lim m (mcd p 0 0 0) → (∀ a, a ≠ 199 → M1 a = M a) → wp Γ mX10_nears 24 [some (VR 187), some (VI lim), some (VI p)] [] 0 0 (W0 L) M1 Q := by
  intro j
  induction j with
  | zero =>
    intro p M1 hj hF hf
    have e : p = m := by omega
    subst e
    have e20 : M1 187 20 = p := by rw [hf 187 (by decide)]; exact ho.1
    refine vc_go hG 60 (B := bX10_nears) rfl ?_
    refine And.intro rfl ?_
    refine And.intro (fun y => ?_) (fun y => by omega)
    exact h M1 hF hf
  | succ j ih =>
    intro p M1 hj hF hf
    have ho1 : OdR M1 m V D := ho.keep (by rw [hf 187 (by decide)]) (hf 197 (by decide)) (hf 198 (by decide))
    have e20 := ho1.1
    refine vc_go hG 60 (B := bX10_nears) rfl ?_
    refine And.intro rfl ?_
    refine And.intro (fun y => by omega) (fun y => ?_)
    refine n34 hG hm hV hD (by omega) ho1 (fun M2 F2 g2 => ?_) m 0 M1 (by omega) hF (fun _ _ => rfl)
    refine ih (p + 1) M2 (by omega) (F2.w (by unfold mcd; omega) (fun p' q' s' f' x1 x2 => ?_)) (fun a ha => by rw [g2 a ha]; exact hf a ha)
    exact mcd_p hm ⟨x1.2.1, x1.2.2.1, x1.2.2.2.1⟩ x2
/-- those that are there are not near -/
def FC (M : MM) (V D : Nat → Nat) (lim m b : Nat) : Prop := ∀ v, v < 1024 → (M 199 v = 0 ∧ ((∃ k, k < b ∧ V k = v) ∨ ∀ p q s f, XM V D lim m p q s f → mkM V p q s f ≠ v)) ∨ ((∀ k, k < b → V k ≠ v) ∧ ∃ p q s f, XM V D lim m p q s f ∧ mkM V p q s f = v ∧ M 199 v = ((mcd p q s f + 1 : Nat) : Int) ∧ ∀ p' q' s' f', XM V D lim m p' q' s' f' → mkM V p' q' s' f' = v → mcd p q s f ≤ mcd p' q' s' f')
theorem n172 (hG : GOK Γ) (hm : m ≤ 14) (hV : ∀ k, k < m → V k ≤ 1023) (ho : OdR M m V D) (h : ∀ M', FC M' V D lim m m → (∀ a, a ≠ 199 → M' a = M a) → Q none (W0 L) M') :
    ∀ (j k : Nat) (M1 : MM), k + j = m → FC M1 V D lim m k → (∀ a, a ≠ 199 → M1 a = M a) → wp Γ mX10_nears 172 [some (VR 187), some (VI lim), some (VI k)] [] 0 0 (W0 L) M1 Q := by
  intro j
  induction j with
  | zero =>
    intro k M1 hj hF hf
    have e : k = m := by omega
    subst e
    have e20 : M1 187 20 = k := by rw [hf 187 (by decide)]; exact ho.1
    refine vc_go hG 60 (B := bX10_nears) rfl ?_
    refine And.intro rfl ?_
    exact And.intro (fun y => h M1 hF hf) (fun y => by omega)
  | succ j ih =>
    intro k M1 hj hF hf
    have ho1 : OdR M1 m V D := ho.keep (by rw [hf 187 (by decide)]) (hf 197 (by decide)) (hf 198 (by decide))
    have e20 := ho1.1
    have ok := (ho1.2 k (by omega)).1
    have vk := hV k (by omega)
    refine vc_go hG 60 (B := bX10_nears) rfl ?_
    refine And.intro rfl ?_
    refine And.intro (fun y => by omega) (fun y => ?_)
    refine And.intro rfl (Exists.intro _ (And.intro rfl ?_))
    refine And.intro rfl (Exists.intro _ (And.intro rfl ?_))
    refine And.intro (Or.inl rfl) (Exists.intro (k) (And.intro (by omega) (And.intro (show k < 14 by omega) ?_)))
    refine And.intro rfl (Exists.intro (V k) (And.intro ok (And.intro (show V k < 1024 by omega) ?_)))
    refine And.intro (by omega) ?_
    refine ih (k + 1) _ (by omega) (fun v hv => ?_) (fun a ha => by rw [upM_ne ha]; exact hf a ha)
    by_cases e : v = V k
    · subst e
      rw [upM_eq]
      exact Or.inl ⟨rfl, Or.inl ⟨k, by omega, rfl⟩⟩
    · rw [upM_k e]
      rcases hF v hv with ⟨a1, ⟨i, i1, i2⟩ | a2⟩ | ⟨a1, a2⟩
      · exact Or.inl ⟨a1, Or.inl ⟨i, by omega, i2⟩⟩
      · exact Or.inl ⟨a1, Or.inr a2⟩
      · refine Or.inr ⟨fun i hi => ?_, a2⟩
        by_cases c : i = k
        · subst c; exact fun z => e z.symm
        · exact a1 i (by omega)
theorem n2 (hG : GOK Γ) {lI : Int} (h : ∀ M' : MM, (∀ v, v < 1024 → M' 199 v = 0) → (∀ a, a ≠ 199 → M' a = M a) → wp Γ mX10_nears 24 [some (VR 187), some (VI lI), some (VI 0)] [] 0 0 (W0 L) M' Q) : ∀ (j k : Nat) (M1 : MM), k + j = 1024 → (∀ v, v < k → M1 199 v = 0) → (∀ a, a ≠ 199 → M1 a = M a) → wp Γ mX10_nears 2 [some (VR 187), some (VI lI), some (VI k)] [] 0 0 (W0 L) M1 Q := by
  intro j
  induction j with
  | zero =>
    intro k M1 hj hz hf
    have e : k = 1024 := by omega
    subst e
    refine vc_go hG 60 (B := bX10_nears) rfl ?_
    exact And.intro (fun y => h M1 hz hf) (fun y => by omega)
  | succ j ih =>
    intro k M1 hj hz hf
    refine vc_go hG 60 (B := bX10_nears) rfl ?_
    refine And.intro (fun y => by omega) (fun y => ?_)
    refine And.intro rfl (Exists.intro _ (And.intro rfl ?_))
    refine And.intro rfl (Exists.intro (k) (And.intro (by omega) (And.intro (show k < 1024 by omega) ?_)))
    refine And.intro (by omega) ?_
    refine ih (k + 1) _ (by omega) (fun v hv => ?_) (fun a ha => by rw [upM_ne ha]; exact hf a ha)
    by_cases e : v = k
    · subst e; rw [upM_eq]
    · rw [upM_k e]; exact hz v (by omega)
theorem m_nears (hG : GOK Γ) (hm : m ≤ 14) (hV : ∀ k, k < m → V k ≤ 1023) (hD : ∀ k, k < m → D k ≤ 13) (ho : OdR M m V D) {lI : Int} (el : lI = lim) (h : ∀ M', FC M' V D lim m m → (∀ a, a ≠ 199 → M' a = M a) → Q none (W0 L) M') : wp Γ mX10_nears 0 [some (VR 187), some (VI lI)] [] 0 0 (W0 L) M Q := by
  subst el
  refine vc_go hG 60 (B := bX10_nears) rfl ?_
  refine n2 hG (fun M1 z1 f1 => ?_) 1024 0 M rfl (fun v hv => absurd hv (Nat.not_lt_zero v)) (fun _ _ => rfl)
  have k1 : ∀ {M' : MM}, (∀ a, a ≠ 199 → M' a = M a) → OdR M' m V D := fun hf => ho.keep (by rw [hf 187 (by decide)]) (hf 197 (by decide)) (hf 198 (by decide))
  refine n24 hG hm hV hD (k1 f1) (fun M2 F2 f2 => ?_) m 0 M1 (by omega) (fun v hv => Or.inl ⟨z1 v hv, fun p q s f _ x => absurd x (by unfold mcd; omega)⟩) (fun _ _ => rfl)
  have f3 : ∀ a, a ≠ 199 → M2 a = M a := fun a ha => by rw [f2 a ha]; exact f1 a ha
  refine n172 hG hm hV (k1 f3) (fun M3 F3 f4 => h M3 F3 (fun a ha => by rw [f4 a ha]; exact f3 a ha)) m 0 M2 (by omega) (fun v hv => ?_) (fun _ _ => rfl)
  rcases F2 v hv with ⟨a1, a2⟩ | ⟨p, q, s, f, a1, a2, a3, a4, a5⟩
  · refine Or.inl ⟨a1, Or.inr (fun p q s f x => a2 p q s f x ?_)⟩
    obtain ⟨b1, b2, b3, b4, -⟩ := x
    unfold mcd
    omega
  · exact Or.inr ⟨fun k hk => absurd hk (Nat.not_lt_zero k), p, q, s, f, a1, a3, a4, a5⟩
end Mod
end
section
/-! ===== the model: near, by ===== -/
theorem cms_mir {p s q f : Nat} (hf : f ≤ 3) : cms q s p ((f + 2) % 4) = cms p s q f := by
  unfold cms
  have c : f = 0 ∨ f = 1 ∨ f = 2 ∨ f = 3 := by omega
  rcases c with c | c | c | c
  · subst c
    rw [if_neg (by decide), if_neg (by decide), if_pos (by decide), if_pos rfl]; omega
  · subst c
    rw [if_neg (by decide), if_neg (by decide), if_neg (by decide), if_neg (by decide), if_pos rfl]; omega
  · subst c
    rw [if_pos (by decide), if_neg (by decide), if_neg (by decide), if_pos rfl]; omega
  · subst c
    rw [if_neg (by decide), if_pos (by decide), if_neg (by decide), if_neg (by decide), if_neg (by decide)]; omega
theorem XM_mir {V D : Nat → Nat} {lim m p q s f : Nat} (h : XM V D lim m p q s f) : XM V D lim m q p s ((f + 2) % 4) ∧ mkM V q p s ((f + 2) % 4) = mkM V p q s f := by
  obtain ⟨h1, h2, h3, h4, h5⟩ := h
  have e := cms_mir (p := V p) (s := s) (q := V q) h4
  refine ⟨⟨h2, h1, h3, by omega, ?_⟩, ?_⟩
  · unfold mayV at h5 ⊢
    rw [e]
    exact ⟨h5.1, h5.2.1, by omega⟩
  · show odp (cms (V q) s (V p) ((f + 2) % 4)) = odp (cms (V p) s (V q) f)
    rw [e]
/-- the first of all has the smaller one first -/
theorem XM_min {V D : Nat → Nat} {lim m p q s f : Nat} (hm : m ≤ 14) (h : XM V D lim m p q s f) (hmin : ∀ p' q' s' f', XM V D lim m p' q' s' f' → mkM V p' q' s' f' = mkM V p q s f → mcd p q s f ≤ mcd p' q' s' f') : p ≤ q := by
  by_cases c : p ≤ q
  · exact c
  · exfalso
    have x := XM_mir h
    have y := hmin _ _ _ _ x.1 x.2
    obtain ⟨h1, h2, h3, h4, -⟩ := h
    have z : (f + 2) % 4 ≤ 3 := by omega
    generalize (f + 2) % 4 = g at *
    unfold mcd at y
    omega
theorem cdw_mcd {m p q s f p' q' s' f' : Nat} (hm : m ≤ 14) (h1 : q < m ∧ s ≤ 9 ∧ f ≤ 3) (h2 : q' < m ∧ s' ≤ 9 ∧ f' ≤ 3) (h : mcd p q s f ≤ mcd p' q' s' f') : cdw p q s f ≤ cdw p' q' s' f' := by
  unfold mcd at h
  unfold cdw
  rcases Nat.lt_trichotomy p p' with c | c | c
  · omega
  · subst c
    rcases Nat.lt_trichotomy q q' with c | c | c
    · omega
    · subst c; omega
    · omega
  · omega
/-- what the row of first adders holds -/
def NF (M : MM) (G : GT) : Prop := ∀ v, v < 1024 → (isTh G v ∧ M 199 v = 0) ∨ (¬ isTh G v ∧ (∀ p q s f, XG G (qn G + 1) p q s f → mkV G p q s f ≠ v) ∧ M 199 v = 0) ∨ (¬ isTh G v ∧ ∃ p q s f, byW G v p q s f ∧ M 199 v = ((mcd p q s f + 1 : Nat) : Int))
theorem XG_XM {G : GT} {p q s f : Nat} (h : XG G (qn G + 1) p q s f) : XM (qV G) (qD G) (qL G) (qn G + 1) p q s f := by
  obtain ⟨h1, h2, h3, h4, h5⟩ := h
  exact ⟨by omega, h2, h3, h4, h5⟩
theorem NF_of {M : MM} {G : GT} (hw : WFG G) (h : FC M (qV G) (qD G) (qL G) (qn G + 1) (qn G + 1)) : NF M G := by
  have n12 := hw.1
  intro v hv
  rcases h v hv with ⟨a1, a2⟩ | ⟨a1, p, q, s, f, a2, a3, a4, a5⟩
  · by_cases t : isTh G v
    · exact Or.inl ⟨t, a1⟩
    · refine Or.inr (Or.inl ⟨t, fun p q s f x => ?_, a1⟩)
      rcases a2 with a2 | a2
      · exact absurd a2 t
      · exact a2 p q s f (XG_XM x)
  · refine Or.inr (Or.inr ⟨fun ⟨k, k1, k2⟩ => a1 k k1 k2, p, q, s, f, ⟨?_, a3, fun p' q' s' f' x1 x2 => ?_⟩, a4⟩)
    · obtain ⟨b1, b2, b3, b4, b5⟩ := id a2
      exact ⟨XM_min (show qn G + 1 ≤ 14 by omega) a2 (fun p' q' s' f' x1 x2 => a5 p' q' s' f' x1 (x2.trans a3)), b2, b3, b4, b5⟩
    · have x3 := XG_XM x1
      exact cdw_mcd (show qn G + 1 ≤ 14 by omega) ⟨a2.2.1, a2.2.2.1, a2.2.2.2.1⟩ ⟨x3.2.1, x3.2.2.1, x3.2.2.2.1⟩ (a5 p' q' s' f' x3 x2)
theorem byW_odd {G : GT} {v p q s f : Nat} (h : byW G v p q s f) : v % 2 = 1 ∧ v ≤ 1023 := by
  obtain ⟨⟨-, -, -, -, m1, m2, -⟩, h2, -⟩ := h
  have b1 := odp_le (cms (qV G p) s (qV G q) f)
  have b3 := odp_odd (n := cms (qV G p) s (qV G q) f) (by omega) (by omega)
  have h2 : odp (cms (qV G p) s (qV G q) f) = v := h2
  omega
theorem NF.keep {M M' : MM} {G : GT} (h : NF M G) (hf : M' 199 = M 199) : NF M' G := by
  unfold NF
  rw [hf]
  exact h
theorem NF.nr {M : MM} {G : GT} (h : NF M G) {v : Nat} (hv : v < 1024) : (isNr G v ∧ 0 < M 199 v ∧ ∃ p q s f, byW G v p q s f ∧ M 199 v = ((mcd p q s f + 1 : Nat) : Int)) ∨ (¬ isNr G v ∧ M 199 v = 0) := by
  rcases h v hv with ⟨a1, a2⟩ | ⟨a1, a2, a3⟩ | ⟨a1, p, q, s, f, a2, a3⟩
  · exact Or.inr ⟨fun z => z.2.1 a1, a2⟩
  · refine Or.inr ⟨fun z => ?_, a3⟩
    obtain ⟨p, q, s, f, z⟩ := z.2.2
    exact a2 p q s f z.1 z.2.1
  · exact Or.inl ⟨⟨byW_odd a2, a1, p, q, s, f, a2⟩, by omega, p, q, s, f, a2, a3⟩
def frN9 (M M' : MM) : Prop := (∀ a, a ≠ 187 → a ≠ 197 → a ≠ 198 → a ≠ 199 → M' a = M a) ∧ (∀ j, j ≠ 20 → M' 187 j = M 187 j) ∧ (OB M → OB M')
theorem frN9.t {M M' M2 : MM} (h1 : frN9 M M') (h2 : frN9 M' M2) : frN9 M M2 := ⟨fun a a1 a2 a3 a4 => (h2.1 a a1 a2 a3 a4).trans (h1.1 a a1 a2 a3 a4), fun j hj => (h2.2.1 j hj).trans (h1.2.1 j hj), fun z => h2.2.2 (h1.2.2 z)⟩
theorem MR.n9 {M M' : MM} {S : ST} (hc : MR M S) (hf : frN9 M M') : MR M' S := hc.keep (fun j hj => hf.2.1 j (by omega)) (fun a ha => hf.1 a (by omega) (by omega) (by omega) (by omega))
theorem frN9.m {M M' : MM} (hf : frN9 M M') : frM M M' := ⟨fun a ha => hf.1 a (by omega) (by omega) (by omega) (by omega), hf.2.2⟩
/-- how many so far, and the lowest -/
def LW (P : Nat → Prop) (e : Nat) (n l : Int) : Prop := n = (cP P e : Nat) ∧ ((cP P e = 0 ∧ l = -9 ∧ ∀ e', e' < e → ¬ P e') ∨ (0 < cP P e ∧ ∃ e0 : Nat, e0 < e ∧ P e0 ∧ (∀ e', e' < e0 → ¬ P e') ∧ l = e0))
theorem LW.y {P : Nat → Prop} {e : Nat} {n l l' n' : Int} (h : LW P e n l) (hp : P e) (hn : n' = n + 1) (h0 : n = 0 → l' = e) (h1 : n ≠ 0 → l' = l) : LW P (e + 1) n' l' := by
  obtain ⟨a1, a2⟩ := h
  unfold LW
  rw [cP_y hp]
  refine ⟨by omega, Or.inr ⟨by omega, ?_⟩⟩
  rcases a2 with ⟨b1, b2, b3⟩ | ⟨b1, e0, b2, b3, b4, b5⟩
  · exact ⟨e, by omega, hp, b3, h0 (by omega)⟩
  · exact ⟨e0, by omega, b3, b4, (h1 (by omega)).trans b5⟩
theorem LW.n {P : Nat → Prop} {e : Nat} {n l : Int} (h : LW P e n l) (hp : ¬ P e) : LW P (e + 1) n l := by
  obtain ⟨a1, a2⟩ := h
  unfold LW
  rw [cP_n hp]
  refine ⟨a1, ?_⟩
  rcases a2 with ⟨b1, b2, b3⟩ | ⟨b1, e0, b2, b3, b4, b5⟩
  · refine Or.inl ⟨b1, b2, fun e' he => ?_⟩
    by_cases c : e' = e
    · subst c; exact hp
    · exact b3 e' (by omega)
  · exact Or.inr ⟨b1, e0, by omega, b3, b4, b5⟩
theorem LW.b {P : Nat → Prop} {e : Nat} {n l : Int} (h : LW P e n l) : 0 ≤ n ∧ n ≤ e := by
  have := cP_le P e
  have := h.1
  omega
theorem LW.l {P : Nat → Prop} {e : Nat} {n l : Int} (h : LW P e n l) (hp : ∀ v, P v → v < e) : isLst P l := by
  obtain ⟨a1, a2⟩ := h
  rcases a2 with ⟨b1, b2, b3⟩ | ⟨b1, e0, b2, b3, b4, b5⟩
  · exact Or.inl ⟨b2, fun v z => b3 v (hp v z) z⟩
  · exact Or.inr ⟨e0, b5, b3, b4⟩
theorem LW_1 {P : Nat → Prop} (h : ¬ P 0) : LW P 1 0 (-9) := by
  unfold LW
  rw [cP_n h]
  exact ⟨rfl, Or.inl ⟨rfl, rfl, fun e he => by rw [show e = 0 by omega]; exact h⟩⟩
def OutMR (Q : QT) (L : Nat) (M : MM) (S : ST) (R : Int → Prop) : Prop := ∀ r M', R r → MR M' S → frM M M' → Q (some (VI r)) (W0 L) M'
theorem isNr_b {G : GT} {v : Nat} (h : isNr G v) : v % 2 = 1 ∧ v ≤ 1023 := h.1
section Mod
variable {Γ : GG} {L : Nat} {M : MM} {Q : QT} {S : ST} {G : GT}
theorem m_nearsOf (hG : GOK Γ) {a : Nat} (ha : RwL L a) (ha2 : a < 197) (ha3 : 187 < a) (hr : RwR M a G) (hw : WFG G) (h : ∀ M', OdR M' (qn G + 1) (qV G) (qD G) → NF M' G → frN9 M M' → Q none (W0 L) M') : wp Γ mX10_nearsOf 0 [some (VR 187), some (VR a)] [] 0 0 (W0 L) M Q := by
  have n12 := hw.1
  refine vc_go hG 60 (B := bX10_nearsOf) rfl ?_
  refine And.intro rfl ?_
  refine m_reckons hG ha ha2 ha3 hr hw (fun M1 o1 k1 => ?_)
  refine And.intro (Or.inl ha.1) (Exists.intro 56 (And.intro rfl (And.intro (by rw [ha.2]; decide) ?_)))
  refine And.intro rfl ?_
  have r1 := hr.keep (k1.1 a (by omega) (by omega) (by omega))
  refine m_nears hG (show qn G + 1 ≤ 14 by omega) (fun k hk => (WFG_V hw k (by omega)).2.1) (fun k hk => by have := WFG_D hw k (by omega); omega) o1 r1.2.2.1 (fun M2 F2 f2 => ?_)
  exact h M2 (o1.keep (by rw [f2 187 (by decide)]) (f2 197 (by decide)) (f2 198 (by decide))) (NF_of hw F2) ⟨fun b b1 b2 b3 b4 => by rw [f2 b b4]; exact k1.1 b b1 b2 b3, fun j hj => by rw [f2 187 (by decide)]; exact k1.2.1 j hj, fun z => (k1.2.2 z).keep (f2 197 (by decide)) (f2 198 (by decide))⟩
theorem m_isOddNumber (hG : GOK Γ) {w : Wd} {v : Int} (h1 : isOddN v → Q (some (VI 1)) w M) (h0 : ¬ isOddN v → Q (some (VI 0)) w M) : wp Γ mX10_isOddNumber 0 [some (VI v)] [] 0 0 w M Q := by
  unfold isOddN at h1 h0
  refine vc_go hG 60 (B := bX10_isOddNumber) rfl ?_
  refine m_isConstant hG (fun z => ?_) (fun z => And.intro (fun c => And.intro (Or.inl rfl) (h0 (fun x => z ⟨x.1, x.2.1⟩))) (fun c => absurd rfl c))
  refine And.intro (fun c => absurd c (by decide)) (fun c => ?_)
  refine And.intro ⟨by omega, by decide⟩ ?_
  exact And.intro (fun y => And.intro (Or.inl rfl) (h0 (fun x => y x.2.2))) (fun y => And.intro (Or.inr rfl) (h1 ⟨z.1, z.2, y⟩))
theorem m_partOf (hG : GOK Γ) {w : Wd} {cI wI : Int} {p q s f : Nat} (ec : cI = ((mcd p q s f + 1 : Nat) : Int)) (hp : p ≤ 13) (hq : q ≤ 13) (hs : s ≤ 9) (hf : f ≤ 3) (h : Q (some (VI (selW wI p q s f))) w M) : wp Γ mX10_partOf 0 [some (VI cI), some (VI wI)] [] 0 0 w M Q := by
  unfold mcd at ec
  have e : cI - 1 = ((1000 * p + 50 * q + 4 * s + f : Nat) : Int) := by omega
  have fin : ∀ r : Int, r = selW wI p q s f → Q (some (VI r)) w M := fun r hr => by rw [hr]; exact h
  have m50 : ((1000 * p + 50 * q + 4 * s + f : Nat) : Int) % 50 = ((4 * s + f : Nat) : Int) := by omega
  have m1000 : ((1000 * p + 50 * q + 4 * s + f : Nat) : Int) % 1000 = ((50 * q + (4 * s + f) : Nat) : Int) := by omega
  unfold selW at fin
  refine vc_go hG 60 (B := bX10_partOf) rfl ?_
  refine And.intro (by omega) ?_
  rw [e]
  refine And.intro (fun y => ?_) (fun y => ?_)
  · rw [if_neg y] at fin
    refine And.intro (fun y2 => ?_) (fun y2 => ?_)
    · rw [if_neg y2] at fin
      refine And.intro (fun y3 => ?_) (fun y3 => ?_)
      · rw [if_neg y3] at fin
        refine And.intro ⟨by omega, by decide⟩ (And.intro ⟨by omega, by decide⟩ (fin _ (by omega)))
      · rw [if_pos y3] at fin
        refine And.intro ⟨by omega, by decide⟩ (And.intro ⟨by omega, by decide⟩ (fin _ (by omega)))
    · rw [if_pos y2] at fin
      refine And.intro ⟨by omega, by decide⟩ (And.intro ⟨by omega, by decide⟩ (fin _ (by omega)))
  · rw [if_pos y] at fin
    exact And.intro ⟨by omega, by decide⟩ (fin _ (by omega))
theorem l_mnear (hG : GOK Γ) (ht : NF M G) {v w : Int} (hw2 : w = 0 ∨ w = 1) (h : ∀ n l, LW (fun e => v < e ∧ isNr G e) 1024 n l → Q (some (VI (if w = 0 then n else l))) (W0 L) M) : ∀ (j e : Nat) (n l : Int), e + j = 1024 → LW (fun e => v < e ∧ isNr G e) e n l → wp Γ mX10_near 37 [some (VR 187), some (VI v), some (VI w), some (VI n), some (VI l), some (VI e)] [] 0 0 (W0 L) M Q := by
  intro j
  induction j with
  | zero =>
    intro e n l hj hL
    have ee : e = 1024 := by omega
    subst ee
    have fin := h n l hL
    refine vc_go hG 60 (B := bX10_near) rfl ?_
    refine And.intro (fun y => ?_) (fun y => by omega)
    refine And.intro (fun y => ?_) (fun y => ?_)
    · rw [if_neg y] at fin
      exact fin
    · rw [if_pos y] at fin
      exact fin
  | succ j ih =>
    intro e n l hj hL
    have hb := hL.b
    refine vc_go hG 60 (B := bX10_near) rfl ?_
    refine And.intro (fun y => by omega) (fun y => ?_)
    refine And.intro (fun y2 => ?_) (fun y2 => ?_)
    · exact And.intro (by omega) (ih (e + 1) n l (by omega) (hL.n (fun z => by have := z.1; omega)))
    · refine And.intro rfl (Exists.intro _ (And.intro rfl ?_))
      refine And.intro (Or.inl rfl) (Exists.intro (e) (And.intro (by omega) (And.intro (show e < 1024 by omega) ?_)))
      rcases ht.nr (show e < 1024 by omega) with ⟨a1, a2, -⟩ | ⟨a1, a2⟩
      · refine And.intro (fun y3 => by omega) (fun y3 => ?_)
        refine And.intro (fun y4 => ?_) (fun y4 => ?_)
        · exact And.intro (by omega) (And.intro (by omega) (ih (e + 1) (n + 1) l (by omega) (hL.y ⟨y2, a1⟩ rfl (fun z => absurd z y4) (fun _ => rfl))))
        · exact And.intro (by omega) (And.intro (by omega) (ih (e + 1) (n + 1) e (by omega) (hL.y ⟨y2, a1⟩ rfl (fun _ => rfl) (fun z => absurd y4 z))))
      · refine And.intro (fun y3 => ?_) (fun y3 => by omega)
        exact And.intro (by omega) (ih (e + 1) n l (by omega) (hL.n (fun z => a1 z.2)))
theorem y_near (hG : GOK Γ) (hc : MR M S) {v w : Int} (h : OutMR Q L M S (nearR (sG S) v w)) : wp Γ mX10_near 0 [some (VR 187), some (VI v), some (VI w)] [] 0 0 (W0 L) M Q := by
  have hc0 := hc.th
  have f0 := frM_th M
  refine vc_go hG 60 (B := bX10_near) rfl ?_
  refine And.intro rfl ?_
  refine And.intro (fun y => h _ _ (Or.inl ⟨fun z => by have := z.1; omega, rfl⟩) hc0 f0) (fun y1 => ?_)
  refine m_in hG (fun z => ?_) (fun z => And.intro (fun c => absurd rfl c) (fun c => h _ _ (Or.inl ⟨fun x => z x.2, rfl⟩) hc0 f0))
  refine And.intro (fun y => ?_) (fun y => absurd y (by decide))
  refine And.intro rfl (Exists.intro _ (And.intro rfl ?_))
  refine And.intro rfl ?_
  refine m_nearsOf hG (RwL_s L) (by decide) (by decide) hc0.1 hc0.2.1 (fun M1 o1 t1 f1 => ?_)
  refine l_mnear hG t1 (by omega) (fun n l hL => ?_) 1023 1 0 (-9) rfl (LW_1 (fun z => by have := isNr_b z.2; omega))
  refine h _ _ (Or.inr ⟨⟨y1, z⟩, ?_⟩) (hc0.n9 f1) (f0.t f1.m)
  by_cases c : w = 0
  · rw [if_pos c]
    exact Or.inl ⟨c, hL.1⟩
  · rw [if_neg c]
    exact Or.inr ⟨by omega, hL.l (fun e he => by have := isNr_b he.2; omega)⟩
theorem y_by (hG : GOK Γ) (hc : MR M S) {v w : Int} (h : OutMR Q L M S (byR (sG S) v w)) : wp Γ mX10_by 0 [some (VR 187), some (VI v), some (VI w)] [] 0 0 (W0 L) M Q := by
  have hc0 := hc.th
  have f0 := frM_th M
  refine vc_go hG 60 (B := bX10_by) rfl ?_
  refine And.intro rfl ?_
  refine m_isOddNumber hG (fun ho => ?_) (fun ho => And.intro (fun y => h _ _ (Or.inl ⟨fun z => ho z.1, rfl⟩) hc0 f0) (fun y => absurd rfl y))
  refine And.intro (fun y => absurd y (by decide)) (fun y => ?_)
  refine m_in hG (fun z => ?_) (fun z => And.intro (fun c => absurd rfl c) (fun c => h _ _ (Or.inl ⟨fun x => z x.2, rfl⟩) hc0 f0))
  refine And.intro (fun y => ?_) (fun y => absurd y (by decide))
  refine And.intro rfl (Exists.intro _ (And.intro rfl ?_))
  refine And.intro rfl ?_
  refine m_nearsOf hG (RwL_s L) (by decide) (by decide) hc0.1 hc0.2.1 (fun M1 o1 t1 f1 => ?_)
  have hc1 := hc0.n9 f1
  have f2 := f0.t f1.m
  obtain ⟨u1, u2, u3⟩ := id ho
  refine And.intro rfl (Exists.intro _ (And.intro rfl ?_))
  refine And.intro (Or.inl rfl) (Exists.intro (v.toNat) (And.intro (by omega) (And.intro (show v.toNat < 1024 by omega) ?_)))
  rcases t1.nr (v := v.toNat) (by omega) with ⟨a1, a2, p, q, s, g, a3, a4⟩ | ⟨a1, a2⟩
  · have bb := byW_b hc.2.1 a3
    refine And.intro (fun y => ?_) (fun y => by omega)
    refine And.intro rfl (Exists.intro _ (And.intro rfl ?_))
    refine And.intro (Or.inl rfl) (Exists.intro (v.toNat) (And.intro (by omega) (And.intro (show v.toNat < 1024 by omega) ?_)))
    exact m_partOf hG a4 (by omega) (by omega) bb.2.2.1 bb.2.2.2.1 (h _ _ (Or.inr ⟨⟨ho, z⟩, Or.inr ⟨a1, p, q, s, g, a3, rfl⟩⟩) hc1 f2)
  · refine And.intro (fun y => by omega) (fun y => ?_)
    exact h _ _ (Or.inr ⟨⟨ho, z⟩, Or.inl ⟨a1, rfl⟩⟩) hc1 f2
end Mod
end
section
/-! ===== the model: unseen, next ===== -/
theorem cP_cong {P P' : Nat → Prop} (h : ∀ v, P v ↔ P' v) : ∀ k, cP P k = cP P' k
  | 0 => rfl
  | k + 1 => by
    by_cases q : P k
    · rw [cP_y q, cP_y ((h k).1 q), cP_cong h k]
    · rw [cP_n q, cP_n (fun z => q ((h k).2 z)), cP_cong h k]
section Mod
variable {Γ : GG} {L : Nat} {M : MM} {Q : QT} {S : ST} {G : GT} {n : Nat} {sm sr : Nat → Nat}
theorem l_canBe (hG : GOK Γ) (hh : mSn M n sm sr) {v : Nat} (hv : v < 1024) (h1 : UN G n sm sr v → Q (some (VI 1)) (W0 L) M) (h0 : ¬ UN G n sm sr v → Q (some (VI 0)) (W0 L) M) : ∀ (j k : Nat) (z : Int), k + j = n → ((z = 1 ∧ isNr G v ∧ ∀ i, i < k → v % sm i = sr i) ∨ (z = 0 ∧ ¬ UN G n sm sr v)) → wp Γ mX10_canBe 17 [some (VR 187), some (VI v), some (VI z), some (VI k)] [] 0 0 (W0 L) M Q := by
  obtain ⟨t1, t2, t3⟩ := hh
  intro j
  induction j with
  | zero =>
    intro k z hk hz
    have e : k = n := by omega
    subst e
    refine vc_go hG 60 (B := bX10_canBe) rfl ?_
    refine And.intro rfl (And.intro (fun y => ?_) (fun y => by omega))
    rcases hz with ⟨z1, z2, z3⟩ | ⟨z1, z2⟩
    · subst z1
      exact And.intro (Or.inr rfl) (h1 ⟨z2, z3⟩)
    · subst z1
      exact And.intro (Or.inl rfl) (h0 z2)
  | succ j ih =>
    intro k z hk hz
    obtain ⟨u1, u2, u3, u4, u5⟩ := t3 k (by omega)
    have em : (v : Int) % (M 195 k) = ((v % sm k : Nat) : Int) := by rw [u1]; rfl
    refine vc_go hG 60 (B := bX10_canBe) rfl ?_
    refine And.intro rfl (And.intro (fun y => by omega) (fun y => ?_))
    rcases hz with ⟨z1, z2, z3⟩ | ⟨z1, z2⟩
    · refine And.intro (fun y2 => by omega) (fun y2 => ?_)
      refine And.intro rfl (Exists.intro _ (And.intro rfl ?_))
      refine And.intro (Or.inl rfl) (Exists.intro (k) (And.intro (by omega) (And.intro (show k < 6 by omega) ?_)))
      refine And.intro ⟨by omega, by omega⟩ ?_
      rw [em]
      refine And.intro rfl (Exists.intro _ (And.intro rfl ?_))
      refine And.intro (Or.inl rfl) (Exists.intro (k) (And.intro (by omega) (And.intro (show k < 6 by omega) ?_)))
      refine And.intro (fun y3 => ?_) (fun y3 => ?_)
      · refine And.intro (by omega) (ih (k + 1) 0 (by omega) (Or.inr ⟨rfl, fun x => ?_⟩))
        have := x.2 k (by omega)
        omega
      · refine And.intro (by omega) (ih (k + 1) 1 (by omega) (Or.inl ⟨rfl, z2, fun i hi => ?_⟩))
        by_cases q : i = k
        · subst q; omega
        · exact z3 i (by omega)
    · refine And.intro (fun y2 => ?_) (fun y2 => by omega)
      exact And.intro (by omega) (ih (k + 1) 0 (by omega) (Or.inr ⟨rfl, z2⟩))
theorem m_canBe (hG : GOK Γ) (ht : NF M G) (hh : mSn M n sm sr) {vI : Int} {v : Nat} (ev : vI = v) (hv : v < 1024) (h1 : UN G n sm sr v → Q (some (VI 1)) (W0 L) M) (h0 : ¬ UN G n sm sr v → Q (some (VI 0)) (W0 L) M) : wp Γ mX10_canBe 0 [some (VR 187), some (VI vI)] [] 0 0 (W0 L) M Q := by
  subst ev
  refine vc_go hG 60 (B := bX10_canBe) rfl ?_
  refine And.intro rfl (Exists.intro _ (And.intro rfl ?_))
  refine And.intro (Or.inl rfl) (Exists.intro (v) (And.intro (by omega) (And.intro (show v < 1024 by omega) ?_)))
  rcases ht.nr hv with ⟨a1, a2, -⟩ | ⟨a1, a2⟩
  · refine And.intro (fun y => by omega) (fun y => ?_)
    exact l_canBe hG hh hv h1 h0 n 0 1 (by omega) (Or.inl ⟨rfl, a1, fun i hi => absurd hi (Nat.not_lt_zero i)⟩)
  · refine And.intro (fun y => ?_) (fun y => by omega)
    exact l_canBe hG hh hv h1 h0 n 0 0 (by omega) (Or.inr ⟨rfl, fun x => a1 x.1⟩)
theorem l_munseen (hG : GOK Γ) (ht : NF M G) (hh : mSn M n sm sr) {w : Int} (h : ∀ x l, LW (UN G n sm sr) 1024 x l → Q (some (VI (if w = 0 then x else l))) (W0 L) M) : ∀ (j e : Nat) (x l : Int), e + j = 1024 → LW (UN G n sm sr) e x l → wp Γ mX10_unseen 32 [some (VR 187), some (VI w), some (VI x), some (VI l), some (VI e)] [] 0 0 (W0 L) M Q := by
  intro j
  induction j with
  | zero =>
    intro e x l hj hL
    have ee : e = 1024 := by omega
    subst ee
    have fin := h x l hL
    refine vc_go hG 60 (B := bX10_unseen) rfl ?_
    refine And.intro (fun y => ?_) (fun y => by omega)
    refine And.intro (fun y => ?_) (fun y => ?_)
    · rw [if_neg y] at fin
      exact fin
    · rw [if_pos y] at fin
      exact fin
  | succ j ih =>
    intro e x l hj hL
    have hb := hL.b
    refine vc_go hG 60 (B := bX10_unseen) rfl ?_
    refine And.intro (fun y => by omega) (fun y => ?_)
    refine And.intro rfl ?_
    refine m_canBe hG ht hh rfl (by omega) (fun a1 => ?_) (fun a1 => ?_)
    · refine And.intro (fun y => absurd y (by decide)) (fun y => ?_)
      refine And.intro (fun y4 => ?_) (fun y4 => ?_)
      · exact And.intro (by omega) (And.intro (by omega) (ih (e + 1) (x + 1) l (by omega) (hL.y a1 rfl (fun z => absurd z y4) (fun _ => rfl))))
      · exact And.intro (by omega) (And.intro (by omega) (ih (e + 1) (x + 1) e (by omega) (hL.y a1 rfl (fun _ => rfl) (fun z => absurd y4 z))))
    · refine And.intro (fun y => ?_) (fun y => absurd rfl y)
      exact And.intro (by omega) (ih (e + 1) x l (by omega) (hL.n a1))
theorem UN_0 : ¬ UN G n sm sr 0 := fun z => by have := UN_odd z; omega
theorem y_unseen (hG : GOK Γ) (hc : MR M S) {w : Int} (h : OutMR Q L M S (unsR S w)) : wp Γ mX10_unseen 0 [some (VR 187), some (VI w)] [] 0 0 (W0 L) M Q := by
  have hc0 := hc.th
  have f0 := frM_th M
  refine vc_go hG 60 (B := bX10_unseen) rfl ?_
  refine And.intro rfl ?_
  refine m_in hG (fun z => ?_) (fun z => And.intro (fun c => absurd rfl c) (fun c => h _ _ (Or.inl ⟨z, rfl⟩) hc0 f0))
  refine And.intro (fun y => ?_) (fun y => absurd y (by decide))
  refine And.intro rfl (Exists.intro _ (And.intro rfl ?_))
  refine And.intro rfl ?_
  refine m_nearsOf hG (RwL_s L) (by decide) (by decide) hc0.1 hc0.2.1 (fun M1 o1 t1 f1 => ?_)
  have hc1 := hc0.n9 f1
  refine l_munseen hG t1 hc1.2.2.2.2.2 (fun x l hL => ?_) 1023 1 0 (-9) rfl (LW_1 UN_0)
  refine h _ _ (Or.inr ⟨z, ?_⟩) hc1 (f0.t f1.m)
  by_cases c : w = 0
  · rw [if_pos c]
    exact Or.inl ⟨c, hL.1⟩
  · rw [if_neg c]
    exact Or.inr ⟨by omega, hL.l (fun e he => by have := UN_odd he; omega)⟩
theorem l_leaving (hG : GOK Γ) (ht : NF M G) (hh : mSn M n sm sr) {m r : Nat} (hm : 1 ≤ m) (h : Q (some (VI (cR (UN G n sm sr) m 1024 r : Nat))) (W0 L) M) : ∀ (j e : Nat), e + j = 1024 → wp Γ mX10_leaving 5 [some (VR 187), some (VI m), some (VI r), some (VI (cR (UN G n sm sr) m e r : Nat)), some (VI e)] [] 0 0 (W0 L) M Q := by
  intro j
  induction j with
  | zero =>
    intro e hj
    have ee : e = 1024 := by omega
    subst ee
    refine vc_go hG 60 (B := bX10_leaving) rfl ?_
    exact And.intro (fun y => h) (fun y => by omega)
  | succ j ih =>
    intro e hj
    have hb := cP_le (fun v => UN G n sm sr v ∧ v % m = r) e
    have nx := ih (e + 1) (by omega)
    unfold cR at nx ⊢
    have em : (e : Int) % (m : Int) = ((e % m : Nat) : Int) := rfl
    refine vc_go hG 60 (B := bX10_leaving) rfl ?_
    refine And.intro (fun y => by omega) (fun y => ?_)
    refine And.intro ⟨by omega, by omega⟩ ?_
    rw [em]
    refine And.intro (fun y2 => ?_) (fun y2 => ?_)
    · rw [cP_n (fun z => y2 (by rw [z.2]))] at nx
      exact And.intro (by omega) (And.intro (by omega) (by rw [Int.add_zero]; exact nx))
    · have y3 : e % m = r := by omega
      refine And.intro rfl ?_
      refine m_canBe hG ht hh rfl (by omega) (fun a1 => ?_) (fun a1 => ?_)
      · refine And.intro (fun y => absurd y (by decide)) (fun y => ?_)
        rw [cP_y ⟨a1, y3⟩] at nx
        exact And.intro (by omega) (And.intro (by omega) nx)
      · refine And.intro (fun y => ?_) (fun y => absurd rfl y)
        rw [cP_n (fun z => a1 z.1)] at nx
        exact And.intro (by omega) (And.intro (by omega) (by rw [Int.add_zero]; exact nx))
theorem m_leaving (hG : GOK Γ) (ht : NF M G) (hh : mSn M n sm sr) {mI rI : Int} {m r : Nat} (em : mI = m) (er : rI = r) (hm : 1 ≤ m) (h : Q (some (VI (cR (UN G n sm sr) m 1024 r : Nat))) (W0 L) M) : wp Γ mX10_leaving 0 [some (VR 187), some (VI mI), some (VI rI)] [] 0 0 (W0 L) M Q := by
  subst em er
  refine vc_go hG 60 (B := bX10_leaving) rfl ?_
  have := l_leaving hG ht hh hm h 1023 1 rfl
  unfold cR at this
  rw [cP_n (k := 0) (fun z => UN_0 z.1)] at this
  exact this
theorem nx56 (hG : GOK Γ) (ht : NF M G) (hh : mSn M n sm sr) {m : Nat} (hm : 2 ≤ m ∧ m ≤ 9) {a b c : Int} (h : wp Γ mX10_next 95 [some (VR 187), some (VI a), some (VI b), some (VI c), some (VI m), some (VI (mxD (cR (UN G n sm sr) m 1024) m : Nat))] [] 0 0 (W0 L) M Q) : ∀ (j r : Nat), r + j = m → wp Γ mX10_next 56 [some (VR 187), some (VI a), some (VI b), some (VI c), some (VI m), some (VI (mxD (cR (UN G n sm sr) m 1024) r : Nat)), some (VI r)] [] 0 0 (W0 L) M Q := by
  intro j
  induction j with
  | zero =>
    intro r hj
    have ee : r = m := by omega
    subst ee
    refine vc_goS hG 60 [95] (B := bX10_next) rfl ?_
    refine And.intro (fun y => ?_) (fun y => by omega)
    exact wp_pre [some (VR 187), some (VI a), some (VI b), some (VI c), some (VI r), some (VI (mxD (cR (UN G n sm sr) r 1024) r : Nat))] [some (VI r)] h
  | succ j ih =>
    intro r hj
    have nx := ih (r + 1) (by omega)
    rw [show mxD (cR (UN G n sm sr) m 1024) (r + 1) = max (mxD (cR (UN G n sm sr) m 1024) r) (cR (UN G n sm sr) m 1024 r) from rfl] at nx
    refine vc_go hG 60 (B := bX10_next) rfl ?_
    refine And.intro (fun y => by omega) (fun y => ?_)
    refine And.intro rfl ?_
    refine m_leaving hG ht hh rfl rfl (by omega) ?_
    generalize mxD (cR (UN G n sm sr) m 1024) r = A at *
    generalize cR (UN G n sm sr) m 1024 r = B at *
    refine And.intro (fun y2 => ?_) (fun y2 => ?_)
    · rw [show max A B = A by omega] at nx
      refine And.intro (by omega) ?_
      exact wp_pre [some (VR 187), some (VI a), some (VI b), some (VI c), some (VI m), some (VI A), some (VI ((r + 1 : Nat) : Int))] [some (VI B)] nx
    · rw [show max A B = B by omega] at nx
      refine And.intro (by omega) ?_
      exact wp_pre [some (VR 187), some (VI a), some (VI b), some (VI c), some (VI m), some (VI B), some (VI ((r + 1 : Nat) : Int))] [some (VI B)] nx
theorem nx39 (hG : GOK Γ) (ht : NF M G) (hh : mSn M n sm sr) (h : Q (some (VI (ak (UN G n sm sr) 8).1)) (W0 L) M) : ∀ (j i : Nat), i + j = 8 → wp Γ mX10_next 39 [some (VR 187), some (VI (ak (UN G n sm sr) i).1), some (VI (ak (UN G n sm sr) i).2), some (VI 1), some (VI ((i + 2 : Nat) : Int))] [] 0 0 (W0 L) M Q := by
  intro j
  induction j with
  | zero =>
    intro i hj
    have ee : i = 8 := by omega
    subst ee
    refine vc_go hG 60 (B := bX10_next) rfl ?_
    exact And.intro (fun y => h) (fun y => by omega)
  | succ j ih =>
    intro i hj
    have nx := ih (i + 1) (by omega)
    have ea : ak (UN G n sm sr) (i + 1) = if ((mxD (cR (UN G n sm sr) (i + 2) 1024) (i + 2) : Nat) : Int) < (ak (UN G n sm sr) i).2 then (((i + 2 : Nat) : Int), ((mxD (cR (UN G n sm sr) (i + 2) 1024) (i + 2) : Nat) : Int)) else ak (UN G n sm sr) i := rfl
    rw [ea] at nx
    refine vc_go hG 60 (B := bX10_next) rfl ?_
    refine And.intro (fun y => by omega) (fun y => ?_)
    refine And.intro (fun y => absurd y (by decide)) (fun y => ?_)
    refine nx56 hG ht hh (m := i + 2) (by omega) ?_ (i + 2) 0 (by omega)
    generalize mxD (cR (UN G n sm sr) (i + 2) 1024) (i + 2) = A at *
    refine vc_go hG 60 (B := bX10_next) rfl ?_
    refine And.intro (fun y2 => ?_) (fun y2 => ?_)
    · rw [if_neg (by omega)] at nx
      refine And.intro (fun y3 => ?_) (fun y3 => by omega)
      refine And.intro (by omega) ?_
      exact wp_pre [some (VR 187), some (VI (ak (UN G n sm sr) i).1), some (VI (ak (UN G n sm sr) i).2), some (VI 1), some (VI ((i + 1 + 2 : Nat) : Int))] [some (VI A)] nx
    · rw [if_pos y2] at nx
      refine And.intro (fun y3 => by omega) (fun y3 => ?_)
      refine And.intro (by omega) ?_
      exact wp_pre [some (VR 187), some (VI ((i + 2 : Nat) : Int)), some (VI (A : Int)), some (VI 1), some (VI ((i + 1 + 2 : Nat) : Int))] [some (VI A)] nx
theorem y_next (hG : GOK Γ) (hc : MR M S) (h : OutM Q L M (fNext S)) : wp Γ mX10_next 0 [some (VR 187)] [] 0 0 (W0 L) M Q := by
  have hc0 := hc.th
  have f0 := frM_th M
  refine vc_go hG 60 (B := bX10_next) rfl ?_
  refine And.intro rfl ?_
  refine And.intro rfl (Exists.intro _ (And.intro rfl ?_))
  refine And.intro rfl ?_
  refine m_nearsOf hG (RwL_s L) (by decide) (by decide) hc0.1 hc0.2.1 (fun M1 o1 t1 f1 => ?_)
  have hc1 := hc0.n9 f1
  have f2 := f0.t f1.m
  refine And.intro rfl ?_
  refine m_leaving hG t1 hc1.2.2.2.2.2 (m := 1) (r := 0) rfl rfl (Nat.le_refl _) ?_
  have e1 : cR (UN (sG S) (su S) (sM S) (sR S)) 1 1024 0 = cP (UN (sG S) (su S) (sM S) (sR S)) 1024 := cP_cong (fun v => ⟨fun z => z.1, fun z => ⟨z, Nat.mod_one v⟩⟩) 1024
  rw [e1]
  refine And.intro (fun y => ?_) (fun y => ?_)
  · refine vc_go hG 60 (B := bX10_next) rfl ?_
    refine And.intro (fun y => absurd y (by decide)) (fun _ => ?_)
    refine And.intro (fun _ => ?_) (fun y => absurd rfl y)
    exact h.go (cit_n (by omega)) rfl hc1 f2
  · exact nx39 hG t1 hc1.2.2.2.2.2 (h.go (cit_y (by omega)) rfl hc1 f2) 8 0 rfl
end Mod
end
section
/-! ===== the model: two ===== -/
def BLk (V D : Nat → Nat) (lim last v k s f : Nat) : Prop := (mayV V D lim last s k f ∧ mkM V last k s f = v) ∨ (mayV V D lim k s last f ∧ mkM V k last s f = v)
def BL (V D : Nat → Nat) (lim last v : Nat) : Prop := ∃ k s f, k ≤ last ∧ s ≤ 9 ∧ f ≤ 3 ∧ BLk V D lim last v k s f
section Mod
variable {Γ : GG} {L : Nat} {M : MM} {Q : QT} {V D : Nat → Nat} {lim m v : Nat}
theorem b32 (hG : GOK Γ) (hm : m + 1 ≤ 14) (ho : OdR M (m + 1) V D) (hV : ∀ k, k < m + 1 → V k ≤ 1023) (hD : ∀ k, k < m + 1 → D k ≤ 13) {k s : Nat} (hk : k < m + 1) (hs : s ≤ 9) (h1 : ∀ f, f ≤ 3 → BLk V D lim m v k s f → Q (some (VI 1)) (W0 L) M)
    (h : (∀ f, f < 4 → ¬ BLk V D lim m v k s f) → wp Γ mX10_isByLast 22 [some (VR 187), some (VI v), some (VI lim), some (VI m), some (VI k), some (VI ((s + 1 : Nat) : Int))] [] 0 0 (W0 L) M Q) :
    ∀ (j f : Nat), f + j = 4 → (∀ f', f' < f → ¬ BLk V D lim m v k s f') → wp Γ mX10_isByLast 32 [some (VR 187), some (VI v), some (VI lim), some (VI m), some (VI k), some (VI s), some (VI f)] [] 0 0 (W0 L) M Q := by
  have o1 := (ho.2 m (by omega)).1
  have o2 := (ho.2 k hk).1
  intro j
  induction j with
  | zero =>
    intro f hj hn
    have e : f = 4 := by omega
    subst e
    refine vc_go hG 60 (B := bX10_isByLast) rfl ?_
    refine And.intro (fun y => ?_) (fun y => by omega)
    refine And.intro (by omega) ?_
    exact wp_pre [some (VR 187), some (VI v), some (VI lim), some (VI m), some (VI k), some (VI ((s + 1 : Nat) : Int))] [some (VI 4)] (h hn)
  | succ j ih =>
    intro f hj hn
    have f3 : f ≤ 3 := by omega
    have last : ∀ z z' : Int, ((z = 1 ∧ mayV V D lim m s k f ∧ mkM V m k s f = v) ∨ (z = 0 ∧ ¬ (mayV V D lim m s k f ∧ mkM V m k s f = v))) → ((z' = 1 ∧ mayV V D lim k s m f ∧ mkM V k m s f = v) ∨ (z' = 0 ∧ ¬ (mayV V D lim k s m f ∧ mkM V k m s f = v))) → wp Γ mX10_isByLast 136 [some (VR 187), some (VI v), some (VI lim), some (VI m), some (VI k), some (VI s), some (VI f), some (VI z), some (VI z')] [] 0 0 (W0 L) M Q := by
      intro z z' hz hz'
      refine vc_go hG 60 (B := bX10_isByLast) rfl ?_
      refine And.intro (fun y => And.intro (Or.inr rfl) ?_) (fun y => ?_)
      · rcases hz with ⟨a1, a2⟩ | ⟨a1, a2⟩
        · exact h1 f f3 (Or.inl a2)
        · omega
      · refine And.intro (fun y2 => ?_) (fun y2 => And.intro (Or.inr rfl) ?_)
        · refine And.intro (by omega) ?_
          refine wp_pre [some (VR 187), some (VI v), some (VI lim), some (VI m), some (VI k), some (VI s), some (VI ((f + 1 : Nat) : Int))] [some (VI z), some (VI z')] ?_
          refine ih (f + 1) (by omega) (fun f' hf' => ?_)
          by_cases c : f' = f
          · subst c
            intro q
            rcases q with q | q
            · rcases hz with ⟨a1, a2⟩ | ⟨a1, a2⟩
              · omega
              · exact a2 q
            · rcases hz' with ⟨a1, a2⟩ | ⟨a1, a2⟩
              · omega
              · exact a2 q
          · exact hn f' (by omega)
        · rcases hz' with ⟨a1, a2⟩ | ⟨a1, a2⟩
          · exact h1 f f3 (Or.inr a2)
          · omega
    have mid : ∀ z : Int, ((z = 1 ∧ mayV V D lim m s k f ∧ mkM V m k s f = v) ∨ (z = 0 ∧ ¬ (mayV V D lim m s k f ∧ mkM V m k s f = v))) → wp Γ mX10_isByLast 87 [some (VR 187), some (VI v), some (VI lim), some (VI m), some (VI k), some (VI s), some (VI f), some (VI z)] [] 0 0 (W0 L) M Q := by
      intro z hz
      refine vc_goS hG 60 [136] (B := bX10_isByLast) rfl ?_
      refine And.intro rfl ?_
      refine m_mayBe hG ho hV hD hm rfl rfl rfl rfl rfl hk hs (by omega) f3 (fun mb => ?_) (fun mb => ?_)
      · refine And.intro (fun y => absurd y (by decide)) (fun y => ?_)
        have hc := mb.2.1
        refine And.intro rfl (Exists.intro _ (And.intro rfl ?_))
        refine And.intro (Or.inl rfl) (Exists.intro (k) (And.intro (by omega) (And.intro (show k < 14 by omega) ?_)))
        refine And.intro rfl (Exists.intro _ (And.intro rfl ?_))
        refine And.intro (Or.inl rfl) (Exists.intro (m) (And.intro (by omega) (And.intro (show m < 14 by omega) ?_)))
        refine m_comes hG o2 rfl o1 rfl (hV k hk) hs (hV m (by omega)) f3 ?_
        refine m_oddPart hG rfl (by omega) ?_
        refine And.intro (fun y => ?_) (fun y => ?_)
        · exact last z 0 hz (Or.inr ⟨rfl, fun x => y (by rw [← x.2])⟩)
        · exact last z 1 hz (Or.inl ⟨rfl, mb, Int.ofNat.inj y⟩)
      · refine And.intro (fun y => ?_) (fun y => absurd rfl y)
        exact last z 0 hz (Or.inr ⟨rfl, fun x => mb x.1⟩)
    refine vc_goS hG 60 [87] (B := bX10_isByLast) rfl ?_
    refine And.intro (fun y => by omega) (fun y => ?_)
    refine And.intro rfl ?_
    refine m_mayBe hG ho hV hD hm rfl rfl rfl rfl rfl (by omega) hs hk f3 (fun mb => ?_) (fun mb => ?_)
    · refine And.intro (fun y => absurd y (by decide)) (fun y => ?_)
      have hc := mb.2.1
      refine And.intro rfl (Exists.intro _ (And.intro rfl ?_))
      refine And.intro (Or.inl rfl) (Exists.intro (m) (And.intro (by omega) (And.intro (show m < 14 by omega) ?_)))
      refine And.intro rfl (Exists.intro _ (And.intro rfl ?_))
      refine And.intro (Or.inl rfl) (Exists.intro (k) (And.intro (by omega) (And.intro (show k < 14 by omega) ?_)))
      refine m_comes hG o1 rfl o2 rfl (hV m (by omega)) hs (hV k hk) f3 ?_
      refine m_oddPart hG rfl (by omega) ?_
      refine And.intro (fun y => ?_) (fun y => ?_)
      · exact mid 0 (Or.inr ⟨rfl, fun x => y (by rw [← x.2])⟩)
      · exact mid 1 (Or.inl ⟨rfl, mb, Int.ofNat.inj y⟩)
    · refine And.intro (fun y => ?_) (fun y => absurd rfl y)
      exact mid 0 (Or.inr ⟨rfl, fun x => mb x.1⟩)
theorem b22 (hG : GOK Γ) (hm : m + 1 ≤ 14) (ho : OdR M (m + 1) V D) (hV : ∀ k, k < m + 1 → V k ≤ 1023) (hD : ∀ k, k < m + 1 → D k ≤ 13) {k : Nat} (hk : k < m + 1) (h1 : ∀ s f, s ≤ 9 → f ≤ 3 → BLk V D lim m v k s f → Q (some (VI 1)) (W0 L) M)
    (h : (∀ s f, s < 10 → f < 4 → ¬ BLk V D lim m v k s f) → wp Γ mX10_isByLast 10 [some (VR 187), some (VI v), some (VI lim), some (VI m), some (VI ((k + 1 : Nat) : Int))] [] 0 0 (W0 L) M Q) :
    ∀ (j s : Nat), s + j = 10 → (∀ s' f, s' < s → f < 4 → ¬ BLk V D lim m v k s' f) → wp Γ mX10_isByLast 22 [some (VR 187), some (VI v), some (VI lim), some (VI m), some (VI k), some (VI s)] [] 0 0 (W0 L) M Q := by
  intro j
  induction j with
  | zero =>
    intro s hj hn
    have e : s = 10 := by omega
    subst e
    refine vc_go hG 60 (B := bX10_isByLast) rfl ?_
    refine And.intro (fun y => ?_) (fun y => by omega)
    refine And.intro (by omega) ?_
    exact wp_pre [some (VR 187), some (VI v), some (VI lim), some (VI m), some (VI ((k + 1 : Nat) : Int))] [some (VI 10)] (h hn)
  | succ j ih =>
    intro s hj hn
    refine vc_go hG 60 (B := bX10_isByLast) rfl ?_
    refine And.intro (fun y => by omega) (fun y => ?_)
    refine b32 hG hm ho hV hD hk (by omega) (fun f hf => h1 s f (by omega) hf) (fun hn2 => ?_) 4 0 rfl (fun f' hf' => absurd hf' (Nat.not_lt_zero f'))
    refine ih (s + 1) (by omega) (fun s' f hs' hf => ?_)
    by_cases c : s' = s
    · subst c; exact hn2 f hf
    · exact hn s' f (by omega) hf
theorem b10 (hG : GOK Γ) (hm : m + 1 ≤ 14) (ho : OdR M (m + 1) V D) (hV : ∀ k, k < m + 1 → V k ≤ 1023) (hD : ∀ k, k < m + 1 → D k ≤ 13) (h1 : BL V D lim m v → Q (some (VI 1)) (W0 L) M) (h0 : ¬ BL V D lim m v → Q (some (VI 0)) (W0 L) M) :
    ∀ (j k : Nat), k + j = m + 1 → (∀ k' s f, k' < k → s < 10 → f < 4 → ¬ BLk V D lim m v k' s f) → wp Γ mX10_isByLast 10 [some (VR 187), some (VI v), some (VI lim), some (VI m), some (VI k)] [] 0 0 (W0 L) M Q := by
  have e20 := ho.1
  intro j
  induction j with
  | zero =>
    intro k hj hn
    refine vc_go hG 60 (B := bX10_isByLast) rfl ?_
    refine And.intro rfl ?_
    refine And.intro (fun y => And.intro (Or.inl rfl) (h0 (fun x => ?_))) (fun y => by omega)
    obtain ⟨k', s, f, x1, x2, x3, x4⟩ := x
    exact hn k' s f (by omega) (by omega) (by omega) x4
  | succ j ih =>
    intro k hj hn
    refine vc_go hG 60 (B := bX10_isByLast) rfl ?_
    refine And.intro rfl ?_
    refine And.intro (fun y => by omega) (fun y => ?_)
    refine b22 hG hm ho hV hD (by omega) (fun s f hs hf x => h1 ⟨k, s, f, by omega, hs, hf, x⟩) (fun hn2 => ?_) 10 0 rfl (fun s' f hs' => absurd hs' (Nat.not_lt_zero s'))
    refine ih (k + 1) (by omega) (fun k' s f hk' hs hf => ?_)
    by_cases c : k' = k
    · subst c; exact hn2 s f hs hf
    · exact hn k' s f (by omega) hs hf
theorem m_isByLast (hG : GOK Γ) (hm : m + 1 ≤ 14) (ho : OdR M (m + 1) V D) (hV : ∀ k, k < m + 1 → V k ≤ 1023) (hD : ∀ k, k < m + 1 → D k ≤ 13) {vI lI : Int} (ev : vI = v) (el : lI = lim) (h1 : BL V D lim m v → Q (some (VI 1)) (W0 L) M) (h0 : ¬ BL V D lim m v → Q (some (VI 0)) (W0 L) M) : wp Γ mX10_isByLast 0 [some (VR 187), some (VI vI), some (VI lI)] [] 0 0 (W0 L) M Q := by
  subst ev el
  have e20 := ho.1
  have e : M 187 20 - 1 = (m : Int) := by omega
  refine vc_go hG 60 (B := bX10_isByLast) rfl ?_
  refine And.intro rfl ?_
  refine And.intro (by omega) ?_
  rw [e]
  exact b10 hG hm ho hV hD h1 h0 (m + 1) 0 (by omega) (fun k' s f hk' => absurd hk' (Nat.not_lt_zero k'))
end Mod
/-- a number that is near, and with it v -/
def twM (G : GT) (v e : Nat) : Prop := isNr G e ∧ ∃ p q s f, byW G e p q s f ∧ BL (upN (qV G) (qn G + 1) e) (upN (qD G) (qn G + 1) (dpt G p q)) (qL G) (qn G + 1) v
/-- twoOf changes but what lies behind the odd numbers -/
def frW (M M' : MM) (m : Nat) : Prop := (∀ a, a ≠ 197 → a ≠ 198 → a ≠ 187 → M' a = M a) ∧ (∀ j, j ≠ 20 → M' 187 j = M 187 j) ∧ (∀ k, k ≠ m → M' 197 k = M 197 k ∧ M' 198 k = M 198 k) ∧ (OB M → OB M')
theorem frW.u {M M' : MM} {m : Nat} (h : frW M M' m) {x : Int} (hx : 0 ≤ x ∧ x ≤ 1023) : frW M (upM M' 197 m x) m := ⟨fun a a1 a2 a3 => by rw [upM_ne a1]; exact h.1 a a1 a2 a3, fun j hj => by rw [upM_a (by decide)]; exact h.2.1 j hj, fun k hk => by rw [upM_k hk, upM_a (by decide)]; exact h.2.2.1 k hk, fun z => (h.2.2.2 z).up hx⟩
theorem frW.u2 {M M' : MM} {m : Nat} (h : frW M M' m) {x : Int} (hx : 0 ≤ x ∧ x ≤ 13) : frW M (upM M' 198 m x) m := ⟨fun a a1 a2 a3 => by rw [upM_ne a2]; exact h.1 a a1 a2 a3, fun j hj => by rw [upM_a (by decide)]; exact h.2.1 j hj, fun k hk => by rw [upM_a (by decide), upM_k hk]; exact h.2.2.1 k hk, fun z => (h.2.2.2 z).up2 hx⟩
theorem frW.u3 {M M' : MM} {m : Nat} (h : frW M M' m) {x : Int} : frW M (upM M' 187 20 x) m := ⟨fun a a1 a2 a3 => by rw [upM_ne a3]; exact h.1 a a1 a2 a3, fun j hj => by rw [upM_k hj]; exact h.2.1 j hj, fun k hk => by rw [upM_a (by decide), upM_a (by decide)]; exact h.2.2.1 k hk, fun z => (h.2.2.2 z).up3 (by decide) (by decide)⟩
theorem frW_r (M : MM) (m : Nat) : frW M M m := ⟨fun _ _ _ _ => rfl, fun _ _ => rfl, fun _ _ => ⟨rfl, rfl⟩, fun z => z⟩
section Mod
variable {Γ : GG} {L : Nat} {M : MM} {Q : QT} {G : GT}
theorem l_twoOf (hG : GOK Γ) (hw : WFG G) (ho : OdR M (qn G + 1) (qV G) (qD G)) (ht : NF M G) {v : Nat} (h : ∀ r M', isLst (twM G v) r → OdR M' (qn G + 1) (qV G) (qD G) → NF M' G → frW M M' (qn G + 1) → Q (some (VI r)) (W0 L) M') :
    ∀ (j i : Nat) (r : Int) (M1 : MM), i + j = 512 → M1 187 20 = ((qn G + 2 : Nat) : Int) → frW M M1 (qn G + 1) → ((r = -9 ∧ ∀ e', e' < 2 * i + 1 → ¬ twM G v e') ∨ (∃ e0 : Nat, r = e0 ∧ twM G v e0 ∧ ∀ e', e' < e0 → ¬ twM G v e')) → wp Γ mX10_twoOf 36 [some (VR 187), some (VI (qL G)), some (VI v), some (VI r), some (VI ((2 * i + 1 : Nat) : Int))] [] 0 0 (W0 L) M1 Q := by
  have n12 := hw.1
  have fin : ∀ (r : Int) (e : Int) (M1 : MM), M1 187 20 = ((qn G + 2 : Nat) : Int) → frW M M1 (qn G + 1) → isLst (twM G v) r → wp Γ mX10_twoOf 132 [some (VR 187), some (VI (qL G)), some (VI v), some (VI r), some (VI e)] [] 0 0 (W0 L) M1 Q := by
    intro r e M1 e20 hf hr
    refine vc_go hG 60 (B := bX10_twoOf) rfl ?_
    refine And.intro rfl ?_
    refine And.intro (by omega) ?_
    refine And.intro rfl ?_
    refine h r _ hr ⟨by rw [upM_eq, e20]; omega, fun k hk => ?_⟩ (ht.keep (by rw [upM_ne (by decide)]; exact hf.1 199 (by decide) (by decide) (by decide))) hf.u3
    rw [upM_a (by decide), upM_a (by decide), (hf.2.2.1 k (by omega)).1, (hf.2.2.1 k (by omega)).2]
    exact ho.2 k hk
  intro j
  induction j with
  | zero =>
    intro i r M1 hj e20 hf hr
    refine vc_goS hG 60 [132] (B := bX10_twoOf) rfl ?_
    refine And.intro (fun y => ?_) (fun y => by omega)
    refine fin r _ M1 e20 hf ?_
    rcases hr with ⟨a1, a2⟩ | a1
    · refine Or.inl ⟨a1, fun e z => a2 e ?_ z⟩
      have := isNr_b z.1
      omega
    · exact Or.inr a1
  | succ j ih =>
    intro i r M1 hj e20 hf hr
    refine vc_goS hG 80 [132] (B := bX10_twoOf) rfl ?_
    refine And.intro (fun y => by omega) (fun y => ?_)
    rcases hr with ⟨a1, a2⟩ | ⟨e0, a1, a2⟩
    · refine And.intro (fun y => absurd a1 y) (fun y => ?_)
      have ht1 : NF M1 G := ht.keep (hf.1 199 (by decide) (by decide) (by decide))
      refine And.intro rfl (Exists.intro _ (And.intro rfl ?_))
      refine And.intro (Or.inl rfl) (Exists.intro (2 * i + 1) (And.intro (by omega) (And.intro (show 2 * i + 1 < 1024 by omega) ?_)))
      rcases ht1.nr (v := 2 * i + 1) (by omega) with ⟨b1, b2, p, q, s, f, b3, b4⟩ | ⟨b1, b2⟩
      · refine And.intro (fun y => by omega) (fun y => ?_)
        have bb := byW_b hw b3
        have d1 := WFG_D hw p bb.1
        have d2 := WFG_D hw q bb.2.1
        refine And.intro rfl (Exists.intro _ (And.intro rfl ?_))
        refine And.intro rfl ?_
        refine And.intro (by omega) ?_
        refine And.intro rfl (Exists.intro (qn G + 1) (And.intro (by omega) (And.intro (show qn G + 1 < 14 by omega) ?_)))
        have f2 : frW M (upM M1 197 (qn G + 1) ((2 * i + 1 : Nat) : Int)) (qn G + 1) := hf.u (by omega)
        have od2 : ∀ k, k < qn G + 1 → upM M1 197 (qn G + 1) ((2 * i + 1 : Nat) : Int) 197 k = qV G k ∧ upM M1 197 (qn G + 1) ((2 * i + 1 : Nat) : Int) 198 k = qD G k := fun k hk => by
          rw [(f2.2.2.1 k (by omega)).1, (f2.2.2.1 k (by omega)).2]
          exact ho.2 k hk
        have c4 : upM M1 197 (qn G + 1) ((2 * i + 1 : Nat) : Int) 199 (2 * i + 1) = ((mcd p q s f + 1 : Nat) : Int) := by rw [upM_a (by decide)]; exact b4
        have c20 : upM M1 197 (qn G + 1) ((2 * i + 1 : Nat) : Int) 187 20 = ((qn G + 2 : Nat) : Int) := by rw [upM_a (by decide)]; exact e20
        have c9 : upM M1 197 (qn G + 1) ((2 * i + 1 : Nat) : Int) 197 (qn G + 1) = ((2 * i + 1 : Nat) : Int) := upM_eq
        generalize upM M1 197 (qn G + 1) ((2 * i + 1 : Nat) : Int) = M2 at f2 od2 c4 c20 c9
        refine And.intro rfl (Exists.intro _ (And.intro rfl ?_))
        refine And.intro rfl ?_
        refine And.intro (by omega) ?_
        refine And.intro rfl (Exists.intro _ (And.intro rfl ?_))
        refine And.intro (Or.inl rfl) (Exists.intro (2 * i + 1) (And.intro (by omega) (And.intro (show 2 * i + 1 < 1024 by omega) ?_)))
        refine m_partOf hG c4 (by omega) (by omega) bb.2.2.1 bb.2.2.2.1 ?_
        refine And.intro rfl (Exists.intro _ (And.intro rfl ?_))
        refine And.intro (Or.inl rfl) (Exists.intro (2 * i + 1) (And.intro (by omega) (And.intro (show 2 * i + 1 < 1024 by omega) ?_)))
        refine m_partOf hG c4 (by omega) (by omega) bb.2.2.1 bb.2.2.2.1 ?_
        refine And.intro rfl ?_
        refine m_deeperB hG (m := qn G + 1) od2 (fun k hk => by have := WFG_D hw k (by omega); omega) rfl rfl (by omega) (by omega) (by omega) ?_
        refine And.intro rfl (Exists.intro (qn G + 1) (And.intro (by omega) (And.intro (show qn G + 1 < 14 by omega) ?_)))
        have dl : dpt G p q ≤ 13 := by
          show max (qD G p) (qD G q) + 1 ≤ 13
          omega
        have f3 : frW M (upM M2 198 (qn G + 1) ((dpt G p q : Nat) : Int)) (qn G + 1) := f2.u2 ⟨Int.natCast_nonneg _, Int.ofNat_le.mpr dl⟩
        have g20 : upM M2 198 (qn G + 1) ((dpt G p q : Nat) : Int) 187 20 = ((qn G + 2 : Nat) : Int) := by rw [upM_a (by decide)]; exact c20
        have od3 : OdR (upM M2 198 (qn G + 1) ((dpt G p q : Nat) : Int)) (qn G + 1 + 1) (upN (qV G) (qn G + 1) (2 * i + 1)) (upN (qD G) (qn G + 1) (dpt G p q)) := by
          refine ⟨g20, fun k hk => ?_⟩
          by_cases c : k = qn G + 1
          · subst c
            rw [upM_a (by decide), upM_eq, upN_eq, upN_eq]
            exact ⟨c9, rfl⟩
          · rw [upN_ne c, upN_ne c, upM_a (by decide), upM_k c]
            exact od2 k (by omega)
        refine And.intro rfl ?_
        refine m_isByLast hG (by omega) od3 (fun k hk => ?_) (fun k hk => ?_) rfl rfl (fun bl => ?_) (fun bl => ?_)
        · by_cases c : k = qn G + 1
          · subst c; rw [upN_eq]; omega
          · rw [upN_ne c]; exact (WFG_V hw k (by omega)).2.1
        · by_cases c : k = qn G + 1
          · subst c; rw [upN_eq]; show max (qD G p) (qD G q) + 1 ≤ 13; omega
          · rw [upN_ne c]; have := WFG_D hw k (by omega); omega
        · refine And.intro (fun y => absurd y (by decide)) (fun y => ?_)
          refine And.intro (by omega) ?_
          exact ih (i + 1) _ _ (by omega) g20 f3 (Or.inr ⟨2 * i + 1, rfl, ⟨b1, p, q, s, f, b3, bl⟩, a2⟩)
        · refine And.intro (fun y => ?_) (fun y => absurd rfl y)
          refine And.intro (by omega) ?_
          refine ih (i + 1) r _ (by omega) g20 f3 (Or.inl ⟨a1, fun e' he' x => ?_⟩)
          by_cases c1 : e' < 2 * i + 1
          · exact a2 e' c1 x
          · obtain ⟨x1, p', q', s', g', x2, x3⟩ := x
            have xo := isNr_b x1
            have ee : e' = 2 * i + 1 := by omega
            subst ee
            obtain ⟨u1, u2, u3, u4⟩ := byW_u hw b3 x2
            subst u1 u2 u3 u4
            exact bl x3
      · refine And.intro (fun y => ?_) (fun y => by omega)
        refine And.intro (by omega) ?_
        refine ih (i + 1) r M1 (by omega) e20 hf (Or.inl ⟨a1, fun e' he' x => ?_⟩)
        by_cases c1 : e' < 2 * i + 1
        · exact a2 e' c1 x
        · have xo := isNr_b x.1
          have ee : e' = 2 * i + 1 := by omega
          subst ee
          exact b1 x.1
    · refine And.intro (fun y => ?_) (fun y => by omega)
      exact fin r _ M1 e20 hf (Or.inr ⟨e0, a1, a2⟩)
theorem m_twoOf (hG : GOK Γ) (hw : WFG G) (ho : OdR M (qn G + 1) (qV G) (qD G)) (ht : NF M G) {lI vI : Int} {v : Nat} (el : lI = qL G) (ev : vI = v) (hv : v < 1024) (h : ∀ r M', isLst (fun e => (¬ isTh G v ∧ ¬ isNr G v) ∧ twM G v e) r → OdR M' (qn G + 1) (qV G) (qD G) → NF M' G → frW M M' (qn G + 1) → Q (some (VI r)) (W0 L) M') : wp Γ mX10_twoOf 0 [some (VR 187), some (VI lI), some (VI vI)] [] 0 0 (W0 L) M Q := by
  subst el ev
  have n12 := hw.1
  have e20 := ho.1
  refine vc_go hG 60 (B := bX10_twoOf) rfl ?_
  refine And.intro rfl ?_
  refine m_isOdds hG ho (by omega) rfl (fun q => ?_) (fun q => ?_)
  · refine And.intro (fun y => ?_) (fun y => absurd y (by decide))
    exact h _ M (Or.inl ⟨rfl, fun e z => z.1.1 q⟩) ho ht (frW_r M _)
  · refine And.intro (fun y => absurd rfl y) (fun y => ?_)
    refine And.intro rfl (Exists.intro _ (And.intro rfl ?_))
    refine And.intro (Or.inl rfl) (Exists.intro (v) (And.intro (by omega) (And.intro (show v < 1024 by omega) ?_)))
    rcases ht.nr hv with ⟨b1, b2, -⟩ | ⟨b1, b2⟩
    · refine And.intro (fun y => by omega) (fun y => ?_)
      exact h _ M (Or.inl ⟨rfl, fun e z => z.1.2 b1⟩) ho ht (frW_r M _)
    · refine And.intro (fun y => ?_) (fun y => by omega)
      have nt : ¬ isTh G v := fun ⟨k, k1, k2⟩ => q k k1 k2
      refine And.intro rfl ?_
      refine And.intro (by omega) ?_
      refine And.intro rfl ?_
      refine l_twoOf hG hw ho ht (fun r M' hr => h r M' ?_) 512 0 (-9) _ rfl (by rw [upM_eq, e20]; omega) (frW_r M _).u3 (Or.inl ⟨rfl, fun e' he' x => ?_⟩)
      · rcases hr with ⟨a1, a2⟩ | ⟨e0, a1, a2, a3⟩
        · exact Or.inl ⟨a1, fun e z => a2 e z.2⟩
        · exact Or.inr ⟨e0, a1, ⟨⟨nt, b1⟩, a2⟩, fun e' he' z => a3 e' he' z.2⟩
      · have := isNr_b x.1
        omega
end Mod
end
section
/-! ===== two: the model's and the class's numbers are the same ===== -/
theorem pw_le {e t : Nat} (h : e * 2 ^ t ≤ 1023) (he : 1 ≤ e) : t ≤ 9 := by
  by_cases c : t ≤ 9
  · exact c
  · exfalso
    have h1 : 2 ^ 10 ≤ 2 ^ t := Nat.pow_le_pow_right (by decide) (by omega)
    have h2 : 1 * 2 ^ t ≤ e * 2 ^ t := Nat.mul_le_mul_right _ he
    omega
theorem pw_le2 {e t : Nat} (h : e * 2 ^ t ≤ 2047) (he : 2 ≤ e) : t ≤ 9 := by
  by_cases c : t ≤ 9
  · exact c
  · exfalso
    have h1 : 2 ^ 10 ≤ 2 ^ t := Nat.pow_le_pow_right (by decide) (by omega)
    have h2 : 2 * 2 ^ t ≤ e * 2 ^ t := Nat.mul_le_mul_right _ he
    omega
theorem cm0 (p s q : Nat) : cms p s q 0 = p * 2 ^ s + q := rfl
theorem cm1 (p s q : Nat) : cms p s q 1 = (p * 2 ^ s - q) + (q - p * 2 ^ s) := rfl
theorem cm2 (p s q : Nat) : cms p s q 2 = p + q * 2 ^ s := rfl
theorem cm3 (p s q : Nat) : cms p s q 3 = (p - q * 2 ^ s) + (q * 2 ^ s - p) := rfl
theorem odp_pow {e s n : Nat} (he : e % 2 = 1) (hn : n = e * 2 ^ s) (h : n < 2048) : odp n = e := by
  have h0 : n ≠ 0 := by
    intro z
    rw [z] at hn
    have : 1 * 1 ≤ e * 2 ^ s := Nat.mul_le_mul (by omega) Nat.one_le_two_pow
    omega
  exact (odp_iff h0 h he).2 ⟨s, hn⟩
theorem cw_fwd {e s y f c : Nat} (he : e % 2 = 1) (hc : 1 ≤ c ∧ c ≤ 1023) (hy : y ≤ 1023) (hs : s ≤ 9) (hf : f ≤ 3) (h : cms e s y f = c) : (e = odp (c + y) ∨ e = odp ((c - y) + (y - c))) ∨ ∃ s, s < 10 ∧ (e = c + y * 2 ^ s ∨ e = (c - y * 2 ^ s) + (y * 2 ^ s - c)) := by
  have cf : f = 0 ∨ f = 1 ∨ f = 2 ∨ f = 3 := by omega
  rcases cf with q | q | q | q
  · subst q
    rw [cm0] at h
    exact Or.inl (Or.inr (odp_pow he (show (c - y) + (y - c) = e * 2 ^ s by omega) (by omega)).symm)
  · subst q
    rw [cm1] at h
    by_cases d : y ≤ e * 2 ^ s
    · exact Or.inl (Or.inl (odp_pow he (show c + y = e * 2 ^ s by omega) (by omega)).symm)
    · exact Or.inl (Or.inr (odp_pow he (show (c - y) + (y - c) = e * 2 ^ s by omega) (by omega)).symm)
  · subst q
    rw [cm2] at h
    exact Or.inr ⟨s, by omega, Or.inr (by omega)⟩
  · subst q
    rw [cm3] at h
    by_cases d : y * 2 ^ s ≤ e
    · exact Or.inr ⟨s, by omega, Or.inl (by omega)⟩
    · exact Or.inr ⟨s, by omega, Or.inr (by omega)⟩
theorem cw_bwd {e y c : Nat} (he : e % 2 = 1) (he1 : e ≠ 1) (hc : 1 ≤ c ∧ c ≤ 1023) (hy : y ≤ 1023) (h : (e = odp (c + y) ∨ e = odp ((c - y) + (y - c))) ∨ ∃ s, s < 10 ∧ (e = c + y * 2 ^ s ∨ e = (c - y * 2 ^ s) + (y * 2 ^ s - c))) : ∃ s f, s ≤ 9 ∧ f ≤ 3 ∧ cms e s y f = c := by
  rcases h with (h | h) | ⟨s, hs, h | h⟩
  · have m := odp_mul (c + y)
    rw [← h] at m
    have t := pw_le2 (e := e) (t := hv (c + y)) (by omega) (by omega)
    exact ⟨hv (c + y), 1, t, by decide, by rw [cm1]; omega⟩
  · have m := odp_mul ((c - y) + (y - c))
    rw [← h] at m
    have t := pw_le (e := e) (t := hv ((c - y) + (y - c))) (by omega) (by omega)
    have n0 : (c - y) + (y - c) ≠ 0 := by
      intro z
      rw [z, odp_0] at h
      omega
    by_cases d : y < c
    · exact ⟨_, 0, t, by decide, by rw [cm0]; omega⟩
    · exact ⟨_, 1, t, by decide, by rw [cm1]; omega⟩
  · exact ⟨s, 3, by omega, by decide, by rw [cm3]; omega⟩
  · by_cases d : y * 2 ^ s ≤ c
    · exact ⟨s, 2, by omega, by decide, by rw [cm2]; omega⟩
    · exact ⟨s, 3, by omega, by decide, by rw [cm3]; omega⟩
theorem mulS (e s : Nat) : e * (2 ^ s + 1) = e * 2 ^ s + e ∧ e * (2 ^ s - 1) = e * 2 ^ s - e := ⟨by rw [Nat.mul_add, Nat.mul_one], by rw [Nat.mul_sub, Nat.mul_one]⟩
theorem ca_fwd {e s f c : Nat} (hf : f ≤ 3) (h : cms e s e f = c) : e * (2 ^ s + 1) = c ∨ e * (2 ^ s - 1) = c := by
  obtain ⟨m1, m2⟩ := mulS e s
  rw [m1, m2]
  have l : e * 1 ≤ e * 2 ^ s := Nat.mul_le_mul_left _ Nat.one_le_two_pow
  have cf : f = 0 ∨ f = 1 ∨ f = 2 ∨ f = 3 := by omega
  rcases cf with q | q | q | q
  · subst q
    rw [cm0] at h
    exact Or.inl h
  · subst q
    rw [cm1] at h
    exact Or.inr (by omega)
  · subst q
    rw [cm2] at h
    exact Or.inl (by omega)
  · subst q
    rw [cm3] at h
    exact Or.inr (by omega)
theorem ca_bwd {e s c : Nat} (h : e * (2 ^ s + 1) = c ∨ e * (2 ^ s - 1) = c) : ∃ f, f ≤ 3 ∧ cms e s e f = c := by
  obtain ⟨m1, m2⟩ := mulS e s
  rw [m1, m2] at h
  have l : e * 1 ≤ e * 2 ^ s := Nat.mul_le_mul_left _ Nat.one_le_two_pow
  rcases h with h | h
  · exact ⟨0, by decide, by rw [cm0]; exact h⟩
  · exact ⟨1, by decide, by rw [cm1]; omega⟩
theorem BL_red {V D : Nat → Nat} {lim m v : Nat} (h : BL V D lim m v) : ∃ k s f, k ≤ m ∧ s ≤ 9 ∧ f ≤ 3 ∧ mayV V D lim m s k f ∧ mkM V m k s f = v := by
  obtain ⟨k, s, f, h1, h2, h3, h4 | h4⟩ := h
  · exact ⟨k, s, f, h1, h2, h3, h4⟩
  · have e := cms_mir (p := V k) (s := s) (q := V m) h3
    refine ⟨k, s, (f + 2) % 4, h1, h2, by omega, ?_, ?_⟩
    · have h5 := h4.1
      unfold mayV at h5 ⊢
      rw [e]
      exact ⟨h5.1, h5.2.1, by omega⟩
    · show odp (cms (V m) s (V k) ((f + 2) % 4)) = v
      rw [e]
      exact h4.2
theorem tw_fwd {G : GT} (hw : WFG G) {v e : Nat} (hvo : v % 2 = 1 ∧ v ≤ 1023) (hfar : ¬ isTh G v ∧ ¬ isNr G v) (h : twM G v e) : cnB G v 10 e := by
  obtain ⟨hn, p, q, s0, f0, hb, hB⟩ := h
  obtain ⟨k, s, f, k1, k2, k3, k4, k5⟩ := BL_red hB
  have eo := isNr_b hn
  obtain ⟨b1, b2, b3⟩ := k4
  rw [upN_eq] at b1 b2 b3
  have k5 : odp (cms (upN (qV G) (qn G + 1) e (qn G + 1)) s (upN (qV G) (qn G + 1) e k) f) = v := k5
  rw [upN_eq] at k5
  generalize hY : upN (qV G) (qn G + 1) e k = Y at b1 b2 k5
  generalize hZ : upN (qD G) (qn G + 1) (dpt G p q) k = Z at b3
  have m := odp_mul (cms e s Y f)
  rw [k5] at m
  have us : isUs G e := ⟨eo, hn.2.1, p, q, s0, f0, hb, by show dpt G p q < qL G; omega⟩
  have d9 := pw_le (e := v) (t := hv (cms e s Y f)) (by omega) (by omega)
  refine ⟨hv (cms e s Y f), by omega, by omega, ?_⟩
  rw [m]
  by_cases c : k = qn G + 1
  · subst c
    rw [upN_eq] at hY
    subst hY
    refine Or.inl ⟨us, s, ?_, by omega, ca_fwd k3 rfl⟩
    by_cases s0 : 1 ≤ s
    · exact s0
    · exfalso
      have z : s = 0 := by omega
      subst z
      rcases ca_fwd (e := e) (s := 0) k3 rfl with x | x
      · have oe : odp (cms e 0 e f) = e := odp_pow (s := 1) eo.1 (by rw [← x]) (by omega)
        rw [k5] at oe
        subst oe
        exact hfar.2 hn
      · simp at x
        omega
  · rw [upN_ne c] at hY hZ
    subst hY hZ
    refine Or.inr ⟨k, by omega, by omega, ?_⟩
    rcases cw_fwd (e := e) (s := s) (y := qV G k) (f := f) eo.1 ⟨b1, b2⟩ (WFG_V hw k (by omega)).2.1 k2 k3 rfl with x | ⟨s', x1, x2⟩
    · exact Or.inl ⟨us, x⟩
    · exact Or.inr ⟨us, s', x1, x2⟩
theorem tw_bwd {G : GT} (hw : WFG G) {v e : Nat} (hv : v % 2 = 1 ∧ v ≤ 1023) (h : cnB G v 10 e) : twM G v e := by
  obtain ⟨d, d1, d2, hK⟩ := h
  have us := cnK_us hK
  obtain ⟨eo, nt, p, q, s0, f0, hb, hd⟩ := id us
  have c1 : 1 ≤ v * 2 ^ d := by
    have : 1 * 1 ≤ v * 2 ^ d := Nat.mul_le_mul (by omega) Nat.one_le_two_pow
    omega
  have e1 : e ≠ 1 := fun z => nt ⟨0, by omega, by rw [hw.2.2.2.1]; exact z.symm⟩
  refine ⟨isUs_nr us, p, q, s0, f0, hb, ?_⟩
  have fin : ∀ k s f, k ≤ qn G + 1 → s ≤ 9 → f ≤ 3 → max (dpt G p q) (upN (qD G) (qn G + 1) (dpt G p q) k) + 1 ≤ qL G → cms e s (upN (qV G) (qn G + 1) e k) f = v * 2 ^ d → BL (upN (qV G) (qn G + 1) e) (upN (qD G) (qn G + 1) (dpt G p q)) (qL G) (qn G + 1) v := by
    intro k s f hk hs hf hdd hc
    refine ⟨k, s, f, hk, hs, hf, Or.inl ⟨⟨?_, ?_, ?_⟩, ?_⟩⟩
    · rw [upN_eq, hc]; exact c1
    · rw [upN_eq, hc]; exact d2
    · rw [upN_eq]; exact hdd
    · show odp (cms (upN (qV G) (qn G + 1) e (qn G + 1)) s (upN (qV G) (qn G + 1) e k) f) = v
      rw [upN_eq, hc]
      exact odp_pow hv.1 rfl (by omega)
  rcases hK with ⟨-, s, s1, s2, hA⟩ | ⟨k, k1, k2, hW⟩
  · obtain ⟨f, f1, f2⟩ := ca_bwd hA
    exact fin (qn G + 1) s f (Nat.le_refl _) (by omega) f1 (by rw [upN_eq]; omega) (by rw [upN_eq]; exact f2)
  · have hh : (e = odp (v * 2 ^ d + qV G k) ∨ e = odp ((v * 2 ^ d - qV G k) + (qV G k - v * 2 ^ d))) ∨ ∃ s, s < 10 ∧ (e = v * 2 ^ d + qV G k * 2 ^ s ∨ e = (v * 2 ^ d - qV G k * 2 ^ s) + (qV G k * 2 ^ s - v * 2 ^ d)) := by
      rcases hW with ⟨-, x⟩ | ⟨-, x⟩
      · exact Or.inl x
      · exact Or.inr x
    obtain ⟨s, f, s1, f1, x⟩ := cw_bwd eo.1 e1 ⟨c1, d2⟩ (WFG_V hw k (by omega)).2.1 hh
    exact fin k s f (by omega) s1 f1 (by rw [upN_ne (by omega)]; omega) (by rw [upN_ne (by omega)]; exact x)
theorem NF.far {M : MM} {G : GT} (h : NF M G) {v : Nat} (hv : v < 1024) : isFar G v ↔ (¬ isTh G v ∧ ¬ isNr G v) := by
  constructor
  · rintro ⟨a1, a2⟩
    refine ⟨a1, fun z => ?_⟩
    obtain ⟨p, q, s, f, z⟩ := z.2.2
    exact a2 p q s f z.1 z.2.1
  · rintro ⟨a1, a2⟩
    rcases h v hv with ⟨b1, -⟩ | ⟨b1, b2, -⟩ | ⟨b1, p, q, s, f, b2, -⟩
    · exact absurd b1 a1
    · exact ⟨b1, b2⟩
    · exact absurd ⟨byW_odd b2, b1, p, q, s, f, b2⟩ a2
theorem isLst_c {P P' : Nat → Prop} {r : Int} (h : isLst P r) (hp : ∀ e, P e ↔ P' e) : isLst P' r := by
  rcases h with ⟨a1, a2⟩ | ⟨e, a1, a2, a3⟩
  · exact Or.inl ⟨a1, fun e z => a2 e ((hp e).2 z)⟩
  · exact Or.inr ⟨e, a1, (hp e).1 a2, fun e' he z => a3 e' he ((hp e').2 z)⟩
theorem tw_two {M : MM} {G : GT} (hw : WFG G) (ht : NF M G) {v : Nat} (hv : v % 2 = 1 ∧ v ≤ 1023) {r : Int} (h : isLst (fun e => (¬ isTh G v ∧ ¬ isNr G v) ∧ twM G v e) r) : isTwo G v r := by
  refine isLst_c h (fun e => ?_)
  have f := ht.far (v := v) (by omega)
  exact ⟨fun z => ⟨f.2 z.1, tw_fwd hw hv z.1 z.2⟩, fun z => ⟨f.1 z.1, tw_bwd hw hv z.2⟩⟩
theorem frW.n9 {M M' : MM} {m : Nat} (h : frW M M' m) : frN9 M M' := ⟨fun a a1 a2 a3 _ => h.1 a a2 a3 a1, h.2.1, h.2.2.2⟩
section Mod
variable {Γ : GG} {L : Nat} {M : MM} {Q : QT} {S : ST} {G : GT}
theorem m_two (hG : GOK Γ) (hw : WFG G) (ho : OdR M (qn G + 1) (qV G) (qD G)) (ht : NF M G) {lI vI : Int} {v : Nat} (el : lI = qL G) (ev : vI = v) (hv : v % 2 = 1 ∧ v ≤ 1023) (h : ∀ r M', isTwo G v r → OdR M' (qn G + 1) (qV G) (qD G) → NF M' G → frN9 M M' → Q (some (VI r)) (W0 L) M') : wp Γ mX10_twoOf 0 [some (VR 187), some (VI lI), some (VI vI)] [] 0 0 (W0 L) M Q :=
  m_twoOf hG hw ho ht el ev (by omega) (fun r M' z1 z2 z3 z4 => h r M' (tw_two hw ht hv z1) z2 z3 z4.n9)
theorem y_two (hG : GOK Γ) (hc : MR M S) {v : Int} (h : OutMR Q L M S (twoR (sG S) v)) : wp Γ mX10_two 0 [some (VR 187), some (VI v)] [] 0 0 (W0 L) M Q := by
  have hc0 := hc.th
  have f0 := frM_th M
  refine vc_go hG 60 (B := bX10_two) rfl ?_
  refine And.intro rfl ?_
  refine m_isOddNumber hG (fun ho => ?_) (fun ho => And.intro (fun y => absurd rfl y) (fun y => h _ _ (Or.inl ⟨ho, rfl⟩) hc0 f0))
  refine And.intro (fun y => ?_) (fun y => absurd y (by decide))
  obtain ⟨u1, u2, u3⟩ := id ho
  refine And.intro rfl (Exists.intro _ (And.intro rfl ?_))
  refine And.intro rfl ?_
  refine m_nearsOf hG (RwL_s L) (by decide) (by decide) hc0.1 hc0.2.1 (fun M1 o1 t1 f1 => ?_)
  have hc1 := hc0.n9 f1
  refine And.intro rfl (Exists.intro _ (And.intro rfl ?_))
  refine And.intro (Or.inl rfl) (Exists.intro (56) (And.intro (by omega) (And.intro (show 56 < 57 by omega) ?_)))
  refine And.intro rfl ?_
  refine m_two hG hc.2.1 o1 t1 hc1.1.2.2.1 (v := v.toNat) (by omega) (by omega) (fun r M2 z1 z2 z3 z4 => ?_)
  exact h r M2 (Or.inr ⟨ho, z1⟩) (hc1.n9 z4) ((f0.t f1.m).t z4.m)
end Mod
end
