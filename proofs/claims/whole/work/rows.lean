section
def lw_okq (q : MethodName × Nat) : Prop := (q.1.cls ≠ "java/lang/invoke/MethodHandle" ∧ q.1.cls ≠ "java/lang/invoke/VarHandle") ∧ Cond.instantiable q.1.cls q.2 ∈ tables_1 ∧ Cond.privateMethod q.1 ∈ tables_1 ∧ Cond.instanceMethod q.1 ∈ tables_1
theorem lw_p0 : lw_okq (⟨"BackwardsLine$Text", "readItem", "(LBackwardsLine$Plan;I)I"⟩, 3) := ⟨⟨by decide +kernel, by decide +kernel⟩, List.mem_of_getElem? (i := 26) (by decide +kernel), List.mem_of_getElem? (i := 265) (by decide +kernel), List.mem_of_getElem? (i := 266) (by decide +kernel)⟩
theorem lw_p1 : lw_okq (⟨"BackwardsLine$Text", "letterAt", "(I)I"⟩, 3) := ⟨⟨by decide +kernel, by decide +kernel⟩, List.mem_of_getElem? (i := 26) (by decide +kernel), List.mem_of_getElem? (i := 269) (by decide +kernel), List.mem_of_getElem? (i := 270) (by decide +kernel)⟩
theorem lw_p2 : lw_okq (⟨"BackwardsLine$Text", "figuresFrom", "(I)I"⟩, 3) := ⟨⟨by decide +kernel, by decide +kernel⟩, List.mem_of_getElem? (i := 26) (by decide +kernel), List.mem_of_getElem? (i := 276) (by decide +kernel), List.mem_of_getElem? (i := 277) (by decide +kernel)⟩
theorem lw_p3 : lw_okq (⟨"BackwardsLine$Text", "valueOf", "(II)I"⟩, 3) := ⟨⟨by decide +kernel, by decide +kernel⟩, List.mem_of_getElem? (i := 26) (by decide +kernel), List.mem_of_getElem? (i := 283) (by decide +kernel), List.mem_of_getElem? (i := 284) (by decide +kernel)⟩
theorem lw_p4 : lw_okq (⟨"BackwardsLine$Text", "take", "(LBackwardsLine$Plan;I)Z"⟩, 3) := ⟨⟨by decide +kernel, by decide +kernel⟩, List.mem_of_getElem? (i := 26) (by decide +kernel), List.mem_of_getElem? (i := 287) (by decide +kernel), List.mem_of_getElem? (i := 288) (by decide +kernel)⟩
theorem lw_p5 : lw_okq (⟨"BackwardsLine$Plan", "howManyOf", "(I)I"⟩, 7) := ⟨⟨by decide +kernel, by decide +kernel⟩, List.mem_of_getElem? (i := 44) (by decide +kernel), List.mem_of_getElem? (i := 295) (by decide +kernel), List.mem_of_getElem? (i := 296) (by decide +kernel)⟩
theorem lw_p6 : lw_okq (⟨"BackwardsLine$Line", "joinAll", "(LBackwardsLine$Plan;)V"⟩, 9) := ⟨⟨by decide +kernel, by decide +kernel⟩, List.mem_of_getElem? (i := 87) (by decide +kernel), List.mem_of_getElem? (i := 448) (by decide +kernel), List.mem_of_getElem? (i := 449) (by decide +kernel)⟩
theorem lw_p7 : lw_okq (⟨"BackwardsLine$Line", "sneezeAll", "(LBackwardsLine$Plan;)V"⟩, 9) := ⟨⟨by decide +kernel, by decide +kernel⟩, List.mem_of_getElem? (i := 87) (by decide +kernel), List.mem_of_getElem? (i := 460) (by decide +kernel), List.mem_of_getElem? (i := 461) (by decide +kernel)⟩
theorem lw_p8 : lw_okq (⟨"BackwardsLine$Line", "giveLoaf", "(LBackwardsLine$Plan;Z)V"⟩, 9) := ⟨⟨by decide +kernel, by decide +kernel⟩, List.mem_of_getElem? (i := 87) (by decide +kernel), List.mem_of_getElem? (i := 473) (by decide +kernel), List.mem_of_getElem? (i := 474) (by decide +kernel)⟩
theorem lw_p9 : lw_okq (⟨"BackwardsLine$Line", "placeServed", "(LBackwardsLine$Plan;Z)I"⟩, 9) := ⟨⟨by decide +kernel, by decide +kernel⟩, List.mem_of_getElem? (i := 87) (by decide +kernel), List.mem_of_getElem? (i := 477) (by decide +kernel), List.mem_of_getElem? (i := 478) (by decide +kernel)⟩
theorem lw_p10 : lw_okq (⟨"BackwardsLine$Line", "takeOut", "(I)V"⟩, 9) := ⟨⟨by decide +kernel, by decide +kernel⟩, List.mem_of_getElem? (i := 87) (by decide +kernel), List.mem_of_getElem? (i := 483) (by decide +kernel), List.mem_of_getElem? (i := 484) (by decide +kernel)⟩
theorem lw_p11 : lw_okq (⟨"BackwardsLine$Line", "standOn", "()V"⟩, 9) := ⟨⟨by decide +kernel, by decide +kernel⟩, List.mem_of_getElem? (i := 87) (by decide +kernel), List.mem_of_getElem? (i := 490) (by decide +kernel), List.mem_of_getElem? (i := 491) (by decide +kernel)⟩
theorem lw_p12 : lw_okq (⟨"BackwardsLine", "whenOf", "(IZ)I"⟩, 8) := ⟨⟨by decide +kernel, by decide +kernel⟩, List.mem_of_getElem? (i := 18) (by decide +kernel), List.mem_of_getElem? (i := 554) (by decide +kernel), List.mem_of_getElem? (i := 555) (by decide +kernel)⟩
theorem lw_p13 : lw_okq (⟨"BackwardsLine$Forecast", "move", "(IZ)V"⟩, 5) := ⟨⟨by decide +kernel, by decide +kernel⟩, List.mem_of_getElem? (i := 79) (by decide +kernel), List.mem_of_getElem? (i := 575) (by decide +kernel), List.mem_of_getElem? (i := 576) (by decide +kernel)⟩
theorem lw_p14 : lw_okq (⟨"BackwardsLine$Forecast", "longestWaitInOrder", "()I"⟩, 5) := ⟨⟨by decide +kernel, by decide +kernel⟩, List.mem_of_getElem? (i := 79) (by decide +kernel), List.mem_of_getElem? (i := 605) (by decide +kernel), List.mem_of_getElem? (i := 606) (by decide +kernel)⟩
theorem lw_p15 : lw_okq (⟨"BackwardsLine$Orders", "swap", "(II)V"⟩, 3) := ⟨⟨by decide +kernel, by decide +kernel⟩, List.mem_of_getElem? (i := 127) (by decide +kernel), List.mem_of_getElem? (i := 636) (by decide +kernel), List.mem_of_getElem? (i := 637) (by decide +kernel)⟩
def lw_privs_1 : List (MethodName × Nat) := [(⟨"BackwardsLine$Text", "readItem", "(LBackwardsLine$Plan;I)I"⟩, 3), (⟨"BackwardsLine$Text", "letterAt", "(I)I"⟩, 3), (⟨"BackwardsLine$Text", "figuresFrom", "(I)I"⟩, 3), (⟨"BackwardsLine$Text", "valueOf", "(II)I"⟩, 3), (⟨"BackwardsLine$Text", "take", "(LBackwardsLine$Plan;I)Z"⟩, 3), (⟨"BackwardsLine$Plan", "howManyOf", "(I)I"⟩, 7), (⟨"BackwardsLine$Line", "joinAll", "(LBackwardsLine$Plan;)V"⟩, 9), (⟨"BackwardsLine$Line", "sneezeAll", "(LBackwardsLine$Plan;)V"⟩, 9), (⟨"BackwardsLine$Line", "giveLoaf", "(LBackwardsLine$Plan;Z)V"⟩, 9), (⟨"BackwardsLine$Line", "placeServed", "(LBackwardsLine$Plan;Z)I"⟩, 9), (⟨"BackwardsLine$Line", "takeOut", "(I)V"⟩, 9), (⟨"BackwardsLine$Line", "standOn", "()V"⟩, 9), (⟨"BackwardsLine", "whenOf", "(IZ)I"⟩, 8), (⟨"BackwardsLine$Forecast", "move", "(IZ)V"⟩, 5), (⟨"BackwardsLine$Forecast", "longestWaitInOrder", "()I"⟩, 5), (⟨"BackwardsLine$Orders", "swap", "(II)V"⟩, 3)]
theorem lw_r1 : ∀ q ∈ lw_privs_1, lw_okq q := List.forall_mem_cons.mpr ⟨lw_p0, List.forall_mem_cons.mpr ⟨lw_p1, List.forall_mem_cons.mpr ⟨lw_p2, List.forall_mem_cons.mpr ⟨lw_p3, List.forall_mem_cons.mpr ⟨lw_p4, List.forall_mem_cons.mpr ⟨lw_p5, List.forall_mem_cons.mpr ⟨lw_p6, List.forall_mem_cons.mpr ⟨lw_p7, List.forall_mem_cons.mpr ⟨lw_p8, List.forall_mem_cons.mpr ⟨lw_p9, List.forall_mem_cons.mpr ⟨lw_p10, List.forall_mem_cons.mpr ⟨lw_p11, List.forall_mem_cons.mpr ⟨lw_p12, List.forall_mem_cons.mpr ⟨lw_p13, List.forall_mem_cons.mpr ⟨lw_p14, List.forall_mem_cons.mpr ⟨lw_p15, fun _ h => absurd h List.not_mem_nil⟩⟩⟩⟩⟩⟩⟩⟩⟩⟩⟩⟩⟩⟩⟩⟩
theorem lw_p16 : lw_okq (⟨"BackwardsLine$Seen", "latest", "()I"⟩, 4) := ⟨⟨by decide +kernel, by decide +kernel⟩, List.mem_of_getElem? (i := 163) (by decide +kernel), List.mem_of_getElem? (i := 672) (by decide +kernel), List.mem_of_getElem? (i := 673) (by decide +kernel)⟩
theorem lw_p17 : lw_okq (⟨"BackwardsLine$Forecast", "isFedByRumours", "(III)Z"⟩, 5) := ⟨⟨by decide +kernel, by decide +kernel⟩, List.mem_of_getElem? (i := 79) (by decide +kernel), List.mem_of_getElem? (i := 710) (by decide +kernel), List.mem_of_getElem? (i := 711) (by decide +kernel)⟩
theorem lw_p18 : lw_okq (⟨"BackwardsLine$Forecast", "drawOne", "(II)V"⟩, 5) := ⟨⟨by decide +kernel, by decide +kernel⟩, List.mem_of_getElem? (i := 79) (by decide +kernel), List.mem_of_getElem? (i := 726) (by decide +kernel), List.mem_of_getElem? (i := 727) (by decide +kernel)⟩
theorem lw_p19 : lw_okq (⟨"BackwardsLine$Forecast", "comeAgain", "(I)V"⟩, 5) := ⟨⟨by decide +kernel, by decide +kernel⟩, List.mem_of_getElem? (i := 79) (by decide +kernel), List.mem_of_getElem? (i := 734) (by decide +kernel), List.mem_of_getElem? (i := 735) (by decide +kernel)⟩
theorem lw_p20 : lw_okq (⟨"BackwardsLineModel", "adds", "(III)V"⟩, 26) := ⟨⟨by decide +kernel, by decide +kernel⟩, List.mem_of_getElem? (i := 750) (by decide +kernel), List.mem_of_getElem? (i := 756) (by decide +kernel), List.mem_of_getElem? (i := 757) (by decide +kernel)⟩
theorem lw_p21 : lw_okq (⟨"BackwardsLineModel", "begins", "()V"⟩, 26) := ⟨⟨by decide +kernel, by decide +kernel⟩, List.mem_of_getElem? (i := 750) (by decide +kernel), List.mem_of_getElem? (i := 760) (by decide +kernel), List.mem_of_getElem? (i := 761) (by decide +kernel)⟩
theorem lw_p22 : lw_okq (⟨"BackwardsLineModel", "faultOf", "()I"⟩, 26) := ⟨⟨by decide +kernel, by decide +kernel⟩, List.mem_of_getElem? (i := 750) (by decide +kernel), List.mem_of_getElem? (i := 860) (by decide +kernel), List.mem_of_getElem? (i := 861) (by decide +kernel)⟩
theorem lw_p23 : lw_okq (⟨"BackwardsLineModel", "takesItem", "()Z"⟩, 26) := ⟨⟨by decide +kernel, by decide +kernel⟩, List.mem_of_getElem? (i := 750) (by decide +kernel), List.mem_of_getElem? (i := 864) (by decide +kernel), List.mem_of_getElem? (i := 865) (by decide +kernel)⟩
theorem lw_p24 : lw_okq (⟨"BackwardsLineModel", "letterAt", "(I)I"⟩, 26) := ⟨⟨by decide +kernel, by decide +kernel⟩, List.mem_of_getElem? (i := 750) (by decide +kernel), List.mem_of_getElem? (i := 868) (by decide +kernel), List.mem_of_getElem? (i := 869) (by decide +kernel)⟩
theorem lw_p25 : lw_okq (⟨"BackwardsLineModel", "takesPerson", "()Z"⟩, 26) := ⟨⟨by decide +kernel, by decide +kernel⟩, List.mem_of_getElem? (i := 750) (by decide +kernel), List.mem_of_getElem? (i := 872) (by decide +kernel), List.mem_of_getElem? (i := 873) (by decide +kernel)⟩
theorem lw_p26 : lw_okq (⟨"BackwardsLineModel", "takesNumber", "(III)Z"⟩, 26) := ⟨⟨by decide +kernel, by decide +kernel⟩, List.mem_of_getElem? (i := 750) (by decide +kernel), List.mem_of_getElem? (i := 876) (by decide +kernel), List.mem_of_getElem? (i := 877) (by decide +kernel)⟩
theorem lw_p27 : lw_okq (⟨"BackwardsLineModel", "takesBaker", "()Z"⟩, 26) := ⟨⟨by decide +kernel, by decide +kernel⟩, List.mem_of_getElem? (i := 750) (by decide +kernel), List.mem_of_getElem? (i := 882) (by decide +kernel), List.mem_of_getElem? (i := 883) (by decide +kernel)⟩
theorem lw_p28 : lw_okq (⟨"BackwardsLineModel", "takesRumour", "()Z"⟩, 26) := ⟨⟨by decide +kernel, by decide +kernel⟩, List.mem_of_getElem? (i := 750) (by decide +kernel), List.mem_of_getElem? (i := 886) (by decide +kernel), List.mem_of_getElem? (i := 887) (by decide +kernel)⟩
theorem lw_p29 : lw_okq (⟨"BackwardsLineModel", "isPerson", "(I)Z"⟩, 26) := ⟨⟨by decide +kernel, by decide +kernel⟩, List.mem_of_getElem? (i := 750) (by decide +kernel), List.mem_of_getElem? (i := 898) (by decide +kernel), List.mem_of_getElem? (i := 899) (by decide +kernel)⟩
theorem lw_p30 : lw_okq (⟨"BackwardsLineModel", "placeOf", "(II)I"⟩, 26) := ⟨⟨by decide +kernel, by decide +kernel⟩, List.mem_of_getElem? (i := 750) (by decide +kernel), List.mem_of_getElem? (i := 902) (by decide +kernel), List.mem_of_getElem? (i := 903) (by decide +kernel)⟩
theorem lw_p31 : lw_okq (⟨"BackwardsLineModel", "minds", "()V"⟩, 26) := ⟨⟨by decide +kernel, by decide +kernel⟩, List.mem_of_getElem? (i := 750) (by decide +kernel), List.mem_of_getElem? (i := 915) (by decide +kernel), List.mem_of_getElem? (i := 916) (by decide +kernel)⟩
def lw_privs_2 : List (MethodName × Nat) := [(⟨"BackwardsLine$Seen", "latest", "()I"⟩, 4), (⟨"BackwardsLine$Forecast", "isFedByRumours", "(III)Z"⟩, 5), (⟨"BackwardsLine$Forecast", "drawOne", "(II)V"⟩, 5), (⟨"BackwardsLine$Forecast", "comeAgain", "(I)V"⟩, 5), (⟨"BackwardsLineModel", "adds", "(III)V"⟩, 26), (⟨"BackwardsLineModel", "begins", "()V"⟩, 26), (⟨"BackwardsLineModel", "faultOf", "()I"⟩, 26), (⟨"BackwardsLineModel", "takesItem", "()Z"⟩, 26), (⟨"BackwardsLineModel", "letterAt", "(I)I"⟩, 26), (⟨"BackwardsLineModel", "takesPerson", "()Z"⟩, 26), (⟨"BackwardsLineModel", "takesNumber", "(III)Z"⟩, 26), (⟨"BackwardsLineModel", "takesBaker", "()Z"⟩, 26), (⟨"BackwardsLineModel", "takesRumour", "()Z"⟩, 26), (⟨"BackwardsLineModel", "isPerson", "(I)Z"⟩, 26), (⟨"BackwardsLineModel", "placeOf", "(II)I"⟩, 26), (⟨"BackwardsLineModel", "minds", "()V"⟩, 26)]
theorem lw_r2 : ∀ q ∈ lw_privs_2, lw_okq q := List.forall_mem_cons.mpr ⟨lw_p16, List.forall_mem_cons.mpr ⟨lw_p17, List.forall_mem_cons.mpr ⟨lw_p18, List.forall_mem_cons.mpr ⟨lw_p19, List.forall_mem_cons.mpr ⟨lw_p20, List.forall_mem_cons.mpr ⟨lw_p21, List.forall_mem_cons.mpr ⟨lw_p22, List.forall_mem_cons.mpr ⟨lw_p23, List.forall_mem_cons.mpr ⟨lw_p24, List.forall_mem_cons.mpr ⟨lw_p25, List.forall_mem_cons.mpr ⟨lw_p26, List.forall_mem_cons.mpr ⟨lw_p27, List.forall_mem_cons.mpr ⟨lw_p28, List.forall_mem_cons.mpr ⟨lw_p29, List.forall_mem_cons.mpr ⟨lw_p30, List.forall_mem_cons.mpr ⟨lw_p31, fun _ h => absurd h List.not_mem_nil⟩⟩⟩⟩⟩⟩⟩⟩⟩⟩⟩⟩⟩⟩⟩⟩
theorem lw_p32 : lw_okq (⟨"BackwardsLineModel", "copy", "(II)V"⟩, 26) := ⟨⟨by decide +kernel, by decide +kernel⟩, List.mem_of_getElem? (i := 750) (by decide +kernel), List.mem_of_getElem? (i := 919) (by decide +kernel), List.mem_of_getElem? (i := 920) (by decide +kernel)⟩
theorem lw_p33 : lw_okq (⟨"BackwardsLineModel", "passes", "(I)V"⟩, 26) := ⟨⟨by decide +kernel, by decide +kernel⟩, List.mem_of_getElem? (i := 750) (by decide +kernel), List.mem_of_getElem? (i := 923) (by decide +kernel), List.mem_of_getElem? (i := 924) (by decide +kernel)⟩
theorem lw_p34 : lw_okq (⟨"BackwardsLineModel", "isRumour", "(I)Z"⟩, 26) := ⟨⟨by decide +kernel, by decide +kernel⟩, List.mem_of_getElem? (i := 750) (by decide +kernel), List.mem_of_getElem? (i := 927) (by decide +kernel), List.mem_of_getElem? (i := 928) (by decide +kernel)⟩
theorem lw_p35 : lw_okq (⟨"BackwardsLineModel", "passesBy", "(IZZ)V"⟩, 26) := ⟨⟨by decide +kernel, by decide +kernel⟩, List.mem_of_getElem? (i := 750) (by decide +kernel), List.mem_of_getElem? (i := 931) (by decide +kernel), List.mem_of_getElem? (i := 932) (by decide +kernel)⟩
theorem lw_p36 : lw_okq (⟨"BackwardsLineModel", "joins", "(II)V"⟩, 26) := ⟨⟨by decide +kernel, by decide +kernel⟩, List.mem_of_getElem? (i := 750) (by decide +kernel), List.mem_of_getElem? (i := 935) (by decide +kernel), List.mem_of_getElem? (i := 936) (by decide +kernel)⟩
theorem lw_p37 : lw_okq (⟨"BackwardsLineModel", "stands", "(III)V"⟩, 26) := ⟨⟨by decide +kernel, by decide +kernel⟩, List.mem_of_getElem? (i := 750) (by decide +kernel), List.mem_of_getElem? (i := 939) (by decide +kernel), List.mem_of_getElem? (i := 940) (by decide +kernel)⟩
theorem lw_p38 : lw_okq (⟨"BackwardsLineModel", "sneezes", "(II)V"⟩, 26) := ⟨⟨by decide +kernel, by decide +kernel⟩, List.mem_of_getElem? (i := 750) (by decide +kernel), List.mem_of_getElem? (i := 943) (by decide +kernel), List.mem_of_getElem? (i := 944) (by decide +kernel)⟩
theorem lw_p39 : lw_okq (⟨"BackwardsLineModel", "goes", "(III)V"⟩, 26) := ⟨⟨by decide +kernel, by decide +kernel⟩, List.mem_of_getElem? (i := 750) (by decide +kernel), List.mem_of_getElem? (i := 947) (by decide +kernel), List.mem_of_getElem? (i := 948) (by decide +kernel)⟩
theorem lw_p40 : lw_okq (⟨"BackwardsLineModel", "givesOne", "(IZ)V"⟩, 26) := ⟨⟨by decide +kernel, by decide +kernel⟩, List.mem_of_getElem? (i := 750) (by decide +kernel), List.mem_of_getElem? (i := 951) (by decide +kernel), List.mem_of_getElem? (i := 952) (by decide +kernel)⟩
theorem lw_p41 : lw_okq (⟨"BackwardsLineModel", "manyWhere", "(I)I"⟩, 26) := ⟨⟨by decide +kernel, by decide +kernel⟩, List.mem_of_getElem? (i := 750) (by decide +kernel), List.mem_of_getElem? (i := 955) (by decide +kernel), List.mem_of_getElem? (i := 956) (by decide +kernel)⟩
theorem lw_p42 : lw_okq (⟨"BackwardsLineModel", "isWhere", "(III)Z"⟩, 26) := ⟨⟨by decide +kernel, by decide +kernel⟩, List.mem_of_getElem? (i := 750) (by decide +kernel), List.mem_of_getElem? (i := 959) (by decide +kernel), List.mem_of_getElem? (i := 960) (by decide +kernel)⟩
theorem lw_p43 : lw_okq (⟨"BackwardsLineModel", "canGiveUp", "(II)Z"⟩, 26) := ⟨⟨by decide +kernel, by decide +kernel⟩, List.mem_of_getElem? (i := 750) (by decide +kernel), List.mem_of_getElem? (i := 967) (by decide +kernel), List.mem_of_getElem? (i := 968) (by decide +kernel)⟩
theorem lw_p44 : lw_okq (⟨"BackwardsLineModel", "givesUp", "(II)V"⟩, 26) := ⟨⟨by decide +kernel, by decide +kernel⟩, List.mem_of_getElem? (i := 750) (by decide +kernel), List.mem_of_getElem? (i := 971) (by decide +kernel), List.mem_of_getElem? (i := 972) (by decide +kernel)⟩
theorem lw_p45 : lw_okq (⟨"BackwardsLineModel", "tries", "()V"⟩, 26) := ⟨⟨by decide +kernel, by decide +kernel⟩, List.mem_of_getElem? (i := 750) (by decide +kernel), List.mem_of_getElem? (i := 998) (by decide +kernel), List.mem_of_getElem? (i := 999) (by decide +kernel)⟩
theorem lw_p46 : lw_okq (⟨"BackwardsLineModel", "whenOf", "(IZ)I"⟩, 26) := ⟨⟨by decide +kernel, by decide +kernel⟩, List.mem_of_getElem? (i := 750) (by decide +kernel), List.mem_of_getElem? (i := 1006) (by decide +kernel), List.mem_of_getElem? (i := 1007) (by decide +kernel)⟩
theorem lw_p47 : lw_okq (⟨"BackwardsLineModel", "eats", "(IZ)I"⟩, 26) := ⟨⟨by decide +kernel, by decide +kernel⟩, List.mem_of_getElem? (i := 750) (by decide +kernel), List.mem_of_getElem? (i := 1010) (by decide +kernel), List.mem_of_getElem? (i := 1011) (by decide +kernel)⟩
def lw_privs_3 : List (MethodName × Nat) := [(⟨"BackwardsLineModel", "copy", "(II)V"⟩, 26), (⟨"BackwardsLineModel", "passes", "(I)V"⟩, 26), (⟨"BackwardsLineModel", "isRumour", "(I)Z"⟩, 26), (⟨"BackwardsLineModel", "passesBy", "(IZZ)V"⟩, 26), (⟨"BackwardsLineModel", "joins", "(II)V"⟩, 26), (⟨"BackwardsLineModel", "stands", "(III)V"⟩, 26), (⟨"BackwardsLineModel", "sneezes", "(II)V"⟩, 26), (⟨"BackwardsLineModel", "goes", "(III)V"⟩, 26), (⟨"BackwardsLineModel", "givesOne", "(IZ)V"⟩, 26), (⟨"BackwardsLineModel", "manyWhere", "(I)I"⟩, 26), (⟨"BackwardsLineModel", "isWhere", "(III)Z"⟩, 26), (⟨"BackwardsLineModel", "canGiveUp", "(II)Z"⟩, 26), (⟨"BackwardsLineModel", "givesUp", "(II)V"⟩, 26), (⟨"BackwardsLineModel", "tries", "()V"⟩, 26), (⟨"BackwardsLineModel", "whenOf", "(IZ)I"⟩, 26), (⟨"BackwardsLineModel", "eats", "(IZ)I"⟩, 26)]
theorem lw_r3 : ∀ q ∈ lw_privs_3, lw_okq q := List.forall_mem_cons.mpr ⟨lw_p32, List.forall_mem_cons.mpr ⟨lw_p33, List.forall_mem_cons.mpr ⟨lw_p34, List.forall_mem_cons.mpr ⟨lw_p35, List.forall_mem_cons.mpr ⟨lw_p36, List.forall_mem_cons.mpr ⟨lw_p37, List.forall_mem_cons.mpr ⟨lw_p38, List.forall_mem_cons.mpr ⟨lw_p39, List.forall_mem_cons.mpr ⟨lw_p40, List.forall_mem_cons.mpr ⟨lw_p41, List.forall_mem_cons.mpr ⟨lw_p42, List.forall_mem_cons.mpr ⟨lw_p43, List.forall_mem_cons.mpr ⟨lw_p44, List.forall_mem_cons.mpr ⟨lw_p45, List.forall_mem_cons.mpr ⟨lw_p46, List.forall_mem_cons.mpr ⟨lw_p47, fun _ h => absurd h List.not_mem_nil⟩⟩⟩⟩⟩⟩⟩⟩⟩⟩⟩⟩⟩⟩⟩⟩
theorem lw_p48 : lw_okq (⟨"BackwardsLineModel", "servedBy", "(Z)I"⟩, 26) := ⟨⟨by decide +kernel, by decide +kernel⟩, List.mem_of_getElem? (i := 750) (by decide +kernel), List.mem_of_getElem? (i := 1022) (by decide +kernel), List.mem_of_getElem? (i := 1023) (by decide +kernel)⟩
theorem lw_p49 : lw_okq (⟨"BackwardsLineModel", "waitBy", "(I)I"⟩, 26) := ⟨⟨by decide +kernel, by decide +kernel⟩, List.mem_of_getElem? (i := 750) (by decide +kernel), List.mem_of_getElem? (i := 1036) (by decide +kernel), List.mem_of_getElem? (i := 1037) (by decide +kernel)⟩
theorem lw_p50 : lw_okq (⟨"BackwardsLineModel", "warmthOf", "(II)I"⟩, 26) := ⟨⟨by decide +kernel, by decide +kernel⟩, List.mem_of_getElem? (i := 750) (by decide +kernel), List.mem_of_getElem? (i := 1044) (by decide +kernel), List.mem_of_getElem? (i := 1045) (by decide +kernel)⟩
theorem lw_p51 : lw_okq (⟨"BackwardsLineModel", "isSeen", "()Z"⟩, 26) := ⟨⟨by decide +kernel, by decide +kernel⟩, List.mem_of_getElem? (i := 750) (by decide +kernel), List.mem_of_getElem? (i := 1060) (by decide +kernel), List.mem_of_getElem? (i := 1061) (by decide +kernel)⟩
theorem lw_p52 : lw_okq (⟨"BackwardsLineModel", "doesBy", "(I)V"⟩, 26) := ⟨⟨by decide +kernel, by decide +kernel⟩, List.mem_of_getElem? (i := 750) (by decide +kernel), List.mem_of_getElem? (i := 1084) (by decide +kernel), List.mem_of_getElem? (i := 1085) (by decide +kernel)⟩
def lw_privs_4 : List (MethodName × Nat) := [(⟨"BackwardsLineModel", "servedBy", "(Z)I"⟩, 26), (⟨"BackwardsLineModel", "waitBy", "(I)I"⟩, 26), (⟨"BackwardsLineModel", "warmthOf", "(II)I"⟩, 26), (⟨"BackwardsLineModel", "isSeen", "()Z"⟩, 26), (⟨"BackwardsLineModel", "doesBy", "(I)V"⟩, 26)]
theorem lw_r4 : ∀ q ∈ lw_privs_4, lw_okq q := List.forall_mem_cons.mpr ⟨lw_p48, List.forall_mem_cons.mpr ⟨lw_p49, List.forall_mem_cons.mpr ⟨lw_p50, List.forall_mem_cons.mpr ⟨lw_p51, List.forall_mem_cons.mpr ⟨lw_p52, fun _ h => absurd h List.not_mem_nil⟩⟩⟩⟩⟩
def lw_privs : List (MethodName × Nat) := lw_privs_1 ++ (lw_privs_2 ++ (lw_privs_3 ++ (lw_privs_4)))
def lw_tbl : List Cond := k2_sels lw_privs ++ tables_1
theorem lw_privs_ok : ∀ q ∈ lw_privs, lw_okq q := by
  show ∀ q ∈ lw_privs_1 ++ (lw_privs_2 ++ (lw_privs_3 ++ (lw_privs_4))), lw_okq q
  exact List.forall_mem_append.mpr ⟨lw_r1, List.forall_mem_append.mpr ⟨lw_r2, List.forall_mem_append.mpr ⟨lw_r3, lw_r4⟩⟩⟩
end
section
def RX0 : String := "BackwardsLine$Forecast"
def TX0 : u_T := fun k => match k with
  | 0 => ("BackwardsLine$Forecast", "plan", "LBackwardsLine$Plan;", true)
  | 1 => ("BackwardsLine$Forecast", "now", "LBackwardsLine$Line;", true)
  | 2 => ("BackwardsLine$Forecast", "guess", "LBackwardsLine$Plan;", true)
  | 3 => ("BackwardsLine$Forecast", "trial", "LBackwardsLine$Line;", true)
  | _ => ("BackwardsLine$Forecast", "orders", "LBackwardsLine$Orders;", true)
def tyX0 : Nat → FieldType := fun k => match k with
  | 0 => .object "BackwardsLine$Plan"
  | 1 => .object "BackwardsLine$Line"
  | 2 => .object "BackwardsLine$Plan"
  | 3 => .object "BackwardsLine$Line"
  | _ => .object "BackwardsLine$Orders"
abbrev wsX00 : List Cond := u_ws RX0 TX0 5
theorem nmX0 : ∀ a, a < 5 → ∀ b, b < 5 → a ≠ b → (TX0 a).2.1 ≠ (TX0 b).2.1 := by decide +kernel
theorem tyX0_ok : ∀ k, k < 5 → parseFieldDescriptor (TX0 k).2.2.1 = some (tyX0 k) := by decide +kernel
abbrev cX0_init : ByteArray := prog_2_method_1_code
def yX0_init : MethodName := ⟨RX0, "<init>", "()V"⟩
abbrev cX0_startTrial : ByteArray := prog_2_method_2_code
def yX0_startTrial : MethodName := ⟨RX0, "startTrial", "()V"⟩
abbrev cX0_lineBehind : ByteArray := prog_2_method_3_code
def yX0_lineBehind : MethodName := ⟨RX0, "lineBehind", "(I)LBackwardsLine$Line;"⟩
abbrev cX0_whenEaten : ByteArray := prog_2_method_4_code
def yX0_whenEaten : MethodName := ⟨RX0, "whenEaten", "(IZ)I"⟩
abbrev cX0_whoGains : ByteArray := prog_2_method_5_code
def yX0_whoGains : MethodName := ⟨RX0, "whoGains", "(Z)I"⟩
abbrev cX0_move : ByteArray := prog_2_method_6_code
def yX0_move : MethodName := ⟨RX0, "move", "(IZ)V"⟩
abbrev cX0_bestOrder : ByteArray := prog_2_method_7_code
def yX0_bestOrder : MethodName := ⟨RX0, "bestOrder", "()I"⟩
abbrev cX0_longestWaitInOrder : ByteArray := prog_2_method_8_code
def yX0_longestWaitInOrder : MethodName := ⟨RX0, "longestWaitInOrder", "()I"⟩
abbrev cX0_whoSneezed : ByteArray := prog_2_method_9_code
def yX0_whoSneezed : MethodName := ⟨RX0, "whoSneezed", "(LBackwardsLine$Seen;)I"⟩
abbrev cX0_whichKinds : ByteArray := prog_2_method_10_code
def yX0_whichKinds : MethodName := ⟨RX0, "whichKinds", "(LBackwardsLine$Seen;I)I"⟩
abbrev cX0_chanceOfTenths : ByteArray := prog_2_method_11_code
def yX0_chanceOfTenths : MethodName := ⟨RX0, "chanceOfTenths", "(III)I"⟩
abbrev cX0_isFedByRumours : ByteArray := prog_2_method_12_code
def yX0_isFedByRumours : MethodName := ⟨RX0, "isFedByRumours", "(III)Z"⟩
abbrev cX0_lineBehindDay : ByteArray := prog_2_method_13_code
def yX0_lineBehindDay : MethodName := ⟨RX0, "lineBehindDay", "(II)LBackwardsLine$Line;"⟩
abbrev cX0_drawOne : ByteArray := prog_2_method_14_code
def yX0_drawOne : MethodName := ⟨RX0, "drawOne", "(II)V"⟩
abbrev cX0_comeAgain : ByteArray := prog_2_method_15_code
def yX0_comeAgain : MethodName := ⟨RX0, "comeAgain", "(I)V"⟩
def RX1 : String := "BackwardsLine$Line"
def TX1 : u_T := fun k => match k with
  | 0 => ("BackwardsLine$Line", "order", "[I", true)
  | 1 => ("BackwardsLine$Line", "where", "[I", true)
  | 2 => ("BackwardsLine$Line", "stood", "[I", true)
  | 3 => ("BackwardsLine$Line", "ateIn", "[I", true)
  | 4 => ("BackwardsLine$Line", "warm", "[I", true)
  | 5 => ("BackwardsLine$Line", "size", "I", false)
  | 6 => ("BackwardsLine$Line", "minute", "I", false)
  | 7 => ("BackwardsLine$Line", "loaves", "I", false)
  | _ => ("BackwardsLine$Line", "heat", "I", false)
def tyX1 : Nat → FieldType := fun k => match k with
  | 0 => .array .int
  | 1 => .array .int
  | 2 => .array .int
  | 3 => .array .int
  | 4 => .array .int
  | 5 => .int
  | 6 => .int
  | 7 => .int
  | _ => .int
abbrev wsX10 : List Cond := u_ws RX1 TX1 9
theorem nmX1 : ∀ a, a < 9 → ∀ b, b < 9 → a ≠ b → (TX1 a).2.1 ≠ (TX1 b).2.1 := by decide +kernel
theorem tyX1_ok : ∀ k, k < 9 → parseFieldDescriptor (TX1 k).2.2.1 = some (tyX1 k) := by decide +kernel
abbrev cX1_init : ByteArray := prog_3_method_1_code
def yX1_init : MethodName := ⟨RX1, "<init>", "()V"⟩
abbrev cX1_clear : ByteArray := prog_3_method_2_code
def yX1_clear : MethodName := ⟨RX1, "clear", "()V"⟩
abbrev cX1_copyFrom : ByteArray := prog_3_method_3_code
def yX1_copyFrom : MethodName := ⟨RX1, "copyFrom", "(LBackwardsLine$Line;)V"⟩
abbrev cX1_whoAt : ByteArray := prog_3_method_4_code
def yX1_whoAt : MethodName := ⟨RX1, "whoAt", "(I)I"⟩
abbrev cX1_placeOf : ByteArray := prog_3_method_5_code
def yX1_placeOf : MethodName := ⟨RX1, "placeOf", "(I)I"⟩
abbrev cX1_whereIs : ByteArray := prog_3_method_6_code
def yX1_whereIs : MethodName := ⟨RX1, "whereIs", "(I)I"⟩
abbrev cX1_stoodOf : ByteArray := prog_3_method_7_code
def yX1_stoodOf : MethodName := ⟨RX1, "stoodOf", "(I)I"⟩
abbrev cX1_ateInOf : ByteArray := prog_3_method_8_code
def yX1_ateInOf : MethodName := ⟨RX1, "ateInOf", "(I)I"⟩
abbrev cX1_warmOf : ByteArray := prog_3_method_9_code
def yX1_warmOf : MethodName := ⟨RX1, "warmOf", "(I)I"⟩
abbrev cX1_howMany : ByteArray := prog_3_method_10_code
def yX1_howMany : MethodName := ⟨RX1, "howMany", "(I)I"⟩
abbrev cX1_run : ByteArray := prog_3_method_11_code
def yX1_run : MethodName := ⟨RX1, "run", "(LBackwardsLine$Plan;I)V"⟩
abbrev cX1_goOn : ByteArray := prog_3_method_12_code
def yX1_goOn : MethodName := ⟨RX1, "goOn", "(LBackwardsLine$Plan;ZZ)V"⟩
abbrev cX1_joinAll : ByteArray := prog_3_method_13_code
def yX1_joinAll : MethodName := ⟨RX1, "joinAll", "(LBackwardsLine$Plan;)V"⟩
abbrev cX1_sneezeAll : ByteArray := prog_3_method_14_code
def yX1_sneezeAll : MethodName := ⟨RX1, "sneezeAll", "(LBackwardsLine$Plan;)V"⟩
abbrev cX1_standOn : ByteArray := prog_3_method_15_code
def yX1_standOn : MethodName := ⟨RX1, "standOn", "()V"⟩
abbrev cX1_join : ByteArray := prog_3_method_16_code
def yX1_join : MethodName := ⟨RX1, "join", "(LBackwardsLine$Plan;I)V"⟩
abbrev cX1_goToHead : ByteArray := prog_3_method_17_code
def yX1_goToHead : MethodName := ⟨RX1, "goToHead", "(I)V"⟩
abbrev cX1_goAway : ByteArray := prog_3_method_18_code
def yX1_goAway : MethodName := ⟨RX1, "goAway", "(I)V"⟩
abbrev cX1_canYield : ByteArray := prog_3_method_19_code
def yX1_canYield : MethodName := ⟨RX1, "canYield", "(I)Z"⟩
abbrev cX1_yieldPlace : ByteArray := prog_3_method_20_code
def yX1_yieldPlace : MethodName := ⟨RX1, "yieldPlace", "(I)V"⟩
abbrev cX1_giveLoaf : ByteArray := prog_3_method_21_code
def yX1_giveLoaf : MethodName := ⟨RX1, "giveLoaf", "(LBackwardsLine$Plan;Z)V"⟩
abbrev cX1_placeServed : ByteArray := prog_3_method_22_code
def yX1_placeServed : MethodName := ⟨RX1, "placeServed", "(LBackwardsLine$Plan;Z)I"⟩
abbrev cX1_takeOut : ByteArray := prog_3_method_23_code
def yX1_takeOut : MethodName := ⟨RX1, "takeOut", "(I)V"⟩
def RX2 : String := "BackwardsLine$Orders"
def TX2 : u_T := fun k => match k with
  | 0 => ("BackwardsLine$Orders", "members", "[I", true)
  | 1 => ("BackwardsLine$Orders", "best", "[I", true)
  | _ => ("BackwardsLine$Orders", "size", "I", false)
def tyX2 : Nat → FieldType := fun k => match k with
  | 0 => .array .int
  | 1 => .array .int
  | _ => .int
abbrev wsX20 : List Cond := u_ws RX2 TX2 3
theorem nmX2 : ∀ a, a < 3 → ∀ b, b < 3 → a ≠ b → (TX2 a).2.1 ≠ (TX2 b).2.1 := by decide +kernel
theorem tyX2_ok : ∀ k, k < 3 → parseFieldDescriptor (TX2 k).2.2.1 = some (tyX2 k) := by decide +kernel
abbrev cX2_init : ByteArray := prog_4_method_1_code
def yX2_init : MethodName := ⟨RX2, "<init>", "()V"⟩
abbrev cX2_gather : ByteArray := prog_4_method_2_code
def yX2_gather : MethodName := ⟨RX2, "gather", "(LBackwardsLine$Plan;LBackwardsLine$Line;I)Z"⟩
abbrev cX2_bestAt : ByteArray := prog_4_method_3_code
def yX2_bestAt : MethodName := ⟨RX2, "bestAt", "(I)I"⟩
abbrev cX2_markBest : ByteArray := prog_4_method_4_code
def yX2_markBest : MethodName := ⟨RX2, "markBest", "()V"⟩
abbrev cX2_advance : ByteArray := prog_4_method_5_code
def yX2_advance : MethodName := ⟨RX2, "advance", "()Z"⟩
abbrev cX2_swap : ByteArray := prog_4_method_6_code
def yX2_swap : MethodName := ⟨RX2, "swap", "(II)V"⟩
abbrev cX2_tellComings : ByteArray := prog_4_method_7_code
def yX2_tellComings : MethodName := ⟨RX2, "tellComings", "(LBackwardsLine$Plan;I)V"⟩
abbrev cX2_allAte : ByteArray := prog_4_method_8_code
def yX2_allAte : MethodName := ⟨RX2, "allAte", "(LBackwardsLine$Line;)Z"⟩
abbrev cX2_longestWait : ByteArray := prog_4_method_9_code
def yX2_longestWait : MethodName := ⟨RX2, "longestWait", "(LBackwardsLine$Line;I)I"⟩
def RX3 : String := "BackwardsLine$Plan"
def TX3 : u_T := fun k => match k with
  | 0 => ("BackwardsLine$Plan", "kind", "[I", true)
  | 1 => ("BackwardsLine$Plan", "coming", "[I", true)
  | 2 => ("BackwardsLine$Plan", "kin", "[I", true)
  | 3 => ("BackwardsLine$Plan", "people", "I", false)
  | 4 => ("BackwardsLine$Plan", "bakesEvery", "I", false)
  | 5 => ("BackwardsLine$Plan", "firstWarm", "I", false)
  | _ => ("BackwardsLine$Plan", "rumourEvery", "I", false)
def tyX3 : Nat → FieldType := fun k => match k with
  | 0 => .array .int
  | 1 => .array .int
  | 2 => .array .int
  | 3 => .int
  | 4 => .int
  | 5 => .int
  | _ => .int
abbrev wsX30 : List Cond := u_ws RX3 TX3 7
theorem nmX3 : ∀ a, a < 7 → ∀ b, b < 7 → a ≠ b → (TX3 a).2.1 ≠ (TX3 b).2.1 := by decide +kernel
theorem tyX3_ok : ∀ k, k < 7 → parseFieldDescriptor (TX3 k).2.2.1 = some (tyX3 k) := by decide +kernel
abbrev cX3_init : ByteArray := prog_5_method_1_code
def yX3_init : MethodName := ⟨RX3, "<init>", "()V"⟩
abbrev cX3_clear : ByteArray := prog_5_method_2_code
def yX3_clear : MethodName := ⟨RX3, "clear", "()V"⟩
abbrev cX3_copyFrom : ByteArray := prog_5_method_3_code
def yX3_copyFrom : MethodName := ⟨RX3, "copyFrom", "(LBackwardsLine$Plan;)V"⟩
abbrev cX3_addPerson : ByteArray := prog_5_method_4_code
def yX3_addPerson : MethodName := ⟨RX3, "addPerson", "(III)Z"⟩
abbrev cX3_setBaker : ByteArray := prog_5_method_5_code
def yX3_setBaker : MethodName := ⟨RX3, "setBaker", "(II)Z"⟩
abbrev cX3_setRumour : ByteArray := prog_5_method_6_code
def yX3_setRumour : MethodName := ⟨RX3, "setRumour", "(I)Z"⟩
abbrev cX3_howManyOf : ByteArray := prog_5_method_7_code
def yX3_howManyOf : MethodName := ⟨RX3, "howManyOf", "(I)I"⟩
abbrev cX3_has : ByteArray := prog_5_method_8_code
def yX3_has : MethodName := ⟨RX3, "has", "(I)Z"⟩
abbrev cX3_kindOf : ByteArray := prog_5_method_9_code
def yX3_kindOf : MethodName := ⟨RX3, "kindOf", "(I)I"⟩
abbrev cX3_comingOf : ByteArray := prog_5_method_10_code
def yX3_comingOf : MethodName := ⟨RX3, "comingOf", "(I)I"⟩
abbrev cX3_kinOf : ByteArray := prog_5_method_11_code
def yX3_kinOf : MethodName := ⟨RX3, "kinOf", "(I)I"⟩
abbrev cX3_setKind : ByteArray := prog_5_method_12_code
def yX3_setKind : MethodName := ⟨RX3, "setKind", "(II)V"⟩
abbrev cX3_setComing : ByteArray := prog_5_method_13_code
def yX3_setComing : MethodName := ⟨RX3, "setComing", "(II)V"⟩
abbrev cX3_letsPass : ByteArray := prog_5_method_14_code
def yX3_letsPass : MethodName := ⟨RX3, "letsPass", "(II)Z"⟩
abbrev cX3_givesIn : ByteArray := prog_5_method_15_code
def yX3_givesIn : MethodName := ⟨RX3, "givesIn", "(I)Z"⟩
abbrev cX3_rumourIn : ByteArray := prog_5_method_16_code
def yX3_rumourIn : MethodName := ⟨RX3, "rumourIn", "(I)Z"⟩
def RX4 : String := "BackwardsLine$Seen"
def TX4 : u_T := fun k => match k with
  | 0 => ("BackwardsLine$Seen", "who", "[I", true)
  | 1 => ("BackwardsLine$Seen", "minutes", "[I", true)
  | 2 => ("BackwardsLine$Seen", "ate", "[Z", true)
  | _ => ("BackwardsLine$Seen", "size", "I", false)
def tyX4 : Nat → FieldType := fun k => match k with
  | 0 => .array .int
  | 1 => .array .int
  | 2 => .array .boolean
  | _ => .int
abbrev wsX40 : List Cond := u_ws RX4 TX4 4
theorem nmX4 : ∀ a, a < 4 → ∀ b, b < 4 → a ≠ b → (TX4 a).2.1 ≠ (TX4 b).2.1 := by decide +kernel
theorem tyX4_ok : ∀ k, k < 4 → parseFieldDescriptor (TX4 k).2.2.1 = some (tyX4 k) := by decide +kernel
abbrev cX4_init : ByteArray := prog_6_method_1_code
def yX4_init : MethodName := ⟨RX4, "<init>", "()V"⟩
abbrev cX4_add : ByteArray := prog_6_method_2_code
def yX4_add : MethodName := ⟨RX4, "add", "(IIZ)Z"⟩
abbrev cX4_empty : ByteArray := prog_6_method_3_code
def yX4_empty : MethodName := ⟨RX4, "empty", "()V"⟩
abbrev cX4_holdsFor : ByteArray := prog_6_method_4_code
def yX4_holdsFor : MethodName := ⟨RX4, "holdsFor", "(LBackwardsLine$Plan;LBackwardsLine$Line;)Z"⟩
abbrev cX4_latest : ByteArray := prog_6_method_5_code
def yX4_latest : MethodName := ⟨RX4, "latest", "()I"⟩
def RX5 : String := "BackwardsLine$Shelf"
def TX5 : u_T := fun k => match k with
  | 0 => ("BackwardsLine$Shelf", "lines", "[LBackwardsLine$Line;", true)
  | 1 => ("BackwardsLine$Shelf", "top", "I", false)
  | _ => ("BackwardsLine$Shelf", "held", "I", false)
def tyX5 : Nat → FieldType := fun k => match k with
  | 0 => .array (.object "BackwardsLine$Line")
  | 1 => .int
  | _ => .int
abbrev wsX50 : List Cond := u_ws RX5 TX5 3
theorem nmX5 : ∀ a, a < 3 → ∀ b, b < 3 → a ≠ b → (TX5 a).2.1 ≠ (TX5 b).2.1 := by decide +kernel
theorem tyX5_ok : ∀ k, k < 3 → parseFieldDescriptor (TX5 k).2.2.1 = some (tyX5 k) := by decide +kernel
abbrev cX5_init : ByteArray := prog_7_method_1_code
def yX5_init : MethodName := ⟨RX5, "<init>", "(I)V"⟩
abbrev cX5_empty : ByteArray := prog_7_method_2_code
def yX5_empty : MethodName := ⟨RX5, "empty", "()V"⟩
abbrev cX5_push : ByteArray := prog_7_method_3_code
def yX5_push : MethodName := ⟨RX5, "push", "(LBackwardsLine$Line;)V"⟩
abbrev cX5_popInto : ByteArray := prog_7_method_4_code
def yX5_popInto : MethodName := ⟨RX5, "popInto", "(LBackwardsLine$Line;)Z"⟩
def RX6 : String := "BackwardsLine$Text"
def TX6 : u_T := fun k => match k with
  | 0 => ("BackwardsLine$Text", "letters", "[I", true)
  | 1 => ("BackwardsLine$Text", "numbers", "[I", true)
  | _ => ("BackwardsLine$Text", "length", "I", false)
def tyX6 : Nat → FieldType := fun k => match k with
  | 0 => .array .int
  | 1 => .array .int
  | _ => .int
abbrev wsX60 : List Cond := u_ws RX6 TX6 3
theorem nmX6 : ∀ a, a < 3 → ∀ b, b < 3 → a ≠ b → (TX6 a).2.1 ≠ (TX6 b).2.1 := by decide +kernel
theorem tyX6_ok : ∀ k, k < 3 → parseFieldDescriptor (TX6 k).2.2.1 = some (tyX6 k) := by decide +kernel
abbrev cX6_init : ByteArray := prog_8_method_1_code
def yX6_init : MethodName := ⟨RX6, "<init>", "()V"⟩
abbrev cX6_put : ByteArray := prog_8_method_2_code
def yX6_put : MethodName := ⟨RX6, "put", "(I)Z"⟩
abbrev cX6_empty : ByteArray := prog_8_method_3_code
def yX6_empty : MethodName := ⟨RX6, "empty", "()V"⟩
abbrev cX6_readInto : ByteArray := prog_8_method_4_code
def yX6_readInto : MethodName := ⟨RX6, "readInto", "(LBackwardsLine$Plan;)I"⟩
abbrev cX6_readItem : ByteArray := prog_8_method_5_code
def yX6_readItem : MethodName := ⟨RX6, "readItem", "(LBackwardsLine$Plan;I)I"⟩
abbrev cX6_take : ByteArray := prog_8_method_6_code
def yX6_take : MethodName := ⟨RX6, "take", "(LBackwardsLine$Plan;I)Z"⟩
abbrev cX6_numbersBehind : ByteArray := prog_8_method_7_code
def yX6_numbersBehind : MethodName := ⟨RX6, "numbersBehind", "(I)I"⟩
abbrev cX6_figuresFrom : ByteArray := prog_8_method_8_code
def yX6_figuresFrom : MethodName := ⟨RX6, "figuresFrom", "(I)I"⟩
abbrev cX6_valueOf : ByteArray := prog_8_method_9_code
def yX6_valueOf : MethodName := ⟨RX6, "valueOf", "(II)I"⟩
abbrev cX6_letterAt : ByteArray := prog_8_method_10_code
def yX6_letterAt : MethodName := ⟨RX6, "letterAt", "(I)I"⟩
abbrev cX6_isFigure : ByteArray := prog_8_method_11_code
def yX6_isFigure : MethodName := ⟨RX6, "isFigure", "(I)Z"⟩
def RX7 : String := "BackwardsLine"
def TX7 : u_T := fun k => match k with
  | 0 => ("BackwardsLine", "text", "LBackwardsLine$Text;", true)
  | 1 => ("BackwardsLine", "draft", "LBackwardsLine$Plan;", true)
  | 2 => ("BackwardsLine", "forecast", "LBackwardsLine$Forecast;", true)
  | 3 => ("BackwardsLine", "plan", "LBackwardsLine$Plan;", true)
  | 4 => ("BackwardsLine", "now", "LBackwardsLine$Line;", true)
  | 5 => ("BackwardsLine", "seen", "LBackwardsLine$Seen;", true)
  | 6 => ("BackwardsLine", "undoable", "LBackwardsLine$Shelf;", true)
  | _ => ("BackwardsLine", "kept", "LBackwardsLine$Shelf;", true)
def tyX7 : Nat → FieldType := fun k => match k with
  | 0 => .object "BackwardsLine$Text"
  | 1 => .object "BackwardsLine$Plan"
  | 2 => .object "BackwardsLine$Forecast"
  | 3 => .object "BackwardsLine$Plan"
  | 4 => .object "BackwardsLine$Line"
  | 5 => .object "BackwardsLine$Seen"
  | 6 => .object "BackwardsLine$Shelf"
  | _ => .object "BackwardsLine$Shelf"
abbrev wsX70 : List Cond := u_ws RX7 TX7 8
theorem nmX7 : ∀ a, a < 8 → ∀ b, b < 8 → a ≠ b → (TX7 a).2.1 ≠ (TX7 b).2.1 := by decide +kernel
theorem tyX7_ok : ∀ k, k < 8 → parseFieldDescriptor (TX7 k).2.2.1 = some (tyX7 k) := by decide +kernel
abbrev cX7_init : ByteArray := prog_1_method_1_code
def yX7_init : MethodName := ⟨RX7, "<init>", "()V"⟩
abbrev cX7_write : ByteArray := prog_1_method_2_code
def yX7_write : MethodName := ⟨RX7, "write", "(I)I"⟩
abbrev cX7_wipe : ByteArray := prog_1_method_3_code
def yX7_wipe : MethodName := ⟨RX7, "wipe", "()I"⟩
abbrev cX7_fault : ByteArray := prog_1_method_4_code
def yX7_fault : MethodName := ⟨RX7, "fault", "()I"⟩
abbrev cX7_lay : ByteArray := prog_1_method_5_code
def yX7_lay : MethodName := ⟨RX7, "lay", "()I"⟩
abbrev cX7_person : ByteArray := prog_1_method_6_code
def yX7_person : MethodName := ⟨RX7, "person", "(II)I"⟩
abbrev cX7_at : ByteArray := prog_1_method_7_code
def yX7_at : MethodName := ⟨RX7, "at", "(I)I"⟩
abbrev cX7_pass : ByteArray := prog_1_method_8_code
def yX7_pass : MethodName := ⟨RX7, "pass", "(I)I"⟩
abbrev cX7_giveUp : ByteArray := prog_1_method_9_code
def yX7_giveUp : MethodName := ⟨RX7, "giveUp", "(I)I"⟩
abbrev cX7_sneeze : ByteArray := prog_1_method_10_code
def yX7_sneeze : MethodName := ⟨RX7, "sneeze", "(I)I"⟩
abbrev cX7_leave : ByteArray := prog_1_method_11_code
def yX7_leave : MethodName := ⟨RX7, "leave", "(I)I"⟩
abbrev cX7_again : ByteArray := prog_1_method_12_code
def yX7_again : MethodName := ⟨RX7, "again", "(I)I"⟩
abbrev cX7_undo : ByteArray := prog_1_method_13_code
def yX7_undo : MethodName := ⟨RX7, "undo", "()I"⟩
abbrev cX7_behind : ByteArray := prog_1_method_14_code
def yX7_behind : MethodName := ⟨RX7, "behind", "(II)I"⟩
abbrev cX7_when : ByteArray := prog_1_method_15_code
def yX7_when : MethodName := ⟨RX7, "when", "(I)I"⟩
abbrev cX7_pays : ByteArray := prog_1_method_16_code
def yX7_pays : MethodName := ⟨RX7, "pays", "()I"⟩
abbrev cX7_gains : ByteArray := prog_1_method_17_code
def yX7_gains : MethodName := ⟨RX7, "gains", "()I"⟩
abbrev cX7_besides : ByteArray := prog_1_method_18_code
def yX7_besides : MethodName := ⟨RX7, "besides", "(I)I"⟩
abbrev cX7_whenOf : ByteArray := prog_1_method_19_code
def yX7_whenOf : MethodName := ⟨RX7, "whenOf", "(IZ)I"⟩
abbrev cX7_family : ByteArray := prog_1_method_20_code
def yX7_family : MethodName := ⟨RX7, "family", "(II)I"⟩
abbrev cX7_warmth : ByteArray := prog_1_method_21_code
def yX7_warmth : MethodName := ⟨RX7, "warmth", "(I)I"⟩
abbrev cX7_see : ByteArray := prog_1_method_22_code
def yX7_see : MethodName := ⟨RX7, "see", "(IIZ)I"⟩
abbrev cX7_forget : ByteArray := prog_1_method_23_code
def yX7_forget : MethodName := ⟨RX7, "forget", "()I"⟩
abbrev cX7_sneezed : ByteArray := prog_1_method_24_code
def yX7_sneezed : MethodName := ⟨RX7, "sneezed", "()I"⟩
abbrev cX7_kinds : ByteArray := prog_1_method_25_code
def yX7_kinds : MethodName := ⟨RX7, "kinds", "(I)I"⟩
abbrev cX7_rumours : ByteArray := prog_1_method_26_code
def yX7_rumours : MethodName := ⟨RX7, "rumours", "(IIII)I"⟩
abbrev cX7_day : ByteArray := prog_1_method_27_code
def yX7_day : MethodName := ⟨RX7, "day", "(III)I"⟩
abbrev cX7_keep : ByteArray := prog_1_method_28_code
def yX7_keep : MethodName := ⟨RX7, "keep", "()I"⟩
abbrev cX7_back : ByteArray := prog_1_method_29_code
def yX7_back : MethodName := ⟨RX7, "back", "()I"⟩
abbrev cX7_count : ByteArray := prog_1_method_30_code
def yX7_count : MethodName := ⟨RX7, "count", "(I)I"⟩
abbrev cX7_power : ByteArray := prog_1_method_31_code
def yX7_power : MethodName := ⟨RX7, "power", "(II)I"⟩
abbrev cX7_greatestDivisor : ByteArray := prog_1_method_32_code
def yX7_greatestDivisor : MethodName := ⟨RX7, "greatestDivisor", "(II)I"⟩
def RX8 : String := "BackwardsLineModel"
def TX8 : u_T := fun k => match k with
  | 0 => ("BackwardsLineModel", "w", "[I", true)
  | 1 => ("BackwardsLineModel", "undoes", "I", false)
  | 2 => ("BackwardsLineModel", "kept", "I", false)
  | 3 => ("BackwardsLineModel", "persons", "I", false)
  | 4 => ("BackwardsLineModel", "family", "[I", true)
  | 5 => ("BackwardsLineModel", "gives", "I", false)
  | 6 => ("BackwardsLineModel", "warm", "I", false)
  | 7 => ("BackwardsLineModel", "rumour", "I", false)
  | 8 => ("BackwardsLineModel", "seen", "I", false)
  | 9 => ("BackwardsLineModel", "seenOf", "[I", true)
  | 10 => ("BackwardsLineModel", "seenBehind", "[I", true)
  | 11 => ("BackwardsLineModel", "seenHas", "[Z", true)
  | 12 => ("BackwardsLineModel", "text", "[I", true)
  | 13 => ("BackwardsLineModel", "texted", "I", false)
  | 14 => ("BackwardsLineModel", "place", "I", false)
  | 15 => ("BackwardsLineModel", "number", "I", false)
  | 16 => ("BackwardsLineModel", "readPersons", "I", false)
  | 17 => ("BackwardsLineModel", "readKind", "[I", true)
  | 18 => ("BackwardsLineModel", "readComes", "[I", true)
  | 19 => ("BackwardsLineModel", "readFamily", "[I", true)
  | 20 => ("BackwardsLineModel", "readGives", "I", false)
  | 21 => ("BackwardsLineModel", "readWarm", "I", false)
  | 22 => ("BackwardsLineModel", "readRumour", "I", false)
  | 23 => ("BackwardsLineModel", "toCome", "[I", true)
  | 24 => ("BackwardsLineModel", "order", "[I", true)
  | _ => ("BackwardsLineModel", "bestOrder", "[I", true)
def tyX8 : Nat → FieldType := fun k => match k with
  | 0 => .array .int
  | 1 => .int
  | 2 => .int
  | 3 => .int
  | 4 => .array .int
  | 5 => .int
  | 6 => .int
  | 7 => .int
  | 8 => .int
  | 9 => .array .int
  | 10 => .array .int
  | 11 => .array .boolean
  | 12 => .array .int
  | 13 => .int
  | 14 => .int
  | 15 => .int
  | 16 => .int
  | 17 => .array .int
  | 18 => .array .int
  | 19 => .array .int
  | 20 => .int
  | 21 => .int
  | 22 => .int
  | 23 => .array .int
  | 24 => .array .int
  | _ => .array .int
abbrev wsX80 : List Cond := u_ws RX8 TX8 26
theorem nmX8 : ∀ a, a < 26 → ∀ b, b < 26 → a ≠ b → (TX8 a).2.1 ≠ (TX8 b).2.1 := by decide +kernel
theorem tyX8_ok : ∀ k, k < 26 → parseFieldDescriptor (TX8 k).2.2.1 = some (tyX8 k) := by decide +kernel
abbrev cX8_init : ByteArray := prog_10_method_1_code
def yX8_init : MethodName := ⟨RX8, "<init>", "()V"⟩
abbrev cX8_in : ByteArray := prog_10_method_3_code
def yX8_in : MethodName := ⟨RX8, "in", "(JJJ)Z"⟩
abbrev cX8_isIn : ByteArray := prog_10_method_4_code
def yX8_isIn : MethodName := ⟨RX8, "isIn", "(II)Z"⟩
abbrev cX8_copy : ByteArray := prog_10_method_5_code
def yX8_copy : MethodName := ⟨RX8, "copy", "(II)V"⟩
abbrev cX8_isPerson : ByteArray := prog_10_method_6_code
def yX8_isPerson : MethodName := ⟨RX8, "isPerson", "(I)Z"⟩
abbrev cX8_adds : ByteArray := prog_10_method_7_code
def yX8_adds : MethodName := ⟨RX8, "adds", "(III)V"⟩
abbrev cX8_begins : ByteArray := prog_10_method_8_code
def yX8_begins : MethodName := ⟨RX8, "begins", "()V"⟩
abbrev cX8_write : ByteArray := prog_10_method_9_code
def yX8_write : MethodName := ⟨RX8, "write", "(I)I"⟩
abbrev cX8_wipe : ByteArray := prog_10_method_10_code
def yX8_wipe : MethodName := ⟨RX8, "wipe", "()I"⟩
abbrev cX8_letterAt : ByteArray := prog_10_method_11_code
def yX8_letterAt : MethodName := ⟨RX8, "letterAt", "(I)I"⟩
abbrev cX8_takesNumber : ByteArray := prog_10_method_12_code
def yX8_takesNumber : MethodName := ⟨RX8, "takesNumber", "(III)Z"⟩
abbrev cX8_takesPerson : ByteArray := prog_10_method_13_code
def yX8_takesPerson : MethodName := ⟨RX8, "takesPerson", "()Z"⟩
abbrev cX8_takesBaker : ByteArray := prog_10_method_14_code
def yX8_takesBaker : MethodName := ⟨RX8, "takesBaker", "()Z"⟩
abbrev cX8_takesRumour : ByteArray := prog_10_method_15_code
def yX8_takesRumour : MethodName := ⟨RX8, "takesRumour", "()Z"⟩
abbrev cX8_takesItem : ByteArray := prog_10_method_16_code
def yX8_takesItem : MethodName := ⟨RX8, "takesItem", "()Z"⟩
abbrev cX8_faultOf : ByteArray := prog_10_method_17_code
def yX8_faultOf : MethodName := ⟨RX8, "faultOf", "()I"⟩
abbrev cX8_fault : ByteArray := prog_10_method_18_code
def yX8_fault : MethodName := ⟨RX8, "fault", "()I"⟩
abbrev cX8_lay : ByteArray := prog_10_method_19_code
def yX8_lay : MethodName := ⟨RX8, "lay", "()I"⟩
abbrev cX8_placeOf : ByteArray := prog_10_method_20_code
def yX8_placeOf : MethodName := ⟨RX8, "placeOf", "(II)I"⟩
abbrev cX8_stands : ByteArray := prog_10_method_21_code
def yX8_stands : MethodName := ⟨RX8, "stands", "(III)V"⟩
abbrev cX8_goes : ByteArray := prog_10_method_22_code
def yX8_goes : MethodName := ⟨RX8, "goes", "(III)V"⟩
abbrev cX8_joins : ByteArray := prog_10_method_23_code
def yX8_joins : MethodName := ⟨RX8, "joins", "(II)V"⟩
abbrev cX8_sneezes : ByteArray := prog_10_method_24_code
def yX8_sneezes : MethodName := ⟨RX8, "sneezes", "(II)V"⟩
abbrev cX8_givesOne : ByteArray := prog_10_method_25_code
def yX8_givesOne : MethodName := ⟨RX8, "givesOne", "(IZ)V"⟩
abbrev cX8_passesBy : ByteArray := prog_10_method_26_code
def yX8_passesBy : MethodName := ⟨RX8, "passesBy", "(IZZ)V"⟩
abbrev cX8_isRumour : ByteArray := prog_10_method_27_code
def yX8_isRumour : MethodName := ⟨RX8, "isRumour", "(I)Z"⟩
abbrev cX8_passes : ByteArray := prog_10_method_28_code
def yX8_passes : MethodName := ⟨RX8, "passes", "(I)V"⟩
abbrev cX8_isWhere : ByteArray := prog_10_method_29_code
def yX8_isWhere : MethodName := ⟨RX8, "isWhere", "(III)Z"⟩
abbrev cX8_manyWhere : ByteArray := prog_10_method_30_code
def yX8_manyWhere : MethodName := ⟨RX8, "manyWhere", "(I)I"⟩
abbrev cX8_person : ByteArray := prog_10_method_31_code
def yX8_person : MethodName := ⟨RX8, "person", "(II)I"⟩
abbrev cX8_at : ByteArray := prog_10_method_32_code
def yX8_at : MethodName := ⟨RX8, "at", "(I)I"⟩
abbrev cX8_minds : ByteArray := prog_10_method_33_code
def yX8_minds : MethodName := ⟨RX8, "minds", "()V"⟩
abbrev cX8_pass : ByteArray := prog_10_method_34_code
def yX8_pass : MethodName := ⟨RX8, "pass", "(I)I"⟩
abbrev cX8_canGiveUp : ByteArray := prog_10_method_35_code
def yX8_canGiveUp : MethodName := ⟨RX8, "canGiveUp", "(II)Z"⟩
abbrev cX8_givesUp : ByteArray := prog_10_method_36_code
def yX8_givesUp : MethodName := ⟨RX8, "givesUp", "(II)V"⟩
abbrev cX8_giveUp : ByteArray := prog_10_method_37_code
def yX8_giveUp : MethodName := ⟨RX8, "giveUp", "(I)I"⟩
abbrev cX8_sneeze : ByteArray := prog_10_method_38_code
def yX8_sneeze : MethodName := ⟨RX8, "sneeze", "(I)I"⟩
abbrev cX8_leave : ByteArray := prog_10_method_39_code
def yX8_leave : MethodName := ⟨RX8, "leave", "(I)I"⟩
abbrev cX8_again : ByteArray := prog_10_method_40_code
def yX8_again : MethodName := ⟨RX8, "again", "(I)I"⟩
abbrev cX8_undo : ByteArray := prog_10_method_41_code
def yX8_undo : MethodName := ⟨RX8, "undo", "()I"⟩
abbrev cX8_tries : ByteArray := prog_10_method_42_code
def yX8_tries : MethodName := ⟨RX8, "tries", "()V"⟩
abbrev cX8_behind : ByteArray := prog_10_method_43_code
def yX8_behind : MethodName := ⟨RX8, "behind", "(II)I"⟩
abbrev cX8_eats : ByteArray := prog_10_method_44_code
def yX8_eats : MethodName := ⟨RX8, "eats", "(IZ)I"⟩
abbrev cX8_whenOf : ByteArray := prog_10_method_45_code
def yX8_whenOf : MethodName := ⟨RX8, "whenOf", "(IZ)I"⟩
abbrev cX8_when : ByteArray := prog_10_method_46_code
def yX8_when : MethodName := ⟨RX8, "when", "(I)I"⟩
abbrev cX8_besides : ByteArray := prog_10_method_47_code
def yX8_besides : MethodName := ⟨RX8, "besides", "(I)I"⟩
abbrev cX8_servedBy : ByteArray := prog_10_method_48_code
def yX8_servedBy : MethodName := ⟨RX8, "servedBy", "(Z)I"⟩
abbrev cX8_pays : ByteArray := prog_10_method_49_code
def yX8_pays : MethodName := ⟨RX8, "pays", "()I"⟩
abbrev cX8_gains : ByteArray := prog_10_method_50_code
def yX8_gains : MethodName := ⟨RX8, "gains", "()I"⟩
abbrev cX8_waitBy : ByteArray := prog_10_method_51_code
def yX8_waitBy : MethodName := ⟨RX8, "waitBy", "(I)I"⟩
abbrev cX8_family : ByteArray := prog_10_method_52_code
def yX8_family : MethodName := ⟨RX8, "family", "(II)I"⟩
abbrev cX8_warmthOf : ByteArray := prog_10_method_53_code
def yX8_warmthOf : MethodName := ⟨RX8, "warmthOf", "(II)I"⟩
abbrev cX8_warmth : ByteArray := prog_10_method_54_code
def yX8_warmth : MethodName := ⟨RX8, "warmth", "(I)I"⟩
abbrev cX8_see : ByteArray := prog_10_method_55_code
def yX8_see : MethodName := ⟨RX8, "see", "(IIZ)I"⟩
abbrev cX8_forget : ByteArray := prog_10_method_56_code
def yX8_forget : MethodName := ⟨RX8, "forget", "()I"⟩
abbrev cX8_isSeen : ByteArray := prog_10_method_57_code
def yX8_isSeen : MethodName := ⟨RX8, "isSeen", "()Z"⟩
abbrev cX8_sneezed : ByteArray := prog_10_method_58_code
def yX8_sneezed : MethodName := ⟨RX8, "sneezed", "()I"⟩
abbrev cX8_kinds : ByteArray := prog_10_method_59_code
def yX8_kinds : MethodName := ⟨RX8, "kinds", "(I)I"⟩
abbrev cX8_rumours : ByteArray := prog_10_method_60_code
def yX8_rumours : MethodName := ⟨RX8, "rumours", "(IIII)I"⟩
abbrev cX8_doesBy : ByteArray := prog_10_method_61_code
def yX8_doesBy : MethodName := ⟨RX8, "doesBy", "(I)V"⟩
abbrev cX8_day : ByteArray := prog_10_method_62_code
def yX8_day : MethodName := ⟨RX8, "day", "(III)I"⟩
abbrev cX8_keep : ByteArray := prog_10_method_63_code
def yX8_keep : MethodName := ⟨RX8, "keep", "()I"⟩
abbrev cX8_back : ByteArray := prog_10_method_64_code
def yX8_back : MethodName := ⟨RX8, "back", "()I"⟩
abbrev cX8_count : ByteArray := prog_10_method_65_code
def yX8_count : MethodName := ⟨RX8, "count", "(I)I"⟩
def RJ6 : String := "java/lang/Integer"
def TJ6 : u_T := fun k => match k with
  | _ => ("", "", "", false)
def tyJ6 : Nat → FieldType := fun k => match k with
  | _ => .int
abbrev wsJ60 : List Cond := u_ws RJ6 TJ6 0
theorem nmJ6 : ∀ a, a < 0 → ∀ b, b < 0 → a ≠ b → (TJ6 a).2.1 ≠ (TJ6 b).2.1 := by decide +kernel
theorem tyJ6_ok : ∀ k, k < 0 → parseFieldDescriptor (TJ6 k).2.2.1 = some (tyJ6 k) := by decide +kernel
abbrev cJ6_bitCount_0f7a4 : ByteArray := prog_11_method_49_code
def yJ6_bitCount_0f7a4 : MethodName := ⟨RJ6, "bitCount", "(I)I"⟩
def RJ9 : String := "java/lang/Math"
def TJ9 : u_T := fun k => match k with
  | _ => ("", "", "", false)
def tyJ9 : Nat → FieldType := fun k => match k with
  | _ => .int
abbrev wsJ90 : List Cond := u_ws RJ9 TJ9 0
theorem nmJ9 : ∀ a, a < 0 → ∀ b, b < 0 → a ≠ b → (TJ9 a).2.1 ≠ (TJ9 b).2.1 := by decide +kernel
theorem tyJ9_ok : ∀ k, k < 0 → parseFieldDescriptor (TJ9 k).2.2.1 = some (tyJ9 k) := by decide +kernel
abbrev cJ9_max_7cf53 : ByteArray := prog_12_method_65_code
def yJ9_max_7cf53 : MethodName := ⟨RJ9, "max", "(II)I"⟩
abbrev cJ9_min_7cf53 : ByteArray := prog_12_method_69_code
def yJ9_min_7cf53 : MethodName := ⟨RJ9, "min", "(II)I"⟩
def RJ0 : String := "java/lang/String"
def TJ0 : u_T := fun k => match k with
  | _ => ("", "", "", false)
def tyJ0 : Nat → FieldType := fun k => match k with
  | _ => .int
abbrev wsJ00 : List Cond := u_ws RJ0 TJ0 0
theorem nmJ0 : ∀ a, a < 0 → ∀ b, b < 0 → a ≠ b → (TJ0 a).2.1 ≠ (TJ0 b).2.1 := by decide +kernel
theorem tyJ0_ok : ∀ k, k < 0 → parseFieldDescriptor (TJ0 k).2.2.1 = some (tyJ0 k) := by decide +kernel
abbrev cJ0_length_8abf5 : ByteArray := prog_13_method_54_code
def yJ0_length_8abf5 : MethodName := ⟨RJ0, "length", "()I"⟩
abbrev cJ0_charAt_5068e : ByteArray := prog_13_method_56_code
def yJ0_charAt_5068e : MethodName := ⟨RJ0, "charAt", "(I)C"⟩
abbrev cJ0_coder_7d493 : ByteArray := prog_13_method_152_code
def yJ0_coder_7d493 : MethodName := ⟨RJ0, "coder", "()B"⟩
abbrev cJ0_isLatin1_aae02 : ByteArray := prog_13_method_154_code
def yJ0_isLatin1_aae02 : MethodName := ⟨RJ0, "isLatin1", "()Z"⟩
abbrev cJ0_checkIndex_df160 : ByteArray := prog_13_method_155_code
def yJ0_checkIndex_df160 : MethodName := ⟨RJ0, "checkIndex", "(II)V"⟩
def RJ1 : String := "java/lang/StringLatin1"
def TJ1 : u_T := fun k => match k with
  | _ => ("", "", "", false)
def tyJ1 : Nat → FieldType := fun k => match k with
  | _ => .int
abbrev wsJ10 : List Cond := u_ws RJ1 TJ1 0
theorem nmJ1 : ∀ a, a < 0 → ∀ b, b < 0 → a ≠ b → (TJ1 a).2.1 ≠ (TJ1 b).2.1 := by decide +kernel
theorem tyJ1_ok : ∀ k, k < 0 → parseFieldDescriptor (TJ1 k).2.2.1 = some (tyJ1 k) := by decide +kernel
abbrev cJ1_charAt_3b067 : ByteArray := prog_14_method_2_code
def yJ1_charAt_3b067 : MethodName := ⟨RJ1, "charAt", "([BI)C"⟩
def RJ2 : String := "java/lang/StringUTF16"
def TJ2 : u_T := fun k => match k with
  | _ => ("", "", "", false)
def tyJ2 : Nat → FieldType := fun k => match k with
  | _ => .int
abbrev wsJ20 : List Cond := u_ws RJ2 TJ2 0
theorem nmJ2 : ∀ a, a < 0 → ∀ b, b < 0 → a ≠ b → (TJ2 a).2.1 ≠ (TJ2 b).2.1 := by decide +kernel
theorem tyJ2_ok : ∀ k, k < 0 → parseFieldDescriptor (TJ2 k).2.2.1 = some (tyJ2 k) := by decide +kernel
abbrev cJ2_getChar_3b067 : ByteArray := prog_15_method_5_code
def yJ2_getChar_3b067 : MethodName := ⟨RJ2, "getChar", "([BI)C"⟩
abbrev cJ2_length_9d52b : ByteArray := prog_15_method_6_code
def yJ2_length_9d52b : MethodName := ⟨RJ2, "length", "([B)I"⟩
abbrev cJ2_charAt_3b067 : ByteArray := prog_15_method_83_code
def yJ2_charAt_3b067 : MethodName := ⟨RJ2, "charAt", "([BI)C"⟩
abbrev cJ2_checkIndex_2214a : ByteArray := prog_15_method_91_code
def yJ2_checkIndex_2214a : MethodName := ⟨RJ2, "checkIndex", "(I[B)V"⟩
def RJ10 : String := "java/lang/System"
def TJ10 : u_T := fun k => match k with
  | _ => ("", "", "", false)
def tyJ10 : Nat → FieldType := fun k => match k with
  | _ => .int
abbrev wsJ100 : List Cond := u_ws RJ10 TJ10 0
theorem nmJ10 : ∀ a, a < 0 → ∀ b, b < 0 → a ≠ b → (TJ10 a).2.1 ≠ (TJ10 b).2.1 := by decide +kernel
theorem tyJ10_ok : ∀ k, k < 0 → parseFieldDescriptor (TJ10 k).2.2.1 = some (tyJ10 k) := by decide +kernel
def RJ3 : String := "jdk/internal/util/Preconditions"
def TJ3 : u_T := fun k => match k with
  | _ => ("", "", "", false)
def tyJ3 : Nat → FieldType := fun k => match k with
  | _ => .int
abbrev wsJ30 : List Cond := u_ws RJ3 TJ3 0
theorem nmJ3 : ∀ a, a < 0 → ∀ b, b < 0 → a ≠ b → (TJ3 a).2.1 ≠ (TJ3 b).2.1 := by decide +kernel
theorem tyJ3_ok : ∀ k, k < 0 → parseFieldDescriptor (TJ3 k).2.2.1 = some (tyJ3 k) := by decide +kernel
abbrev cJ3_checkIndex_8e157 : ByteArray := prog_17_method_11_code
def yJ3_checkIndex_8e157 : MethodName := ⟨RJ3, "checkIndex", "(IILjava/util/function/BiFunction;)I"⟩
def RL : String := "BackwardsLineLaw"
abbrev cL_law : ByteArray := code
def yL_law : MethodName := ⟨RL, "law", "([I)Z"⟩
abbrev vwCl : List vw_C := [(RX0, TX0, 5), (RX1, TX1, 9), (RX2, TX2, 3), (RX3, TX3, 7), (RX4, TX4, 4), (RX5, TX5, 3), (RX6, TX6, 3), (RX7, TX7, 8), (RX8, TX8, 26)]
end
section
theorem dX0_init_0 : decode cX0_init 0 = .ok (.aload_n 0, 1) := by decide +kernel
theorem dX0_init_1 : decode cX0_init 1 = .ok (.invokespecial 3, 3) := by decide +kernel
theorem dX0_init_4 : decode cX0_init 4 = .ok (.aload_n 0, 1) := by decide +kernel
theorem dX0_init_5 : decode cX0_init 5 = .ok (.new 9, 3) := by decide +kernel
theorem dX0_init_8 : decode cX0_init 8 = .ok (.dup, 1) := by decide +kernel
theorem dX0_init_9 : decode cX0_init 9 = .ok (.invokespecial 11, 3) := by decide +kernel
theorem dX0_init_12 : decode cX0_init 12 = .ok (.putfield 12, 3) := by decide +kernel
theorem dX0_init_15 : decode cX0_init 15 = .ok (.aload_n 0, 1) := by decide +kernel
theorem dX0_init_16 : decode cX0_init 16 = .ok (.new 18, 3) := by decide +kernel
theorem dX0_init_19 : decode cX0_init 19 = .ok (.dup, 1) := by decide +kernel
theorem dX0_init_20 : decode cX0_init 20 = .ok (.invokespecial 20, 3) := by decide +kernel
theorem dX0_init_23 : decode cX0_init 23 = .ok (.putfield 21, 3) := by decide +kernel
theorem dX0_init_26 : decode cX0_init 26 = .ok (.aload_n 0, 1) := by decide +kernel
theorem dX0_init_27 : decode cX0_init 27 = .ok (.new 9, 3) := by decide +kernel
theorem dX0_init_30 : decode cX0_init 30 = .ok (.dup, 1) := by decide +kernel
theorem dX0_init_31 : decode cX0_init 31 = .ok (.invokespecial 11, 3) := by decide +kernel
theorem dX0_init_34 : decode cX0_init 34 = .ok (.putfield 25, 3) := by decide +kernel
theorem dX0_init_37 : decode cX0_init 37 = .ok (.aload_n 0, 1) := by decide +kernel
theorem dX0_init_38 : decode cX0_init 38 = .ok (.new 18, 3) := by decide +kernel
theorem dX0_init_41 : decode cX0_init 41 = .ok (.dup, 1) := by decide +kernel
theorem dX0_init_42 : decode cX0_init 42 = .ok (.invokespecial 20, 3) := by decide +kernel
theorem dX0_init_45 : decode cX0_init 45 = .ok (.putfield 28, 3) := by decide +kernel
theorem dX0_init_48 : decode cX0_init 48 = .ok (.aload_n 0, 1) := by decide +kernel
theorem dX0_init_49 : decode cX0_init 49 = .ok (.new 31, 3) := by decide +kernel
theorem dX0_init_52 : decode cX0_init 52 = .ok (.dup, 1) := by decide +kernel
theorem dX0_init_53 : decode cX0_init 53 = .ok (.invokespecial 33, 3) := by decide +kernel
theorem dX0_init_56 : decode cX0_init 56 = .ok (.putfield 34, 3) := by decide +kernel
theorem dX0_init_59 : decode cX0_init 59 = .ok (.return_, 1) := by decide +kernel
theorem dX0_startTrial_0 : decode cX0_startTrial 0 = .ok (.aload_n 0, 1) := by decide +kernel
theorem dX0_startTrial_1 : decode cX0_startTrial 1 = .ok (.getfield 28, 3) := by decide +kernel
theorem dX0_startTrial_4 : decode cX0_startTrial 4 = .ok (.aload_n 0, 1) := by decide +kernel
theorem dX0_startTrial_5 : decode cX0_startTrial 5 = .ok (.getfield 21, 3) := by decide +kernel
theorem dX0_startTrial_8 : decode cX0_startTrial 8 = .ok (.invokevirtual 38, 3) := by decide +kernel
theorem dX0_startTrial_11 : decode cX0_startTrial 11 = .ok (.return_, 1) := by decide +kernel
theorem dX0_lineBehind_0 : decode cX0_lineBehind 0 = .ok (.aload_n 0, 1) := by decide +kernel
theorem dX0_lineBehind_1 : decode cX0_lineBehind 1 = .ok (.invokevirtual 42, 3) := by decide +kernel
theorem dX0_lineBehind_4 : decode cX0_lineBehind 4 = .ok (.aload_n 0, 1) := by decide +kernel
theorem dX0_lineBehind_5 : decode cX0_lineBehind 5 = .ok (.getfield 28, 3) := by decide +kernel
theorem dX0_lineBehind_8 : decode cX0_lineBehind 8 = .ok (.aload_n 0, 1) := by decide +kernel
theorem dX0_lineBehind_9 : decode cX0_lineBehind 9 = .ok (.getfield 12, 3) := by decide +kernel
theorem dX0_lineBehind_12 : decode cX0_lineBehind 12 = .ok (.iload_n 1, 1) := by decide +kernel
theorem dX0_lineBehind_13 : decode cX0_lineBehind 13 = .ok (.invokevirtual 45, 3) := by decide +kernel
theorem dX0_lineBehind_16 : decode cX0_lineBehind 16 = .ok (.aload_n 0, 1) := by decide +kernel
theorem dX0_lineBehind_17 : decode cX0_lineBehind 17 = .ok (.getfield 28, 3) := by decide +kernel
theorem dX0_lineBehind_20 : decode cX0_lineBehind 20 = .ok (.areturn, 1) := by decide +kernel
theorem dX0_whenEaten_0 : decode cX0_whenEaten 0 = .ok (.iconst 1, 1) := by decide +kernel
theorem dX0_whenEaten_1 : decode cX0_whenEaten 1 = .ok (.istore_n 3, 1) := by decide +kernel
theorem dX0_whenEaten_2 : decode cX0_whenEaten 2 = .ok (.iload_n 3, 1) := by decide +kernel
theorem dX0_whenEaten_3 : decode cX0_whenEaten 3 = .ok (.bipush 99, 2) := by decide +kernel
theorem dX0_whenEaten_5 : decode cX0_whenEaten 5 = .ok (.if_icmp .gt 61, 3) := by decide +kernel
theorem dX0_whenEaten_8 : decode cX0_whenEaten 8 = .ok (.aload_n 0, 1) := by decide +kernel
theorem dX0_whenEaten_9 : decode cX0_whenEaten 9 = .ok (.getfield 28, 3) := by decide +kernel
theorem dX0_whenEaten_12 : decode cX0_whenEaten 12 = .ok (.iload_n 1, 1) := by decide +kernel
theorem dX0_whenEaten_13 : decode cX0_whenEaten 13 = .ok (.invokevirtual 49, 3) := by decide +kernel
theorem dX0_whenEaten_16 : decode cX0_whenEaten 16 = .ok (.iconst 2, 1) := by decide +kernel
theorem dX0_whenEaten_17 : decode cX0_whenEaten 17 = .ok (.if_icmp .eq 49, 3) := by decide +kernel
theorem dX0_whenEaten_20 : decode cX0_whenEaten 20 = .ok (.aload_n 0, 1) := by decide +kernel
theorem dX0_whenEaten_21 : decode cX0_whenEaten 21 = .ok (.getfield 28, 3) := by decide +kernel
theorem dX0_whenEaten_24 : decode cX0_whenEaten 24 = .ok (.aload_n 0, 1) := by decide +kernel
theorem dX0_whenEaten_25 : decode cX0_whenEaten 25 = .ok (.getfield 12, 3) := by decide +kernel
theorem dX0_whenEaten_28 : decode cX0_whenEaten 28 = .ok (.aload_n 0, 1) := by decide +kernel
theorem dX0_whenEaten_29 : decode cX0_whenEaten 29 = .ok (.getfield 12, 3) := by decide +kernel
theorem dX0_whenEaten_32 : decode cX0_whenEaten 32 = .ok (.aload_n 0, 1) := by decide +kernel
theorem dX0_whenEaten_33 : decode cX0_whenEaten 33 = .ok (.getfield 28, 3) := by decide +kernel
theorem dX0_whenEaten_36 : decode cX0_whenEaten 36 = .ok (.getfield 53, 3) := by decide +kernel
theorem dX0_whenEaten_39 : decode cX0_whenEaten 39 = .ok (.invokevirtual 57, 3) := by decide +kernel
theorem dX0_whenEaten_42 : decode cX0_whenEaten 42 = .ok (.iload_n 2, 1) := by decide +kernel
theorem dX0_whenEaten_43 : decode cX0_whenEaten 43 = .ok (.invokevirtual 61, 3) := by decide +kernel
theorem dX0_whenEaten_46 : decode cX0_whenEaten 46 = .ok (.aload_n 0, 1) := by decide +kernel
theorem dX0_whenEaten_47 : decode cX0_whenEaten 47 = .ok (.getfield 28, 3) := by decide +kernel
theorem dX0_whenEaten_50 : decode cX0_whenEaten 50 = .ok (.iload_n 1, 1) := by decide +kernel
theorem dX0_whenEaten_51 : decode cX0_whenEaten 51 = .ok (.invokevirtual 49, 3) := by decide +kernel
theorem dX0_whenEaten_54 : decode cX0_whenEaten 54 = .ok (.iconst 3, 1) := by decide +kernel
theorem dX0_whenEaten_55 : decode cX0_whenEaten 55 = .ok (.if_icmp .ne 5, 3) := by decide +kernel
theorem dX0_whenEaten_58 : decode cX0_whenEaten 58 = .ok (.iload_n 3, 1) := by decide +kernel
theorem dX0_whenEaten_59 : decode cX0_whenEaten 59 = .ok (.ireturn, 1) := by decide +kernel
theorem dX0_whenEaten_60 : decode cX0_whenEaten 60 = .ok (.iinc 3 1, 3) := by decide +kernel
theorem dX0_whenEaten_63 : decode cX0_whenEaten 63 = .ok (.goto (-61), 3) := by decide +kernel
theorem dX0_whenEaten_66 : decode cX0_whenEaten 66 = .ok (.bipush 100, 2) := by decide +kernel
theorem dX0_whenEaten_68 : decode cX0_whenEaten 68 = .ok (.ireturn, 1) := by decide +kernel
theorem dX0_whoGains_0 : decode cX0_whoGains 0 = .ok (.iconst 0, 1) := by decide +kernel
theorem dX0_whoGains_1 : decode cX0_whoGains 1 = .ok (.istore_n 2, 1) := by decide +kernel
theorem dX0_whoGains_2 : decode cX0_whoGains 2 = .ok (.iconst 0, 1) := by decide +kernel
theorem dX0_whoGains_3 : decode cX0_whoGains 3 = .ok (.istore_n 3, 1) := by decide +kernel
theorem dX0_whoGains_4 : decode cX0_whoGains 4 = .ok (.iload_n 3, 1) := by decide +kernel
theorem dX0_whoGains_5 : decode cX0_whoGains 5 = .ok (.aload_n 0, 1) := by decide +kernel
theorem dX0_whoGains_6 : decode cX0_whoGains 6 = .ok (.getfield 12, 3) := by decide +kernel
theorem dX0_whoGains_9 : decode cX0_whoGains 9 = .ok (.getfield 65, 3) := by decide +kernel
theorem dX0_whoGains_12 : decode cX0_whoGains 12 = .ok (.if_icmp .ge 63, 3) := by decide +kernel
theorem dX0_whoGains_15 : decode cX0_whoGains 15 = .ok (.aload_n 0, 1) := by decide +kernel
theorem dX0_whoGains_16 : decode cX0_whoGains 16 = .ok (.getfield 21, 3) := by decide +kernel
theorem dX0_whoGains_19 : decode cX0_whoGains 19 = .ok (.iload_n 3, 1) := by decide +kernel
theorem dX0_whoGains_20 : decode cX0_whoGains 20 = .ok (.invokevirtual 49, 3) := by decide +kernel
theorem dX0_whoGains_23 : decode cX0_whoGains 23 = .ok (.iconst 1, 1) := by decide +kernel
theorem dX0_whoGains_24 : decode cX0_whoGains 24 = .ok (.if_icmp .eq 6, 3) := by decide +kernel
theorem dX0_whoGains_27 : decode cX0_whoGains 27 = .ok (.goto 42, 3) := by decide +kernel
theorem dX0_whoGains_30 : decode cX0_whoGains 30 = .ok (.aload_n 0, 1) := by decide +kernel
theorem dX0_whoGains_31 : decode cX0_whoGains 31 = .ok (.invokevirtual 42, 3) := by decide +kernel
theorem dX0_whoGains_34 : decode cX0_whoGains 34 = .ok (.aload_n 0, 1) := by decide +kernel
theorem dX0_whoGains_35 : decode cX0_whoGains 35 = .ok (.iload_n 3, 1) := by decide +kernel
theorem dX0_whoGains_36 : decode cX0_whoGains 36 = .ok (.iconst 0, 1) := by decide +kernel
theorem dX0_whoGains_37 : decode cX0_whoGains 37 = .ok (.invokevirtual 68, 3) := by decide +kernel
theorem dX0_whoGains_40 : decode cX0_whoGains 40 = .ok (.istore 4, 2) := by decide +kernel
theorem dX0_whoGains_42 : decode cX0_whoGains 42 = .ok (.aload_n 0, 1) := by decide +kernel
theorem dX0_whoGains_43 : decode cX0_whoGains 43 = .ok (.invokevirtual 42, 3) := by decide +kernel
theorem dX0_whoGains_46 : decode cX0_whoGains 46 = .ok (.aload_n 0, 1) := by decide +kernel
theorem dX0_whoGains_47 : decode cX0_whoGains 47 = .ok (.iload_n 3, 1) := by decide +kernel
theorem dX0_whoGains_48 : decode cX0_whoGains 48 = .ok (.iload_n 1, 1) := by decide +kernel
theorem dX0_whoGains_49 : decode cX0_whoGains 49 = .ok (.invokevirtual 72, 3) := by decide +kernel
theorem dX0_whoGains_52 : decode cX0_whoGains 52 = .ok (.aload_n 0, 1) := by decide +kernel
theorem dX0_whoGains_53 : decode cX0_whoGains 53 = .ok (.iload_n 3, 1) := by decide +kernel
theorem dX0_whoGains_54 : decode cX0_whoGains 54 = .ok (.iconst 0, 1) := by decide +kernel
theorem dX0_whoGains_55 : decode cX0_whoGains 55 = .ok (.invokevirtual 68, 3) := by decide +kernel
theorem dX0_whoGains_58 : decode cX0_whoGains 58 = .ok (.iload 4, 2) := by decide +kernel
theorem dX0_whoGains_60 : decode cX0_whoGains 60 = .ok (.if_icmp .ge 9, 3) := by decide +kernel
theorem dX0_whoGains_63 : decode cX0_whoGains 63 = .ok (.iload_n 2, 1) := by decide +kernel
theorem dX0_whoGains_64 : decode cX0_whoGains 64 = .ok (.iconst 1, 1) := by decide +kernel
theorem dX0_whoGains_65 : decode cX0_whoGains 65 = .ok (.iload_n 3, 1) := by decide +kernel
theorem dX0_whoGains_66 : decode cX0_whoGains 66 = .ok (.ishl, 1) := by decide +kernel
theorem dX0_whoGains_67 : decode cX0_whoGains 67 = .ok (.ior, 1) := by decide +kernel
theorem dX0_whoGains_68 : decode cX0_whoGains 68 = .ok (.istore_n 2, 1) := by decide +kernel
theorem dX0_whoGains_69 : decode cX0_whoGains 69 = .ok (.iinc 3 1, 3) := by decide +kernel
theorem dX0_whoGains_72 : decode cX0_whoGains 72 = .ok (.goto (-68), 3) := by decide +kernel
theorem dX0_whoGains_75 : decode cX0_whoGains 75 = .ok (.iload_n 2, 1) := by decide +kernel
theorem dX0_whoGains_76 : decode cX0_whoGains 76 = .ok (.ireturn, 1) := by decide +kernel
theorem dX0_move_0 : decode cX0_move 0 = .ok (.iload_n 2, 1) := by decide +kernel
theorem dX0_move_1 : decode cX0_move 1 = .ok (.ifCond .eq 26, 3) := by decide +kernel
theorem dX0_move_4 : decode cX0_move 4 = .ok (.aload_n 0, 1) := by decide +kernel
theorem dX0_move_5 : decode cX0_move 5 = .ok (.getfield 28, 3) := by decide +kernel
theorem dX0_move_8 : decode cX0_move 8 = .ok (.iload_n 1, 1) := by decide +kernel
theorem dX0_move_9 : decode cX0_move 9 = .ok (.invokevirtual 76, 3) := by decide +kernel
theorem dX0_move_12 : decode cX0_move 12 = .ok (.aload_n 0, 1) := by decide +kernel
theorem dX0_move_13 : decode cX0_move 13 = .ok (.getfield 28, 3) := by decide +kernel
theorem dX0_move_16 : decode cX0_move 16 = .ok (.aload_n 0, 1) := by decide +kernel
theorem dX0_move_17 : decode cX0_move 17 = .ok (.getfield 12, 3) := by decide +kernel
theorem dX0_move_20 : decode cX0_move 20 = .ok (.iload_n 1, 1) := by decide +kernel
theorem dX0_move_21 : decode cX0_move 21 = .ok (.invokevirtual 80, 3) := by decide +kernel
theorem dX0_move_24 : decode cX0_move 24 = .ok (.goto 11, 3) := by decide +kernel
theorem dX0_move_27 : decode cX0_move 27 = .ok (.aload_n 0, 1) := by decide +kernel
theorem dX0_move_28 : decode cX0_move 28 = .ok (.getfield 28, 3) := by decide +kernel
theorem dX0_move_31 : decode cX0_move 31 = .ok (.iload_n 1, 1) := by decide +kernel
theorem dX0_move_32 : decode cX0_move 32 = .ok (.invokevirtual 83, 3) := by decide +kernel
theorem dX0_move_35 : decode cX0_move 35 = .ok (.return_, 1) := by decide +kernel
theorem dX0_bestOrder_0 : decode cX0_bestOrder 0 = .ok (.bipush 100, 2) := by decide +kernel
theorem dX0_bestOrder_2 : decode cX0_bestOrder 2 = .ok (.istore_n 1, 1) := by decide +kernel
theorem dX0_bestOrder_3 : decode cX0_bestOrder 3 = .ok (.aload_n 0, 1) := by decide +kernel
theorem dX0_bestOrder_4 : decode cX0_bestOrder 4 = .ok (.getfield 25, 3) := by decide +kernel
theorem dX0_bestOrder_7 : decode cX0_bestOrder 7 = .ok (.aload_n 0, 1) := by decide +kernel
theorem dX0_bestOrder_8 : decode cX0_bestOrder 8 = .ok (.getfield 12, 3) := by decide +kernel
theorem dX0_bestOrder_11 : decode cX0_bestOrder 11 = .ok (.invokevirtual 86, 3) := by decide +kernel
theorem dX0_bestOrder_14 : decode cX0_bestOrder 14 = .ok (.iconst 0, 1) := by decide +kernel
theorem dX0_bestOrder_15 : decode cX0_bestOrder 15 = .ok (.istore_n 2, 1) := by decide +kernel
theorem dX0_bestOrder_16 : decode cX0_bestOrder 16 = .ok (.iload_n 2, 1) := by decide +kernel
theorem dX0_bestOrder_17 : decode cX0_bestOrder 17 = .ok (.bipush 120, 2) := by decide +kernel
theorem dX0_bestOrder_19 : decode cX0_bestOrder 19 = .ok (.if_icmp .ge 41, 3) := by decide +kernel
theorem dX0_bestOrder_22 : decode cX0_bestOrder 22 = .ok (.aload_n 0, 1) := by decide +kernel
theorem dX0_bestOrder_23 : decode cX0_bestOrder 23 = .ok (.invokevirtual 89, 3) := by decide +kernel
theorem dX0_bestOrder_26 : decode cX0_bestOrder 26 = .ok (.istore_n 3, 1) := by decide +kernel
theorem dX0_bestOrder_27 : decode cX0_bestOrder 27 = .ok (.iload_n 3, 1) := by decide +kernel
theorem dX0_bestOrder_28 : decode cX0_bestOrder 28 = .ok (.iload_n 1, 1) := by decide +kernel
theorem dX0_bestOrder_29 : decode cX0_bestOrder 29 = .ok (.if_icmp .ge 12, 3) := by decide +kernel
theorem dX0_bestOrder_32 : decode cX0_bestOrder 32 = .ok (.iload_n 3, 1) := by decide +kernel
theorem dX0_bestOrder_33 : decode cX0_bestOrder 33 = .ok (.istore_n 1, 1) := by decide +kernel
theorem dX0_bestOrder_34 : decode cX0_bestOrder 34 = .ok (.aload_n 0, 1) := by decide +kernel
theorem dX0_bestOrder_35 : decode cX0_bestOrder 35 = .ok (.getfield 34, 3) := by decide +kernel
theorem dX0_bestOrder_38 : decode cX0_bestOrder 38 = .ok (.invokevirtual 93, 3) := by decide +kernel
theorem dX0_bestOrder_41 : decode cX0_bestOrder 41 = .ok (.aload_n 0, 1) := by decide +kernel
theorem dX0_bestOrder_42 : decode cX0_bestOrder 42 = .ok (.getfield 34, 3) := by decide +kernel
theorem dX0_bestOrder_45 : decode cX0_bestOrder 45 = .ok (.invokevirtual 96, 3) := by decide +kernel
theorem dX0_bestOrder_48 : decode cX0_bestOrder 48 = .ok (.ifCond .ne 6, 3) := by decide +kernel
theorem dX0_bestOrder_51 : decode cX0_bestOrder 51 = .ok (.goto 9, 3) := by decide +kernel
theorem dX0_bestOrder_54 : decode cX0_bestOrder 54 = .ok (.iinc 2 1, 3) := by decide +kernel
theorem dX0_bestOrder_57 : decode cX0_bestOrder 57 = .ok (.goto (-41), 3) := by decide +kernel
theorem dX0_bestOrder_60 : decode cX0_bestOrder 60 = .ok (.iload_n 1, 1) := by decide +kernel
theorem dX0_bestOrder_61 : decode cX0_bestOrder 61 = .ok (.ireturn, 1) := by decide +kernel
theorem dX0_longestWaitInOrder_0 : decode cX0_longestWaitInOrder 0 = .ok (.aload_n 0, 1) := by decide +kernel
theorem dX0_longestWaitInOrder_1 : decode cX0_longestWaitInOrder 1 = .ok (.getfield 34, 3) := by decide +kernel
theorem dX0_longestWaitInOrder_4 : decode cX0_longestWaitInOrder 4 = .ok (.aload_n 0, 1) := by decide +kernel
theorem dX0_longestWaitInOrder_5 : decode cX0_longestWaitInOrder 5 = .ok (.getfield 25, 3) := by decide +kernel
theorem dX0_longestWaitInOrder_8 : decode cX0_longestWaitInOrder 8 = .ok (.aload_n 0, 1) := by decide +kernel
theorem dX0_longestWaitInOrder_9 : decode cX0_longestWaitInOrder 9 = .ok (.getfield 21, 3) := by decide +kernel
theorem dX0_longestWaitInOrder_12 : decode cX0_longestWaitInOrder 12 = .ok (.getfield 53, 3) := by decide +kernel
theorem dX0_longestWaitInOrder_15 : decode cX0_longestWaitInOrder 15 = .ok (.invokevirtual 100, 3) := by decide +kernel
theorem dX0_longestWaitInOrder_18 : decode cX0_longestWaitInOrder 18 = .ok (.aload_n 0, 1) := by decide +kernel
theorem dX0_longestWaitInOrder_19 : decode cX0_longestWaitInOrder 19 = .ok (.invokevirtual 42, 3) := by decide +kernel
theorem dX0_longestWaitInOrder_22 : decode cX0_longestWaitInOrder 22 = .ok (.iconst 0, 1) := by decide +kernel
theorem dX0_longestWaitInOrder_23 : decode cX0_longestWaitInOrder 23 = .ok (.istore_n 1, 1) := by decide +kernel
theorem dX0_longestWaitInOrder_24 : decode cX0_longestWaitInOrder 24 = .ok (.iload_n 1, 1) := by decide +kernel
theorem dX0_longestWaitInOrder_25 : decode cX0_longestWaitInOrder 25 = .ok (.bipush 99, 2) := by decide +kernel
theorem dX0_longestWaitInOrder_27 : decode cX0_longestWaitInOrder 27 = .ok (.if_icmp .ge 49, 3) := by decide +kernel
theorem dX0_longestWaitInOrder_30 : decode cX0_longestWaitInOrder 30 = .ok (.aload_n 0, 1) := by decide +kernel
theorem dX0_longestWaitInOrder_31 : decode cX0_longestWaitInOrder 31 = .ok (.getfield 34, 3) := by decide +kernel
theorem dX0_longestWaitInOrder_34 : decode cX0_longestWaitInOrder 34 = .ok (.aload_n 0, 1) := by decide +kernel
theorem dX0_longestWaitInOrder_35 : decode cX0_longestWaitInOrder 35 = .ok (.getfield 28, 3) := by decide +kernel
theorem dX0_longestWaitInOrder_38 : decode cX0_longestWaitInOrder 38 = .ok (.invokevirtual 103, 3) := by decide +kernel
theorem dX0_longestWaitInOrder_41 : decode cX0_longestWaitInOrder 41 = .ok (.ifCond .ne 35, 3) := by decide +kernel
theorem dX0_longestWaitInOrder_44 : decode cX0_longestWaitInOrder 44 = .ok (.aload_n 0, 1) := by decide +kernel
theorem dX0_longestWaitInOrder_45 : decode cX0_longestWaitInOrder 45 = .ok (.getfield 28, 3) := by decide +kernel
theorem dX0_longestWaitInOrder_48 : decode cX0_longestWaitInOrder 48 = .ok (.aload_n 0, 1) := by decide +kernel
theorem dX0_longestWaitInOrder_49 : decode cX0_longestWaitInOrder 49 = .ok (.getfield 25, 3) := by decide +kernel
theorem dX0_longestWaitInOrder_52 : decode cX0_longestWaitInOrder 52 = .ok (.aload_n 0, 1) := by decide +kernel
theorem dX0_longestWaitInOrder_53 : decode cX0_longestWaitInOrder 53 = .ok (.getfield 25, 3) := by decide +kernel
theorem dX0_longestWaitInOrder_56 : decode cX0_longestWaitInOrder 56 = .ok (.aload_n 0, 1) := by decide +kernel
theorem dX0_longestWaitInOrder_57 : decode cX0_longestWaitInOrder 57 = .ok (.getfield 28, 3) := by decide +kernel
theorem dX0_longestWaitInOrder_60 : decode cX0_longestWaitInOrder 60 = .ok (.getfield 53, 3) := by decide +kernel
theorem dX0_longestWaitInOrder_63 : decode cX0_longestWaitInOrder 63 = .ok (.invokevirtual 57, 3) := by decide +kernel
theorem dX0_longestWaitInOrder_66 : decode cX0_longestWaitInOrder 66 = .ok (.iconst 0, 1) := by decide +kernel
theorem dX0_longestWaitInOrder_67 : decode cX0_longestWaitInOrder 67 = .ok (.invokevirtual 61, 3) := by decide +kernel
theorem dX0_longestWaitInOrder_70 : decode cX0_longestWaitInOrder 70 = .ok (.iinc 1 1, 3) := by decide +kernel
theorem dX0_longestWaitInOrder_73 : decode cX0_longestWaitInOrder 73 = .ok (.goto (-49), 3) := by decide +kernel
theorem dX0_longestWaitInOrder_76 : decode cX0_longestWaitInOrder 76 = .ok (.aload_n 0, 1) := by decide +kernel
theorem dX0_longestWaitInOrder_77 : decode cX0_longestWaitInOrder 77 = .ok (.getfield 34, 3) := by decide +kernel
theorem dX0_longestWaitInOrder_80 : decode cX0_longestWaitInOrder 80 = .ok (.aload_n 0, 1) := by decide +kernel
theorem dX0_longestWaitInOrder_81 : decode cX0_longestWaitInOrder 81 = .ok (.getfield 28, 3) := by decide +kernel
theorem dX0_longestWaitInOrder_84 : decode cX0_longestWaitInOrder 84 = .ok (.aload_n 0, 1) := by decide +kernel
theorem dX0_longestWaitInOrder_85 : decode cX0_longestWaitInOrder 85 = .ok (.getfield 21, 3) := by decide +kernel
theorem dX0_longestWaitInOrder_88 : decode cX0_longestWaitInOrder 88 = .ok (.getfield 53, 3) := by decide +kernel
theorem dX0_longestWaitInOrder_91 : decode cX0_longestWaitInOrder 91 = .ok (.invokevirtual 107, 3) := by decide +kernel
theorem dX0_longestWaitInOrder_94 : decode cX0_longestWaitInOrder 94 = .ok (.ireturn, 1) := by decide +kernel
theorem dX0_whoSneezed_0 : decode cX0_whoSneezed 0 = .ok (.aload_n 0, 1) := by decide +kernel
theorem dX0_whoSneezed_1 : decode cX0_whoSneezed 1 = .ok (.invokevirtual 42, 3) := by decide +kernel
theorem dX0_whoSneezed_4 : decode cX0_whoSneezed 4 = .ok (.aload_n 1, 1) := by decide +kernel
theorem dX0_whoSneezed_5 : decode cX0_whoSneezed 5 = .ok (.aload_n 0, 1) := by decide +kernel
theorem dX0_whoSneezed_6 : decode cX0_whoSneezed 6 = .ok (.getfield 12, 3) := by decide +kernel
theorem dX0_whoSneezed_9 : decode cX0_whoSneezed 9 = .ok (.aload_n 0, 1) := by decide +kernel
theorem dX0_whoSneezed_10 : decode cX0_whoSneezed 10 = .ok (.getfield 28, 3) := by decide +kernel
theorem dX0_whoSneezed_13 : decode cX0_whoSneezed 13 = .ok (.invokevirtual 111, 3) := by decide +kernel
theorem dX0_whoSneezed_16 : decode cX0_whoSneezed 16 = .ok (.ifCond .eq 9, 3) := by decide +kernel
theorem dX0_whoSneezed_19 : decode cX0_whoSneezed 19 = .ok (.sipush 512, 3) := by decide +kernel
theorem dX0_whoSneezed_22 : decode cX0_whoSneezed 22 = .ok (.goto 4, 3) := by decide +kernel
theorem dX0_whoSneezed_25 : decode cX0_whoSneezed 25 = .ok (.iconst 0, 1) := by decide +kernel
theorem dX0_whoSneezed_26 : decode cX0_whoSneezed 26 = .ok (.istore_n 2, 1) := by decide +kernel
theorem dX0_whoSneezed_27 : decode cX0_whoSneezed 27 = .ok (.iconst 0, 1) := by decide +kernel
theorem dX0_whoSneezed_28 : decode cX0_whoSneezed 28 = .ok (.istore_n 3, 1) := by decide +kernel
theorem dX0_whoSneezed_29 : decode cX0_whoSneezed 29 = .ok (.iload_n 3, 1) := by decide +kernel
theorem dX0_whoSneezed_30 : decode cX0_whoSneezed 30 = .ok (.aload_n 0, 1) := by decide +kernel
theorem dX0_whoSneezed_31 : decode cX0_whoSneezed 31 = .ok (.getfield 12, 3) := by decide +kernel
theorem dX0_whoSneezed_34 : decode cX0_whoSneezed 34 = .ok (.getfield 65, 3) := by decide +kernel
theorem dX0_whoSneezed_37 : decode cX0_whoSneezed 37 = .ok (.if_icmp .ge 57, 3) := by decide +kernel
theorem dX0_whoSneezed_40 : decode cX0_whoSneezed 40 = .ok (.aload_n 0, 1) := by decide +kernel
theorem dX0_whoSneezed_41 : decode cX0_whoSneezed 41 = .ok (.getfield 21, 3) := by decide +kernel
theorem dX0_whoSneezed_44 : decode cX0_whoSneezed 44 = .ok (.iload_n 3, 1) := by decide +kernel
theorem dX0_whoSneezed_45 : decode cX0_whoSneezed 45 = .ok (.invokevirtual 49, 3) := by decide +kernel
theorem dX0_whoSneezed_48 : decode cX0_whoSneezed 48 = .ok (.iconst 1, 1) := by decide +kernel
theorem dX0_whoSneezed_49 : decode cX0_whoSneezed 49 = .ok (.if_icmp .eq 6, 3) := by decide +kernel
theorem dX0_whoSneezed_52 : decode cX0_whoSneezed 52 = .ok (.goto 36, 3) := by decide +kernel
theorem dX0_whoSneezed_55 : decode cX0_whoSneezed 55 = .ok (.aload_n 0, 1) := by decide +kernel
theorem dX0_whoSneezed_56 : decode cX0_whoSneezed 56 = .ok (.invokevirtual 42, 3) := by decide +kernel
theorem dX0_whoSneezed_59 : decode cX0_whoSneezed 59 = .ok (.aload_n 0, 1) := by decide +kernel
theorem dX0_whoSneezed_60 : decode cX0_whoSneezed 60 = .ok (.getfield 28, 3) := by decide +kernel
theorem dX0_whoSneezed_63 : decode cX0_whoSneezed 63 = .ok (.iload_n 3, 1) := by decide +kernel
theorem dX0_whoSneezed_64 : decode cX0_whoSneezed 64 = .ok (.invokevirtual 83, 3) := by decide +kernel
theorem dX0_whoSneezed_67 : decode cX0_whoSneezed 67 = .ok (.aload_n 1, 1) := by decide +kernel
theorem dX0_whoSneezed_68 : decode cX0_whoSneezed 68 = .ok (.aload_n 0, 1) := by decide +kernel
theorem dX0_whoSneezed_69 : decode cX0_whoSneezed 69 = .ok (.getfield 12, 3) := by decide +kernel
theorem dX0_whoSneezed_72 : decode cX0_whoSneezed 72 = .ok (.aload_n 0, 1) := by decide +kernel
theorem dX0_whoSneezed_73 : decode cX0_whoSneezed 73 = .ok (.getfield 28, 3) := by decide +kernel
theorem dX0_whoSneezed_76 : decode cX0_whoSneezed 76 = .ok (.invokevirtual 111, 3) := by decide +kernel
theorem dX0_whoSneezed_79 : decode cX0_whoSneezed 79 = .ok (.ifCond .eq 9, 3) := by decide +kernel
theorem dX0_whoSneezed_82 : decode cX0_whoSneezed 82 = .ok (.iload_n 2, 1) := by decide +kernel
theorem dX0_whoSneezed_83 : decode cX0_whoSneezed 83 = .ok (.iconst 1, 1) := by decide +kernel
theorem dX0_whoSneezed_84 : decode cX0_whoSneezed 84 = .ok (.iload_n 3, 1) := by decide +kernel
theorem dX0_whoSneezed_85 : decode cX0_whoSneezed 85 = .ok (.ishl, 1) := by decide +kernel
theorem dX0_whoSneezed_86 : decode cX0_whoSneezed 86 = .ok (.ior, 1) := by decide +kernel
theorem dX0_whoSneezed_87 : decode cX0_whoSneezed 87 = .ok (.istore_n 2, 1) := by decide +kernel
theorem dX0_whoSneezed_88 : decode cX0_whoSneezed 88 = .ok (.iinc 3 1, 3) := by decide +kernel
theorem dX0_whoSneezed_91 : decode cX0_whoSneezed 91 = .ok (.goto (-62), 3) := by decide +kernel
theorem dX0_whoSneezed_94 : decode cX0_whoSneezed 94 = .ok (.iload_n 2, 1) := by decide +kernel
theorem dX0_whoSneezed_95 : decode cX0_whoSneezed 95 = .ok (.ireturn, 1) := by decide +kernel
theorem dX0_whichKinds_0 : decode cX0_whichKinds 0 = .ok (.iconst 0, 1) := by decide +kernel
theorem dX0_whichKinds_1 : decode cX0_whichKinds 1 = .ok (.istore_n 3, 1) := by decide +kernel
theorem dX0_whichKinds_2 : decode cX0_whichKinds 2 = .ok (.aload_n 0, 1) := by decide +kernel
theorem dX0_whichKinds_3 : decode cX0_whichKinds 3 = .ok (.getfield 25, 3) := by decide +kernel
theorem dX0_whichKinds_6 : decode cX0_whichKinds 6 = .ok (.aload_n 0, 1) := by decide +kernel
theorem dX0_whichKinds_7 : decode cX0_whichKinds 7 = .ok (.getfield 12, 3) := by decide +kernel
theorem dX0_whichKinds_10 : decode cX0_whichKinds 10 = .ok (.invokevirtual 86, 3) := by decide +kernel
theorem dX0_whichKinds_13 : decode cX0_whichKinds 13 = .ok (.iconst 0, 1) := by decide +kernel
theorem dX0_whichKinds_14 : decode cX0_whichKinds 14 = .ok (.istore 4, 2) := by decide +kernel
theorem dX0_whichKinds_16 : decode cX0_whichKinds 16 = .ok (.iload 4, 2) := by decide +kernel
theorem dX0_whichKinds_18 : decode cX0_whichKinds 18 = .ok (.iconst 4, 1) := by decide +kernel
theorem dX0_whichKinds_19 : decode cX0_whichKinds 19 = .ok (.if_icmp .ge 45, 3) := by decide +kernel
theorem dX0_whichKinds_22 : decode cX0_whichKinds 22 = .ok (.aload_n 0, 1) := by decide +kernel
theorem dX0_whichKinds_23 : decode cX0_whichKinds 23 = .ok (.getfield 25, 3) := by decide +kernel
theorem dX0_whichKinds_26 : decode cX0_whichKinds 26 = .ok (.iload_n 2, 1) := by decide +kernel
theorem dX0_whichKinds_27 : decode cX0_whichKinds 27 = .ok (.iload 4, 2) := by decide +kernel
theorem dX0_whichKinds_29 : decode cX0_whichKinds 29 = .ok (.invokevirtual 117, 3) := by decide +kernel
theorem dX0_whichKinds_32 : decode cX0_whichKinds 32 = .ok (.aload_n 0, 1) := by decide +kernel
theorem dX0_whichKinds_33 : decode cX0_whichKinds 33 = .ok (.invokevirtual 42, 3) := by decide +kernel
theorem dX0_whichKinds_36 : decode cX0_whichKinds 36 = .ok (.aload_n 1, 1) := by decide +kernel
theorem dX0_whichKinds_37 : decode cX0_whichKinds 37 = .ok (.aload_n 0, 1) := by decide +kernel
theorem dX0_whichKinds_38 : decode cX0_whichKinds 38 = .ok (.getfield 25, 3) := by decide +kernel
theorem dX0_whichKinds_41 : decode cX0_whichKinds 41 = .ok (.aload_n 0, 1) := by decide +kernel
theorem dX0_whichKinds_42 : decode cX0_whichKinds 42 = .ok (.getfield 28, 3) := by decide +kernel
theorem dX0_whichKinds_45 : decode cX0_whichKinds 45 = .ok (.invokevirtual 111, 3) := by decide +kernel
theorem dX0_whichKinds_48 : decode cX0_whichKinds 48 = .ok (.ifCond .eq 10, 3) := by decide +kernel
theorem dX0_whichKinds_51 : decode cX0_whichKinds 51 = .ok (.iload_n 3, 1) := by decide +kernel
theorem dX0_whichKinds_52 : decode cX0_whichKinds 52 = .ok (.iconst 1, 1) := by decide +kernel
theorem dX0_whichKinds_53 : decode cX0_whichKinds 53 = .ok (.iload 4, 2) := by decide +kernel
theorem dX0_whichKinds_55 : decode cX0_whichKinds 55 = .ok (.ishl, 1) := by decide +kernel
theorem dX0_whichKinds_56 : decode cX0_whichKinds 56 = .ok (.ior, 1) := by decide +kernel
theorem dX0_whichKinds_57 : decode cX0_whichKinds 57 = .ok (.istore_n 3, 1) := by decide +kernel
theorem dX0_whichKinds_58 : decode cX0_whichKinds 58 = .ok (.iinc 4 1, 3) := by decide +kernel
theorem dX0_whichKinds_61 : decode cX0_whichKinds 61 = .ok (.goto (-45), 3) := by decide +kernel
theorem dX0_whichKinds_64 : decode cX0_whichKinds 64 = .ok (.iload_n 3, 1) := by decide +kernel
theorem dX0_whichKinds_65 : decode cX0_whichKinds 65 = .ok (.ireturn, 1) := by decide +kernel
theorem dX0_chanceOfTenths_0 : decode cX0_chanceOfTenths 0 = .ok (.iconst 0, 1) := by decide +kernel
theorem dX0_chanceOfTenths_1 : decode cX0_chanceOfTenths 1 = .ok (.istore 4, 2) := by decide +kernel
theorem dX0_chanceOfTenths_3 : decode cX0_chanceOfTenths 3 = .ok (.iconst 0, 1) := by decide +kernel
theorem dX0_chanceOfTenths_4 : decode cX0_chanceOfTenths 4 = .ok (.istore 5, 2) := by decide +kernel
theorem dX0_chanceOfTenths_6 : decode cX0_chanceOfTenths 6 = .ok (.iload 5, 2) := by decide +kernel
theorem dX0_chanceOfTenths_8 : decode cX0_chanceOfTenths 8 = .ok (.iconst 1, 1) := by decide +kernel
theorem dX0_chanceOfTenths_9 : decode cX0_chanceOfTenths 9 = .ok (.iload_n 2, 1) := by decide +kernel
theorem dX0_chanceOfTenths_10 : decode cX0_chanceOfTenths 10 = .ok (.ishl, 1) := by decide +kernel
theorem dX0_chanceOfTenths_11 : decode cX0_chanceOfTenths 11 = .ok (.if_icmp .ge 59, 3) := by decide +kernel
theorem dX0_chanceOfTenths_14 : decode cX0_chanceOfTenths 14 = .ok (.iload 5, 2) := by decide +kernel
theorem dX0_chanceOfTenths_16 : decode cX0_chanceOfTenths 16 = .ok (.invokestatic 121, 3) := by decide +kernel
theorem dX0_chanceOfTenths_19 : decode cX0_chanceOfTenths 19 = .ok (.istore 6, 2) := by decide +kernel
theorem dX0_chanceOfTenths_21 : decode cX0_chanceOfTenths 21 = .ok (.iload_n 3, 1) := by decide +kernel
theorem dX0_chanceOfTenths_22 : decode cX0_chanceOfTenths 22 = .ok (.iload 6, 2) := by decide +kernel
theorem dX0_chanceOfTenths_24 : decode cX0_chanceOfTenths 24 = .ok (.invokestatic 126, 3) := by decide +kernel
theorem dX0_chanceOfTenths_27 : decode cX0_chanceOfTenths 27 = .ok (.bipush 10, 2) := by decide +kernel
theorem dX0_chanceOfTenths_29 : decode cX0_chanceOfTenths 29 = .ok (.iload_n 3, 1) := by decide +kernel
theorem dX0_chanceOfTenths_30 : decode cX0_chanceOfTenths 30 = .ok (.isub, 1) := by decide +kernel
theorem dX0_chanceOfTenths_31 : decode cX0_chanceOfTenths 31 = .ok (.iload_n 2, 1) := by decide +kernel
theorem dX0_chanceOfTenths_32 : decode cX0_chanceOfTenths 32 = .ok (.iload 6, 2) := by decide +kernel
theorem dX0_chanceOfTenths_34 : decode cX0_chanceOfTenths 34 = .ok (.isub, 1) := by decide +kernel
theorem dX0_chanceOfTenths_35 : decode cX0_chanceOfTenths 35 = .ok (.invokestatic 126, 3) := by decide +kernel
theorem dX0_chanceOfTenths_38 : decode cX0_chanceOfTenths 38 = .ok (.imul, 1) := by decide +kernel
theorem dX0_chanceOfTenths_39 : decode cX0_chanceOfTenths 39 = .ok (.istore 7, 2) := by decide +kernel
theorem dX0_chanceOfTenths_41 : decode cX0_chanceOfTenths 41 = .ok (.iload 7, 2) := by decide +kernel
theorem dX0_chanceOfTenths_43 : decode cX0_chanceOfTenths 43 = .ok (.ifCond .le 21, 3) := by decide +kernel
theorem dX0_chanceOfTenths_46 : decode cX0_chanceOfTenths 46 = .ok (.aload_n 0, 1) := by decide +kernel
theorem dX0_chanceOfTenths_47 : decode cX0_chanceOfTenths 47 = .ok (.iload_n 1, 1) := by decide +kernel
theorem dX0_chanceOfTenths_48 : decode cX0_chanceOfTenths 48 = .ok (.iload_n 2, 1) := by decide +kernel
theorem dX0_chanceOfTenths_49 : decode cX0_chanceOfTenths 49 = .ok (.iload 5, 2) := by decide +kernel
theorem dX0_chanceOfTenths_51 : decode cX0_chanceOfTenths 51 = .ok (.invokevirtual 130, 3) := by decide +kernel
theorem dX0_chanceOfTenths_54 : decode cX0_chanceOfTenths 54 = .ok (.ifCond .eq 10, 3) := by decide +kernel
theorem dX0_chanceOfTenths_57 : decode cX0_chanceOfTenths 57 = .ok (.iload 4, 2) := by decide +kernel
theorem dX0_chanceOfTenths_59 : decode cX0_chanceOfTenths 59 = .ok (.iload 7, 2) := by decide +kernel
theorem dX0_chanceOfTenths_61 : decode cX0_chanceOfTenths 61 = .ok (.iadd, 1) := by decide +kernel
theorem dX0_chanceOfTenths_62 : decode cX0_chanceOfTenths 62 = .ok (.istore 4, 2) := by decide +kernel
theorem dX0_chanceOfTenths_64 : decode cX0_chanceOfTenths 64 = .ok (.iinc 5 1, 3) := by decide +kernel
theorem dX0_chanceOfTenths_67 : decode cX0_chanceOfTenths 67 = .ok (.goto (-61), 3) := by decide +kernel
theorem dX0_chanceOfTenths_70 : decode cX0_chanceOfTenths 70 = .ok (.iload 4, 2) := by decide +kernel
theorem dX0_chanceOfTenths_72 : decode cX0_chanceOfTenths 72 = .ok (.ireturn, 1) := by decide +kernel
theorem dX0_isFedByRumours_0 : decode cX0_isFedByRumours 0 = .ok (.aload_n 0, 1) := by decide +kernel
theorem dX0_isFedByRumours_1 : decode cX0_isFedByRumours 1 = .ok (.invokevirtual 42, 3) := by decide +kernel
theorem dX0_isFedByRumours_4 : decode cX0_isFedByRumours 4 = .ok (.iconst 0, 1) := by decide +kernel
theorem dX0_isFedByRumours_5 : decode cX0_isFedByRumours 5 = .ok (.istore 4, 2) := by decide +kernel
theorem dX0_isFedByRumours_7 : decode cX0_isFedByRumours 7 = .ok (.iload 4, 2) := by decide +kernel
theorem dX0_isFedByRumours_9 : decode cX0_isFedByRumours 9 = .ok (.iload_n 2, 1) := by decide +kernel
theorem dX0_isFedByRumours_10 : decode cX0_isFedByRumours 10 = .ok (.if_icmp .ge 36, 3) := by decide +kernel
theorem dX0_isFedByRumours_13 : decode cX0_isFedByRumours 13 = .ok (.aload_n 0, 1) := by decide +kernel
theorem dX0_isFedByRumours_14 : decode cX0_isFedByRumours 14 = .ok (.getfield 28, 3) := by decide +kernel
theorem dX0_isFedByRumours_17 : decode cX0_isFedByRumours 17 = .ok (.aload_n 0, 1) := by decide +kernel
theorem dX0_isFedByRumours_18 : decode cX0_isFedByRumours 18 = .ok (.getfield 12, 3) := by decide +kernel
theorem dX0_isFedByRumours_21 : decode cX0_isFedByRumours 21 = .ok (.iload_n 3, 1) := by decide +kernel
theorem dX0_isFedByRumours_22 : decode cX0_isFedByRumours 22 = .ok (.iload 4, 2) := by decide +kernel
theorem dX0_isFedByRumours_24 : decode cX0_isFedByRumours 24 = .ok (.ishr, 1) := by decide +kernel
theorem dX0_isFedByRumours_25 : decode cX0_isFedByRumours 25 = .ok (.iconst 1, 1) := by decide +kernel
theorem dX0_isFedByRumours_26 : decode cX0_isFedByRumours 26 = .ok (.iand, 1) := by decide +kernel
theorem dX0_isFedByRumours_27 : decode cX0_isFedByRumours 27 = .ok (.iconst 1, 1) := by decide +kernel
theorem dX0_isFedByRumours_28 : decode cX0_isFedByRumours 28 = .ok (.if_icmp .ne 7, 3) := by decide +kernel
theorem dX0_isFedByRumours_31 : decode cX0_isFedByRumours 31 = .ok (.iconst 1, 1) := by decide +kernel
theorem dX0_isFedByRumours_32 : decode cX0_isFedByRumours 32 = .ok (.goto 4, 3) := by decide +kernel
theorem dX0_isFedByRumours_35 : decode cX0_isFedByRumours 35 = .ok (.iconst 0, 1) := by decide +kernel
theorem dX0_isFedByRumours_36 : decode cX0_isFedByRumours 36 = .ok (.iconst 0, 1) := by decide +kernel
theorem dX0_isFedByRumours_37 : decode cX0_isFedByRumours 37 = .ok (.invokevirtual 61, 3) := by decide +kernel
theorem dX0_isFedByRumours_40 : decode cX0_isFedByRumours 40 = .ok (.iinc 4 1, 3) := by decide +kernel
theorem dX0_isFedByRumours_43 : decode cX0_isFedByRumours 43 = .ok (.goto (-36), 3) := by decide +kernel
theorem dX0_isFedByRumours_46 : decode cX0_isFedByRumours 46 = .ok (.aload_n 0, 1) := by decide +kernel
theorem dX0_isFedByRumours_47 : decode cX0_isFedByRumours 47 = .ok (.getfield 28, 3) := by decide +kernel
theorem dX0_isFedByRumours_50 : decode cX0_isFedByRumours 50 = .ok (.iload_n 1, 1) := by decide +kernel
theorem dX0_isFedByRumours_51 : decode cX0_isFedByRumours 51 = .ok (.invokevirtual 49, 3) := by decide +kernel
theorem dX0_isFedByRumours_54 : decode cX0_isFedByRumours 54 = .ok (.iconst 3, 1) := by decide +kernel
theorem dX0_isFedByRumours_55 : decode cX0_isFedByRumours 55 = .ok (.if_icmp .ne 7, 3) := by decide +kernel
theorem dX0_isFedByRumours_58 : decode cX0_isFedByRumours 58 = .ok (.iconst 1, 1) := by decide +kernel
theorem dX0_isFedByRumours_59 : decode cX0_isFedByRumours 59 = .ok (.goto 4, 3) := by decide +kernel
theorem dX0_isFedByRumours_62 : decode cX0_isFedByRumours 62 = .ok (.iconst 0, 1) := by decide +kernel
theorem dX0_isFedByRumours_63 : decode cX0_isFedByRumours 63 = .ok (.ireturn, 1) := by decide +kernel
theorem dX0_lineBehindDay_0 : decode cX0_lineBehindDay 0 = .ok (.aload_n 0, 1) := by decide +kernel
theorem dX0_lineBehindDay_1 : decode cX0_lineBehindDay 1 = .ok (.invokevirtual 42, 3) := by decide +kernel
theorem dX0_lineBehindDay_4 : decode cX0_lineBehindDay 4 = .ok (.iconst 0, 1) := by decide +kernel
theorem dX0_lineBehindDay_5 : decode cX0_lineBehindDay 5 = .ok (.istore_n 3, 1) := by decide +kernel
theorem dX0_lineBehindDay_6 : decode cX0_lineBehindDay 6 = .ok (.iload_n 3, 1) := by decide +kernel
theorem dX0_lineBehindDay_7 : decode cX0_lineBehindDay 7 = .ok (.iload_n 2, 1) := by decide +kernel
theorem dX0_lineBehindDay_8 : decode cX0_lineBehindDay 8 = .ok (.if_icmp .ge 41, 3) := by decide +kernel
theorem dX0_lineBehindDay_11 : decode cX0_lineBehindDay 11 = .ok (.aload_n 0, 1) := by decide +kernel
theorem dX0_lineBehindDay_12 : decode cX0_lineBehindDay 12 = .ok (.iload_n 1, 1) := by decide +kernel
theorem dX0_lineBehindDay_13 : decode cX0_lineBehindDay 13 = .ok (.iload_n 3, 1) := by decide +kernel
theorem dX0_lineBehindDay_14 : decode cX0_lineBehindDay 14 = .ok (.invokevirtual 134, 3) := by decide +kernel
theorem dX0_lineBehindDay_17 : decode cX0_lineBehindDay 17 = .ok (.aload_n 0, 1) := by decide +kernel
theorem dX0_lineBehindDay_18 : decode cX0_lineBehindDay 18 = .ok (.getfield 28, 3) := by decide +kernel
theorem dX0_lineBehindDay_21 : decode cX0_lineBehindDay 21 = .ok (.aload_n 0, 1) := by decide +kernel
theorem dX0_lineBehindDay_22 : decode cX0_lineBehindDay 22 = .ok (.getfield 12, 3) := by decide +kernel
theorem dX0_lineBehindDay_25 : decode cX0_lineBehindDay 25 = .ok (.aload_n 0, 1) := by decide +kernel
theorem dX0_lineBehindDay_26 : decode cX0_lineBehindDay 26 = .ok (.getfield 12, 3) := by decide +kernel
theorem dX0_lineBehindDay_29 : decode cX0_lineBehindDay 29 = .ok (.aload_n 0, 1) := by decide +kernel
theorem dX0_lineBehindDay_30 : decode cX0_lineBehindDay 30 = .ok (.getfield 28, 3) := by decide +kernel
theorem dX0_lineBehindDay_33 : decode cX0_lineBehindDay 33 = .ok (.getfield 53, 3) := by decide +kernel
theorem dX0_lineBehindDay_36 : decode cX0_lineBehindDay 36 = .ok (.invokevirtual 57, 3) := by decide +kernel
theorem dX0_lineBehindDay_39 : decode cX0_lineBehindDay 39 = .ok (.iconst 0, 1) := by decide +kernel
theorem dX0_lineBehindDay_40 : decode cX0_lineBehindDay 40 = .ok (.invokevirtual 61, 3) := by decide +kernel
theorem dX0_lineBehindDay_43 : decode cX0_lineBehindDay 43 = .ok (.iinc 3 1, 3) := by decide +kernel
theorem dX0_lineBehindDay_46 : decode cX0_lineBehindDay 46 = .ok (.goto (-40), 3) := by decide +kernel
theorem dX0_lineBehindDay_49 : decode cX0_lineBehindDay 49 = .ok (.aload_n 0, 1) := by decide +kernel
theorem dX0_lineBehindDay_50 : decode cX0_lineBehindDay 50 = .ok (.getfield 28, 3) := by decide +kernel
theorem dX0_lineBehindDay_53 : decode cX0_lineBehindDay 53 = .ok (.areturn, 1) := by decide +kernel
theorem dX0_drawOne_0 : decode cX0_drawOne 0 = .ok (.aload_n 0, 1) := by decide +kernel
theorem dX0_drawOne_1 : decode cX0_drawOne 1 = .ok (.getfield 12, 3) := by decide +kernel
theorem dX0_drawOne_4 : decode cX0_drawOne 4 = .ok (.getfield 65, 3) := by decide +kernel
theorem dX0_drawOne_7 : decode cX0_drawOne 7 = .ok (.iconst 1, 1) := by decide +kernel
theorem dX0_drawOne_8 : decode cX0_drawOne 8 = .ok (.if_icmp .ge 4, 3) := by decide +kernel
theorem dX0_drawOne_11 : decode cX0_drawOne 11 = .ok (.return_, 1) := by decide +kernel
theorem dX0_drawOne_12 : decode cX0_drawOne 12 = .ok (.ldc2_w 137, 3) := by decide +kernel
theorem dX0_drawOne_15 : decode cX0_drawOne 15 = .ok (.iload_n 1, 1) := by decide +kernel
theorem dX0_drawOne_16 : decode cX0_drawOne 16 = .ok (.i2l, 1) := by decide +kernel
theorem dX0_drawOne_17 : decode cX0_drawOne 17 = .ok (.lmul, 1) := by decide +kernel
theorem dX0_drawOne_18 : decode cX0_drawOne 18 = .ok (.ldc2_w 139, 3) := by decide +kernel
theorem dX0_drawOne_21 : decode cX0_drawOne 21 = .ok (.iload_n 2, 1) := by decide +kernel
theorem dX0_drawOne_22 : decode cX0_drawOne 22 = .ok (.i2l, 1) := by decide +kernel
theorem dX0_drawOne_23 : decode cX0_drawOne 23 = .ok (.lmul, 1) := by decide +kernel
theorem dX0_drawOne_24 : decode cX0_drawOne 24 = .ok (.ladd, 1) := by decide +kernel
theorem dX0_drawOne_25 : decode cX0_drawOne 25 = .ok (.lconst 1, 1) := by decide +kernel
theorem dX0_drawOne_26 : decode cX0_drawOne 26 = .ok (.ladd, 1) := by decide +kernel
theorem dX0_drawOne_27 : decode cX0_drawOne 27 = .ok (.lstore_n 3, 1) := by decide +kernel
theorem dX0_drawOne_28 : decode cX0_drawOne 28 = .ok (.lload_n 3, 1) := by decide +kernel
theorem dX0_drawOne_29 : decode cX0_drawOne 29 = .ok (.lload_n 3, 1) := by decide +kernel
theorem dX0_drawOne_30 : decode cX0_drawOne 30 = .ok (.lmul, 1) := by decide +kernel
theorem dX0_drawOne_31 : decode cX0_drawOne 31 = .ok (.ldc2_w 141, 3) := by decide +kernel
theorem dX0_drawOne_34 : decode cX0_drawOne 34 = .ok (.lrem, 1) := by decide +kernel
theorem dX0_drawOne_35 : decode cX0_drawOne 35 = .ok (.l2i, 1) := by decide +kernel
theorem dX0_drawOne_36 : decode cX0_drawOne 36 = .ok (.istore 5, 2) := by decide +kernel
theorem dX0_drawOne_38 : decode cX0_drawOne 38 = .ok (.iload 5, 2) := by decide +kernel
theorem dX0_drawOne_40 : decode cX0_drawOne 40 = .ok (.bipush 8, 2) := by decide +kernel
theorem dX0_drawOne_42 : decode cX0_drawOne 42 = .ok (.idiv, 1) := by decide +kernel
theorem dX0_drawOne_43 : decode cX0_drawOne 43 = .ok (.aload_n 0, 1) := by decide +kernel
theorem dX0_drawOne_44 : decode cX0_drawOne 44 = .ok (.getfield 12, 3) := by decide +kernel
theorem dX0_drawOne_47 : decode cX0_drawOne 47 = .ok (.getfield 65, 3) := by decide +kernel
theorem dX0_drawOne_50 : decode cX0_drawOne 50 = .ok (.irem, 1) := by decide +kernel
theorem dX0_drawOne_51 : decode cX0_drawOne 51 = .ok (.istore 6, 2) := by decide +kernel
theorem dX0_drawOne_53 : decode cX0_drawOne 53 = .ok (.iload 5, 2) := by decide +kernel
theorem dX0_drawOne_55 : decode cX0_drawOne 55 = .ok (.iconst 5, 1) := by decide +kernel
theorem dX0_drawOne_56 : decode cX0_drawOne 56 = .ok (.irem, 1) := by decide +kernel
theorem dX0_drawOne_57 : decode cX0_drawOne 57 = .ok (.tableswitch 76 0 3 #[31, 43, 55, 67], 31) := by decide +kernel
theorem dX0_drawOne_88 : decode cX0_drawOne 88 = .ok (.aload_n 0, 1) := by decide +kernel
theorem dX0_drawOne_89 : decode cX0_drawOne 89 = .ok (.getfield 28, 3) := by decide +kernel
theorem dX0_drawOne_92 : decode cX0_drawOne 92 = .ok (.iload 6, 2) := by decide +kernel
theorem dX0_drawOne_94 : decode cX0_drawOne 94 = .ok (.invokevirtual 143, 3) := by decide +kernel
theorem dX0_drawOne_97 : decode cX0_drawOne 97 = .ok (.goto 36, 3) := by decide +kernel
theorem dX0_drawOne_100 : decode cX0_drawOne 100 = .ok (.aload_n 0, 1) := by decide +kernel
theorem dX0_drawOne_101 : decode cX0_drawOne 101 = .ok (.getfield 28, 3) := by decide +kernel
theorem dX0_drawOne_104 : decode cX0_drawOne 104 = .ok (.iload 6, 2) := by decide +kernel
theorem dX0_drawOne_106 : decode cX0_drawOne 106 = .ok (.invokevirtual 83, 3) := by decide +kernel
theorem dX0_drawOne_109 : decode cX0_drawOne 109 = .ok (.goto 24, 3) := by decide +kernel
theorem dX0_drawOne_112 : decode cX0_drawOne 112 = .ok (.aload_n 0, 1) := by decide +kernel
theorem dX0_drawOne_113 : decode cX0_drawOne 113 = .ok (.getfield 28, 3) := by decide +kernel
theorem dX0_drawOne_116 : decode cX0_drawOne 116 = .ok (.iload 6, 2) := by decide +kernel
theorem dX0_drawOne_118 : decode cX0_drawOne 118 = .ok (.invokevirtual 76, 3) := by decide +kernel
theorem dX0_drawOne_121 : decode cX0_drawOne 121 = .ok (.goto 12, 3) := by decide +kernel
theorem dX0_drawOne_124 : decode cX0_drawOne 124 = .ok (.aload_n 0, 1) := by decide +kernel
theorem dX0_drawOne_125 : decode cX0_drawOne 125 = .ok (.iload 6, 2) := by decide +kernel
theorem dX0_drawOne_127 : decode cX0_drawOne 127 = .ok (.invokevirtual 146, 3) := by decide +kernel
theorem dX0_drawOne_130 : decode cX0_drawOne 130 = .ok (.goto 3, 3) := by decide +kernel
theorem dX0_drawOne_133 : decode cX0_drawOne 133 = .ok (.return_, 1) := by decide +kernel
theorem dX0_comeAgain_0 : decode cX0_comeAgain 0 = .ok (.aload_n 0, 1) := by decide +kernel
theorem dX0_comeAgain_1 : decode cX0_comeAgain 1 = .ok (.getfield 28, 3) := by decide +kernel
theorem dX0_comeAgain_4 : decode cX0_comeAgain 4 = .ok (.iload_n 1, 1) := by decide +kernel
theorem dX0_comeAgain_5 : decode cX0_comeAgain 5 = .ok (.invokevirtual 49, 3) := by decide +kernel
theorem dX0_comeAgain_8 : decode cX0_comeAgain 8 = .ok (.iconst 2, 1) := by decide +kernel
theorem dX0_comeAgain_9 : decode cX0_comeAgain 9 = .ok (.if_icmp .ne 15, 3) := by decide +kernel
theorem dX0_comeAgain_12 : decode cX0_comeAgain 12 = .ok (.aload_n 0, 1) := by decide +kernel
theorem dX0_comeAgain_13 : decode cX0_comeAgain 13 = .ok (.getfield 28, 3) := by decide +kernel
theorem dX0_comeAgain_16 : decode cX0_comeAgain 16 = .ok (.aload_n 0, 1) := by decide +kernel
theorem dX0_comeAgain_17 : decode cX0_comeAgain 17 = .ok (.getfield 12, 3) := by decide +kernel
theorem dX0_comeAgain_20 : decode cX0_comeAgain 20 = .ok (.iload_n 1, 1) := by decide +kernel
theorem dX0_comeAgain_21 : decode cX0_comeAgain 21 = .ok (.invokevirtual 80, 3) := by decide +kernel
theorem dX0_comeAgain_24 : decode cX0_comeAgain 24 = .ok (.return_, 1) := by decide +kernel
theorem dX1_init_0 : decode cX1_init 0 = .ok (.aload_n 0, 1) := by decide +kernel
theorem dX1_init_1 : decode cX1_init 1 = .ok (.invokespecial 3, 3) := by decide +kernel
theorem dX1_init_4 : decode cX1_init 4 = .ok (.aload_n 0, 1) := by decide +kernel
theorem dX1_init_5 : decode cX1_init 5 = .ok (.bipush 9, 2) := by decide +kernel
theorem dX1_init_7 : decode cX1_init 7 = .ok (.newarray .int, 2) := by decide +kernel
theorem dX1_init_9 : decode cX1_init 9 = .ok (.putfield 9, 3) := by decide +kernel
theorem dX1_init_12 : decode cX1_init 12 = .ok (.aload_n 0, 1) := by decide +kernel
theorem dX1_init_13 : decode cX1_init 13 = .ok (.bipush 9, 2) := by decide +kernel
theorem dX1_init_15 : decode cX1_init 15 = .ok (.newarray .int, 2) := by decide +kernel
theorem dX1_init_17 : decode cX1_init 17 = .ok (.putfield 15, 3) := by decide +kernel
theorem dX1_init_20 : decode cX1_init 20 = .ok (.aload_n 0, 1) := by decide +kernel
theorem dX1_init_21 : decode cX1_init 21 = .ok (.bipush 9, 2) := by decide +kernel
theorem dX1_init_23 : decode cX1_init 23 = .ok (.newarray .int, 2) := by decide +kernel
theorem dX1_init_25 : decode cX1_init 25 = .ok (.putfield 18, 3) := by decide +kernel
theorem dX1_init_28 : decode cX1_init 28 = .ok (.aload_n 0, 1) := by decide +kernel
theorem dX1_init_29 : decode cX1_init 29 = .ok (.bipush 9, 2) := by decide +kernel
theorem dX1_init_31 : decode cX1_init 31 = .ok (.newarray .int, 2) := by decide +kernel
theorem dX1_init_33 : decode cX1_init 33 = .ok (.putfield 21, 3) := by decide +kernel
theorem dX1_init_36 : decode cX1_init 36 = .ok (.aload_n 0, 1) := by decide +kernel
theorem dX1_init_37 : decode cX1_init 37 = .ok (.bipush 9, 2) := by decide +kernel
theorem dX1_init_39 : decode cX1_init 39 = .ok (.newarray .int, 2) := by decide +kernel
theorem dX1_init_41 : decode cX1_init 41 = .ok (.putfield 24, 3) := by decide +kernel
theorem dX1_init_44 : decode cX1_init 44 = .ok (.return_, 1) := by decide +kernel
theorem dX1_clear_0 : decode cX1_clear 0 = .ok (.iconst 0, 1) := by decide +kernel
theorem dX1_clear_1 : decode cX1_clear 1 = .ok (.istore_n 1, 1) := by decide +kernel
theorem dX1_clear_2 : decode cX1_clear 2 = .ok (.iload_n 1, 1) := by decide +kernel
theorem dX1_clear_3 : decode cX1_clear 3 = .ok (.bipush 9, 2) := by decide +kernel
theorem dX1_clear_5 : decode cX1_clear 5 = .ok (.if_icmp .ge 44, 3) := by decide +kernel
theorem dX1_clear_8 : decode cX1_clear 8 = .ok (.aload_n 0, 1) := by decide +kernel
theorem dX1_clear_9 : decode cX1_clear 9 = .ok (.getfield 9, 3) := by decide +kernel
theorem dX1_clear_12 : decode cX1_clear 12 = .ok (.iload_n 1, 1) := by decide +kernel
theorem dX1_clear_13 : decode cX1_clear 13 = .ok (.iconst 0, 1) := by decide +kernel
theorem dX1_clear_14 : decode cX1_clear 14 = .ok (.iastore, 1) := by decide +kernel
theorem dX1_clear_15 : decode cX1_clear 15 = .ok (.aload_n 0, 1) := by decide +kernel
theorem dX1_clear_16 : decode cX1_clear 16 = .ok (.getfield 15, 3) := by decide +kernel
theorem dX1_clear_19 : decode cX1_clear 19 = .ok (.iload_n 1, 1) := by decide +kernel
theorem dX1_clear_20 : decode cX1_clear 20 = .ok (.iconst 0, 1) := by decide +kernel
theorem dX1_clear_21 : decode cX1_clear 21 = .ok (.iastore, 1) := by decide +kernel
theorem dX1_clear_22 : decode cX1_clear 22 = .ok (.aload_n 0, 1) := by decide +kernel
theorem dX1_clear_23 : decode cX1_clear 23 = .ok (.getfield 18, 3) := by decide +kernel
theorem dX1_clear_26 : decode cX1_clear 26 = .ok (.iload_n 1, 1) := by decide +kernel
theorem dX1_clear_27 : decode cX1_clear 27 = .ok (.iconst 0, 1) := by decide +kernel
theorem dX1_clear_28 : decode cX1_clear 28 = .ok (.iastore, 1) := by decide +kernel
theorem dX1_clear_29 : decode cX1_clear 29 = .ok (.aload_n 0, 1) := by decide +kernel
theorem dX1_clear_30 : decode cX1_clear 30 = .ok (.getfield 21, 3) := by decide +kernel
theorem dX1_clear_33 : decode cX1_clear 33 = .ok (.iload_n 1, 1) := by decide +kernel
theorem dX1_clear_34 : decode cX1_clear 34 = .ok (.iconst 0, 1) := by decide +kernel
theorem dX1_clear_35 : decode cX1_clear 35 = .ok (.iastore, 1) := by decide +kernel
theorem dX1_clear_36 : decode cX1_clear 36 = .ok (.aload_n 0, 1) := by decide +kernel
theorem dX1_clear_37 : decode cX1_clear 37 = .ok (.getfield 24, 3) := by decide +kernel
theorem dX1_clear_40 : decode cX1_clear 40 = .ok (.iload_n 1, 1) := by decide +kernel
theorem dX1_clear_41 : decode cX1_clear 41 = .ok (.iconst 0, 1) := by decide +kernel
theorem dX1_clear_42 : decode cX1_clear 42 = .ok (.iastore, 1) := by decide +kernel
theorem dX1_clear_43 : decode cX1_clear 43 = .ok (.iinc 1 1, 3) := by decide +kernel
theorem dX1_clear_46 : decode cX1_clear 46 = .ok (.goto (-44), 3) := by decide +kernel
theorem dX1_clear_49 : decode cX1_clear 49 = .ok (.aload_n 0, 1) := by decide +kernel
theorem dX1_clear_50 : decode cX1_clear 50 = .ok (.iconst 0, 1) := by decide +kernel
theorem dX1_clear_51 : decode cX1_clear 51 = .ok (.putfield 27, 3) := by decide +kernel
theorem dX1_clear_54 : decode cX1_clear 54 = .ok (.aload_n 0, 1) := by decide +kernel
theorem dX1_clear_55 : decode cX1_clear 55 = .ok (.iconst 0, 1) := by decide +kernel
theorem dX1_clear_56 : decode cX1_clear 56 = .ok (.putfield 31, 3) := by decide +kernel
theorem dX1_clear_59 : decode cX1_clear 59 = .ok (.aload_n 0, 1) := by decide +kernel
theorem dX1_clear_60 : decode cX1_clear 60 = .ok (.iconst 0, 1) := by decide +kernel
theorem dX1_clear_61 : decode cX1_clear 61 = .ok (.putfield 34, 3) := by decide +kernel
theorem dX1_clear_64 : decode cX1_clear 64 = .ok (.aload_n 0, 1) := by decide +kernel
theorem dX1_clear_65 : decode cX1_clear 65 = .ok (.iconst 0, 1) := by decide +kernel
theorem dX1_clear_66 : decode cX1_clear 66 = .ok (.putfield 37, 3) := by decide +kernel
theorem dX1_clear_69 : decode cX1_clear 69 = .ok (.return_, 1) := by decide +kernel
theorem dX1_copyFrom_0 : decode cX1_copyFrom 0 = .ok (.aload_n 1, 1) := by decide +kernel
theorem dX1_copyFrom_1 : decode cX1_copyFrom 1 = .ok (.getfield 9, 3) := by decide +kernel
theorem dX1_copyFrom_4 : decode cX1_copyFrom 4 = .ok (.iconst 0, 1) := by decide +kernel
theorem dX1_copyFrom_5 : decode cX1_copyFrom 5 = .ok (.aload_n 0, 1) := by decide +kernel
theorem dX1_copyFrom_6 : decode cX1_copyFrom 6 = .ok (.getfield 9, 3) := by decide +kernel
theorem dX1_copyFrom_9 : decode cX1_copyFrom 9 = .ok (.iconst 0, 1) := by decide +kernel
theorem dX1_copyFrom_10 : decode cX1_copyFrom 10 = .ok (.bipush 9, 2) := by decide +kernel
theorem dX1_copyFrom_12 : decode cX1_copyFrom 12 = .ok (.invokestatic 40, 3) := by decide +kernel
theorem dX1_copyFrom_15 : decode cX1_copyFrom 15 = .ok (.aload_n 1, 1) := by decide +kernel
theorem dX1_copyFrom_16 : decode cX1_copyFrom 16 = .ok (.getfield 15, 3) := by decide +kernel
theorem dX1_copyFrom_19 : decode cX1_copyFrom 19 = .ok (.iconst 0, 1) := by decide +kernel
theorem dX1_copyFrom_20 : decode cX1_copyFrom 20 = .ok (.aload_n 0, 1) := by decide +kernel
theorem dX1_copyFrom_21 : decode cX1_copyFrom 21 = .ok (.getfield 15, 3) := by decide +kernel
theorem dX1_copyFrom_24 : decode cX1_copyFrom 24 = .ok (.iconst 0, 1) := by decide +kernel
theorem dX1_copyFrom_25 : decode cX1_copyFrom 25 = .ok (.bipush 9, 2) := by decide +kernel
theorem dX1_copyFrom_27 : decode cX1_copyFrom 27 = .ok (.invokestatic 40, 3) := by decide +kernel
theorem dX1_copyFrom_30 : decode cX1_copyFrom 30 = .ok (.aload_n 1, 1) := by decide +kernel
theorem dX1_copyFrom_31 : decode cX1_copyFrom 31 = .ok (.getfield 18, 3) := by decide +kernel
theorem dX1_copyFrom_34 : decode cX1_copyFrom 34 = .ok (.iconst 0, 1) := by decide +kernel
theorem dX1_copyFrom_35 : decode cX1_copyFrom 35 = .ok (.aload_n 0, 1) := by decide +kernel
theorem dX1_copyFrom_36 : decode cX1_copyFrom 36 = .ok (.getfield 18, 3) := by decide +kernel
theorem dX1_copyFrom_39 : decode cX1_copyFrom 39 = .ok (.iconst 0, 1) := by decide +kernel
theorem dX1_copyFrom_40 : decode cX1_copyFrom 40 = .ok (.bipush 9, 2) := by decide +kernel
theorem dX1_copyFrom_42 : decode cX1_copyFrom 42 = .ok (.invokestatic 40, 3) := by decide +kernel
theorem dX1_copyFrom_45 : decode cX1_copyFrom 45 = .ok (.aload_n 1, 1) := by decide +kernel
theorem dX1_copyFrom_46 : decode cX1_copyFrom 46 = .ok (.getfield 21, 3) := by decide +kernel
theorem dX1_copyFrom_49 : decode cX1_copyFrom 49 = .ok (.iconst 0, 1) := by decide +kernel
theorem dX1_copyFrom_50 : decode cX1_copyFrom 50 = .ok (.aload_n 0, 1) := by decide +kernel
theorem dX1_copyFrom_51 : decode cX1_copyFrom 51 = .ok (.getfield 21, 3) := by decide +kernel
theorem dX1_copyFrom_54 : decode cX1_copyFrom 54 = .ok (.iconst 0, 1) := by decide +kernel
theorem dX1_copyFrom_55 : decode cX1_copyFrom 55 = .ok (.bipush 9, 2) := by decide +kernel
theorem dX1_copyFrom_57 : decode cX1_copyFrom 57 = .ok (.invokestatic 40, 3) := by decide +kernel
theorem dX1_copyFrom_60 : decode cX1_copyFrom 60 = .ok (.aload_n 1, 1) := by decide +kernel
theorem dX1_copyFrom_61 : decode cX1_copyFrom 61 = .ok (.getfield 24, 3) := by decide +kernel
theorem dX1_copyFrom_64 : decode cX1_copyFrom 64 = .ok (.iconst 0, 1) := by decide +kernel
theorem dX1_copyFrom_65 : decode cX1_copyFrom 65 = .ok (.aload_n 0, 1) := by decide +kernel
theorem dX1_copyFrom_66 : decode cX1_copyFrom 66 = .ok (.getfield 24, 3) := by decide +kernel
theorem dX1_copyFrom_69 : decode cX1_copyFrom 69 = .ok (.iconst 0, 1) := by decide +kernel
theorem dX1_copyFrom_70 : decode cX1_copyFrom 70 = .ok (.bipush 9, 2) := by decide +kernel
theorem dX1_copyFrom_72 : decode cX1_copyFrom 72 = .ok (.invokestatic 40, 3) := by decide +kernel
theorem dX1_copyFrom_75 : decode cX1_copyFrom 75 = .ok (.aload_n 0, 1) := by decide +kernel
theorem dX1_copyFrom_76 : decode cX1_copyFrom 76 = .ok (.aload_n 1, 1) := by decide +kernel
theorem dX1_copyFrom_77 : decode cX1_copyFrom 77 = .ok (.getfield 27, 3) := by decide +kernel
theorem dX1_copyFrom_80 : decode cX1_copyFrom 80 = .ok (.putfield 27, 3) := by decide +kernel
theorem dX1_copyFrom_83 : decode cX1_copyFrom 83 = .ok (.aload_n 0, 1) := by decide +kernel
theorem dX1_copyFrom_84 : decode cX1_copyFrom 84 = .ok (.aload_n 1, 1) := by decide +kernel
theorem dX1_copyFrom_85 : decode cX1_copyFrom 85 = .ok (.getfield 31, 3) := by decide +kernel
theorem dX1_copyFrom_88 : decode cX1_copyFrom 88 = .ok (.putfield 31, 3) := by decide +kernel
theorem dX1_copyFrom_91 : decode cX1_copyFrom 91 = .ok (.aload_n 0, 1) := by decide +kernel
theorem dX1_copyFrom_92 : decode cX1_copyFrom 92 = .ok (.aload_n 1, 1) := by decide +kernel
theorem dX1_copyFrom_93 : decode cX1_copyFrom 93 = .ok (.getfield 34, 3) := by decide +kernel
theorem dX1_copyFrom_96 : decode cX1_copyFrom 96 = .ok (.putfield 34, 3) := by decide +kernel
theorem dX1_copyFrom_99 : decode cX1_copyFrom 99 = .ok (.aload_n 0, 1) := by decide +kernel
theorem dX1_copyFrom_100 : decode cX1_copyFrom 100 = .ok (.aload_n 1, 1) := by decide +kernel
theorem dX1_copyFrom_101 : decode cX1_copyFrom 101 = .ok (.getfield 37, 3) := by decide +kernel
theorem dX1_copyFrom_104 : decode cX1_copyFrom 104 = .ok (.putfield 37, 3) := by decide +kernel
theorem dX1_copyFrom_107 : decode cX1_copyFrom 107 = .ok (.return_, 1) := by decide +kernel
theorem dX1_whoAt_0 : decode cX1_whoAt 0 = .ok (.iload_n 1, 1) := by decide +kernel
theorem dX1_whoAt_1 : decode cX1_whoAt 1 = .ok (.ifCond .lt 26, 3) := by decide +kernel
theorem dX1_whoAt_4 : decode cX1_whoAt 4 = .ok (.iload_n 1, 1) := by decide +kernel
theorem dX1_whoAt_5 : decode cX1_whoAt 5 = .ok (.aload_n 0, 1) := by decide +kernel
theorem dX1_whoAt_6 : decode cX1_whoAt 6 = .ok (.getfield 27, 3) := by decide +kernel
theorem dX1_whoAt_9 : decode cX1_whoAt 9 = .ok (.if_icmp .ge 18, 3) := by decide +kernel
theorem dX1_whoAt_12 : decode cX1_whoAt 12 = .ok (.iload_n 1, 1) := by decide +kernel
theorem dX1_whoAt_13 : decode cX1_whoAt 13 = .ok (.bipush 9, 2) := by decide +kernel
theorem dX1_whoAt_15 : decode cX1_whoAt 15 = .ok (.if_icmp .ge 12, 3) := by decide +kernel
theorem dX1_whoAt_18 : decode cX1_whoAt 18 = .ok (.aload_n 0, 1) := by decide +kernel
theorem dX1_whoAt_19 : decode cX1_whoAt 19 = .ok (.getfield 9, 3) := by decide +kernel
theorem dX1_whoAt_22 : decode cX1_whoAt 22 = .ok (.iload_n 1, 1) := by decide +kernel
theorem dX1_whoAt_23 : decode cX1_whoAt 23 = .ok (.iaload, 1) := by decide +kernel
theorem dX1_whoAt_24 : decode cX1_whoAt 24 = .ok (.goto 5, 3) := by decide +kernel
theorem dX1_whoAt_27 : decode cX1_whoAt 27 = .ok (.bipush (-4), 2) := by decide +kernel
theorem dX1_whoAt_29 : decode cX1_whoAt 29 = .ok (.ireturn, 1) := by decide +kernel
theorem dX1_placeOf_0 : decode cX1_placeOf 0 = .ok (.iconst 0, 1) := by decide +kernel
theorem dX1_placeOf_1 : decode cX1_placeOf 1 = .ok (.istore_n 2, 1) := by decide +kernel
theorem dX1_placeOf_2 : decode cX1_placeOf 2 = .ok (.iload_n 2, 1) := by decide +kernel
theorem dX1_placeOf_3 : decode cX1_placeOf 3 = .ok (.aload_n 0, 1) := by decide +kernel
theorem dX1_placeOf_4 : decode cX1_placeOf 4 = .ok (.getfield 27, 3) := by decide +kernel
theorem dX1_placeOf_7 : decode cX1_placeOf 7 = .ok (.if_icmp .ge 27, 3) := by decide +kernel
theorem dX1_placeOf_10 : decode cX1_placeOf 10 = .ok (.iload_n 2, 1) := by decide +kernel
theorem dX1_placeOf_11 : decode cX1_placeOf 11 = .ok (.bipush 9, 2) := by decide +kernel
theorem dX1_placeOf_13 : decode cX1_placeOf 13 = .ok (.if_icmp .ge 21, 3) := by decide +kernel
theorem dX1_placeOf_16 : decode cX1_placeOf 16 = .ok (.aload_n 0, 1) := by decide +kernel
theorem dX1_placeOf_17 : decode cX1_placeOf 17 = .ok (.getfield 9, 3) := by decide +kernel
theorem dX1_placeOf_20 : decode cX1_placeOf 20 = .ok (.iload_n 2, 1) := by decide +kernel
theorem dX1_placeOf_21 : decode cX1_placeOf 21 = .ok (.iaload, 1) := by decide +kernel
theorem dX1_placeOf_22 : decode cX1_placeOf 22 = .ok (.iload_n 1, 1) := by decide +kernel
theorem dX1_placeOf_23 : decode cX1_placeOf 23 = .ok (.if_icmp .ne 5, 3) := by decide +kernel
theorem dX1_placeOf_26 : decode cX1_placeOf 26 = .ok (.iload_n 2, 1) := by decide +kernel
theorem dX1_placeOf_27 : decode cX1_placeOf 27 = .ok (.ireturn, 1) := by decide +kernel
theorem dX1_placeOf_28 : decode cX1_placeOf 28 = .ok (.iinc 2 1, 3) := by decide +kernel
theorem dX1_placeOf_31 : decode cX1_placeOf 31 = .ok (.goto (-29), 3) := by decide +kernel
theorem dX1_placeOf_34 : decode cX1_placeOf 34 = .ok (.bipush (-4), 2) := by decide +kernel
theorem dX1_placeOf_36 : decode cX1_placeOf 36 = .ok (.ireturn, 1) := by decide +kernel
theorem dX1_whereIs_0 : decode cX1_whereIs 0 = .ok (.iload_n 1, 1) := by decide +kernel
theorem dX1_whereIs_1 : decode cX1_whereIs 1 = .ok (.ifCond .lt 18, 3) := by decide +kernel
theorem dX1_whereIs_4 : decode cX1_whereIs 4 = .ok (.iload_n 1, 1) := by decide +kernel
theorem dX1_whereIs_5 : decode cX1_whereIs 5 = .ok (.bipush 9, 2) := by decide +kernel
theorem dX1_whereIs_7 : decode cX1_whereIs 7 = .ok (.if_icmp .ge 12, 3) := by decide +kernel
theorem dX1_whereIs_10 : decode cX1_whereIs 10 = .ok (.aload_n 0, 1) := by decide +kernel
theorem dX1_whereIs_11 : decode cX1_whereIs 11 = .ok (.getfield 15, 3) := by decide +kernel
theorem dX1_whereIs_14 : decode cX1_whereIs 14 = .ok (.iload_n 1, 1) := by decide +kernel
theorem dX1_whereIs_15 : decode cX1_whereIs 15 = .ok (.iaload, 1) := by decide +kernel
theorem dX1_whereIs_16 : decode cX1_whereIs 16 = .ok (.goto 4, 3) := by decide +kernel
theorem dX1_whereIs_19 : decode cX1_whereIs 19 = .ok (.iconst 0, 1) := by decide +kernel
theorem dX1_whereIs_20 : decode cX1_whereIs 20 = .ok (.ireturn, 1) := by decide +kernel
theorem dX1_stoodOf_0 : decode cX1_stoodOf 0 = .ok (.iload_n 1, 1) := by decide +kernel
theorem dX1_stoodOf_1 : decode cX1_stoodOf 1 = .ok (.ifCond .lt 28, 3) := by decide +kernel
theorem dX1_stoodOf_4 : decode cX1_stoodOf 4 = .ok (.iload_n 1, 1) := by decide +kernel
theorem dX1_stoodOf_5 : decode cX1_stoodOf 5 = .ok (.bipush 9, 2) := by decide +kernel
theorem dX1_stoodOf_7 : decode cX1_stoodOf 7 = .ok (.if_icmp .ge 22, 3) := by decide +kernel
theorem dX1_stoodOf_10 : decode cX1_stoodOf 10 = .ok (.aload_n 0, 1) := by decide +kernel
theorem dX1_stoodOf_11 : decode cX1_stoodOf 11 = .ok (.getfield 15, 3) := by decide +kernel
theorem dX1_stoodOf_14 : decode cX1_stoodOf 14 = .ok (.iload_n 1, 1) := by decide +kernel
theorem dX1_stoodOf_15 : decode cX1_stoodOf 15 = .ok (.iaload, 1) := by decide +kernel
theorem dX1_stoodOf_16 : decode cX1_stoodOf 16 = .ok (.iconst 1, 1) := by decide +kernel
theorem dX1_stoodOf_17 : decode cX1_stoodOf 17 = .ok (.if_icmp .ne 12, 3) := by decide +kernel
theorem dX1_stoodOf_20 : decode cX1_stoodOf 20 = .ok (.aload_n 0, 1) := by decide +kernel
theorem dX1_stoodOf_21 : decode cX1_stoodOf 21 = .ok (.getfield 18, 3) := by decide +kernel
theorem dX1_stoodOf_24 : decode cX1_stoodOf 24 = .ok (.iload_n 1, 1) := by decide +kernel
theorem dX1_stoodOf_25 : decode cX1_stoodOf 25 = .ok (.iaload, 1) := by decide +kernel
theorem dX1_stoodOf_26 : decode cX1_stoodOf 26 = .ok (.goto 4, 3) := by decide +kernel
theorem dX1_stoodOf_29 : decode cX1_stoodOf 29 = .ok (.iconst 0, 1) := by decide +kernel
theorem dX1_stoodOf_30 : decode cX1_stoodOf 30 = .ok (.ireturn, 1) := by decide +kernel
theorem dX1_ateInOf_0 : decode cX1_ateInOf 0 = .ok (.iload_n 1, 1) := by decide +kernel
theorem dX1_ateInOf_1 : decode cX1_ateInOf 1 = .ok (.ifCond .lt 28, 3) := by decide +kernel
theorem dX1_ateInOf_4 : decode cX1_ateInOf 4 = .ok (.iload_n 1, 1) := by decide +kernel
theorem dX1_ateInOf_5 : decode cX1_ateInOf 5 = .ok (.bipush 9, 2) := by decide +kernel
theorem dX1_ateInOf_7 : decode cX1_ateInOf 7 = .ok (.if_icmp .ge 22, 3) := by decide +kernel
theorem dX1_ateInOf_10 : decode cX1_ateInOf 10 = .ok (.aload_n 0, 1) := by decide +kernel
theorem dX1_ateInOf_11 : decode cX1_ateInOf 11 = .ok (.getfield 15, 3) := by decide +kernel
theorem dX1_ateInOf_14 : decode cX1_ateInOf 14 = .ok (.iload_n 1, 1) := by decide +kernel
theorem dX1_ateInOf_15 : decode cX1_ateInOf 15 = .ok (.iaload, 1) := by decide +kernel
theorem dX1_ateInOf_16 : decode cX1_ateInOf 16 = .ok (.iconst 3, 1) := by decide +kernel
theorem dX1_ateInOf_17 : decode cX1_ateInOf 17 = .ok (.if_icmp .ne 12, 3) := by decide +kernel
theorem dX1_ateInOf_20 : decode cX1_ateInOf 20 = .ok (.aload_n 0, 1) := by decide +kernel
theorem dX1_ateInOf_21 : decode cX1_ateInOf 21 = .ok (.getfield 21, 3) := by decide +kernel
theorem dX1_ateInOf_24 : decode cX1_ateInOf 24 = .ok (.iload_n 1, 1) := by decide +kernel
theorem dX1_ateInOf_25 : decode cX1_ateInOf 25 = .ok (.iaload, 1) := by decide +kernel
theorem dX1_ateInOf_26 : decode cX1_ateInOf 26 = .ok (.goto 5, 3) := by decide +kernel
theorem dX1_ateInOf_29 : decode cX1_ateInOf 29 = .ok (.bipush (-4), 2) := by decide +kernel
theorem dX1_ateInOf_31 : decode cX1_ateInOf 31 = .ok (.ireturn, 1) := by decide +kernel
theorem dX1_warmOf_0 : decode cX1_warmOf 0 = .ok (.iload_n 1, 1) := by decide +kernel
theorem dX1_warmOf_1 : decode cX1_warmOf 1 = .ok (.ifCond .lt 28, 3) := by decide +kernel
theorem dX1_warmOf_4 : decode cX1_warmOf 4 = .ok (.iload_n 1, 1) := by decide +kernel
theorem dX1_warmOf_5 : decode cX1_warmOf 5 = .ok (.bipush 9, 2) := by decide +kernel
theorem dX1_warmOf_7 : decode cX1_warmOf 7 = .ok (.if_icmp .ge 22, 3) := by decide +kernel
theorem dX1_warmOf_10 : decode cX1_warmOf 10 = .ok (.aload_n 0, 1) := by decide +kernel
theorem dX1_warmOf_11 : decode cX1_warmOf 11 = .ok (.getfield 15, 3) := by decide +kernel
theorem dX1_warmOf_14 : decode cX1_warmOf 14 = .ok (.iload_n 1, 1) := by decide +kernel
theorem dX1_warmOf_15 : decode cX1_warmOf 15 = .ok (.iaload, 1) := by decide +kernel
theorem dX1_warmOf_16 : decode cX1_warmOf 16 = .ok (.iconst 3, 1) := by decide +kernel
theorem dX1_warmOf_17 : decode cX1_warmOf 17 = .ok (.if_icmp .ne 12, 3) := by decide +kernel
theorem dX1_warmOf_20 : decode cX1_warmOf 20 = .ok (.aload_n 0, 1) := by decide +kernel
theorem dX1_warmOf_21 : decode cX1_warmOf 21 = .ok (.getfield 24, 3) := by decide +kernel
theorem dX1_warmOf_24 : decode cX1_warmOf 24 = .ok (.iload_n 1, 1) := by decide +kernel
theorem dX1_warmOf_25 : decode cX1_warmOf 25 = .ok (.iaload, 1) := by decide +kernel
theorem dX1_warmOf_26 : decode cX1_warmOf 26 = .ok (.goto 5, 3) := by decide +kernel
theorem dX1_warmOf_29 : decode cX1_warmOf 29 = .ok (.bipush (-4), 2) := by decide +kernel
theorem dX1_warmOf_31 : decode cX1_warmOf 31 = .ok (.ireturn, 1) := by decide +kernel
theorem dX1_howMany_0 : decode cX1_howMany 0 = .ok (.iconst 0, 1) := by decide +kernel
theorem dX1_howMany_1 : decode cX1_howMany 1 = .ok (.istore_n 2, 1) := by decide +kernel
theorem dX1_howMany_2 : decode cX1_howMany 2 = .ok (.iconst 0, 1) := by decide +kernel
theorem dX1_howMany_3 : decode cX1_howMany 3 = .ok (.istore_n 3, 1) := by decide +kernel
theorem dX1_howMany_4 : decode cX1_howMany 4 = .ok (.iload_n 3, 1) := by decide +kernel
theorem dX1_howMany_5 : decode cX1_howMany 5 = .ok (.bipush 9, 2) := by decide +kernel
theorem dX1_howMany_7 : decode cX1_howMany 7 = .ok (.if_icmp .ge 22, 3) := by decide +kernel
theorem dX1_howMany_10 : decode cX1_howMany 10 = .ok (.aload_n 0, 1) := by decide +kernel
theorem dX1_howMany_11 : decode cX1_howMany 11 = .ok (.getfield 15, 3) := by decide +kernel
theorem dX1_howMany_14 : decode cX1_howMany 14 = .ok (.iload_n 3, 1) := by decide +kernel
theorem dX1_howMany_15 : decode cX1_howMany 15 = .ok (.iaload, 1) := by decide +kernel
theorem dX1_howMany_16 : decode cX1_howMany 16 = .ok (.iload_n 1, 1) := by decide +kernel
theorem dX1_howMany_17 : decode cX1_howMany 17 = .ok (.if_icmp .ne 6, 3) := by decide +kernel
theorem dX1_howMany_20 : decode cX1_howMany 20 = .ok (.iinc 2 1, 3) := by decide +kernel
theorem dX1_howMany_23 : decode cX1_howMany 23 = .ok (.iinc 3 1, 3) := by decide +kernel
theorem dX1_howMany_26 : decode cX1_howMany 26 = .ok (.goto (-22), 3) := by decide +kernel
theorem dX1_howMany_29 : decode cX1_howMany 29 = .ok (.iload_n 2, 1) := by decide +kernel
theorem dX1_howMany_30 : decode cX1_howMany 30 = .ok (.ireturn, 1) := by decide +kernel
theorem dX1_run_0 : decode cX1_run 0 = .ok (.iconst 0, 1) := by decide +kernel
theorem dX1_run_1 : decode cX1_run 1 = .ok (.istore_n 3, 1) := by decide +kernel
theorem dX1_run_2 : decode cX1_run 2 = .ok (.iload_n 3, 1) := by decide +kernel
theorem dX1_run_3 : decode cX1_run 3 = .ok (.iload_n 2, 1) := by decide +kernel
theorem dX1_run_4 : decode cX1_run 4 = .ok (.if_icmp .ge 23, 3) := by decide +kernel
theorem dX1_run_7 : decode cX1_run 7 = .ok (.aload_n 0, 1) := by decide +kernel
theorem dX1_run_8 : decode cX1_run 8 = .ok (.aload_n 1, 1) := by decide +kernel
theorem dX1_run_9 : decode cX1_run 9 = .ok (.aload_n 1, 1) := by decide +kernel
theorem dX1_run_10 : decode cX1_run 10 = .ok (.aload_n 0, 1) := by decide +kernel
theorem dX1_run_11 : decode cX1_run 11 = .ok (.getfield 31, 3) := by decide +kernel
theorem dX1_run_14 : decode cX1_run 14 = .ok (.invokevirtual 46, 3) := by decide +kernel
theorem dX1_run_17 : decode cX1_run 17 = .ok (.iconst 0, 1) := by decide +kernel
theorem dX1_run_18 : decode cX1_run 18 = .ok (.invokevirtual 52, 3) := by decide +kernel
theorem dX1_run_21 : decode cX1_run 21 = .ok (.iinc 3 1, 3) := by decide +kernel
theorem dX1_run_24 : decode cX1_run 24 = .ok (.goto (-22), 3) := by decide +kernel
theorem dX1_run_27 : decode cX1_run 27 = .ok (.return_, 1) := by decide +kernel
theorem dX1_goOn_0 : decode cX1_goOn 0 = .ok (.aload_n 0, 1) := by decide +kernel
theorem dX1_goOn_1 : decode cX1_goOn 1 = .ok (.aload_n 1, 1) := by decide +kernel
theorem dX1_goOn_2 : decode cX1_goOn 2 = .ok (.invokevirtual 56, 3) := by decide +kernel
theorem dX1_goOn_5 : decode cX1_goOn 5 = .ok (.aload_n 0, 1) := by decide +kernel
theorem dX1_goOn_6 : decode cX1_goOn 6 = .ok (.aload_n 1, 1) := by decide +kernel
theorem dX1_goOn_7 : decode cX1_goOn 7 = .ok (.invokevirtual 60, 3) := by decide +kernel
theorem dX1_goOn_10 : decode cX1_goOn 10 = .ok (.aload_n 1, 1) := by decide +kernel
theorem dX1_goOn_11 : decode cX1_goOn 11 = .ok (.aload_n 0, 1) := by decide +kernel
theorem dX1_goOn_12 : decode cX1_goOn 12 = .ok (.getfield 31, 3) := by decide +kernel
theorem dX1_goOn_15 : decode cX1_goOn 15 = .ok (.invokevirtual 63, 3) := by decide +kernel
theorem dX1_goOn_18 : decode cX1_goOn 18 = .ok (.ifCond .eq 27, 3) := by decide +kernel
theorem dX1_goOn_21 : decode cX1_goOn 21 = .ok (.aload_n 0, 1) := by decide +kernel
theorem dX1_goOn_22 : decode cX1_goOn 22 = .ok (.aload_n 1, 1) := by decide +kernel
theorem dX1_goOn_23 : decode cX1_goOn 23 = .ok (.iload_n 2, 1) := by decide +kernel
theorem dX1_goOn_24 : decode cX1_goOn 24 = .ok (.invokevirtual 66, 3) := by decide +kernel
theorem dX1_goOn_27 : decode cX1_goOn 27 = .ok (.iload_n 3, 1) := by decide +kernel
theorem dX1_goOn_28 : decode cX1_goOn 28 = .ok (.ifCond .eq 17, 3) := by decide +kernel
theorem dX1_goOn_31 : decode cX1_goOn 31 = .ok (.aload_n 0, 1) := by decide +kernel
theorem dX1_goOn_32 : decode cX1_goOn 32 = .ok (.aload_n 1, 1) := by decide +kernel
theorem dX1_goOn_33 : decode cX1_goOn 33 = .ok (.iload_n 2, 1) := by decide +kernel
theorem dX1_goOn_34 : decode cX1_goOn 34 = .ok (.ifCond .ne 7, 3) := by decide +kernel
theorem dX1_goOn_37 : decode cX1_goOn 37 = .ok (.iconst 1, 1) := by decide +kernel
theorem dX1_goOn_38 : decode cX1_goOn 38 = .ok (.goto 4, 3) := by decide +kernel
theorem dX1_goOn_41 : decode cX1_goOn 41 = .ok (.iconst 0, 1) := by decide +kernel
theorem dX1_goOn_42 : decode cX1_goOn 42 = .ok (.invokevirtual 66, 3) := by decide +kernel
theorem dX1_goOn_45 : decode cX1_goOn 45 = .ok (.aload_n 0, 1) := by decide +kernel
theorem dX1_goOn_46 : decode cX1_goOn 46 = .ok (.invokevirtual 70, 3) := by decide +kernel
theorem dX1_goOn_49 : decode cX1_goOn 49 = .ok (.aload_n 0, 1) := by decide +kernel
theorem dX1_goOn_50 : decode cX1_goOn 50 = .ok (.dup, 1) := by decide +kernel
theorem dX1_goOn_51 : decode cX1_goOn 51 = .ok (.getfield 31, 3) := by decide +kernel
theorem dX1_goOn_54 : decode cX1_goOn 54 = .ok (.iconst 1, 1) := by decide +kernel
theorem dX1_goOn_55 : decode cX1_goOn 55 = .ok (.iadd, 1) := by decide +kernel
theorem dX1_goOn_56 : decode cX1_goOn 56 = .ok (.putfield 31, 3) := by decide +kernel
theorem dX1_goOn_59 : decode cX1_goOn 59 = .ok (.return_, 1) := by decide +kernel
theorem dX1_joinAll_0 : decode cX1_joinAll 0 = .ok (.iconst 0, 1) := by decide +kernel
theorem dX1_joinAll_1 : decode cX1_joinAll 1 = .ok (.istore_n 2, 1) := by decide +kernel
theorem dX1_joinAll_2 : decode cX1_joinAll 2 = .ok (.iload_n 2, 1) := by decide +kernel
theorem dX1_joinAll_3 : decode cX1_joinAll 3 = .ok (.aload_n 1, 1) := by decide +kernel
theorem dX1_joinAll_4 : decode cX1_joinAll 4 = .ok (.getfield 73, 3) := by decide +kernel
theorem dX1_joinAll_7 : decode cX1_joinAll 7 = .ok (.if_icmp .ge 43, 3) := by decide +kernel
theorem dX1_joinAll_10 : decode cX1_joinAll 10 = .ok (.iload_n 2, 1) := by decide +kernel
theorem dX1_joinAll_11 : decode cX1_joinAll 11 = .ok (.bipush 9, 2) := by decide +kernel
theorem dX1_joinAll_13 : decode cX1_joinAll 13 = .ok (.if_icmp .ge 37, 3) := by decide +kernel
theorem dX1_joinAll_16 : decode cX1_joinAll 16 = .ok (.aload_n 0, 1) := by decide +kernel
theorem dX1_joinAll_17 : decode cX1_joinAll 17 = .ok (.getfield 15, 3) := by decide +kernel
theorem dX1_joinAll_20 : decode cX1_joinAll 20 = .ok (.iload_n 2, 1) := by decide +kernel
theorem dX1_joinAll_21 : decode cX1_joinAll 21 = .ok (.iaload, 1) := by decide +kernel
theorem dX1_joinAll_22 : decode cX1_joinAll 22 = .ok (.ifCond .ne 22, 3) := by decide +kernel
theorem dX1_joinAll_25 : decode cX1_joinAll 25 = .ok (.aload_n 1, 1) := by decide +kernel
theorem dX1_joinAll_26 : decode cX1_joinAll 26 = .ok (.getfield 76, 3) := by decide +kernel
theorem dX1_joinAll_29 : decode cX1_joinAll 29 = .ok (.iload_n 2, 1) := by decide +kernel
theorem dX1_joinAll_30 : decode cX1_joinAll 30 = .ok (.iaload, 1) := by decide +kernel
theorem dX1_joinAll_31 : decode cX1_joinAll 31 = .ok (.aload_n 0, 1) := by decide +kernel
theorem dX1_joinAll_32 : decode cX1_joinAll 32 = .ok (.getfield 31, 3) := by decide +kernel
theorem dX1_joinAll_35 : decode cX1_joinAll 35 = .ok (.if_icmp .ne 9, 3) := by decide +kernel
theorem dX1_joinAll_38 : decode cX1_joinAll 38 = .ok (.aload_n 0, 1) := by decide +kernel
theorem dX1_joinAll_39 : decode cX1_joinAll 39 = .ok (.aload_n 1, 1) := by decide +kernel
theorem dX1_joinAll_40 : decode cX1_joinAll 40 = .ok (.iload_n 2, 1) := by decide +kernel
theorem dX1_joinAll_41 : decode cX1_joinAll 41 = .ok (.invokevirtual 79, 3) := by decide +kernel
theorem dX1_joinAll_44 : decode cX1_joinAll 44 = .ok (.iinc 2 1, 3) := by decide +kernel
theorem dX1_joinAll_47 : decode cX1_joinAll 47 = .ok (.goto (-45), 3) := by decide +kernel
theorem dX1_joinAll_50 : decode cX1_joinAll 50 = .ok (.return_, 1) := by decide +kernel
theorem dX1_sneezeAll_0 : decode cX1_sneezeAll 0 = .ok (.iconst 0, 1) := by decide +kernel
theorem dX1_sneezeAll_1 : decode cX1_sneezeAll 1 = .ok (.istore_n 2, 1) := by decide +kernel
theorem dX1_sneezeAll_2 : decode cX1_sneezeAll 2 = .ok (.iload_n 2, 1) := by decide +kernel
theorem dX1_sneezeAll_3 : decode cX1_sneezeAll 3 = .ok (.aload_n 1, 1) := by decide +kernel
theorem dX1_sneezeAll_4 : decode cX1_sneezeAll 4 = .ok (.getfield 73, 3) := by decide +kernel
theorem dX1_sneezeAll_7 : decode cX1_sneezeAll 7 = .ok (.if_icmp .ge 50, 3) := by decide +kernel
theorem dX1_sneezeAll_10 : decode cX1_sneezeAll 10 = .ok (.iload_n 2, 1) := by decide +kernel
theorem dX1_sneezeAll_11 : decode cX1_sneezeAll 11 = .ok (.bipush 9, 2) := by decide +kernel
theorem dX1_sneezeAll_13 : decode cX1_sneezeAll 13 = .ok (.if_icmp .ge 44, 3) := by decide +kernel
theorem dX1_sneezeAll_16 : decode cX1_sneezeAll 16 = .ok (.aload_n 0, 1) := by decide +kernel
theorem dX1_sneezeAll_17 : decode cX1_sneezeAll 17 = .ok (.getfield 15, 3) := by decide +kernel
theorem dX1_sneezeAll_20 : decode cX1_sneezeAll 20 = .ok (.iload_n 2, 1) := by decide +kernel
theorem dX1_sneezeAll_21 : decode cX1_sneezeAll 21 = .ok (.iaload, 1) := by decide +kernel
theorem dX1_sneezeAll_22 : decode cX1_sneezeAll 22 = .ok (.iconst 1, 1) := by decide +kernel
theorem dX1_sneezeAll_23 : decode cX1_sneezeAll 23 = .ok (.if_icmp .ne 28, 3) := by decide +kernel
theorem dX1_sneezeAll_26 : decode cX1_sneezeAll 26 = .ok (.aload_n 1, 1) := by decide +kernel
theorem dX1_sneezeAll_27 : decode cX1_sneezeAll 27 = .ok (.getfield 83, 3) := by decide +kernel
theorem dX1_sneezeAll_30 : decode cX1_sneezeAll 30 = .ok (.iload_n 2, 1) := by decide +kernel
theorem dX1_sneezeAll_31 : decode cX1_sneezeAll 31 = .ok (.iaload, 1) := by decide +kernel
theorem dX1_sneezeAll_32 : decode cX1_sneezeAll 32 = .ok (.iconst 2, 1) := by decide +kernel
theorem dX1_sneezeAll_33 : decode cX1_sneezeAll 33 = .ok (.if_icmp .ne 18, 3) := by decide +kernel
theorem dX1_sneezeAll_36 : decode cX1_sneezeAll 36 = .ok (.aload_n 0, 1) := by decide +kernel
theorem dX1_sneezeAll_37 : decode cX1_sneezeAll 37 = .ok (.getfield 18, 3) := by decide +kernel
theorem dX1_sneezeAll_40 : decode cX1_sneezeAll 40 = .ok (.iload_n 2, 1) := by decide +kernel
theorem dX1_sneezeAll_41 : decode cX1_sneezeAll 41 = .ok (.iaload, 1) := by decide +kernel
theorem dX1_sneezeAll_42 : decode cX1_sneezeAll 42 = .ok (.iconst 4, 1) := by decide +kernel
theorem dX1_sneezeAll_43 : decode cX1_sneezeAll 43 = .ok (.if_icmp .lt 8, 3) := by decide +kernel
theorem dX1_sneezeAll_46 : decode cX1_sneezeAll 46 = .ok (.aload_n 0, 1) := by decide +kernel
theorem dX1_sneezeAll_47 : decode cX1_sneezeAll 47 = .ok (.iload_n 2, 1) := by decide +kernel
theorem dX1_sneezeAll_48 : decode cX1_sneezeAll 48 = .ok (.invokevirtual 86, 3) := by decide +kernel
theorem dX1_sneezeAll_51 : decode cX1_sneezeAll 51 = .ok (.iinc 2 1, 3) := by decide +kernel
theorem dX1_sneezeAll_54 : decode cX1_sneezeAll 54 = .ok (.goto (-52), 3) := by decide +kernel
theorem dX1_sneezeAll_57 : decode cX1_sneezeAll 57 = .ok (.return_, 1) := by decide +kernel
theorem dX1_standOn_0 : decode cX1_standOn 0 = .ok (.iconst 0, 1) := by decide +kernel
theorem dX1_standOn_1 : decode cX1_standOn 1 = .ok (.istore_n 1, 1) := by decide +kernel
theorem dX1_standOn_2 : decode cX1_standOn 2 = .ok (.iload_n 1, 1) := by decide +kernel
theorem dX1_standOn_3 : decode cX1_standOn 3 = .ok (.bipush 9, 2) := by decide +kernel
theorem dX1_standOn_5 : decode cX1_standOn 5 = .ok (.if_icmp .ge 29, 3) := by decide +kernel
theorem dX1_standOn_8 : decode cX1_standOn 8 = .ok (.aload_n 0, 1) := by decide +kernel
theorem dX1_standOn_9 : decode cX1_standOn 9 = .ok (.getfield 15, 3) := by decide +kernel
theorem dX1_standOn_12 : decode cX1_standOn 12 = .ok (.iload_n 1, 1) := by decide +kernel
theorem dX1_standOn_13 : decode cX1_standOn 13 = .ok (.iaload, 1) := by decide +kernel
theorem dX1_standOn_14 : decode cX1_standOn 14 = .ok (.iconst 1, 1) := by decide +kernel
theorem dX1_standOn_15 : decode cX1_standOn 15 = .ok (.if_icmp .ne 13, 3) := by decide +kernel
theorem dX1_standOn_18 : decode cX1_standOn 18 = .ok (.aload_n 0, 1) := by decide +kernel
theorem dX1_standOn_19 : decode cX1_standOn 19 = .ok (.getfield 18, 3) := by decide +kernel
theorem dX1_standOn_22 : decode cX1_standOn 22 = .ok (.iload_n 1, 1) := by decide +kernel
theorem dX1_standOn_23 : decode cX1_standOn 23 = .ok (.dup2, 1) := by decide +kernel
theorem dX1_standOn_24 : decode cX1_standOn 24 = .ok (.iaload, 1) := by decide +kernel
theorem dX1_standOn_25 : decode cX1_standOn 25 = .ok (.iconst 1, 1) := by decide +kernel
theorem dX1_standOn_26 : decode cX1_standOn 26 = .ok (.iadd, 1) := by decide +kernel
theorem dX1_standOn_27 : decode cX1_standOn 27 = .ok (.iastore, 1) := by decide +kernel
theorem dX1_standOn_28 : decode cX1_standOn 28 = .ok (.iinc 1 1, 3) := by decide +kernel
theorem dX1_standOn_31 : decode cX1_standOn 31 = .ok (.goto (-29), 3) := by decide +kernel
theorem dX1_standOn_34 : decode cX1_standOn 34 = .ok (.return_, 1) := by decide +kernel
theorem dX1_join_0 : decode cX1_join 0 = .ok (.iload_n 2, 1) := by decide +kernel
theorem dX1_join_1 : decode cX1_join 1 = .ok (.ifCond .lt 25, 3) := by decide +kernel
theorem dX1_join_4 : decode cX1_join 4 = .ok (.iload_n 2, 1) := by decide +kernel
theorem dX1_join_5 : decode cX1_join 5 = .ok (.bipush 9, 2) := by decide +kernel
theorem dX1_join_7 : decode cX1_join 7 = .ok (.if_icmp .ge 19, 3) := by decide +kernel
theorem dX1_join_10 : decode cX1_join 10 = .ok (.aload_n 0, 1) := by decide +kernel
theorem dX1_join_11 : decode cX1_join 11 = .ok (.getfield 27, 3) := by decide +kernel
theorem dX1_join_14 : decode cX1_join 14 = .ok (.ifCond .lt 12, 3) := by decide +kernel
theorem dX1_join_17 : decode cX1_join 17 = .ok (.aload_n 0, 1) := by decide +kernel
theorem dX1_join_18 : decode cX1_join 18 = .ok (.getfield 27, 3) := by decide +kernel
theorem dX1_join_21 : decode cX1_join 21 = .ok (.bipush 9, 2) := by decide +kernel
theorem dX1_join_23 : decode cX1_join 23 = .ok (.if_icmp .lt 4, 3) := by decide +kernel
theorem dX1_join_26 : decode cX1_join 26 = .ok (.return_, 1) := by decide +kernel
theorem dX1_join_27 : decode cX1_join 27 = .ok (.aload_n 0, 1) := by decide +kernel
theorem dX1_join_28 : decode cX1_join 28 = .ok (.getfield 27, 3) := by decide +kernel
theorem dX1_join_31 : decode cX1_join 31 = .ok (.ifCond .le 21, 3) := by decide +kernel
theorem dX1_join_34 : decode cX1_join 34 = .ok (.aload_n 1, 1) := by decide +kernel
theorem dX1_join_35 : decode cX1_join 35 = .ok (.aload_n 0, 1) := by decide +kernel
theorem dX1_join_36 : decode cX1_join 36 = .ok (.getfield 9, 3) := by decide +kernel
theorem dX1_join_39 : decode cX1_join 39 = .ok (.iconst 0, 1) := by decide +kernel
theorem dX1_join_40 : decode cX1_join 40 = .ok (.iaload, 1) := by decide +kernel
theorem dX1_join_41 : decode cX1_join 41 = .ok (.iload_n 2, 1) := by decide +kernel
theorem dX1_join_42 : decode cX1_join 42 = .ok (.invokevirtual 90, 3) := by decide +kernel
theorem dX1_join_45 : decode cX1_join 45 = .ok (.ifCond .eq 7, 3) := by decide +kernel
theorem dX1_join_48 : decode cX1_join 48 = .ok (.iconst 1, 1) := by decide +kernel
theorem dX1_join_49 : decode cX1_join 49 = .ok (.goto 4, 3) := by decide +kernel
theorem dX1_join_52 : decode cX1_join 52 = .ok (.iconst 0, 1) := by decide +kernel
theorem dX1_join_53 : decode cX1_join 53 = .ok (.istore_n 3, 1) := by decide +kernel
theorem dX1_join_54 : decode cX1_join 54 = .ok (.aload_n 0, 1) := by decide +kernel
theorem dX1_join_55 : decode cX1_join 55 = .ok (.getfield 27, 3) := by decide +kernel
theorem dX1_join_58 : decode cX1_join 58 = .ok (.istore 4, 2) := by decide +kernel
theorem dX1_join_60 : decode cX1_join 60 = .ok (.iload 4, 2) := by decide +kernel
theorem dX1_join_62 : decode cX1_join 62 = .ok (.iload_n 3, 1) := by decide +kernel
theorem dX1_join_63 : decode cX1_join 63 = .ok (.if_icmp .le 25, 3) := by decide +kernel
theorem dX1_join_66 : decode cX1_join 66 = .ok (.aload_n 0, 1) := by decide +kernel
theorem dX1_join_67 : decode cX1_join 67 = .ok (.getfield 9, 3) := by decide +kernel
theorem dX1_join_70 : decode cX1_join 70 = .ok (.iload 4, 2) := by decide +kernel
theorem dX1_join_72 : decode cX1_join 72 = .ok (.aload_n 0, 1) := by decide +kernel
theorem dX1_join_73 : decode cX1_join 73 = .ok (.getfield 9, 3) := by decide +kernel
theorem dX1_join_76 : decode cX1_join 76 = .ok (.iload 4, 2) := by decide +kernel
theorem dX1_join_78 : decode cX1_join 78 = .ok (.iconst 1, 1) := by decide +kernel
theorem dX1_join_79 : decode cX1_join 79 = .ok (.isub, 1) := by decide +kernel
theorem dX1_join_80 : decode cX1_join 80 = .ok (.iaload, 1) := by decide +kernel
theorem dX1_join_81 : decode cX1_join 81 = .ok (.iastore, 1) := by decide +kernel
theorem dX1_join_82 : decode cX1_join 82 = .ok (.iinc 4 (-1), 3) := by decide +kernel
theorem dX1_join_85 : decode cX1_join 85 = .ok (.goto (-25), 3) := by decide +kernel
theorem dX1_join_88 : decode cX1_join 88 = .ok (.aload_n 0, 1) := by decide +kernel
theorem dX1_join_89 : decode cX1_join 89 = .ok (.getfield 9, 3) := by decide +kernel
theorem dX1_join_92 : decode cX1_join 92 = .ok (.iload_n 3, 1) := by decide +kernel
theorem dX1_join_93 : decode cX1_join 93 = .ok (.iload_n 2, 1) := by decide +kernel
theorem dX1_join_94 : decode cX1_join 94 = .ok (.iastore, 1) := by decide +kernel
theorem dX1_join_95 : decode cX1_join 95 = .ok (.aload_n 0, 1) := by decide +kernel
theorem dX1_join_96 : decode cX1_join 96 = .ok (.dup, 1) := by decide +kernel
theorem dX1_join_97 : decode cX1_join 97 = .ok (.getfield 27, 3) := by decide +kernel
theorem dX1_join_100 : decode cX1_join 100 = .ok (.iconst 1, 1) := by decide +kernel
theorem dX1_join_101 : decode cX1_join 101 = .ok (.iadd, 1) := by decide +kernel
theorem dX1_join_102 : decode cX1_join 102 = .ok (.putfield 27, 3) := by decide +kernel
theorem dX1_join_105 : decode cX1_join 105 = .ok (.aload_n 0, 1) := by decide +kernel
theorem dX1_join_106 : decode cX1_join 106 = .ok (.getfield 15, 3) := by decide +kernel
theorem dX1_join_109 : decode cX1_join 109 = .ok (.iload_n 2, 1) := by decide +kernel
theorem dX1_join_110 : decode cX1_join 110 = .ok (.iconst 1, 1) := by decide +kernel
theorem dX1_join_111 : decode cX1_join 111 = .ok (.iastore, 1) := by decide +kernel
theorem dX1_join_112 : decode cX1_join 112 = .ok (.aload_n 0, 1) := by decide +kernel
theorem dX1_join_113 : decode cX1_join 113 = .ok (.getfield 18, 3) := by decide +kernel
theorem dX1_join_116 : decode cX1_join 116 = .ok (.iload_n 2, 1) := by decide +kernel
theorem dX1_join_117 : decode cX1_join 117 = .ok (.iconst 0, 1) := by decide +kernel
theorem dX1_join_118 : decode cX1_join 118 = .ok (.iastore, 1) := by decide +kernel
theorem dX1_join_119 : decode cX1_join 119 = .ok (.return_, 1) := by decide +kernel
theorem dX1_goToHead_0 : decode cX1_goToHead 0 = .ok (.aload_n 0, 1) := by decide +kernel
theorem dX1_goToHead_1 : decode cX1_goToHead 1 = .ok (.iload_n 1, 1) := by decide +kernel
theorem dX1_goToHead_2 : decode cX1_goToHead 2 = .ok (.invokevirtual 94, 3) := by decide +kernel
theorem dX1_goToHead_5 : decode cX1_goToHead 5 = .ok (.istore_n 2, 1) := by decide +kernel
theorem dX1_goToHead_6 : decode cX1_goToHead 6 = .ok (.iload_n 1, 1) := by decide +kernel
theorem dX1_goToHead_7 : decode cX1_goToHead 7 = .ok (.ifCond .lt 22, 3) := by decide +kernel
theorem dX1_goToHead_10 : decode cX1_goToHead 10 = .ok (.iload_n 1, 1) := by decide +kernel
theorem dX1_goToHead_11 : decode cX1_goToHead 11 = .ok (.bipush 9, 2) := by decide +kernel
theorem dX1_goToHead_13 : decode cX1_goToHead 13 = .ok (.if_icmp .ge 16, 3) := by decide +kernel
theorem dX1_goToHead_16 : decode cX1_goToHead 16 = .ok (.iload_n 2, 1) := by decide +kernel
theorem dX1_goToHead_17 : decode cX1_goToHead 17 = .ok (.ifCond .lt 12, 3) := by decide +kernel
theorem dX1_goToHead_20 : decode cX1_goToHead 20 = .ok (.aload_n 0, 1) := by decide +kernel
theorem dX1_goToHead_21 : decode cX1_goToHead 21 = .ok (.getfield 27, 3) := by decide +kernel
theorem dX1_goToHead_24 : decode cX1_goToHead 24 = .ok (.bipush 9, 2) := by decide +kernel
theorem dX1_goToHead_26 : decode cX1_goToHead 26 = .ok (.if_icmp .le 4, 3) := by decide +kernel
theorem dX1_goToHead_29 : decode cX1_goToHead 29 = .ok (.return_, 1) := by decide +kernel
theorem dX1_goToHead_30 : decode cX1_goToHead 30 = .ok (.iload_n 2, 1) := by decide +kernel
theorem dX1_goToHead_31 : decode cX1_goToHead 31 = .ok (.istore_n 3, 1) := by decide +kernel
theorem dX1_goToHead_32 : decode cX1_goToHead 32 = .ok (.iload_n 3, 1) := by decide +kernel
theorem dX1_goToHead_33 : decode cX1_goToHead 33 = .ok (.aload_n 0, 1) := by decide +kernel
theorem dX1_goToHead_34 : decode cX1_goToHead 34 = .ok (.getfield 27, 3) := by decide +kernel
theorem dX1_goToHead_37 : decode cX1_goToHead 37 = .ok (.iconst 1, 1) := by decide +kernel
theorem dX1_goToHead_38 : decode cX1_goToHead 38 = .ok (.isub, 1) := by decide +kernel
theorem dX1_goToHead_39 : decode cX1_goToHead 39 = .ok (.if_icmp .ge 23, 3) := by decide +kernel
theorem dX1_goToHead_42 : decode cX1_goToHead 42 = .ok (.aload_n 0, 1) := by decide +kernel
theorem dX1_goToHead_43 : decode cX1_goToHead 43 = .ok (.getfield 9, 3) := by decide +kernel
theorem dX1_goToHead_46 : decode cX1_goToHead 46 = .ok (.iload_n 3, 1) := by decide +kernel
theorem dX1_goToHead_47 : decode cX1_goToHead 47 = .ok (.aload_n 0, 1) := by decide +kernel
theorem dX1_goToHead_48 : decode cX1_goToHead 48 = .ok (.getfield 9, 3) := by decide +kernel
theorem dX1_goToHead_51 : decode cX1_goToHead 51 = .ok (.iload_n 3, 1) := by decide +kernel
theorem dX1_goToHead_52 : decode cX1_goToHead 52 = .ok (.iconst 1, 1) := by decide +kernel
theorem dX1_goToHead_53 : decode cX1_goToHead 53 = .ok (.iadd, 1) := by decide +kernel
theorem dX1_goToHead_54 : decode cX1_goToHead 54 = .ok (.iaload, 1) := by decide +kernel
theorem dX1_goToHead_55 : decode cX1_goToHead 55 = .ok (.iastore, 1) := by decide +kernel
theorem dX1_goToHead_56 : decode cX1_goToHead 56 = .ok (.iinc 3 1, 3) := by decide +kernel
theorem dX1_goToHead_59 : decode cX1_goToHead 59 = .ok (.goto (-27), 3) := by decide +kernel
theorem dX1_goToHead_62 : decode cX1_goToHead 62 = .ok (.aload_n 0, 1) := by decide +kernel
theorem dX1_goToHead_63 : decode cX1_goToHead 63 = .ok (.getfield 9, 3) := by decide +kernel
theorem dX1_goToHead_66 : decode cX1_goToHead 66 = .ok (.aload_n 0, 1) := by decide +kernel
theorem dX1_goToHead_67 : decode cX1_goToHead 67 = .ok (.getfield 27, 3) := by decide +kernel
theorem dX1_goToHead_70 : decode cX1_goToHead 70 = .ok (.iconst 1, 1) := by decide +kernel
theorem dX1_goToHead_71 : decode cX1_goToHead 71 = .ok (.isub, 1) := by decide +kernel
theorem dX1_goToHead_72 : decode cX1_goToHead 72 = .ok (.iload_n 1, 1) := by decide +kernel
theorem dX1_goToHead_73 : decode cX1_goToHead 73 = .ok (.iastore, 1) := by decide +kernel
theorem dX1_goToHead_74 : decode cX1_goToHead 74 = .ok (.aload_n 0, 1) := by decide +kernel
theorem dX1_goToHead_75 : decode cX1_goToHead 75 = .ok (.getfield 18, 3) := by decide +kernel
theorem dX1_goToHead_78 : decode cX1_goToHead 78 = .ok (.iload_n 1, 1) := by decide +kernel
theorem dX1_goToHead_79 : decode cX1_goToHead 79 = .ok (.iconst 0, 1) := by decide +kernel
theorem dX1_goToHead_80 : decode cX1_goToHead 80 = .ok (.iastore, 1) := by decide +kernel
theorem dX1_goToHead_81 : decode cX1_goToHead 81 = .ok (.return_, 1) := by decide +kernel
theorem dX1_goAway_0 : decode cX1_goAway 0 = .ok (.aload_n 0, 1) := by decide +kernel
theorem dX1_goAway_1 : decode cX1_goAway 1 = .ok (.iload_n 1, 1) := by decide +kernel
theorem dX1_goAway_2 : decode cX1_goAway 2 = .ok (.invokevirtual 94, 3) := by decide +kernel
theorem dX1_goAway_5 : decode cX1_goAway 5 = .ok (.istore_n 2, 1) := by decide +kernel
theorem dX1_goAway_6 : decode cX1_goAway 6 = .ok (.iload_n 1, 1) := by decide +kernel
theorem dX1_goAway_7 : decode cX1_goAway 7 = .ok (.ifCond .lt 13, 3) := by decide +kernel
theorem dX1_goAway_10 : decode cX1_goAway 10 = .ok (.iload_n 1, 1) := by decide +kernel
theorem dX1_goAway_11 : decode cX1_goAway 11 = .ok (.bipush 9, 2) := by decide +kernel
theorem dX1_goAway_13 : decode cX1_goAway 13 = .ok (.if_icmp .ge 7, 3) := by decide +kernel
theorem dX1_goAway_16 : decode cX1_goAway 16 = .ok (.iload_n 2, 1) := by decide +kernel
theorem dX1_goAway_17 : decode cX1_goAway 17 = .ok (.ifCond .ge 4, 3) := by decide +kernel
theorem dX1_goAway_20 : decode cX1_goAway 20 = .ok (.return_, 1) := by decide +kernel
theorem dX1_goAway_21 : decode cX1_goAway 21 = .ok (.aload_n 0, 1) := by decide +kernel
theorem dX1_goAway_22 : decode cX1_goAway 22 = .ok (.iload_n 2, 1) := by decide +kernel
theorem dX1_goAway_23 : decode cX1_goAway 23 = .ok (.invokevirtual 98, 3) := by decide +kernel
theorem dX1_goAway_26 : decode cX1_goAway 26 = .ok (.aload_n 0, 1) := by decide +kernel
theorem dX1_goAway_27 : decode cX1_goAway 27 = .ok (.getfield 15, 3) := by decide +kernel
theorem dX1_goAway_30 : decode cX1_goAway 30 = .ok (.iload_n 1, 1) := by decide +kernel
theorem dX1_goAway_31 : decode cX1_goAway 31 = .ok (.iconst 2, 1) := by decide +kernel
theorem dX1_goAway_32 : decode cX1_goAway 32 = .ok (.iastore, 1) := by decide +kernel
theorem dX1_goAway_33 : decode cX1_goAway 33 = .ok (.return_, 1) := by decide +kernel
theorem dX1_canYield_0 : decode cX1_canYield 0 = .ok (.aload_n 0, 1) := by decide +kernel
theorem dX1_canYield_1 : decode cX1_canYield 1 = .ok (.iload_n 1, 1) := by decide +kernel
theorem dX1_canYield_2 : decode cX1_canYield 2 = .ok (.invokevirtual 94, 3) := by decide +kernel
theorem dX1_canYield_5 : decode cX1_canYield 5 = .ok (.istore_n 2, 1) := by decide +kernel
theorem dX1_canYield_6 : decode cX1_canYield 6 = .ok (.iload_n 2, 1) := by decide +kernel
theorem dX1_canYield_7 : decode cX1_canYield 7 = .ok (.ifCond .lt 17, 3) := by decide +kernel
theorem dX1_canYield_10 : decode cX1_canYield 10 = .ok (.iload_n 2, 1) := by decide +kernel
theorem dX1_canYield_11 : decode cX1_canYield 11 = .ok (.aload_n 0, 1) := by decide +kernel
theorem dX1_canYield_12 : decode cX1_canYield 12 = .ok (.getfield 27, 3) := by decide +kernel
theorem dX1_canYield_15 : decode cX1_canYield 15 = .ok (.iconst 1, 1) := by decide +kernel
theorem dX1_canYield_16 : decode cX1_canYield 16 = .ok (.isub, 1) := by decide +kernel
theorem dX1_canYield_17 : decode cX1_canYield 17 = .ok (.if_icmp .ge 7, 3) := by decide +kernel
theorem dX1_canYield_20 : decode cX1_canYield 20 = .ok (.iconst 1, 1) := by decide +kernel
theorem dX1_canYield_21 : decode cX1_canYield 21 = .ok (.goto 4, 3) := by decide +kernel
theorem dX1_canYield_24 : decode cX1_canYield 24 = .ok (.iconst 0, 1) := by decide +kernel
theorem dX1_canYield_25 : decode cX1_canYield 25 = .ok (.ireturn, 1) := by decide +kernel
theorem dX1_yieldPlace_0 : decode cX1_yieldPlace 0 = .ok (.aload_n 0, 1) := by decide +kernel
theorem dX1_yieldPlace_1 : decode cX1_yieldPlace 1 = .ok (.iload_n 1, 1) := by decide +kernel
theorem dX1_yieldPlace_2 : decode cX1_yieldPlace 2 = .ok (.invokevirtual 94, 3) := by decide +kernel
theorem dX1_yieldPlace_5 : decode cX1_yieldPlace 5 = .ok (.istore_n 2, 1) := by decide +kernel
theorem dX1_yieldPlace_6 : decode cX1_yieldPlace 6 = .ok (.iload_n 2, 1) := by decide +kernel
theorem dX1_yieldPlace_7 : decode cX1_yieldPlace 7 = .ok (.ifCond .lt 22, 3) := by decide +kernel
theorem dX1_yieldPlace_10 : decode cX1_yieldPlace 10 = .ok (.iload_n 2, 1) := by decide +kernel
theorem dX1_yieldPlace_11 : decode cX1_yieldPlace 11 = .ok (.aload_n 0, 1) := by decide +kernel
theorem dX1_yieldPlace_12 : decode cX1_yieldPlace 12 = .ok (.getfield 27, 3) := by decide +kernel
theorem dX1_yieldPlace_15 : decode cX1_yieldPlace 15 = .ok (.iconst 1, 1) := by decide +kernel
theorem dX1_yieldPlace_16 : decode cX1_yieldPlace 16 = .ok (.isub, 1) := by decide +kernel
theorem dX1_yieldPlace_17 : decode cX1_yieldPlace 17 = .ok (.if_icmp .ge 12, 3) := by decide +kernel
theorem dX1_yieldPlace_20 : decode cX1_yieldPlace 20 = .ok (.aload_n 0, 1) := by decide +kernel
theorem dX1_yieldPlace_21 : decode cX1_yieldPlace 21 = .ok (.getfield 27, 3) := by decide +kernel
theorem dX1_yieldPlace_24 : decode cX1_yieldPlace 24 = .ok (.bipush 9, 2) := by decide +kernel
theorem dX1_yieldPlace_26 : decode cX1_yieldPlace 26 = .ok (.if_icmp .le 4, 3) := by decide +kernel
theorem dX1_yieldPlace_29 : decode cX1_yieldPlace 29 = .ok (.return_, 1) := by decide +kernel
theorem dX1_yieldPlace_30 : decode cX1_yieldPlace 30 = .ok (.aload_n 0, 1) := by decide +kernel
theorem dX1_yieldPlace_31 : decode cX1_yieldPlace 31 = .ok (.getfield 9, 3) := by decide +kernel
theorem dX1_yieldPlace_34 : decode cX1_yieldPlace 34 = .ok (.iload_n 2, 1) := by decide +kernel
theorem dX1_yieldPlace_35 : decode cX1_yieldPlace 35 = .ok (.aload_n 0, 1) := by decide +kernel
theorem dX1_yieldPlace_36 : decode cX1_yieldPlace 36 = .ok (.getfield 9, 3) := by decide +kernel
theorem dX1_yieldPlace_39 : decode cX1_yieldPlace 39 = .ok (.iload_n 2, 1) := by decide +kernel
theorem dX1_yieldPlace_40 : decode cX1_yieldPlace 40 = .ok (.iconst 1, 1) := by decide +kernel
theorem dX1_yieldPlace_41 : decode cX1_yieldPlace 41 = .ok (.iadd, 1) := by decide +kernel
theorem dX1_yieldPlace_42 : decode cX1_yieldPlace 42 = .ok (.iaload, 1) := by decide +kernel
theorem dX1_yieldPlace_43 : decode cX1_yieldPlace 43 = .ok (.iastore, 1) := by decide +kernel
theorem dX1_yieldPlace_44 : decode cX1_yieldPlace 44 = .ok (.aload_n 0, 1) := by decide +kernel
theorem dX1_yieldPlace_45 : decode cX1_yieldPlace 45 = .ok (.getfield 9, 3) := by decide +kernel
theorem dX1_yieldPlace_48 : decode cX1_yieldPlace 48 = .ok (.iload_n 2, 1) := by decide +kernel
theorem dX1_yieldPlace_49 : decode cX1_yieldPlace 49 = .ok (.iconst 1, 1) := by decide +kernel
theorem dX1_yieldPlace_50 : decode cX1_yieldPlace 50 = .ok (.iadd, 1) := by decide +kernel
theorem dX1_yieldPlace_51 : decode cX1_yieldPlace 51 = .ok (.iload_n 1, 1) := by decide +kernel
theorem dX1_yieldPlace_52 : decode cX1_yieldPlace 52 = .ok (.iastore, 1) := by decide +kernel
theorem dX1_yieldPlace_53 : decode cX1_yieldPlace 53 = .ok (.return_, 1) := by decide +kernel
theorem dX1_giveLoaf_0 : decode cX1_giveLoaf 0 = .ok (.aload_n 0, 1) := by decide +kernel
theorem dX1_giveLoaf_1 : decode cX1_giveLoaf 1 = .ok (.aload_n 1, 1) := by decide +kernel
theorem dX1_giveLoaf_2 : decode cX1_giveLoaf 2 = .ok (.iload_n 2, 1) := by decide +kernel
theorem dX1_giveLoaf_3 : decode cX1_giveLoaf 3 = .ok (.invokevirtual 101, 3) := by decide +kernel
theorem dX1_giveLoaf_6 : decode cX1_giveLoaf 6 = .ok (.istore_n 3, 1) := by decide +kernel
theorem dX1_giveLoaf_7 : decode cX1_giveLoaf 7 = .ok (.aload_n 0, 1) := by decide +kernel
theorem dX1_giveLoaf_8 : decode cX1_giveLoaf 8 = .ok (.iload_n 3, 1) := by decide +kernel
theorem dX1_giveLoaf_9 : decode cX1_giveLoaf 9 = .ok (.invokevirtual 105, 3) := by decide +kernel
theorem dX1_giveLoaf_12 : decode cX1_giveLoaf 12 = .ok (.istore 4, 2) := by decide +kernel
theorem dX1_giveLoaf_14 : decode cX1_giveLoaf 14 = .ok (.iload 4, 2) := by decide +kernel
theorem dX1_giveLoaf_16 : decode cX1_giveLoaf 16 = .ok (.ifCond .lt 10, 3) := by decide +kernel
theorem dX1_giveLoaf_19 : decode cX1_giveLoaf 19 = .ok (.iload 4, 2) := by decide +kernel
theorem dX1_giveLoaf_21 : decode cX1_giveLoaf 21 = .ok (.bipush 9, 2) := by decide +kernel
theorem dX1_giveLoaf_23 : decode cX1_giveLoaf 23 = .ok (.if_icmp .lt 4, 3) := by decide +kernel
theorem dX1_giveLoaf_26 : decode cX1_giveLoaf 26 = .ok (.return_, 1) := by decide +kernel
theorem dX1_giveLoaf_27 : decode cX1_giveLoaf 27 = .ok (.aload_n 0, 1) := by decide +kernel
theorem dX1_giveLoaf_28 : decode cX1_giveLoaf 28 = .ok (.iload_n 3, 1) := by decide +kernel
theorem dX1_giveLoaf_29 : decode cX1_giveLoaf 29 = .ok (.invokevirtual 98, 3) := by decide +kernel
theorem dX1_giveLoaf_32 : decode cX1_giveLoaf 32 = .ok (.aload_n 0, 1) := by decide +kernel
theorem dX1_giveLoaf_33 : decode cX1_giveLoaf 33 = .ok (.getfield 15, 3) := by decide +kernel
theorem dX1_giveLoaf_36 : decode cX1_giveLoaf 36 = .ok (.iload 4, 2) := by decide +kernel
theorem dX1_giveLoaf_38 : decode cX1_giveLoaf 38 = .ok (.iconst 3, 1) := by decide +kernel
theorem dX1_giveLoaf_39 : decode cX1_giveLoaf 39 = .ok (.iastore, 1) := by decide +kernel
theorem dX1_giveLoaf_40 : decode cX1_giveLoaf 40 = .ok (.aload_n 0, 1) := by decide +kernel
theorem dX1_giveLoaf_41 : decode cX1_giveLoaf 41 = .ok (.getfield 21, 3) := by decide +kernel
theorem dX1_giveLoaf_44 : decode cX1_giveLoaf 44 = .ok (.iload 4, 2) := by decide +kernel
theorem dX1_giveLoaf_46 : decode cX1_giveLoaf 46 = .ok (.aload_n 0, 1) := by decide +kernel
theorem dX1_giveLoaf_47 : decode cX1_giveLoaf 47 = .ok (.getfield 31, 3) := by decide +kernel
theorem dX1_giveLoaf_50 : decode cX1_giveLoaf 50 = .ok (.iastore, 1) := by decide +kernel
theorem dX1_giveLoaf_51 : decode cX1_giveLoaf 51 = .ok (.aload_n 0, 1) := by decide +kernel
theorem dX1_giveLoaf_52 : decode cX1_giveLoaf 52 = .ok (.getfield 24, 3) := by decide +kernel
theorem dX1_giveLoaf_55 : decode cX1_giveLoaf 55 = .ok (.iload 4, 2) := by decide +kernel
theorem dX1_giveLoaf_57 : decode cX1_giveLoaf 57 = .ok (.iconst 0, 1) := by decide +kernel
theorem dX1_giveLoaf_58 : decode cX1_giveLoaf 58 = .ok (.aload_n 1, 1) := by decide +kernel
theorem dX1_giveLoaf_59 : decode cX1_giveLoaf 59 = .ok (.getfield 108, 3) := by decide +kernel
theorem dX1_giveLoaf_62 : decode cX1_giveLoaf 62 = .ok (.aload_n 0, 1) := by decide +kernel
theorem dX1_giveLoaf_63 : decode cX1_giveLoaf 63 = .ok (.getfield 34, 3) := by decide +kernel
theorem dX1_giveLoaf_66 : decode cX1_giveLoaf 66 = .ok (.isub, 1) := by decide +kernel
theorem dX1_giveLoaf_67 : decode cX1_giveLoaf 67 = .ok (.invokestatic 111, 3) := by decide +kernel
theorem dX1_giveLoaf_70 : decode cX1_giveLoaf 70 = .ok (.iastore, 1) := by decide +kernel
theorem dX1_giveLoaf_71 : decode cX1_giveLoaf 71 = .ok (.aload_n 0, 1) := by decide +kernel
theorem dX1_giveLoaf_72 : decode cX1_giveLoaf 72 = .ok (.dup, 1) := by decide +kernel
theorem dX1_giveLoaf_73 : decode cX1_giveLoaf 73 = .ok (.getfield 37, 3) := by decide +kernel
theorem dX1_giveLoaf_76 : decode cX1_giveLoaf 76 = .ok (.aload_n 0, 1) := by decide +kernel
theorem dX1_giveLoaf_77 : decode cX1_giveLoaf 77 = .ok (.getfield 24, 3) := by decide +kernel
theorem dX1_giveLoaf_80 : decode cX1_giveLoaf 80 = .ok (.iload 4, 2) := by decide +kernel
theorem dX1_giveLoaf_82 : decode cX1_giveLoaf 82 = .ok (.iaload, 1) := by decide +kernel
theorem dX1_giveLoaf_83 : decode cX1_giveLoaf 83 = .ok (.iadd, 1) := by decide +kernel
theorem dX1_giveLoaf_84 : decode cX1_giveLoaf 84 = .ok (.putfield 37, 3) := by decide +kernel
theorem dX1_giveLoaf_87 : decode cX1_giveLoaf 87 = .ok (.aload_n 0, 1) := by decide +kernel
theorem dX1_giveLoaf_88 : decode cX1_giveLoaf 88 = .ok (.dup, 1) := by decide +kernel
theorem dX1_giveLoaf_89 : decode cX1_giveLoaf 89 = .ok (.getfield 34, 3) := by decide +kernel
theorem dX1_giveLoaf_92 : decode cX1_giveLoaf 92 = .ok (.iconst 1, 1) := by decide +kernel
theorem dX1_giveLoaf_93 : decode cX1_giveLoaf 93 = .ok (.iadd, 1) := by decide +kernel
theorem dX1_giveLoaf_94 : decode cX1_giveLoaf 94 = .ok (.putfield 34, 3) := by decide +kernel
theorem dX1_giveLoaf_97 : decode cX1_giveLoaf 97 = .ok (.return_, 1) := by decide +kernel
theorem dX1_placeServed_0 : decode cX1_placeServed 0 = .ok (.iconst 0, 1) := by decide +kernel
theorem dX1_placeServed_1 : decode cX1_placeServed 1 = .ok (.istore_n 3, 1) := by decide +kernel
theorem dX1_placeServed_2 : decode cX1_placeServed 2 = .ok (.iload_n 3, 1) := by decide +kernel
theorem dX1_placeServed_3 : decode cX1_placeServed 3 = .ok (.aload_n 0, 1) := by decide +kernel
theorem dX1_placeServed_4 : decode cX1_placeServed 4 = .ok (.getfield 27, 3) := by decide +kernel
theorem dX1_placeServed_7 : decode cX1_placeServed 7 = .ok (.if_icmp .ge 54, 3) := by decide +kernel
theorem dX1_placeServed_10 : decode cX1_placeServed 10 = .ok (.aload_n 0, 1) := by decide +kernel
theorem dX1_placeServed_11 : decode cX1_placeServed 11 = .ok (.getfield 27, 3) := by decide +kernel
theorem dX1_placeServed_14 : decode cX1_placeServed 14 = .ok (.bipush 9, 2) := by decide +kernel
theorem dX1_placeServed_16 : decode cX1_placeServed 16 = .ok (.if_icmp .gt 45, 3) := by decide +kernel
theorem dX1_placeServed_19 : decode cX1_placeServed 19 = .ok (.iload_n 2, 1) := by decide +kernel
theorem dX1_placeServed_20 : decode cX1_placeServed 20 = .ok (.ifCond .eq 14, 3) := by decide +kernel
theorem dX1_placeServed_23 : decode cX1_placeServed 23 = .ok (.aload_n 0, 1) := by decide +kernel
theorem dX1_placeServed_24 : decode cX1_placeServed 24 = .ok (.getfield 27, 3) := by decide +kernel
theorem dX1_placeServed_27 : decode cX1_placeServed 27 = .ok (.iconst 1, 1) := by decide +kernel
theorem dX1_placeServed_28 : decode cX1_placeServed 28 = .ok (.isub, 1) := by decide +kernel
theorem dX1_placeServed_29 : decode cX1_placeServed 29 = .ok (.iload_n 3, 1) := by decide +kernel
theorem dX1_placeServed_30 : decode cX1_placeServed 30 = .ok (.isub, 1) := by decide +kernel
theorem dX1_placeServed_31 : decode cX1_placeServed 31 = .ok (.goto 4, 3) := by decide +kernel
theorem dX1_placeServed_34 : decode cX1_placeServed 34 = .ok (.iload_n 3, 1) := by decide +kernel
theorem dX1_placeServed_35 : decode cX1_placeServed 35 = .ok (.istore 4, 2) := by decide +kernel
theorem dX1_placeServed_37 : decode cX1_placeServed 37 = .ok (.aload_n 1, 1) := by decide +kernel
theorem dX1_placeServed_38 : decode cX1_placeServed 38 = .ok (.aload_n 0, 1) := by decide +kernel
theorem dX1_placeServed_39 : decode cX1_placeServed 39 = .ok (.getfield 9, 3) := by decide +kernel
theorem dX1_placeServed_42 : decode cX1_placeServed 42 = .ok (.iload 4, 2) := by decide +kernel
theorem dX1_placeServed_44 : decode cX1_placeServed 44 = .ok (.iaload, 1) := by decide +kernel
theorem dX1_placeServed_45 : decode cX1_placeServed 45 = .ok (.invokevirtual 117, 3) := by decide +kernel
theorem dX1_placeServed_48 : decode cX1_placeServed 48 = .ok (.iconst 3, 1) := by decide +kernel
theorem dX1_placeServed_49 : decode cX1_placeServed 49 = .ok (.if_icmp .eq 6, 3) := by decide +kernel
theorem dX1_placeServed_52 : decode cX1_placeServed 52 = .ok (.iload 4, 2) := by decide +kernel
theorem dX1_placeServed_54 : decode cX1_placeServed 54 = .ok (.ireturn, 1) := by decide +kernel
theorem dX1_placeServed_55 : decode cX1_placeServed 55 = .ok (.iinc 3 1, 3) := by decide +kernel
theorem dX1_placeServed_58 : decode cX1_placeServed 58 = .ok (.goto (-56), 3) := by decide +kernel
theorem dX1_placeServed_61 : decode cX1_placeServed 61 = .ok (.iload_n 2, 1) := by decide +kernel
theorem dX1_placeServed_62 : decode cX1_placeServed 62 = .ok (.ifCond .eq 12, 3) := by decide +kernel
theorem dX1_placeServed_65 : decode cX1_placeServed 65 = .ok (.aload_n 0, 1) := by decide +kernel
theorem dX1_placeServed_66 : decode cX1_placeServed 66 = .ok (.getfield 27, 3) := by decide +kernel
theorem dX1_placeServed_69 : decode cX1_placeServed 69 = .ok (.iconst 1, 1) := by decide +kernel
theorem dX1_placeServed_70 : decode cX1_placeServed 70 = .ok (.isub, 1) := by decide +kernel
theorem dX1_placeServed_71 : decode cX1_placeServed 71 = .ok (.goto 4, 3) := by decide +kernel
theorem dX1_placeServed_74 : decode cX1_placeServed 74 = .ok (.iconst 0, 1) := by decide +kernel
theorem dX1_placeServed_75 : decode cX1_placeServed 75 = .ok (.ireturn, 1) := by decide +kernel
theorem dX1_takeOut_0 : decode cX1_takeOut 0 = .ok (.iload_n 1, 1) := by decide +kernel
theorem dX1_takeOut_1 : decode cX1_takeOut 1 = .ok (.ifCond .lt 20, 3) := by decide +kernel
theorem dX1_takeOut_4 : decode cX1_takeOut 4 = .ok (.iload_n 1, 1) := by decide +kernel
theorem dX1_takeOut_5 : decode cX1_takeOut 5 = .ok (.aload_n 0, 1) := by decide +kernel
theorem dX1_takeOut_6 : decode cX1_takeOut 6 = .ok (.getfield 27, 3) := by decide +kernel
theorem dX1_takeOut_9 : decode cX1_takeOut 9 = .ok (.if_icmp .ge 12, 3) := by decide +kernel
theorem dX1_takeOut_12 : decode cX1_takeOut 12 = .ok (.aload_n 0, 1) := by decide +kernel
theorem dX1_takeOut_13 : decode cX1_takeOut 13 = .ok (.getfield 27, 3) := by decide +kernel
theorem dX1_takeOut_16 : decode cX1_takeOut 16 = .ok (.bipush 9, 2) := by decide +kernel
theorem dX1_takeOut_18 : decode cX1_takeOut 18 = .ok (.if_icmp .le 4, 3) := by decide +kernel
theorem dX1_takeOut_21 : decode cX1_takeOut 21 = .ok (.return_, 1) := by decide +kernel
theorem dX1_takeOut_22 : decode cX1_takeOut 22 = .ok (.aload_n 0, 1) := by decide +kernel
theorem dX1_takeOut_23 : decode cX1_takeOut 23 = .ok (.dup, 1) := by decide +kernel
theorem dX1_takeOut_24 : decode cX1_takeOut 24 = .ok (.getfield 27, 3) := by decide +kernel
theorem dX1_takeOut_27 : decode cX1_takeOut 27 = .ok (.iconst 1, 1) := by decide +kernel
theorem dX1_takeOut_28 : decode cX1_takeOut 28 = .ok (.isub, 1) := by decide +kernel
theorem dX1_takeOut_29 : decode cX1_takeOut 29 = .ok (.putfield 27, 3) := by decide +kernel
theorem dX1_takeOut_32 : decode cX1_takeOut 32 = .ok (.iload_n 1, 1) := by decide +kernel
theorem dX1_takeOut_33 : decode cX1_takeOut 33 = .ok (.istore_n 2, 1) := by decide +kernel
theorem dX1_takeOut_34 : decode cX1_takeOut 34 = .ok (.iload_n 2, 1) := by decide +kernel
theorem dX1_takeOut_35 : decode cX1_takeOut 35 = .ok (.aload_n 0, 1) := by decide +kernel
theorem dX1_takeOut_36 : decode cX1_takeOut 36 = .ok (.getfield 27, 3) := by decide +kernel
theorem dX1_takeOut_39 : decode cX1_takeOut 39 = .ok (.if_icmp .ge 23, 3) := by decide +kernel
theorem dX1_takeOut_42 : decode cX1_takeOut 42 = .ok (.aload_n 0, 1) := by decide +kernel
theorem dX1_takeOut_43 : decode cX1_takeOut 43 = .ok (.getfield 9, 3) := by decide +kernel
theorem dX1_takeOut_46 : decode cX1_takeOut 46 = .ok (.iload_n 2, 1) := by decide +kernel
theorem dX1_takeOut_47 : decode cX1_takeOut 47 = .ok (.aload_n 0, 1) := by decide +kernel
theorem dX1_takeOut_48 : decode cX1_takeOut 48 = .ok (.getfield 9, 3) := by decide +kernel
theorem dX1_takeOut_51 : decode cX1_takeOut 51 = .ok (.iload_n 2, 1) := by decide +kernel
theorem dX1_takeOut_52 : decode cX1_takeOut 52 = .ok (.iconst 1, 1) := by decide +kernel
theorem dX1_takeOut_53 : decode cX1_takeOut 53 = .ok (.iadd, 1) := by decide +kernel
theorem dX1_takeOut_54 : decode cX1_takeOut 54 = .ok (.iaload, 1) := by decide +kernel
theorem dX1_takeOut_55 : decode cX1_takeOut 55 = .ok (.iastore, 1) := by decide +kernel
theorem dX1_takeOut_56 : decode cX1_takeOut 56 = .ok (.iinc 2 1, 3) := by decide +kernel
theorem dX1_takeOut_59 : decode cX1_takeOut 59 = .ok (.goto (-25), 3) := by decide +kernel
theorem dX1_takeOut_62 : decode cX1_takeOut 62 = .ok (.return_, 1) := by decide +kernel
theorem dX2_init_0 : decode cX2_init 0 = .ok (.aload_n 0, 1) := by decide +kernel
theorem dX2_init_1 : decode cX2_init 1 = .ok (.invokespecial 3, 3) := by decide +kernel
theorem dX2_init_4 : decode cX2_init 4 = .ok (.aload_n 0, 1) := by decide +kernel
theorem dX2_init_5 : decode cX2_init 5 = .ok (.iconst 5, 1) := by decide +kernel
theorem dX2_init_6 : decode cX2_init 6 = .ok (.newarray .int, 2) := by decide +kernel
theorem dX2_init_8 : decode cX2_init 8 = .ok (.putfield 9, 3) := by decide +kernel
theorem dX2_init_11 : decode cX2_init 11 = .ok (.aload_n 0, 1) := by decide +kernel
theorem dX2_init_12 : decode cX2_init 12 = .ok (.iconst 5, 1) := by decide +kernel
theorem dX2_init_13 : decode cX2_init 13 = .ok (.newarray .int, 2) := by decide +kernel
theorem dX2_init_15 : decode cX2_init 15 = .ok (.putfield 15, 3) := by decide +kernel
theorem dX2_init_18 : decode cX2_init 18 = .ok (.return_, 1) := by decide +kernel
theorem dX2_gather_0 : decode cX2_gather 0 = .ok (.aload_n 0, 1) := by decide +kernel
theorem dX2_gather_1 : decode cX2_gather 1 = .ok (.iconst 0, 1) := by decide +kernel
theorem dX2_gather_2 : decode cX2_gather 2 = .ok (.putfield 18, 3) := by decide +kernel
theorem dX2_gather_5 : decode cX2_gather 5 = .ok (.iconst 0, 1) := by decide +kernel
theorem dX2_gather_6 : decode cX2_gather 6 = .ok (.istore 4, 2) := by decide +kernel
theorem dX2_gather_8 : decode cX2_gather 8 = .ok (.iload 4, 2) := by decide +kernel
theorem dX2_gather_10 : decode cX2_gather 10 = .ok (.aload_n 1, 1) := by decide +kernel
theorem dX2_gather_11 : decode cX2_gather 11 = .ok (.getfield 22, 3) := by decide +kernel
theorem dX2_gather_14 : decode cX2_gather 14 = .ok (.if_icmp .ge 57, 3) := by decide +kernel
theorem dX2_gather_17 : decode cX2_gather 17 = .ok (.aload_n 0, 1) := by decide +kernel
theorem dX2_gather_18 : decode cX2_gather 18 = .ok (.getfield 18, 3) := by decide +kernel
theorem dX2_gather_21 : decode cX2_gather 21 = .ok (.iconst 5, 1) := by decide +kernel
theorem dX2_gather_22 : decode cX2_gather 22 = .ok (.if_icmp .ge 49, 3) := by decide +kernel
theorem dX2_gather_25 : decode cX2_gather 25 = .ok (.aload_n 1, 1) := by decide +kernel
theorem dX2_gather_26 : decode cX2_gather 26 = .ok (.iload 4, 2) := by decide +kernel
theorem dX2_gather_28 : decode cX2_gather 28 = .ok (.invokevirtual 27, 3) := by decide +kernel
theorem dX2_gather_31 : decode cX2_gather 31 = .ok (.iload_n 3, 1) := by decide +kernel
theorem dX2_gather_32 : decode cX2_gather 32 = .ok (.if_icmp .ne 33, 3) := by decide +kernel
theorem dX2_gather_35 : decode cX2_gather 35 = .ok (.aload_n 2, 1) := by decide +kernel
theorem dX2_gather_36 : decode cX2_gather 36 = .ok (.iload 4, 2) := by decide +kernel
theorem dX2_gather_38 : decode cX2_gather 38 = .ok (.invokevirtual 31, 3) := by decide +kernel
theorem dX2_gather_41 : decode cX2_gather 41 = .ok (.ifCond .ne 24, 3) := by decide +kernel
theorem dX2_gather_44 : decode cX2_gather 44 = .ok (.aload_n 0, 1) := by decide +kernel
theorem dX2_gather_45 : decode cX2_gather 45 = .ok (.getfield 9, 3) := by decide +kernel
theorem dX2_gather_48 : decode cX2_gather 48 = .ok (.aload_n 0, 1) := by decide +kernel
theorem dX2_gather_49 : decode cX2_gather 49 = .ok (.getfield 18, 3) := by decide +kernel
theorem dX2_gather_52 : decode cX2_gather 52 = .ok (.iload 4, 2) := by decide +kernel
theorem dX2_gather_54 : decode cX2_gather 54 = .ok (.iastore, 1) := by decide +kernel
theorem dX2_gather_55 : decode cX2_gather 55 = .ok (.aload_n 0, 1) := by decide +kernel
theorem dX2_gather_56 : decode cX2_gather 56 = .ok (.dup, 1) := by decide +kernel
theorem dX2_gather_57 : decode cX2_gather 57 = .ok (.getfield 18, 3) := by decide +kernel
theorem dX2_gather_60 : decode cX2_gather 60 = .ok (.iconst 1, 1) := by decide +kernel
theorem dX2_gather_61 : decode cX2_gather 61 = .ok (.iadd, 1) := by decide +kernel
theorem dX2_gather_62 : decode cX2_gather 62 = .ok (.putfield 18, 3) := by decide +kernel
theorem dX2_gather_65 : decode cX2_gather 65 = .ok (.iinc 4 1, 3) := by decide +kernel
theorem dX2_gather_68 : decode cX2_gather 68 = .ok (.goto (-60), 3) := by decide +kernel
theorem dX2_gather_71 : decode cX2_gather 71 = .ok (.aload_n 0, 1) := by decide +kernel
theorem dX2_gather_72 : decode cX2_gather 72 = .ok (.getfield 18, 3) := by decide +kernel
theorem dX2_gather_75 : decode cX2_gather 75 = .ok (.ifCond .le 7, 3) := by decide +kernel
theorem dX2_gather_78 : decode cX2_gather 78 = .ok (.iconst 1, 1) := by decide +kernel
theorem dX2_gather_79 : decode cX2_gather 79 = .ok (.goto 4, 3) := by decide +kernel
theorem dX2_gather_82 : decode cX2_gather 82 = .ok (.iconst 0, 1) := by decide +kernel
theorem dX2_gather_83 : decode cX2_gather 83 = .ok (.ireturn, 1) := by decide +kernel
theorem dX2_bestAt_0 : decode cX2_bestAt 0 = .ok (.iload_n 1, 1) := by decide +kernel
theorem dX2_bestAt_1 : decode cX2_bestAt 1 = .ok (.ifCond .lt 25, 3) := by decide +kernel
theorem dX2_bestAt_4 : decode cX2_bestAt 4 = .ok (.iload_n 1, 1) := by decide +kernel
theorem dX2_bestAt_5 : decode cX2_bestAt 5 = .ok (.aload_n 0, 1) := by decide +kernel
theorem dX2_bestAt_6 : decode cX2_bestAt 6 = .ok (.getfield 18, 3) := by decide +kernel
theorem dX2_bestAt_9 : decode cX2_bestAt 9 = .ok (.if_icmp .ge 17, 3) := by decide +kernel
theorem dX2_bestAt_12 : decode cX2_bestAt 12 = .ok (.iload_n 1, 1) := by decide +kernel
theorem dX2_bestAt_13 : decode cX2_bestAt 13 = .ok (.iconst 5, 1) := by decide +kernel
theorem dX2_bestAt_14 : decode cX2_bestAt 14 = .ok (.if_icmp .ge 12, 3) := by decide +kernel
theorem dX2_bestAt_17 : decode cX2_bestAt 17 = .ok (.aload_n 0, 1) := by decide +kernel
theorem dX2_bestAt_18 : decode cX2_bestAt 18 = .ok (.getfield 15, 3) := by decide +kernel
theorem dX2_bestAt_21 : decode cX2_bestAt 21 = .ok (.iload_n 1, 1) := by decide +kernel
theorem dX2_bestAt_22 : decode cX2_bestAt 22 = .ok (.iaload, 1) := by decide +kernel
theorem dX2_bestAt_23 : decode cX2_bestAt 23 = .ok (.goto 5, 3) := by decide +kernel
theorem dX2_bestAt_26 : decode cX2_bestAt 26 = .ok (.bipush (-4), 2) := by decide +kernel
theorem dX2_bestAt_28 : decode cX2_bestAt 28 = .ok (.ireturn, 1) := by decide +kernel
theorem dX2_markBest_0 : decode cX2_markBest 0 = .ok (.aload_n 0, 1) := by decide +kernel
theorem dX2_markBest_1 : decode cX2_markBest 1 = .ok (.getfield 9, 3) := by decide +kernel
theorem dX2_markBest_4 : decode cX2_markBest 4 = .ok (.iconst 0, 1) := by decide +kernel
theorem dX2_markBest_5 : decode cX2_markBest 5 = .ok (.aload_n 0, 1) := by decide +kernel
theorem dX2_markBest_6 : decode cX2_markBest 6 = .ok (.getfield 15, 3) := by decide +kernel
theorem dX2_markBest_9 : decode cX2_markBest 9 = .ok (.iconst 0, 1) := by decide +kernel
theorem dX2_markBest_10 : decode cX2_markBest 10 = .ok (.iconst 5, 1) := by decide +kernel
theorem dX2_markBest_11 : decode cX2_markBest 11 = .ok (.invokestatic 36, 3) := by decide +kernel
theorem dX2_markBest_14 : decode cX2_markBest 14 = .ok (.return_, 1) := by decide +kernel
theorem dX2_advance_0 : decode cX2_advance 0 = .ok (.aload_n 0, 1) := by decide +kernel
theorem dX2_advance_1 : decode cX2_advance 1 = .ok (.getfield 18, 3) := by decide +kernel
theorem dX2_advance_4 : decode cX2_advance 4 = .ok (.iconst 2, 1) := by decide +kernel
theorem dX2_advance_5 : decode cX2_advance 5 = .ok (.isub, 1) := by decide +kernel
theorem dX2_advance_6 : decode cX2_advance 6 = .ok (.istore_n 1, 1) := by decide +kernel
theorem dX2_advance_7 : decode cX2_advance 7 = .ok (.iload_n 1, 1) := by decide +kernel
theorem dX2_advance_8 : decode cX2_advance 8 = .ok (.ifCond .lt 26, 3) := by decide +kernel
theorem dX2_advance_11 : decode cX2_advance 11 = .ok (.aload_n 0, 1) := by decide +kernel
theorem dX2_advance_12 : decode cX2_advance 12 = .ok (.getfield 9, 3) := by decide +kernel
theorem dX2_advance_15 : decode cX2_advance 15 = .ok (.iload_n 1, 1) := by decide +kernel
theorem dX2_advance_16 : decode cX2_advance 16 = .ok (.iaload, 1) := by decide +kernel
theorem dX2_advance_17 : decode cX2_advance 17 = .ok (.aload_n 0, 1) := by decide +kernel
theorem dX2_advance_18 : decode cX2_advance 18 = .ok (.getfield 9, 3) := by decide +kernel
theorem dX2_advance_21 : decode cX2_advance 21 = .ok (.iload_n 1, 1) := by decide +kernel
theorem dX2_advance_22 : decode cX2_advance 22 = .ok (.iconst 1, 1) := by decide +kernel
theorem dX2_advance_23 : decode cX2_advance 23 = .ok (.iadd, 1) := by decide +kernel
theorem dX2_advance_24 : decode cX2_advance 24 = .ok (.iaload, 1) := by decide +kernel
theorem dX2_advance_25 : decode cX2_advance 25 = .ok (.if_icmp .le 9, 3) := by decide +kernel
theorem dX2_advance_28 : decode cX2_advance 28 = .ok (.iinc 1 (-1), 3) := by decide +kernel
theorem dX2_advance_31 : decode cX2_advance 31 = .ok (.goto (-24), 3) := by decide +kernel
theorem dX2_advance_34 : decode cX2_advance 34 = .ok (.iload_n 1, 1) := by decide +kernel
theorem dX2_advance_35 : decode cX2_advance 35 = .ok (.ifCond .ge 5, 3) := by decide +kernel
theorem dX2_advance_38 : decode cX2_advance 38 = .ok (.iconst 0, 1) := by decide +kernel
theorem dX2_advance_39 : decode cX2_advance 39 = .ok (.ireturn, 1) := by decide +kernel
theorem dX2_advance_40 : decode cX2_advance 40 = .ok (.aload_n 0, 1) := by decide +kernel
theorem dX2_advance_41 : decode cX2_advance 41 = .ok (.getfield 18, 3) := by decide +kernel
theorem dX2_advance_44 : decode cX2_advance 44 = .ok (.iconst 1, 1) := by decide +kernel
theorem dX2_advance_45 : decode cX2_advance 45 = .ok (.isub, 1) := by decide +kernel
theorem dX2_advance_46 : decode cX2_advance 46 = .ok (.istore_n 2, 1) := by decide +kernel
theorem dX2_advance_47 : decode cX2_advance 47 = .ok (.iload_n 2, 1) := by decide +kernel
theorem dX2_advance_48 : decode cX2_advance 48 = .ok (.iload_n 1, 1) := by decide +kernel
theorem dX2_advance_49 : decode cX2_advance 49 = .ok (.iconst 1, 1) := by decide +kernel
theorem dX2_advance_50 : decode cX2_advance 50 = .ok (.iadd, 1) := by decide +kernel
theorem dX2_advance_51 : decode cX2_advance 51 = .ok (.if_icmp .le 24, 3) := by decide +kernel
theorem dX2_advance_54 : decode cX2_advance 54 = .ok (.aload_n 0, 1) := by decide +kernel
theorem dX2_advance_55 : decode cX2_advance 55 = .ok (.getfield 9, 3) := by decide +kernel
theorem dX2_advance_58 : decode cX2_advance 58 = .ok (.iload_n 2, 1) := by decide +kernel
theorem dX2_advance_59 : decode cX2_advance 59 = .ok (.iaload, 1) := by decide +kernel
theorem dX2_advance_60 : decode cX2_advance 60 = .ok (.aload_n 0, 1) := by decide +kernel
theorem dX2_advance_61 : decode cX2_advance 61 = .ok (.getfield 9, 3) := by decide +kernel
theorem dX2_advance_64 : decode cX2_advance 64 = .ok (.iload_n 1, 1) := by decide +kernel
theorem dX2_advance_65 : decode cX2_advance 65 = .ok (.iaload, 1) := by decide +kernel
theorem dX2_advance_66 : decode cX2_advance 66 = .ok (.if_icmp .ge 9, 3) := by decide +kernel
theorem dX2_advance_69 : decode cX2_advance 69 = .ok (.iinc 2 (-1), 3) := by decide +kernel
theorem dX2_advance_72 : decode cX2_advance 72 = .ok (.goto (-25), 3) := by decide +kernel
theorem dX2_advance_75 : decode cX2_advance 75 = .ok (.aload_n 0, 1) := by decide +kernel
theorem dX2_advance_76 : decode cX2_advance 76 = .ok (.iload_n 1, 1) := by decide +kernel
theorem dX2_advance_77 : decode cX2_advance 77 = .ok (.iload_n 2, 1) := by decide +kernel
theorem dX2_advance_78 : decode cX2_advance 78 = .ok (.invokevirtual 42, 3) := by decide +kernel
theorem dX2_advance_81 : decode cX2_advance 81 = .ok (.iload_n 1, 1) := by decide +kernel
theorem dX2_advance_82 : decode cX2_advance 82 = .ok (.iconst 1, 1) := by decide +kernel
theorem dX2_advance_83 : decode cX2_advance 83 = .ok (.iadd, 1) := by decide +kernel
theorem dX2_advance_84 : decode cX2_advance 84 = .ok (.istore_n 3, 1) := by decide +kernel
theorem dX2_advance_85 : decode cX2_advance 85 = .ok (.aload_n 0, 1) := by decide +kernel
theorem dX2_advance_86 : decode cX2_advance 86 = .ok (.getfield 18, 3) := by decide +kernel
theorem dX2_advance_89 : decode cX2_advance 89 = .ok (.iconst 1, 1) := by decide +kernel
theorem dX2_advance_90 : decode cX2_advance 90 = .ok (.isub, 1) := by decide +kernel
theorem dX2_advance_91 : decode cX2_advance 91 = .ok (.istore 4, 2) := by decide +kernel
theorem dX2_advance_93 : decode cX2_advance 93 = .ok (.iload_n 3, 1) := by decide +kernel
theorem dX2_advance_94 : decode cX2_advance 94 = .ok (.iload 4, 2) := by decide +kernel
theorem dX2_advance_96 : decode cX2_advance 96 = .ok (.if_icmp .ge 19, 3) := by decide +kernel
theorem dX2_advance_99 : decode cX2_advance 99 = .ok (.aload_n 0, 1) := by decide +kernel
theorem dX2_advance_100 : decode cX2_advance 100 = .ok (.iload_n 3, 1) := by decide +kernel
theorem dX2_advance_101 : decode cX2_advance 101 = .ok (.iload 4, 2) := by decide +kernel
theorem dX2_advance_103 : decode cX2_advance 103 = .ok (.invokevirtual 42, 3) := by decide +kernel
theorem dX2_advance_106 : decode cX2_advance 106 = .ok (.iinc 3 1, 3) := by decide +kernel
theorem dX2_advance_109 : decode cX2_advance 109 = .ok (.iinc 4 (-1), 3) := by decide +kernel
theorem dX2_advance_112 : decode cX2_advance 112 = .ok (.goto (-19), 3) := by decide +kernel
theorem dX2_advance_115 : decode cX2_advance 115 = .ok (.iconst 1, 1) := by decide +kernel
theorem dX2_advance_116 : decode cX2_advance 116 = .ok (.ireturn, 1) := by decide +kernel
theorem dX2_swap_0 : decode cX2_swap 0 = .ok (.aload_n 0, 1) := by decide +kernel
theorem dX2_swap_1 : decode cX2_swap 1 = .ok (.getfield 9, 3) := by decide +kernel
theorem dX2_swap_4 : decode cX2_swap 4 = .ok (.iload_n 1, 1) := by decide +kernel
theorem dX2_swap_5 : decode cX2_swap 5 = .ok (.iaload, 1) := by decide +kernel
theorem dX2_swap_6 : decode cX2_swap 6 = .ok (.istore_n 3, 1) := by decide +kernel
theorem dX2_swap_7 : decode cX2_swap 7 = .ok (.aload_n 0, 1) := by decide +kernel
theorem dX2_swap_8 : decode cX2_swap 8 = .ok (.getfield 9, 3) := by decide +kernel
theorem dX2_swap_11 : decode cX2_swap 11 = .ok (.iload_n 1, 1) := by decide +kernel
theorem dX2_swap_12 : decode cX2_swap 12 = .ok (.aload_n 0, 1) := by decide +kernel
theorem dX2_swap_13 : decode cX2_swap 13 = .ok (.getfield 9, 3) := by decide +kernel
theorem dX2_swap_16 : decode cX2_swap 16 = .ok (.iload_n 2, 1) := by decide +kernel
theorem dX2_swap_17 : decode cX2_swap 17 = .ok (.iaload, 1) := by decide +kernel
theorem dX2_swap_18 : decode cX2_swap 18 = .ok (.iastore, 1) := by decide +kernel
theorem dX2_swap_19 : decode cX2_swap 19 = .ok (.aload_n 0, 1) := by decide +kernel
theorem dX2_swap_20 : decode cX2_swap 20 = .ok (.getfield 9, 3) := by decide +kernel
theorem dX2_swap_23 : decode cX2_swap 23 = .ok (.iload_n 2, 1) := by decide +kernel
theorem dX2_swap_24 : decode cX2_swap 24 = .ok (.iload_n 3, 1) := by decide +kernel
theorem dX2_swap_25 : decode cX2_swap 25 = .ok (.iastore, 1) := by decide +kernel
theorem dX2_swap_26 : decode cX2_swap 26 = .ok (.return_, 1) := by decide +kernel
theorem dX2_tellComings_0 : decode cX2_tellComings 0 = .ok (.iconst 0, 1) := by decide +kernel
theorem dX2_tellComings_1 : decode cX2_tellComings 1 = .ok (.istore_n 3, 1) := by decide +kernel
theorem dX2_tellComings_2 : decode cX2_tellComings 2 = .ok (.iload_n 3, 1) := by decide +kernel
theorem dX2_tellComings_3 : decode cX2_tellComings 3 = .ok (.aload_n 0, 1) := by decide +kernel
theorem dX2_tellComings_4 : decode cX2_tellComings 4 = .ok (.getfield 18, 3) := by decide +kernel
theorem dX2_tellComings_7 : decode cX2_tellComings 7 = .ok (.if_icmp .ge 22, 3) := by decide +kernel
theorem dX2_tellComings_10 : decode cX2_tellComings 10 = .ok (.aload_n 1, 1) := by decide +kernel
theorem dX2_tellComings_11 : decode cX2_tellComings 11 = .ok (.aload_n 0, 1) := by decide +kernel
theorem dX2_tellComings_12 : decode cX2_tellComings 12 = .ok (.getfield 9, 3) := by decide +kernel
theorem dX2_tellComings_15 : decode cX2_tellComings 15 = .ok (.iload_n 3, 1) := by decide +kernel
theorem dX2_tellComings_16 : decode cX2_tellComings 16 = .ok (.iaload, 1) := by decide +kernel
theorem dX2_tellComings_17 : decode cX2_tellComings 17 = .ok (.iload_n 2, 1) := by decide +kernel
theorem dX2_tellComings_18 : decode cX2_tellComings 18 = .ok (.iload_n 3, 1) := by decide +kernel
theorem dX2_tellComings_19 : decode cX2_tellComings 19 = .ok (.iadd, 1) := by decide +kernel
theorem dX2_tellComings_20 : decode cX2_tellComings 20 = .ok (.invokevirtual 46, 3) := by decide +kernel
theorem dX2_tellComings_23 : decode cX2_tellComings 23 = .ok (.iinc 3 1, 3) := by decide +kernel
theorem dX2_tellComings_26 : decode cX2_tellComings 26 = .ok (.goto (-24), 3) := by decide +kernel
theorem dX2_tellComings_29 : decode cX2_tellComings 29 = .ok (.return_, 1) := by decide +kernel
theorem dX2_allAte_0 : decode cX2_allAte 0 = .ok (.iconst 0, 1) := by decide +kernel
theorem dX2_allAte_1 : decode cX2_allAte 1 = .ok (.istore_n 2, 1) := by decide +kernel
theorem dX2_allAte_2 : decode cX2_allAte 2 = .ok (.iload_n 2, 1) := by decide +kernel
theorem dX2_allAte_3 : decode cX2_allAte 3 = .ok (.aload_n 0, 1) := by decide +kernel
theorem dX2_allAte_4 : decode cX2_allAte 4 = .ok (.getfield 18, 3) := by decide +kernel
theorem dX2_allAte_7 : decode cX2_allAte 7 = .ok (.if_icmp .ge 25, 3) := by decide +kernel
theorem dX2_allAte_10 : decode cX2_allAte 10 = .ok (.aload_n 1, 1) := by decide +kernel
theorem dX2_allAte_11 : decode cX2_allAte 11 = .ok (.aload_n 0, 1) := by decide +kernel
theorem dX2_allAte_12 : decode cX2_allAte 12 = .ok (.getfield 9, 3) := by decide +kernel
theorem dX2_allAte_15 : decode cX2_allAte 15 = .ok (.iload_n 2, 1) := by decide +kernel
theorem dX2_allAte_16 : decode cX2_allAte 16 = .ok (.iaload, 1) := by decide +kernel
theorem dX2_allAte_17 : decode cX2_allAte 17 = .ok (.invokevirtual 31, 3) := by decide +kernel
theorem dX2_allAte_20 : decode cX2_allAte 20 = .ok (.iconst 3, 1) := by decide +kernel
theorem dX2_allAte_21 : decode cX2_allAte 21 = .ok (.if_icmp .eq 5, 3) := by decide +kernel
theorem dX2_allAte_24 : decode cX2_allAte 24 = .ok (.iconst 0, 1) := by decide +kernel
theorem dX2_allAte_25 : decode cX2_allAte 25 = .ok (.ireturn, 1) := by decide +kernel
theorem dX2_allAte_26 : decode cX2_allAte 26 = .ok (.iinc 2 1, 3) := by decide +kernel
theorem dX2_allAte_29 : decode cX2_allAte 29 = .ok (.goto (-27), 3) := by decide +kernel
theorem dX2_allAte_32 : decode cX2_allAte 32 = .ok (.iconst 1, 1) := by decide +kernel
theorem dX2_allAte_33 : decode cX2_allAte 33 = .ok (.ireturn, 1) := by decide +kernel
theorem dX2_longestWait_0 : decode cX2_longestWait 0 = .ok (.iconst 0, 1) := by decide +kernel
theorem dX2_longestWait_1 : decode cX2_longestWait 1 = .ok (.istore_n 3, 1) := by decide +kernel
theorem dX2_longestWait_2 : decode cX2_longestWait 2 = .ok (.iconst 0, 1) := by decide +kernel
theorem dX2_longestWait_3 : decode cX2_longestWait 3 = .ok (.istore 4, 2) := by decide +kernel
theorem dX2_longestWait_5 : decode cX2_longestWait 5 = .ok (.iload 4, 2) := by decide +kernel
theorem dX2_longestWait_7 : decode cX2_longestWait 7 = .ok (.aload_n 0, 1) := by decide +kernel
theorem dX2_longestWait_8 : decode cX2_longestWait 8 = .ok (.getfield 18, 3) := by decide +kernel
theorem dX2_longestWait_11 : decode cX2_longestWait 11 = .ok (.if_icmp .ge 66, 3) := by decide +kernel
theorem dX2_longestWait_14 : decode cX2_longestWait 14 = .ok (.aload_n 1, 1) := by decide +kernel
theorem dX2_longestWait_15 : decode cX2_longestWait 15 = .ok (.aload_n 0, 1) := by decide +kernel
theorem dX2_longestWait_16 : decode cX2_longestWait 16 = .ok (.getfield 9, 3) := by decide +kernel
theorem dX2_longestWait_19 : decode cX2_longestWait 19 = .ok (.iload 4, 2) := by decide +kernel
theorem dX2_longestWait_21 : decode cX2_longestWait 21 = .ok (.iaload, 1) := by decide +kernel
theorem dX2_longestWait_22 : decode cX2_longestWait 22 = .ok (.invokevirtual 31, 3) := by decide +kernel
theorem dX2_longestWait_25 : decode cX2_longestWait 25 = .ok (.iconst 3, 1) := by decide +kernel
theorem dX2_longestWait_26 : decode cX2_longestWait 26 = .ok (.if_icmp .ne 7, 3) := by decide +kernel
theorem dX2_longestWait_29 : decode cX2_longestWait 29 = .ok (.iconst 1, 1) := by decide +kernel
theorem dX2_longestWait_30 : decode cX2_longestWait 30 = .ok (.goto 4, 3) := by decide +kernel
theorem dX2_longestWait_33 : decode cX2_longestWait 33 = .ok (.iconst 0, 1) := by decide +kernel
theorem dX2_longestWait_34 : decode cX2_longestWait 34 = .ok (.istore 5, 2) := by decide +kernel
theorem dX2_longestWait_36 : decode cX2_longestWait 36 = .ok (.iload 5, 2) := by decide +kernel
theorem dX2_longestWait_38 : decode cX2_longestWait 38 = .ok (.ifCond .eq 22, 3) := by decide +kernel
theorem dX2_longestWait_41 : decode cX2_longestWait 41 = .ok (.aload_n 1, 1) := by decide +kernel
theorem dX2_longestWait_42 : decode cX2_longestWait 42 = .ok (.aload_n 0, 1) := by decide +kernel
theorem dX2_longestWait_43 : decode cX2_longestWait 43 = .ok (.getfield 9, 3) := by decide +kernel
theorem dX2_longestWait_46 : decode cX2_longestWait 46 = .ok (.iload 4, 2) := by decide +kernel
theorem dX2_longestWait_48 : decode cX2_longestWait 48 = .ok (.iaload, 1) := by decide +kernel
theorem dX2_longestWait_49 : decode cX2_longestWait 49 = .ok (.invokevirtual 49, 3) := by decide +kernel
theorem dX2_longestWait_52 : decode cX2_longestWait 52 = .ok (.iload_n 2, 1) := by decide +kernel
theorem dX2_longestWait_53 : decode cX2_longestWait 53 = .ok (.isub, 1) := by decide +kernel
theorem dX2_longestWait_54 : decode cX2_longestWait 54 = .ok (.iload 4, 2) := by decide +kernel
theorem dX2_longestWait_56 : decode cX2_longestWait 56 = .ok (.isub, 1) := by decide +kernel
theorem dX2_longestWait_57 : decode cX2_longestWait 57 = .ok (.goto 5, 3) := by decide +kernel
theorem dX2_longestWait_60 : decode cX2_longestWait 60 = .ok (.bipush 99, 2) := by decide +kernel
theorem dX2_longestWait_62 : decode cX2_longestWait 62 = .ok (.istore 6, 2) := by decide +kernel
theorem dX2_longestWait_64 : decode cX2_longestWait 64 = .ok (.iload_n 3, 1) := by decide +kernel
theorem dX2_longestWait_65 : decode cX2_longestWait 65 = .ok (.iload 6, 2) := by decide +kernel
theorem dX2_longestWait_67 : decode cX2_longestWait 67 = .ok (.invokestatic 52, 3) := by decide +kernel
theorem dX2_longestWait_70 : decode cX2_longestWait 70 = .ok (.istore_n 3, 1) := by decide +kernel
theorem dX2_longestWait_71 : decode cX2_longestWait 71 = .ok (.iinc 4 1, 3) := by decide +kernel
theorem dX2_longestWait_74 : decode cX2_longestWait 74 = .ok (.goto (-69), 3) := by decide +kernel
theorem dX2_longestWait_77 : decode cX2_longestWait 77 = .ok (.iload_n 3, 1) := by decide +kernel
theorem dX2_longestWait_78 : decode cX2_longestWait 78 = .ok (.ireturn, 1) := by decide +kernel
theorem dX3_init_0 : decode cX3_init 0 = .ok (.aload_n 0, 1) := by decide +kernel
theorem dX3_init_1 : decode cX3_init 1 = .ok (.invokespecial 3, 3) := by decide +kernel
theorem dX3_init_4 : decode cX3_init 4 = .ok (.aload_n 0, 1) := by decide +kernel
theorem dX3_init_5 : decode cX3_init 5 = .ok (.bipush 9, 2) := by decide +kernel
theorem dX3_init_7 : decode cX3_init 7 = .ok (.newarray .int, 2) := by decide +kernel
theorem dX3_init_9 : decode cX3_init 9 = .ok (.putfield 9, 3) := by decide +kernel
theorem dX3_init_12 : decode cX3_init 12 = .ok (.aload_n 0, 1) := by decide +kernel
theorem dX3_init_13 : decode cX3_init 13 = .ok (.bipush 9, 2) := by decide +kernel
theorem dX3_init_15 : decode cX3_init 15 = .ok (.newarray .int, 2) := by decide +kernel
theorem dX3_init_17 : decode cX3_init 17 = .ok (.putfield 15, 3) := by decide +kernel
theorem dX3_init_20 : decode cX3_init 20 = .ok (.aload_n 0, 1) := by decide +kernel
theorem dX3_init_21 : decode cX3_init 21 = .ok (.bipush 9, 2) := by decide +kernel
theorem dX3_init_23 : decode cX3_init 23 = .ok (.newarray .int, 2) := by decide +kernel
theorem dX3_init_25 : decode cX3_init 25 = .ok (.putfield 18, 3) := by decide +kernel
theorem dX3_init_28 : decode cX3_init 28 = .ok (.return_, 1) := by decide +kernel
theorem dX3_clear_0 : decode cX3_clear 0 = .ok (.aload_n 0, 1) := by decide +kernel
theorem dX3_clear_1 : decode cX3_clear 1 = .ok (.iconst 0, 1) := by decide +kernel
theorem dX3_clear_2 : decode cX3_clear 2 = .ok (.putfield 21, 3) := by decide +kernel
theorem dX3_clear_5 : decode cX3_clear 5 = .ok (.aload_n 0, 1) := by decide +kernel
theorem dX3_clear_6 : decode cX3_clear 6 = .ok (.iconst 2, 1) := by decide +kernel
theorem dX3_clear_7 : decode cX3_clear 7 = .ok (.putfield 25, 3) := by decide +kernel
theorem dX3_clear_10 : decode cX3_clear 10 = .ok (.aload_n 0, 1) := by decide +kernel
theorem dX3_clear_11 : decode cX3_clear 11 = .ok (.bipush 20, 2) := by decide +kernel
theorem dX3_clear_13 : decode cX3_clear 13 = .ok (.putfield 28, 3) := by decide +kernel
theorem dX3_clear_16 : decode cX3_clear 16 = .ok (.aload_n 0, 1) := by decide +kernel
theorem dX3_clear_17 : decode cX3_clear 17 = .ok (.iconst 0, 1) := by decide +kernel
theorem dX3_clear_18 : decode cX3_clear 18 = .ok (.putfield 31, 3) := by decide +kernel
theorem dX3_clear_21 : decode cX3_clear 21 = .ok (.return_, 1) := by decide +kernel
theorem dX3_copyFrom_0 : decode cX3_copyFrom 0 = .ok (.aload_n 1, 1) := by decide +kernel
theorem dX3_copyFrom_1 : decode cX3_copyFrom 1 = .ok (.getfield 9, 3) := by decide +kernel
theorem dX3_copyFrom_4 : decode cX3_copyFrom 4 = .ok (.iconst 0, 1) := by decide +kernel
theorem dX3_copyFrom_5 : decode cX3_copyFrom 5 = .ok (.aload_n 0, 1) := by decide +kernel
theorem dX3_copyFrom_6 : decode cX3_copyFrom 6 = .ok (.getfield 9, 3) := by decide +kernel
theorem dX3_copyFrom_9 : decode cX3_copyFrom 9 = .ok (.iconst 0, 1) := by decide +kernel
theorem dX3_copyFrom_10 : decode cX3_copyFrom 10 = .ok (.bipush 9, 2) := by decide +kernel
theorem dX3_copyFrom_12 : decode cX3_copyFrom 12 = .ok (.invokestatic 34, 3) := by decide +kernel
theorem dX3_copyFrom_15 : decode cX3_copyFrom 15 = .ok (.aload_n 1, 1) := by decide +kernel
theorem dX3_copyFrom_16 : decode cX3_copyFrom 16 = .ok (.getfield 15, 3) := by decide +kernel
theorem dX3_copyFrom_19 : decode cX3_copyFrom 19 = .ok (.iconst 0, 1) := by decide +kernel
theorem dX3_copyFrom_20 : decode cX3_copyFrom 20 = .ok (.aload_n 0, 1) := by decide +kernel
theorem dX3_copyFrom_21 : decode cX3_copyFrom 21 = .ok (.getfield 15, 3) := by decide +kernel
theorem dX3_copyFrom_24 : decode cX3_copyFrom 24 = .ok (.iconst 0, 1) := by decide +kernel
theorem dX3_copyFrom_25 : decode cX3_copyFrom 25 = .ok (.bipush 9, 2) := by decide +kernel
theorem dX3_copyFrom_27 : decode cX3_copyFrom 27 = .ok (.invokestatic 34, 3) := by decide +kernel
theorem dX3_copyFrom_30 : decode cX3_copyFrom 30 = .ok (.aload_n 1, 1) := by decide +kernel
theorem dX3_copyFrom_31 : decode cX3_copyFrom 31 = .ok (.getfield 18, 3) := by decide +kernel
theorem dX3_copyFrom_34 : decode cX3_copyFrom 34 = .ok (.iconst 0, 1) := by decide +kernel
theorem dX3_copyFrom_35 : decode cX3_copyFrom 35 = .ok (.aload_n 0, 1) := by decide +kernel
theorem dX3_copyFrom_36 : decode cX3_copyFrom 36 = .ok (.getfield 18, 3) := by decide +kernel
theorem dX3_copyFrom_39 : decode cX3_copyFrom 39 = .ok (.iconst 0, 1) := by decide +kernel
theorem dX3_copyFrom_40 : decode cX3_copyFrom 40 = .ok (.bipush 9, 2) := by decide +kernel
theorem dX3_copyFrom_42 : decode cX3_copyFrom 42 = .ok (.invokestatic 34, 3) := by decide +kernel
theorem dX3_copyFrom_45 : decode cX3_copyFrom 45 = .ok (.aload_n 0, 1) := by decide +kernel
theorem dX3_copyFrom_46 : decode cX3_copyFrom 46 = .ok (.aload_n 1, 1) := by decide +kernel
theorem dX3_copyFrom_47 : decode cX3_copyFrom 47 = .ok (.getfield 21, 3) := by decide +kernel
theorem dX3_copyFrom_50 : decode cX3_copyFrom 50 = .ok (.putfield 21, 3) := by decide +kernel
theorem dX3_copyFrom_53 : decode cX3_copyFrom 53 = .ok (.aload_n 0, 1) := by decide +kernel
theorem dX3_copyFrom_54 : decode cX3_copyFrom 54 = .ok (.aload_n 1, 1) := by decide +kernel
theorem dX3_copyFrom_55 : decode cX3_copyFrom 55 = .ok (.getfield 25, 3) := by decide +kernel
theorem dX3_copyFrom_58 : decode cX3_copyFrom 58 = .ok (.putfield 25, 3) := by decide +kernel
theorem dX3_copyFrom_61 : decode cX3_copyFrom 61 = .ok (.aload_n 0, 1) := by decide +kernel
theorem dX3_copyFrom_62 : decode cX3_copyFrom 62 = .ok (.aload_n 1, 1) := by decide +kernel
theorem dX3_copyFrom_63 : decode cX3_copyFrom 63 = .ok (.getfield 28, 3) := by decide +kernel
theorem dX3_copyFrom_66 : decode cX3_copyFrom 66 = .ok (.putfield 28, 3) := by decide +kernel
theorem dX3_copyFrom_69 : decode cX3_copyFrom 69 = .ok (.aload_n 0, 1) := by decide +kernel
theorem dX3_copyFrom_70 : decode cX3_copyFrom 70 = .ok (.aload_n 1, 1) := by decide +kernel
theorem dX3_copyFrom_71 : decode cX3_copyFrom 71 = .ok (.getfield 31, 3) := by decide +kernel
theorem dX3_copyFrom_74 : decode cX3_copyFrom 74 = .ok (.putfield 31, 3) := by decide +kernel
theorem dX3_copyFrom_77 : decode cX3_copyFrom 77 = .ok (.return_, 1) := by decide +kernel
theorem dX3_addPerson_0 : decode cX3_addPerson 0 = .ok (.aload_n 0, 1) := by decide +kernel
end
section
theorem dX3_addPerson_1 : decode cX3_addPerson 1 = .ok (.getfield 21, 3) := by decide +kernel
theorem dX3_addPerson_4 : decode cX3_addPerson 4 = .ok (.bipush 9, 2) := by decide +kernel
theorem dX3_addPerson_6 : decode cX3_addPerson 6 = .ok (.if_icmp .ge 13, 3) := by decide +kernel
theorem dX3_addPerson_9 : decode cX3_addPerson 9 = .ok (.iload_n 1, 1) := by decide +kernel
theorem dX3_addPerson_10 : decode cX3_addPerson 10 = .ok (.iconst 4, 1) := by decide +kernel
theorem dX3_addPerson_11 : decode cX3_addPerson 11 = .ok (.if_icmp .ge 8, 3) := by decide +kernel
theorem dX3_addPerson_14 : decode cX3_addPerson 14 = .ok (.iload_n 3, 1) := by decide +kernel
theorem dX3_addPerson_15 : decode cX3_addPerson 15 = .ok (.iconst 4, 1) := by decide +kernel
theorem dX3_addPerson_16 : decode cX3_addPerson 16 = .ok (.if_icmp .le 5, 3) := by decide +kernel
theorem dX3_addPerson_19 : decode cX3_addPerson 19 = .ok (.iconst 0, 1) := by decide +kernel
theorem dX3_addPerson_20 : decode cX3_addPerson 20 = .ok (.ireturn, 1) := by decide +kernel
theorem dX3_addPerson_21 : decode cX3_addPerson 21 = .ok (.iload_n 3, 1) := by decide +kernel
theorem dX3_addPerson_22 : decode cX3_addPerson 22 = .ok (.ifCond .eq 14, 3) := by decide +kernel
theorem dX3_addPerson_25 : decode cX3_addPerson 25 = .ok (.aload_n 0, 1) := by decide +kernel
theorem dX3_addPerson_26 : decode cX3_addPerson 26 = .ok (.iload_n 3, 1) := by decide +kernel
theorem dX3_addPerson_27 : decode cX3_addPerson 27 = .ok (.invokevirtual 40, 3) := by decide +kernel
theorem dX3_addPerson_30 : decode cX3_addPerson 30 = .ok (.iconst 5, 1) := by decide +kernel
theorem dX3_addPerson_31 : decode cX3_addPerson 31 = .ok (.if_icmp .lt 5, 3) := by decide +kernel
theorem dX3_addPerson_34 : decode cX3_addPerson 34 = .ok (.iconst 0, 1) := by decide +kernel
theorem dX3_addPerson_35 : decode cX3_addPerson 35 = .ok (.ireturn, 1) := by decide +kernel
theorem dX3_addPerson_36 : decode cX3_addPerson 36 = .ok (.aload_n 0, 1) := by decide +kernel
theorem dX3_addPerson_37 : decode cX3_addPerson 37 = .ok (.getfield 9, 3) := by decide +kernel
theorem dX3_addPerson_40 : decode cX3_addPerson 40 = .ok (.aload_n 0, 1) := by decide +kernel
theorem dX3_addPerson_41 : decode cX3_addPerson 41 = .ok (.getfield 21, 3) := by decide +kernel
theorem dX3_addPerson_44 : decode cX3_addPerson 44 = .ok (.iload_n 1, 1) := by decide +kernel
theorem dX3_addPerson_45 : decode cX3_addPerson 45 = .ok (.iastore, 1) := by decide +kernel
theorem dX3_addPerson_46 : decode cX3_addPerson 46 = .ok (.aload_n 0, 1) := by decide +kernel
theorem dX3_addPerson_47 : decode cX3_addPerson 47 = .ok (.getfield 15, 3) := by decide +kernel
theorem dX3_addPerson_50 : decode cX3_addPerson 50 = .ok (.aload_n 0, 1) := by decide +kernel
theorem dX3_addPerson_51 : decode cX3_addPerson 51 = .ok (.getfield 21, 3) := by decide +kernel
theorem dX3_addPerson_54 : decode cX3_addPerson 54 = .ok (.iload_n 2, 1) := by decide +kernel
theorem dX3_addPerson_55 : decode cX3_addPerson 55 = .ok (.iastore, 1) := by decide +kernel
theorem dX3_addPerson_56 : decode cX3_addPerson 56 = .ok (.aload_n 0, 1) := by decide +kernel
theorem dX3_addPerson_57 : decode cX3_addPerson 57 = .ok (.getfield 18, 3) := by decide +kernel
theorem dX3_addPerson_60 : decode cX3_addPerson 60 = .ok (.aload_n 0, 1) := by decide +kernel
theorem dX3_addPerson_61 : decode cX3_addPerson 61 = .ok (.getfield 21, 3) := by decide +kernel
theorem dX3_addPerson_64 : decode cX3_addPerson 64 = .ok (.iload_n 3, 1) := by decide +kernel
theorem dX3_addPerson_65 : decode cX3_addPerson 65 = .ok (.iastore, 1) := by decide +kernel
theorem dX3_addPerson_66 : decode cX3_addPerson 66 = .ok (.aload_n 0, 1) := by decide +kernel
theorem dX3_addPerson_67 : decode cX3_addPerson 67 = .ok (.dup, 1) := by decide +kernel
theorem dX3_addPerson_68 : decode cX3_addPerson 68 = .ok (.getfield 21, 3) := by decide +kernel
theorem dX3_addPerson_71 : decode cX3_addPerson 71 = .ok (.iconst 1, 1) := by decide +kernel
theorem dX3_addPerson_72 : decode cX3_addPerson 72 = .ok (.iadd, 1) := by decide +kernel
theorem dX3_addPerson_73 : decode cX3_addPerson 73 = .ok (.putfield 21, 3) := by decide +kernel
theorem dX3_addPerson_76 : decode cX3_addPerson 76 = .ok (.iconst 1, 1) := by decide +kernel
theorem dX3_addPerson_77 : decode cX3_addPerson 77 = .ok (.ireturn, 1) := by decide +kernel
theorem dX3_setBaker_0 : decode cX3_setBaker 0 = .ok (.iload_n 1, 1) := by decide +kernel
theorem dX3_setBaker_1 : decode cX3_setBaker 1 = .ok (.iconst 1, 1) := by decide +kernel
theorem dX3_setBaker_2 : decode cX3_setBaker 2 = .ok (.if_icmp .lt 15, 3) := by decide +kernel
theorem dX3_setBaker_5 : decode cX3_setBaker 5 = .ok (.iload_n 1, 1) := by decide +kernel
theorem dX3_setBaker_6 : decode cX3_setBaker 6 = .ok (.bipush 9, 2) := by decide +kernel
theorem dX3_setBaker_8 : decode cX3_setBaker 8 = .ok (.if_icmp .gt 9, 3) := by decide +kernel
theorem dX3_setBaker_11 : decode cX3_setBaker 11 = .ok (.iload_n 2, 1) := by decide +kernel
theorem dX3_setBaker_12 : decode cX3_setBaker 12 = .ok (.bipush 40, 2) := by decide +kernel
theorem dX3_setBaker_14 : decode cX3_setBaker 14 = .ok (.if_icmp .le 5, 3) := by decide +kernel
theorem dX3_setBaker_17 : decode cX3_setBaker 17 = .ok (.iconst 0, 1) := by decide +kernel
theorem dX3_setBaker_18 : decode cX3_setBaker 18 = .ok (.ireturn, 1) := by decide +kernel
theorem dX3_setBaker_19 : decode cX3_setBaker 19 = .ok (.aload_n 0, 1) := by decide +kernel
theorem dX3_setBaker_20 : decode cX3_setBaker 20 = .ok (.iload_n 1, 1) := by decide +kernel
theorem dX3_setBaker_21 : decode cX3_setBaker 21 = .ok (.putfield 25, 3) := by decide +kernel
theorem dX3_setBaker_24 : decode cX3_setBaker 24 = .ok (.aload_n 0, 1) := by decide +kernel
theorem dX3_setBaker_25 : decode cX3_setBaker 25 = .ok (.iload_n 2, 1) := by decide +kernel
theorem dX3_setBaker_26 : decode cX3_setBaker 26 = .ok (.putfield 28, 3) := by decide +kernel
theorem dX3_setBaker_29 : decode cX3_setBaker 29 = .ok (.iconst 1, 1) := by decide +kernel
theorem dX3_setBaker_30 : decode cX3_setBaker 30 = .ok (.ireturn, 1) := by decide +kernel
theorem dX3_setRumour_0 : decode cX3_setRumour 0 = .ok (.iload_n 1, 1) := by decide +kernel
theorem dX3_setRumour_1 : decode cX3_setRumour 1 = .ok (.iconst 2, 1) := by decide +kernel
theorem dX3_setRumour_2 : decode cX3_setRumour 2 = .ok (.if_icmp .lt 9, 3) := by decide +kernel
theorem dX3_setRumour_5 : decode cX3_setRumour 5 = .ok (.iload_n 1, 1) := by decide +kernel
theorem dX3_setRumour_6 : decode cX3_setRumour 6 = .ok (.bipush 30, 2) := by decide +kernel
theorem dX3_setRumour_8 : decode cX3_setRumour 8 = .ok (.if_icmp .le 5, 3) := by decide +kernel
theorem dX3_setRumour_11 : decode cX3_setRumour 11 = .ok (.iconst 0, 1) := by decide +kernel
theorem dX3_setRumour_12 : decode cX3_setRumour 12 = .ok (.ireturn, 1) := by decide +kernel
theorem dX3_setRumour_13 : decode cX3_setRumour 13 = .ok (.aload_n 0, 1) := by decide +kernel
theorem dX3_setRumour_14 : decode cX3_setRumour 14 = .ok (.iload_n 1, 1) := by decide +kernel
theorem dX3_setRumour_15 : decode cX3_setRumour 15 = .ok (.putfield 31, 3) := by decide +kernel
theorem dX3_setRumour_18 : decode cX3_setRumour 18 = .ok (.iconst 1, 1) := by decide +kernel
theorem dX3_setRumour_19 : decode cX3_setRumour 19 = .ok (.ireturn, 1) := by decide +kernel
theorem dX3_howManyOf_0 : decode cX3_howManyOf 0 = .ok (.iconst 0, 1) := by decide +kernel
theorem dX3_howManyOf_1 : decode cX3_howManyOf 1 = .ok (.istore_n 2, 1) := by decide +kernel
theorem dX3_howManyOf_2 : decode cX3_howManyOf 2 = .ok (.iconst 0, 1) := by decide +kernel
theorem dX3_howManyOf_3 : decode cX3_howManyOf 3 = .ok (.istore_n 3, 1) := by decide +kernel
theorem dX3_howManyOf_4 : decode cX3_howManyOf 4 = .ok (.iload_n 3, 1) := by decide +kernel
theorem dX3_howManyOf_5 : decode cX3_howManyOf 5 = .ok (.aload_n 0, 1) := by decide +kernel
theorem dX3_howManyOf_6 : decode cX3_howManyOf 6 = .ok (.getfield 21, 3) := by decide +kernel
theorem dX3_howManyOf_9 : decode cX3_howManyOf 9 = .ok (.if_icmp .ge 28, 3) := by decide +kernel
theorem dX3_howManyOf_12 : decode cX3_howManyOf 12 = .ok (.iload_n 3, 1) := by decide +kernel
theorem dX3_howManyOf_13 : decode cX3_howManyOf 13 = .ok (.bipush 9, 2) := by decide +kernel
theorem dX3_howManyOf_15 : decode cX3_howManyOf 15 = .ok (.if_icmp .ge 22, 3) := by decide +kernel
theorem dX3_howManyOf_18 : decode cX3_howManyOf 18 = .ok (.aload_n 0, 1) := by decide +kernel
theorem dX3_howManyOf_19 : decode cX3_howManyOf 19 = .ok (.getfield 18, 3) := by decide +kernel
theorem dX3_howManyOf_22 : decode cX3_howManyOf 22 = .ok (.iload_n 3, 1) := by decide +kernel
theorem dX3_howManyOf_23 : decode cX3_howManyOf 23 = .ok (.iaload, 1) := by decide +kernel
theorem dX3_howManyOf_24 : decode cX3_howManyOf 24 = .ok (.iload_n 1, 1) := by decide +kernel
theorem dX3_howManyOf_25 : decode cX3_howManyOf 25 = .ok (.if_icmp .ne 6, 3) := by decide +kernel
theorem dX3_howManyOf_28 : decode cX3_howManyOf 28 = .ok (.iinc 2 1, 3) := by decide +kernel
theorem dX3_howManyOf_31 : decode cX3_howManyOf 31 = .ok (.iinc 3 1, 3) := by decide +kernel
theorem dX3_howManyOf_34 : decode cX3_howManyOf 34 = .ok (.goto (-30), 3) := by decide +kernel
theorem dX3_howManyOf_37 : decode cX3_howManyOf 37 = .ok (.iload_n 2, 1) := by decide +kernel
theorem dX3_howManyOf_38 : decode cX3_howManyOf 38 = .ok (.ireturn, 1) := by decide +kernel
theorem dX3_has_0 : decode cX3_has 0 = .ok (.iload_n 1, 1) := by decide +kernel
theorem dX3_has_1 : decode cX3_has 1 = .ok (.ifCond .lt 15, 3) := by decide +kernel
theorem dX3_has_4 : decode cX3_has 4 = .ok (.iload_n 1, 1) := by decide +kernel
theorem dX3_has_5 : decode cX3_has 5 = .ok (.aload_n 0, 1) := by decide +kernel
theorem dX3_has_6 : decode cX3_has 6 = .ok (.getfield 21, 3) := by decide +kernel
theorem dX3_has_9 : decode cX3_has 9 = .ok (.if_icmp .ge 7, 3) := by decide +kernel
theorem dX3_has_12 : decode cX3_has 12 = .ok (.iconst 1, 1) := by decide +kernel
theorem dX3_has_13 : decode cX3_has 13 = .ok (.goto 4, 3) := by decide +kernel
theorem dX3_has_16 : decode cX3_has 16 = .ok (.iconst 0, 1) := by decide +kernel
theorem dX3_has_17 : decode cX3_has 17 = .ok (.ireturn, 1) := by decide +kernel
theorem dX3_kindOf_0 : decode cX3_kindOf 0 = .ok (.iload_n 1, 1) := by decide +kernel
theorem dX3_kindOf_1 : decode cX3_kindOf 1 = .ok (.ifCond .lt 18, 3) := by decide +kernel
theorem dX3_kindOf_4 : decode cX3_kindOf 4 = .ok (.iload_n 1, 1) := by decide +kernel
theorem dX3_kindOf_5 : decode cX3_kindOf 5 = .ok (.bipush 9, 2) := by decide +kernel
theorem dX3_kindOf_7 : decode cX3_kindOf 7 = .ok (.if_icmp .ge 12, 3) := by decide +kernel
theorem dX3_kindOf_10 : decode cX3_kindOf 10 = .ok (.aload_n 0, 1) := by decide +kernel
theorem dX3_kindOf_11 : decode cX3_kindOf 11 = .ok (.getfield 9, 3) := by decide +kernel
theorem dX3_kindOf_14 : decode cX3_kindOf 14 = .ok (.iload_n 1, 1) := by decide +kernel
theorem dX3_kindOf_15 : decode cX3_kindOf 15 = .ok (.iaload, 1) := by decide +kernel
theorem dX3_kindOf_16 : decode cX3_kindOf 16 = .ok (.goto 4, 3) := by decide +kernel
theorem dX3_kindOf_19 : decode cX3_kindOf 19 = .ok (.iconst 0, 1) := by decide +kernel
theorem dX3_kindOf_20 : decode cX3_kindOf 20 = .ok (.ireturn, 1) := by decide +kernel
theorem dX3_comingOf_0 : decode cX3_comingOf 0 = .ok (.iload_n 1, 1) := by decide +kernel
theorem dX3_comingOf_1 : decode cX3_comingOf 1 = .ok (.ifCond .lt 18, 3) := by decide +kernel
theorem dX3_comingOf_4 : decode cX3_comingOf 4 = .ok (.iload_n 1, 1) := by decide +kernel
theorem dX3_comingOf_5 : decode cX3_comingOf 5 = .ok (.bipush 9, 2) := by decide +kernel
theorem dX3_comingOf_7 : decode cX3_comingOf 7 = .ok (.if_icmp .ge 12, 3) := by decide +kernel
theorem dX3_comingOf_10 : decode cX3_comingOf 10 = .ok (.aload_n 0, 1) := by decide +kernel
theorem dX3_comingOf_11 : decode cX3_comingOf 11 = .ok (.getfield 15, 3) := by decide +kernel
theorem dX3_comingOf_14 : decode cX3_comingOf 14 = .ok (.iload_n 1, 1) := by decide +kernel
theorem dX3_comingOf_15 : decode cX3_comingOf 15 = .ok (.iaload, 1) := by decide +kernel
theorem dX3_comingOf_16 : decode cX3_comingOf 16 = .ok (.goto 4, 3) := by decide +kernel
theorem dX3_comingOf_19 : decode cX3_comingOf 19 = .ok (.iconst 0, 1) := by decide +kernel
theorem dX3_comingOf_20 : decode cX3_comingOf 20 = .ok (.ireturn, 1) := by decide +kernel
theorem dX3_kinOf_0 : decode cX3_kinOf 0 = .ok (.iload_n 1, 1) := by decide +kernel
theorem dX3_kinOf_1 : decode cX3_kinOf 1 = .ok (.ifCond .lt 18, 3) := by decide +kernel
theorem dX3_kinOf_4 : decode cX3_kinOf 4 = .ok (.iload_n 1, 1) := by decide +kernel
theorem dX3_kinOf_5 : decode cX3_kinOf 5 = .ok (.bipush 9, 2) := by decide +kernel
theorem dX3_kinOf_7 : decode cX3_kinOf 7 = .ok (.if_icmp .ge 12, 3) := by decide +kernel
theorem dX3_kinOf_10 : decode cX3_kinOf 10 = .ok (.aload_n 0, 1) := by decide +kernel
theorem dX3_kinOf_11 : decode cX3_kinOf 11 = .ok (.getfield 18, 3) := by decide +kernel
theorem dX3_kinOf_14 : decode cX3_kinOf 14 = .ok (.iload_n 1, 1) := by decide +kernel
theorem dX3_kinOf_15 : decode cX3_kinOf 15 = .ok (.iaload, 1) := by decide +kernel
theorem dX3_kinOf_16 : decode cX3_kinOf 16 = .ok (.goto 4, 3) := by decide +kernel
theorem dX3_kinOf_19 : decode cX3_kinOf 19 = .ok (.iconst 0, 1) := by decide +kernel
theorem dX3_kinOf_20 : decode cX3_kinOf 20 = .ok (.ireturn, 1) := by decide +kernel
theorem dX3_setKind_0 : decode cX3_setKind 0 = .ok (.iload_n 1, 1) := by decide +kernel
theorem dX3_setKind_1 : decode cX3_setKind 1 = .ok (.ifCond .lt 16, 3) := by decide +kernel
theorem dX3_setKind_4 : decode cX3_setKind 4 = .ok (.iload_n 1, 1) := by decide +kernel
theorem dX3_setKind_5 : decode cX3_setKind 5 = .ok (.bipush 9, 2) := by decide +kernel
theorem dX3_setKind_7 : decode cX3_setKind 7 = .ok (.if_icmp .ge 10, 3) := by decide +kernel
theorem dX3_setKind_10 : decode cX3_setKind 10 = .ok (.aload_n 0, 1) := by decide +kernel
theorem dX3_setKind_11 : decode cX3_setKind 11 = .ok (.getfield 9, 3) := by decide +kernel
theorem dX3_setKind_14 : decode cX3_setKind 14 = .ok (.iload_n 1, 1) := by decide +kernel
theorem dX3_setKind_15 : decode cX3_setKind 15 = .ok (.iload_n 2, 1) := by decide +kernel
theorem dX3_setKind_16 : decode cX3_setKind 16 = .ok (.iastore, 1) := by decide +kernel
theorem dX3_setKind_17 : decode cX3_setKind 17 = .ok (.return_, 1) := by decide +kernel
theorem dX3_setComing_0 : decode cX3_setComing 0 = .ok (.iload_n 1, 1) := by decide +kernel
theorem dX3_setComing_1 : decode cX3_setComing 1 = .ok (.ifCond .lt 16, 3) := by decide +kernel
theorem dX3_setComing_4 : decode cX3_setComing 4 = .ok (.iload_n 1, 1) := by decide +kernel
theorem dX3_setComing_5 : decode cX3_setComing 5 = .ok (.bipush 9, 2) := by decide +kernel
theorem dX3_setComing_7 : decode cX3_setComing 7 = .ok (.if_icmp .ge 10, 3) := by decide +kernel
theorem dX3_setComing_10 : decode cX3_setComing 10 = .ok (.aload_n 0, 1) := by decide +kernel
theorem dX3_setComing_11 : decode cX3_setComing 11 = .ok (.getfield 15, 3) := by decide +kernel
theorem dX3_setComing_14 : decode cX3_setComing 14 = .ok (.iload_n 1, 1) := by decide +kernel
theorem dX3_setComing_15 : decode cX3_setComing 15 = .ok (.iload_n 2, 1) := by decide +kernel
theorem dX3_setComing_16 : decode cX3_setComing 16 = .ok (.iastore, 1) := by decide +kernel
theorem dX3_setComing_17 : decode cX3_setComing 17 = .ok (.return_, 1) := by decide +kernel
theorem dX3_letsPass_0 : decode cX3_letsPass 0 = .ok (.iload_n 1, 1) := by decide +kernel
theorem dX3_letsPass_1 : decode cX3_letsPass 1 = .ok (.ifCond .lt 29, 3) := by decide +kernel
theorem dX3_letsPass_4 : decode cX3_letsPass 4 = .ok (.iload_n 1, 1) := by decide +kernel
theorem dX3_letsPass_5 : decode cX3_letsPass 5 = .ok (.bipush 9, 2) := by decide +kernel
theorem dX3_letsPass_7 : decode cX3_letsPass 7 = .ok (.if_icmp .ge 23, 3) := by decide +kernel
theorem dX3_letsPass_10 : decode cX3_letsPass 10 = .ok (.iload_n 2, 1) := by decide +kernel
theorem dX3_letsPass_11 : decode cX3_letsPass 11 = .ok (.ifCond .lt 19, 3) := by decide +kernel
theorem dX3_letsPass_14 : decode cX3_letsPass 14 = .ok (.iload_n 2, 1) := by decide +kernel
theorem dX3_letsPass_15 : decode cX3_letsPass 15 = .ok (.bipush 9, 2) := by decide +kernel
theorem dX3_letsPass_17 : decode cX3_letsPass 17 = .ok (.if_icmp .ge 13, 3) := by decide +kernel
theorem dX3_letsPass_20 : decode cX3_letsPass 20 = .ok (.aload_n 0, 1) := by decide +kernel
theorem dX3_letsPass_21 : decode cX3_letsPass 21 = .ok (.getfield 9, 3) := by decide +kernel
theorem dX3_letsPass_24 : decode cX3_letsPass 24 = .ok (.iload_n 1, 1) := by decide +kernel
theorem dX3_letsPass_25 : decode cX3_letsPass 25 = .ok (.iaload, 1) := by decide +kernel
theorem dX3_letsPass_26 : decode cX3_letsPass 26 = .ok (.iconst 1, 1) := by decide +kernel
theorem dX3_letsPass_27 : decode cX3_letsPass 27 = .ok (.if_icmp .eq 5, 3) := by decide +kernel
theorem dX3_letsPass_30 : decode cX3_letsPass 30 = .ok (.iconst 0, 1) := by decide +kernel
theorem dX3_letsPass_31 : decode cX3_letsPass 31 = .ok (.ireturn, 1) := by decide +kernel
theorem dX3_letsPass_32 : decode cX3_letsPass 32 = .ok (.aload_n 0, 1) := by decide +kernel
theorem dX3_letsPass_33 : decode cX3_letsPass 33 = .ok (.getfield 18, 3) := by decide +kernel
theorem dX3_letsPass_36 : decode cX3_letsPass 36 = .ok (.iload_n 1, 1) := by decide +kernel
theorem dX3_letsPass_37 : decode cX3_letsPass 37 = .ok (.iaload, 1) := by decide +kernel
theorem dX3_letsPass_38 : decode cX3_letsPass 38 = .ok (.ifCond .eq 18, 3) := by decide +kernel
theorem dX3_letsPass_41 : decode cX3_letsPass 41 = .ok (.aload_n 0, 1) := by decide +kernel
theorem dX3_letsPass_42 : decode cX3_letsPass 42 = .ok (.getfield 18, 3) := by decide +kernel
theorem dX3_letsPass_45 : decode cX3_letsPass 45 = .ok (.iload_n 1, 1) := by decide +kernel
theorem dX3_letsPass_46 : decode cX3_letsPass 46 = .ok (.iaload, 1) := by decide +kernel
theorem dX3_letsPass_47 : decode cX3_letsPass 47 = .ok (.aload_n 0, 1) := by decide +kernel
theorem dX3_letsPass_48 : decode cX3_letsPass 48 = .ok (.getfield 18, 3) := by decide +kernel
theorem dX3_letsPass_51 : decode cX3_letsPass 51 = .ok (.iload_n 2, 1) := by decide +kernel
theorem dX3_letsPass_52 : decode cX3_letsPass 52 = .ok (.iaload, 1) := by decide +kernel
theorem dX3_letsPass_53 : decode cX3_letsPass 53 = .ok (.if_icmp .eq 7, 3) := by decide +kernel
theorem dX3_letsPass_56 : decode cX3_letsPass 56 = .ok (.iconst 1, 1) := by decide +kernel
theorem dX3_letsPass_57 : decode cX3_letsPass 57 = .ok (.goto 4, 3) := by decide +kernel
theorem dX3_letsPass_60 : decode cX3_letsPass 60 = .ok (.iconst 0, 1) := by decide +kernel
theorem dX3_letsPass_61 : decode cX3_letsPass 61 = .ok (.ireturn, 1) := by decide +kernel
theorem dX3_givesIn_0 : decode cX3_givesIn 0 = .ok (.aload_n 0, 1) := by decide +kernel
theorem dX3_givesIn_1 : decode cX3_givesIn 1 = .ok (.getfield 25, 3) := by decide +kernel
theorem dX3_givesIn_4 : decode cX3_givesIn 4 = .ok (.ifCond .le 16, 3) := by decide +kernel
theorem dX3_givesIn_7 : decode cX3_givesIn 7 = .ok (.iload_n 1, 1) := by decide +kernel
theorem dX3_givesIn_8 : decode cX3_givesIn 8 = .ok (.aload_n 0, 1) := by decide +kernel
theorem dX3_givesIn_9 : decode cX3_givesIn 9 = .ok (.getfield 25, 3) := by decide +kernel
theorem dX3_givesIn_12 : decode cX3_givesIn 12 = .ok (.irem, 1) := by decide +kernel
theorem dX3_givesIn_13 : decode cX3_givesIn 13 = .ok (.ifCond .ne 7, 3) := by decide +kernel
theorem dX3_givesIn_16 : decode cX3_givesIn 16 = .ok (.iconst 1, 1) := by decide +kernel
theorem dX3_givesIn_17 : decode cX3_givesIn 17 = .ok (.goto 4, 3) := by decide +kernel
theorem dX3_givesIn_20 : decode cX3_givesIn 20 = .ok (.iconst 0, 1) := by decide +kernel
theorem dX3_givesIn_21 : decode cX3_givesIn 21 = .ok (.ireturn, 1) := by decide +kernel
theorem dX3_rumourIn_0 : decode cX3_rumourIn 0 = .ok (.aload_n 0, 1) := by decide +kernel
theorem dX3_rumourIn_1 : decode cX3_rumourIn 1 = .ok (.getfield 31, 3) := by decide +kernel
theorem dX3_rumourIn_4 : decode cX3_rumourIn 4 = .ok (.ifCond .le 16, 3) := by decide +kernel
theorem dX3_rumourIn_7 : decode cX3_rumourIn 7 = .ok (.iload_n 1, 1) := by decide +kernel
theorem dX3_rumourIn_8 : decode cX3_rumourIn 8 = .ok (.aload_n 0, 1) := by decide +kernel
theorem dX3_rumourIn_9 : decode cX3_rumourIn 9 = .ok (.getfield 31, 3) := by decide +kernel
theorem dX3_rumourIn_12 : decode cX3_rumourIn 12 = .ok (.irem, 1) := by decide +kernel
theorem dX3_rumourIn_13 : decode cX3_rumourIn 13 = .ok (.ifCond .ne 7, 3) := by decide +kernel
theorem dX3_rumourIn_16 : decode cX3_rumourIn 16 = .ok (.iconst 1, 1) := by decide +kernel
theorem dX3_rumourIn_17 : decode cX3_rumourIn 17 = .ok (.goto 4, 3) := by decide +kernel
theorem dX3_rumourIn_20 : decode cX3_rumourIn 20 = .ok (.iconst 0, 1) := by decide +kernel
theorem dX3_rumourIn_21 : decode cX3_rumourIn 21 = .ok (.ireturn, 1) := by decide +kernel
theorem dX4_init_0 : decode cX4_init 0 = .ok (.aload_n 0, 1) := by decide +kernel
theorem dX4_init_1 : decode cX4_init 1 = .ok (.invokespecial 3, 3) := by decide +kernel
theorem dX4_init_4 : decode cX4_init 4 = .ok (.aload_n 0, 1) := by decide +kernel
theorem dX4_init_5 : decode cX4_init 5 = .ok (.bipush 6, 2) := by decide +kernel
theorem dX4_init_7 : decode cX4_init 7 = .ok (.newarray .int, 2) := by decide +kernel
theorem dX4_init_9 : decode cX4_init 9 = .ok (.putfield 9, 3) := by decide +kernel
theorem dX4_init_12 : decode cX4_init 12 = .ok (.aload_n 0, 1) := by decide +kernel
theorem dX4_init_13 : decode cX4_init 13 = .ok (.bipush 6, 2) := by decide +kernel
theorem dX4_init_15 : decode cX4_init 15 = .ok (.newarray .int, 2) := by decide +kernel
theorem dX4_init_17 : decode cX4_init 17 = .ok (.putfield 15, 3) := by decide +kernel
theorem dX4_init_20 : decode cX4_init 20 = .ok (.aload_n 0, 1) := by decide +kernel
theorem dX4_init_21 : decode cX4_init 21 = .ok (.bipush 6, 2) := by decide +kernel
theorem dX4_init_23 : decode cX4_init 23 = .ok (.newarray .boolean, 2) := by decide +kernel
theorem dX4_init_25 : decode cX4_init 25 = .ok (.putfield 18, 3) := by decide +kernel
theorem dX4_init_28 : decode cX4_init 28 = .ok (.return_, 1) := by decide +kernel
theorem dX4_add_0 : decode cX4_add 0 = .ok (.aload_n 0, 1) := by decide +kernel
theorem dX4_add_1 : decode cX4_add 1 = .ok (.getfield 22, 3) := by decide +kernel
theorem dX4_add_4 : decode cX4_add 4 = .ok (.bipush 6, 2) := by decide +kernel
theorem dX4_add_6 : decode cX4_add 6 = .ok (.if_icmp .lt 5, 3) := by decide +kernel
theorem dX4_add_9 : decode cX4_add 9 = .ok (.iconst 0, 1) := by decide +kernel
theorem dX4_add_10 : decode cX4_add 10 = .ok (.ireturn, 1) := by decide +kernel
theorem dX4_add_11 : decode cX4_add 11 = .ok (.aload_n 0, 1) := by decide +kernel
theorem dX4_add_12 : decode cX4_add 12 = .ok (.getfield 9, 3) := by decide +kernel
theorem dX4_add_15 : decode cX4_add 15 = .ok (.aload_n 0, 1) := by decide +kernel
theorem dX4_add_16 : decode cX4_add 16 = .ok (.getfield 22, 3) := by decide +kernel
theorem dX4_add_19 : decode cX4_add 19 = .ok (.iload_n 1, 1) := by decide +kernel
theorem dX4_add_20 : decode cX4_add 20 = .ok (.iastore, 1) := by decide +kernel
theorem dX4_add_21 : decode cX4_add 21 = .ok (.aload_n 0, 1) := by decide +kernel
theorem dX4_add_22 : decode cX4_add 22 = .ok (.getfield 15, 3) := by decide +kernel
theorem dX4_add_25 : decode cX4_add 25 = .ok (.aload_n 0, 1) := by decide +kernel
theorem dX4_add_26 : decode cX4_add 26 = .ok (.getfield 22, 3) := by decide +kernel
theorem dX4_add_29 : decode cX4_add 29 = .ok (.iload_n 2, 1) := by decide +kernel
theorem dX4_add_30 : decode cX4_add 30 = .ok (.iastore, 1) := by decide +kernel
theorem dX4_add_31 : decode cX4_add 31 = .ok (.aload_n 0, 1) := by decide +kernel
theorem dX4_add_32 : decode cX4_add 32 = .ok (.getfield 18, 3) := by decide +kernel
theorem dX4_add_35 : decode cX4_add 35 = .ok (.aload_n 0, 1) := by decide +kernel
theorem dX4_add_36 : decode cX4_add 36 = .ok (.getfield 22, 3) := by decide +kernel
theorem dX4_add_39 : decode cX4_add 39 = .ok (.iload_n 3, 1) := by decide +kernel
theorem dX4_add_40 : decode cX4_add 40 = .ok (.bastore, 1) := by decide +kernel
theorem dX4_add_41 : decode cX4_add 41 = .ok (.aload_n 0, 1) := by decide +kernel
theorem dX4_add_42 : decode cX4_add 42 = .ok (.dup, 1) := by decide +kernel
theorem dX4_add_43 : decode cX4_add 43 = .ok (.getfield 22, 3) := by decide +kernel
theorem dX4_add_46 : decode cX4_add 46 = .ok (.iconst 1, 1) := by decide +kernel
theorem dX4_add_47 : decode cX4_add 47 = .ok (.iadd, 1) := by decide +kernel
theorem dX4_add_48 : decode cX4_add 48 = .ok (.putfield 22, 3) := by decide +kernel
theorem dX4_add_51 : decode cX4_add 51 = .ok (.iconst 1, 1) := by decide +kernel
theorem dX4_add_52 : decode cX4_add 52 = .ok (.ireturn, 1) := by decide +kernel
theorem dX4_empty_0 : decode cX4_empty 0 = .ok (.aload_n 0, 1) := by decide +kernel
theorem dX4_empty_1 : decode cX4_empty 1 = .ok (.iconst 0, 1) := by decide +kernel
theorem dX4_empty_2 : decode cX4_empty 2 = .ok (.putfield 22, 3) := by decide +kernel
theorem dX4_empty_5 : decode cX4_empty 5 = .ok (.return_, 1) := by decide +kernel
theorem dX4_holdsFor_0 : decode cX4_holdsFor 0 = .ok (.aload_n 2, 1) := by decide +kernel
theorem dX4_holdsFor_1 : decode cX4_holdsFor 1 = .ok (.getfield 26, 3) := by decide +kernel
theorem dX4_holdsFor_4 : decode cX4_holdsFor 4 = .ok (.istore_n 3, 1) := by decide +kernel
theorem dX4_holdsFor_5 : decode cX4_holdsFor 5 = .ok (.aload_n 0, 1) := by decide +kernel
theorem dX4_holdsFor_6 : decode cX4_holdsFor 6 = .ok (.invokevirtual 31, 3) := by decide +kernel
theorem dX4_holdsFor_9 : decode cX4_holdsFor 9 = .ok (.istore 4, 2) := by decide +kernel
theorem dX4_holdsFor_11 : decode cX4_holdsFor 11 = .ok (.iconst 0, 1) := by decide +kernel
theorem dX4_holdsFor_12 : decode cX4_holdsFor 12 = .ok (.istore 5, 2) := by decide +kernel
theorem dX4_holdsFor_14 : decode cX4_holdsFor 14 = .ok (.iload 5, 2) := by decide +kernel
theorem dX4_holdsFor_16 : decode cX4_holdsFor 16 = .ok (.iload 4, 2) := by decide +kernel
theorem dX4_holdsFor_18 : decode cX4_holdsFor 18 = .ok (.if_icmp .ge 23, 3) := by decide +kernel
theorem dX4_holdsFor_21 : decode cX4_holdsFor 21 = .ok (.aload_n 2, 1) := by decide +kernel
theorem dX4_holdsFor_22 : decode cX4_holdsFor 22 = .ok (.aload_n 1, 1) := by decide +kernel
theorem dX4_holdsFor_23 : decode cX4_holdsFor 23 = .ok (.aload_n 1, 1) := by decide +kernel
theorem dX4_holdsFor_24 : decode cX4_holdsFor 24 = .ok (.aload_n 2, 1) := by decide +kernel
theorem dX4_holdsFor_25 : decode cX4_holdsFor 25 = .ok (.getfield 26, 3) := by decide +kernel
theorem dX4_holdsFor_28 : decode cX4_holdsFor 28 = .ok (.invokevirtual 35, 3) := by decide +kernel
theorem dX4_holdsFor_31 : decode cX4_holdsFor 31 = .ok (.iconst 0, 1) := by decide +kernel
theorem dX4_holdsFor_32 : decode cX4_holdsFor 32 = .ok (.invokevirtual 41, 3) := by decide +kernel
theorem dX4_holdsFor_35 : decode cX4_holdsFor 35 = .ok (.iinc 5 1, 3) := by decide +kernel
theorem dX4_holdsFor_38 : decode cX4_holdsFor 38 = .ok (.goto (-24), 3) := by decide +kernel
theorem dX4_holdsFor_41 : decode cX4_holdsFor 41 = .ok (.iconst 0, 1) := by decide +kernel
theorem dX4_holdsFor_42 : decode cX4_holdsFor 42 = .ok (.istore 5, 2) := by decide +kernel
theorem dX4_holdsFor_44 : decode cX4_holdsFor 44 = .ok (.iload 5, 2) := by decide +kernel
theorem dX4_holdsFor_46 : decode cX4_holdsFor 46 = .ok (.aload_n 0, 1) := by decide +kernel
theorem dX4_holdsFor_47 : decode cX4_holdsFor 47 = .ok (.getfield 22, 3) := by decide +kernel
theorem dX4_holdsFor_50 : decode cX4_holdsFor 50 = .ok (.if_icmp .ge 68, 3) := by decide +kernel
theorem dX4_holdsFor_53 : decode cX4_holdsFor 53 = .ok (.aload_n 2, 1) := by decide +kernel
theorem dX4_holdsFor_54 : decode cX4_holdsFor 54 = .ok (.aload_n 0, 1) := by decide +kernel
theorem dX4_holdsFor_55 : decode cX4_holdsFor 55 = .ok (.getfield 9, 3) := by decide +kernel
theorem dX4_holdsFor_58 : decode cX4_holdsFor 58 = .ok (.iload 5, 2) := by decide +kernel
theorem dX4_holdsFor_60 : decode cX4_holdsFor 60 = .ok (.iaload, 1) := by decide +kernel
theorem dX4_holdsFor_61 : decode cX4_holdsFor 61 = .ok (.invokevirtual 45, 3) := by decide +kernel
theorem dX4_holdsFor_64 : decode cX4_holdsFor 64 = .ok (.iconst 3, 1) := by decide +kernel
theorem dX4_holdsFor_65 : decode cX4_holdsFor 65 = .ok (.if_icmp .ne 30, 3) := by decide +kernel
theorem dX4_holdsFor_68 : decode cX4_holdsFor 68 = .ok (.aload_n 2, 1) := by decide +kernel
theorem dX4_holdsFor_69 : decode cX4_holdsFor 69 = .ok (.aload_n 0, 1) := by decide +kernel
theorem dX4_holdsFor_70 : decode cX4_holdsFor 70 = .ok (.getfield 9, 3) := by decide +kernel
theorem dX4_holdsFor_73 : decode cX4_holdsFor 73 = .ok (.iload 5, 2) := by decide +kernel
theorem dX4_holdsFor_75 : decode cX4_holdsFor 75 = .ok (.iaload, 1) := by decide +kernel
theorem dX4_holdsFor_76 : decode cX4_holdsFor 76 = .ok (.invokevirtual 49, 3) := by decide +kernel
theorem dX4_holdsFor_79 : decode cX4_holdsFor 79 = .ok (.iload_n 3, 1) := by decide +kernel
theorem dX4_holdsFor_80 : decode cX4_holdsFor 80 = .ok (.aload_n 0, 1) := by decide +kernel
theorem dX4_holdsFor_81 : decode cX4_holdsFor 81 = .ok (.getfield 15, 3) := by decide +kernel
theorem dX4_holdsFor_84 : decode cX4_holdsFor 84 = .ok (.iload 5, 2) := by decide +kernel
theorem dX4_holdsFor_86 : decode cX4_holdsFor 86 = .ok (.iaload, 1) := by decide +kernel
theorem dX4_holdsFor_87 : decode cX4_holdsFor 87 = .ok (.iadd, 1) := by decide +kernel
theorem dX4_holdsFor_88 : decode cX4_holdsFor 88 = .ok (.if_icmp .ge 7, 3) := by decide +kernel
theorem dX4_holdsFor_91 : decode cX4_holdsFor 91 = .ok (.iconst 1, 1) := by decide +kernel
theorem dX4_holdsFor_92 : decode cX4_holdsFor 92 = .ok (.goto 4, 3) := by decide +kernel
theorem dX4_holdsFor_95 : decode cX4_holdsFor 95 = .ok (.iconst 0, 1) := by decide +kernel
theorem dX4_holdsFor_96 : decode cX4_holdsFor 96 = .ok (.istore 6, 2) := by decide +kernel
theorem dX4_holdsFor_98 : decode cX4_holdsFor 98 = .ok (.iload 6, 2) := by decide +kernel
theorem dX4_holdsFor_100 : decode cX4_holdsFor 100 = .ok (.aload_n 0, 1) := by decide +kernel
theorem dX4_holdsFor_101 : decode cX4_holdsFor 101 = .ok (.getfield 18, 3) := by decide +kernel
theorem dX4_holdsFor_104 : decode cX4_holdsFor 104 = .ok (.iload 5, 2) := by decide +kernel
theorem dX4_holdsFor_106 : decode cX4_holdsFor 106 = .ok (.baload, 1) := by decide +kernel
theorem dX4_holdsFor_107 : decode cX4_holdsFor 107 = .ok (.if_icmp .eq 5, 3) := by decide +kernel
theorem dX4_holdsFor_110 : decode cX4_holdsFor 110 = .ok (.iconst 0, 1) := by decide +kernel
theorem dX4_holdsFor_111 : decode cX4_holdsFor 111 = .ok (.ireturn, 1) := by decide +kernel
theorem dX4_holdsFor_112 : decode cX4_holdsFor 112 = .ok (.iinc 5 1, 3) := by decide +kernel
theorem dX4_holdsFor_115 : decode cX4_holdsFor 115 = .ok (.goto (-71), 3) := by decide +kernel
theorem dX4_holdsFor_118 : decode cX4_holdsFor 118 = .ok (.iconst 1, 1) := by decide +kernel
theorem dX4_holdsFor_119 : decode cX4_holdsFor 119 = .ok (.ireturn, 1) := by decide +kernel
theorem dX4_latest_0 : decode cX4_latest 0 = .ok (.iconst 0, 1) := by decide +kernel
theorem dX4_latest_1 : decode cX4_latest 1 = .ok (.istore_n 1, 1) := by decide +kernel
theorem dX4_latest_2 : decode cX4_latest 2 = .ok (.iconst 0, 1) := by decide +kernel
theorem dX4_latest_3 : decode cX4_latest 3 = .ok (.istore_n 2, 1) := by decide +kernel
theorem dX4_latest_4 : decode cX4_latest 4 = .ok (.iload_n 2, 1) := by decide +kernel
theorem dX4_latest_5 : decode cX4_latest 5 = .ok (.aload_n 0, 1) := by decide +kernel
theorem dX4_latest_6 : decode cX4_latest 6 = .ok (.getfield 22, 3) := by decide +kernel
theorem dX4_latest_9 : decode cX4_latest 9 = .ok (.if_icmp .ge 20, 3) := by decide +kernel
theorem dX4_latest_12 : decode cX4_latest 12 = .ok (.iload_n 1, 1) := by decide +kernel
theorem dX4_latest_13 : decode cX4_latest 13 = .ok (.aload_n 0, 1) := by decide +kernel
theorem dX4_latest_14 : decode cX4_latest 14 = .ok (.getfield 15, 3) := by decide +kernel
theorem dX4_latest_17 : decode cX4_latest 17 = .ok (.iload_n 2, 1) := by decide +kernel
theorem dX4_latest_18 : decode cX4_latest 18 = .ok (.iaload, 1) := by decide +kernel
theorem dX4_latest_19 : decode cX4_latest 19 = .ok (.invokestatic 52, 3) := by decide +kernel
theorem dX4_latest_22 : decode cX4_latest 22 = .ok (.istore_n 1, 1) := by decide +kernel
theorem dX4_latest_23 : decode cX4_latest 23 = .ok (.iinc 2 1, 3) := by decide +kernel
theorem dX4_latest_26 : decode cX4_latest 26 = .ok (.goto (-22), 3) := by decide +kernel
theorem dX4_latest_29 : decode cX4_latest 29 = .ok (.iload_n 1, 1) := by decide +kernel
theorem dX4_latest_30 : decode cX4_latest 30 = .ok (.ireturn, 1) := by decide +kernel
theorem dX5_init_0 : decode cX5_init 0 = .ok (.aload_n 0, 1) := by decide +kernel
theorem dX5_init_1 : decode cX5_init 1 = .ok (.invokespecial 1, 3) := by decide +kernel
theorem dX5_init_4 : decode cX5_init 4 = .ok (.aload_n 0, 1) := by decide +kernel
theorem dX5_init_5 : decode cX5_init 5 = .ok (.iload_n 1, 1) := by decide +kernel
theorem dX5_init_6 : decode cX5_init 6 = .ok (.anewarray 7, 3) := by decide +kernel
theorem dX5_init_9 : decode cX5_init 9 = .ok (.putfield 9, 3) := by decide +kernel
theorem dX5_init_12 : decode cX5_init 12 = .ok (.iconst 0, 1) := by decide +kernel
theorem dX5_init_13 : decode cX5_init 13 = .ok (.istore_n 2, 1) := by decide +kernel
theorem dX5_init_14 : decode cX5_init 14 = .ok (.iload_n 2, 1) := by decide +kernel
theorem dX5_init_15 : decode cX5_init 15 = .ok (.iload_n 1, 1) := by decide +kernel
theorem dX5_init_16 : decode cX5_init 16 = .ok (.if_icmp .ge 22, 3) := by decide +kernel
theorem dX5_init_19 : decode cX5_init 19 = .ok (.aload_n 0, 1) := by decide +kernel
theorem dX5_init_20 : decode cX5_init 20 = .ok (.getfield 9, 3) := by decide +kernel
theorem dX5_init_23 : decode cX5_init 23 = .ok (.iload_n 2, 1) := by decide +kernel
theorem dX5_init_24 : decode cX5_init 24 = .ok (.new 7, 3) := by decide +kernel
theorem dX5_init_27 : decode cX5_init 27 = .ok (.dup, 1) := by decide +kernel
theorem dX5_init_28 : decode cX5_init 28 = .ok (.invokespecial 15, 3) := by decide +kernel
theorem dX5_init_31 : decode cX5_init 31 = .ok (.aastore, 1) := by decide +kernel
theorem dX5_init_32 : decode cX5_init 32 = .ok (.iinc 2 1, 3) := by decide +kernel
theorem dX5_init_35 : decode cX5_init 35 = .ok (.goto (-21), 3) := by decide +kernel
theorem dX5_init_38 : decode cX5_init 38 = .ok (.return_, 1) := by decide +kernel
theorem dX5_empty_0 : decode cX5_empty 0 = .ok (.aload_n 0, 1) := by decide +kernel
theorem dX5_empty_1 : decode cX5_empty 1 = .ok (.iconst 0, 1) := by decide +kernel
theorem dX5_empty_2 : decode cX5_empty 2 = .ok (.putfield 16, 3) := by decide +kernel
theorem dX5_empty_5 : decode cX5_empty 5 = .ok (.return_, 1) := by decide +kernel
theorem dX5_push_0 : decode cX5_push 0 = .ok (.aload_n 0, 1) := by decide +kernel
theorem dX5_push_1 : decode cX5_push 1 = .ok (.getfield 20, 3) := by decide +kernel
theorem dX5_push_4 : decode cX5_push 4 = .ok (.ifCond .lt 15, 3) := by decide +kernel
theorem dX5_push_7 : decode cX5_push 7 = .ok (.aload_n 0, 1) := by decide +kernel
theorem dX5_push_8 : decode cX5_push 8 = .ok (.getfield 20, 3) := by decide +kernel
theorem dX5_push_11 : decode cX5_push 11 = .ok (.aload_n 0, 1) := by decide +kernel
theorem dX5_push_12 : decode cX5_push 12 = .ok (.getfield 9, 3) := by decide +kernel
theorem dX5_push_15 : decode cX5_push 15 = .ok (.arraylength, 1) := by decide +kernel
theorem dX5_push_16 : decode cX5_push 16 = .ok (.if_icmp .lt 4, 3) := by decide +kernel
theorem dX5_push_19 : decode cX5_push 19 = .ok (.return_, 1) := by decide +kernel
theorem dX5_push_20 : decode cX5_push 20 = .ok (.aload_n 0, 1) := by decide +kernel
theorem dX5_push_21 : decode cX5_push 21 = .ok (.getfield 9, 3) := by decide +kernel
theorem dX5_push_24 : decode cX5_push 24 = .ok (.aload_n 0, 1) := by decide +kernel
theorem dX5_push_25 : decode cX5_push 25 = .ok (.getfield 20, 3) := by decide +kernel
theorem dX5_push_28 : decode cX5_push 28 = .ok (.aaload, 1) := by decide +kernel
theorem dX5_push_29 : decode cX5_push 29 = .ok (.aload_n 1, 1) := by decide +kernel
theorem dX5_push_30 : decode cX5_push 30 = .ok (.invokevirtual 23, 3) := by decide +kernel
theorem dX5_push_33 : decode cX5_push 33 = .ok (.aload_n 0, 1) := by decide +kernel
theorem dX5_push_34 : decode cX5_push 34 = .ok (.aload_n 0, 1) := by decide +kernel
theorem dX5_push_35 : decode cX5_push 35 = .ok (.getfield 20, 3) := by decide +kernel
theorem dX5_push_38 : decode cX5_push 38 = .ok (.iconst 1, 1) := by decide +kernel
theorem dX5_push_39 : decode cX5_push 39 = .ok (.iadd, 1) := by decide +kernel
theorem dX5_push_40 : decode cX5_push 40 = .ok (.aload_n 0, 1) := by decide +kernel
theorem dX5_push_41 : decode cX5_push 41 = .ok (.getfield 9, 3) := by decide +kernel
theorem dX5_push_44 : decode cX5_push 44 = .ok (.arraylength, 1) := by decide +kernel
theorem dX5_push_45 : decode cX5_push 45 = .ok (.if_icmp .ge 12, 3) := by decide +kernel
theorem dX5_push_48 : decode cX5_push 48 = .ok (.aload_n 0, 1) := by decide +kernel
theorem dX5_push_49 : decode cX5_push 49 = .ok (.getfield 20, 3) := by decide +kernel
theorem dX5_push_52 : decode cX5_push 52 = .ok (.iconst 1, 1) := by decide +kernel
theorem dX5_push_53 : decode cX5_push 53 = .ok (.iadd, 1) := by decide +kernel
theorem dX5_push_54 : decode cX5_push 54 = .ok (.goto 4, 3) := by decide +kernel
theorem dX5_push_57 : decode cX5_push 57 = .ok (.iconst 0, 1) := by decide +kernel
theorem dX5_push_58 : decode cX5_push 58 = .ok (.putfield 20, 3) := by decide +kernel
theorem dX5_push_61 : decode cX5_push 61 = .ok (.aload_n 0, 1) := by decide +kernel
theorem dX5_push_62 : decode cX5_push 62 = .ok (.aload_n 0, 1) := by decide +kernel
theorem dX5_push_63 : decode cX5_push 63 = .ok (.getfield 16, 3) := by decide +kernel
theorem dX5_push_66 : decode cX5_push 66 = .ok (.iconst 1, 1) := by decide +kernel
theorem dX5_push_67 : decode cX5_push 67 = .ok (.iadd, 1) := by decide +kernel
theorem dX5_push_68 : decode cX5_push 68 = .ok (.aload_n 0, 1) := by decide +kernel
theorem dX5_push_69 : decode cX5_push 69 = .ok (.getfield 9, 3) := by decide +kernel
theorem dX5_push_72 : decode cX5_push 72 = .ok (.arraylength, 1) := by decide +kernel
theorem dX5_push_73 : decode cX5_push 73 = .ok (.invokestatic 27, 3) := by decide +kernel
theorem dX5_push_76 : decode cX5_push 76 = .ok (.putfield 16, 3) := by decide +kernel
theorem dX5_push_79 : decode cX5_push 79 = .ok (.return_, 1) := by decide +kernel
theorem dX5_popInto_0 : decode cX5_popInto 0 = .ok (.aload_n 0, 1) := by decide +kernel
theorem dX5_popInto_1 : decode cX5_popInto 1 = .ok (.getfield 16, 3) := by decide +kernel
theorem dX5_popInto_4 : decode cX5_popInto 4 = .ok (.iconst 1, 1) := by decide +kernel
theorem dX5_popInto_5 : decode cX5_popInto 5 = .ok (.if_icmp .ge 5, 3) := by decide +kernel
theorem dX5_popInto_8 : decode cX5_popInto 8 = .ok (.iconst 0, 1) := by decide +kernel
theorem dX5_popInto_9 : decode cX5_popInto 9 = .ok (.ireturn, 1) := by decide +kernel
theorem dX5_popInto_10 : decode cX5_popInto 10 = .ok (.aload_n 0, 1) := by decide +kernel
theorem dX5_popInto_11 : decode cX5_popInto 11 = .ok (.getfield 20, 3) := by decide +kernel
theorem dX5_popInto_14 : decode cX5_popInto 14 = .ok (.ifCond .le 12, 3) := by decide +kernel
theorem dX5_popInto_17 : decode cX5_popInto 17 = .ok (.aload_n 0, 1) := by decide +kernel
theorem dX5_popInto_18 : decode cX5_popInto 18 = .ok (.getfield 20, 3) := by decide +kernel
theorem dX5_popInto_21 : decode cX5_popInto 21 = .ok (.iconst 1, 1) := by decide +kernel
theorem dX5_popInto_22 : decode cX5_popInto 22 = .ok (.isub, 1) := by decide +kernel
theorem dX5_popInto_23 : decode cX5_popInto 23 = .ok (.goto 10, 3) := by decide +kernel
theorem dX5_popInto_26 : decode cX5_popInto 26 = .ok (.aload_n 0, 1) := by decide +kernel
theorem dX5_popInto_27 : decode cX5_popInto 27 = .ok (.getfield 9, 3) := by decide +kernel
theorem dX5_popInto_30 : decode cX5_popInto 30 = .ok (.arraylength, 1) := by decide +kernel
theorem dX5_popInto_31 : decode cX5_popInto 31 = .ok (.iconst 1, 1) := by decide +kernel
theorem dX5_popInto_32 : decode cX5_popInto 32 = .ok (.isub, 1) := by decide +kernel
theorem dX5_popInto_33 : decode cX5_popInto 33 = .ok (.istore_n 2, 1) := by decide +kernel
theorem dX5_popInto_34 : decode cX5_popInto 34 = .ok (.iload_n 2, 1) := by decide +kernel
theorem dX5_popInto_35 : decode cX5_popInto 35 = .ok (.ifCond .lt 12, 3) := by decide +kernel
theorem dX5_popInto_38 : decode cX5_popInto 38 = .ok (.iload_n 2, 1) := by decide +kernel
theorem dX5_popInto_39 : decode cX5_popInto 39 = .ok (.aload_n 0, 1) := by decide +kernel
theorem dX5_popInto_40 : decode cX5_popInto 40 = .ok (.getfield 9, 3) := by decide +kernel
theorem dX5_popInto_43 : decode cX5_popInto 43 = .ok (.arraylength, 1) := by decide +kernel
theorem dX5_popInto_44 : decode cX5_popInto 44 = .ok (.if_icmp .lt 5, 3) := by decide +kernel
theorem dX5_popInto_47 : decode cX5_popInto 47 = .ok (.iconst 0, 1) := by decide +kernel
theorem dX5_popInto_48 : decode cX5_popInto 48 = .ok (.ireturn, 1) := by decide +kernel
theorem dX5_popInto_49 : decode cX5_popInto 49 = .ok (.aload_n 1, 1) := by decide +kernel
theorem dX5_popInto_50 : decode cX5_popInto 50 = .ok (.aload_n 0, 1) := by decide +kernel
theorem dX5_popInto_51 : decode cX5_popInto 51 = .ok (.getfield 9, 3) := by decide +kernel
theorem dX5_popInto_54 : decode cX5_popInto 54 = .ok (.iload_n 2, 1) := by decide +kernel
theorem dX5_popInto_55 : decode cX5_popInto 55 = .ok (.aaload, 1) := by decide +kernel
theorem dX5_popInto_56 : decode cX5_popInto 56 = .ok (.invokevirtual 23, 3) := by decide +kernel
theorem dX5_popInto_59 : decode cX5_popInto 59 = .ok (.aload_n 0, 1) := by decide +kernel
theorem dX5_popInto_60 : decode cX5_popInto 60 = .ok (.iload_n 2, 1) := by decide +kernel
theorem dX5_popInto_61 : decode cX5_popInto 61 = .ok (.putfield 20, 3) := by decide +kernel
theorem dX5_popInto_64 : decode cX5_popInto 64 = .ok (.aload_n 0, 1) := by decide +kernel
theorem dX5_popInto_65 : decode cX5_popInto 65 = .ok (.dup, 1) := by decide +kernel
theorem dX5_popInto_66 : decode cX5_popInto 66 = .ok (.getfield 16, 3) := by decide +kernel
theorem dX5_popInto_69 : decode cX5_popInto 69 = .ok (.iconst 1, 1) := by decide +kernel
theorem dX5_popInto_70 : decode cX5_popInto 70 = .ok (.isub, 1) := by decide +kernel
theorem dX5_popInto_71 : decode cX5_popInto 71 = .ok (.putfield 16, 3) := by decide +kernel
theorem dX5_popInto_74 : decode cX5_popInto 74 = .ok (.iconst 1, 1) := by decide +kernel
theorem dX5_popInto_75 : decode cX5_popInto 75 = .ok (.ireturn, 1) := by decide +kernel
theorem dX6_init_0 : decode cX6_init 0 = .ok (.aload_n 0, 1) := by decide +kernel
theorem dX6_init_1 : decode cX6_init 1 = .ok (.invokespecial 3, 3) := by decide +kernel
theorem dX6_init_4 : decode cX6_init 4 = .ok (.aload_n 0, 1) := by decide +kernel
theorem dX6_init_5 : decode cX6_init 5 = .ok (.sipush 200, 3) := by decide +kernel
theorem dX6_init_8 : decode cX6_init 8 = .ok (.newarray .int, 2) := by decide +kernel
theorem dX6_init_10 : decode cX6_init 10 = .ok (.putfield 9, 3) := by decide +kernel
theorem dX6_init_13 : decode cX6_init 13 = .ok (.aload_n 0, 1) := by decide +kernel
theorem dX6_init_14 : decode cX6_init 14 = .ok (.iconst 3, 1) := by decide +kernel
theorem dX6_init_15 : decode cX6_init 15 = .ok (.newarray .int, 2) := by decide +kernel
theorem dX6_init_17 : decode cX6_init 17 = .ok (.putfield 15, 3) := by decide +kernel
theorem dX6_init_20 : decode cX6_init 20 = .ok (.return_, 1) := by decide +kernel
theorem dX6_put_0 : decode cX6_put 0 = .ok (.aload_n 0, 1) := by decide +kernel
theorem dX6_put_1 : decode cX6_put 1 = .ok (.getfield 18, 3) := by decide +kernel
theorem dX6_put_4 : decode cX6_put 4 = .ok (.aload_n 0, 1) := by decide +kernel
theorem dX6_put_5 : decode cX6_put 5 = .ok (.getfield 9, 3) := by decide +kernel
theorem dX6_put_8 : decode cX6_put 8 = .ok (.arraylength, 1) := by decide +kernel
theorem dX6_put_9 : decode cX6_put 9 = .ok (.if_icmp .lt 5, 3) := by decide +kernel
theorem dX6_put_12 : decode cX6_put 12 = .ok (.iconst 0, 1) := by decide +kernel
theorem dX6_put_13 : decode cX6_put 13 = .ok (.ireturn, 1) := by decide +kernel
theorem dX6_put_14 : decode cX6_put 14 = .ok (.aload_n 0, 1) := by decide +kernel
theorem dX6_put_15 : decode cX6_put 15 = .ok (.getfield 9, 3) := by decide +kernel
theorem dX6_put_18 : decode cX6_put 18 = .ok (.aload_n 0, 1) := by decide +kernel
theorem dX6_put_19 : decode cX6_put 19 = .ok (.getfield 18, 3) := by decide +kernel
theorem dX6_put_22 : decode cX6_put 22 = .ok (.iload_n 1, 1) := by decide +kernel
theorem dX6_put_23 : decode cX6_put 23 = .ok (.iastore, 1) := by decide +kernel
theorem dX6_put_24 : decode cX6_put 24 = .ok (.aload_n 0, 1) := by decide +kernel
theorem dX6_put_25 : decode cX6_put 25 = .ok (.dup, 1) := by decide +kernel
theorem dX6_put_26 : decode cX6_put 26 = .ok (.getfield 18, 3) := by decide +kernel
theorem dX6_put_29 : decode cX6_put 29 = .ok (.iconst 1, 1) := by decide +kernel
theorem dX6_put_30 : decode cX6_put 30 = .ok (.iadd, 1) := by decide +kernel
theorem dX6_put_31 : decode cX6_put 31 = .ok (.putfield 18, 3) := by decide +kernel
theorem dX6_put_34 : decode cX6_put 34 = .ok (.iconst 1, 1) := by decide +kernel
theorem dX6_put_35 : decode cX6_put 35 = .ok (.ireturn, 1) := by decide +kernel
theorem dX6_empty_0 : decode cX6_empty 0 = .ok (.aload_n 0, 1) := by decide +kernel
theorem dX6_empty_1 : decode cX6_empty 1 = .ok (.iconst 0, 1) := by decide +kernel
theorem dX6_empty_2 : decode cX6_empty 2 = .ok (.putfield 18, 3) := by decide +kernel
theorem dX6_empty_5 : decode cX6_empty 5 = .ok (.return_, 1) := by decide +kernel
theorem dX6_readInto_0 : decode cX6_readInto 0 = .ok (.aload_n 1, 1) := by decide +kernel
theorem dX6_readInto_1 : decode cX6_readInto 1 = .ok (.invokevirtual 22, 3) := by decide +kernel
theorem dX6_readInto_4 : decode cX6_readInto 4 = .ok (.iconst 0, 1) := by decide +kernel
theorem dX6_readInto_5 : decode cX6_readInto 5 = .ok (.istore_n 2, 1) := by decide +kernel
theorem dX6_readInto_6 : decode cX6_readInto 6 = .ok (.iconst 0, 1) := by decide +kernel
theorem dX6_readInto_7 : decode cX6_readInto 7 = .ok (.istore_n 3, 1) := by decide +kernel
theorem dX6_readInto_8 : decode cX6_readInto 8 = .ok (.iload_n 3, 1) := by decide +kernel
theorem dX6_readInto_9 : decode cX6_readInto 9 = .ok (.sipush 200, 3) := by decide +kernel
theorem dX6_readInto_12 : decode cX6_readInto 12 = .ok (.if_icmp .ge 35, 3) := by decide +kernel
theorem dX6_readInto_15 : decode cX6_readInto 15 = .ok (.iload_n 2, 1) := by decide +kernel
theorem dX6_readInto_16 : decode cX6_readInto 16 = .ok (.aload_n 0, 1) := by decide +kernel
theorem dX6_readInto_17 : decode cX6_readInto 17 = .ok (.getfield 18, 3) := by decide +kernel
theorem dX6_readInto_20 : decode cX6_readInto 20 = .ok (.if_icmp .ge 27, 3) := by decide +kernel
theorem dX6_readInto_23 : decode cX6_readInto 23 = .ok (.aload_n 0, 1) := by decide +kernel
theorem dX6_readInto_24 : decode cX6_readInto 24 = .ok (.aload_n 1, 1) := by decide +kernel
theorem dX6_readInto_25 : decode cX6_readInto 25 = .ok (.iload_n 2, 1) := by decide +kernel
theorem dX6_readInto_26 : decode cX6_readInto 26 = .ok (.invokevirtual 27, 3) := by decide +kernel
theorem dX6_readInto_29 : decode cX6_readInto 29 = .ok (.istore 4, 2) := by decide +kernel
theorem dX6_readInto_31 : decode cX6_readInto 31 = .ok (.iload 4, 2) := by decide +kernel
theorem dX6_readInto_33 : decode cX6_readInto 33 = .ok (.ifCond .ge 5, 3) := by decide +kernel
theorem dX6_readInto_36 : decode cX6_readInto 36 = .ok (.iload_n 2, 1) := by decide +kernel
theorem dX6_readInto_37 : decode cX6_readInto 37 = .ok (.ireturn, 1) := by decide +kernel
theorem dX6_readInto_38 : decode cX6_readInto 38 = .ok (.iload 4, 2) := by decide +kernel
theorem dX6_readInto_40 : decode cX6_readInto 40 = .ok (.istore_n 2, 1) := by decide +kernel
theorem dX6_readInto_41 : decode cX6_readInto 41 = .ok (.iinc 3 1, 3) := by decide +kernel
theorem dX6_readInto_44 : decode cX6_readInto 44 = .ok (.goto (-36), 3) := by decide +kernel
theorem dX6_readInto_47 : decode cX6_readInto 47 = .ok (.bipush (-4), 2) := by decide +kernel
theorem dX6_readInto_49 : decode cX6_readInto 49 = .ok (.ireturn, 1) := by decide +kernel
theorem dX6_readItem_0 : decode cX6_readItem 0 = .ok (.aload_n 0, 1) := by decide +kernel
theorem dX6_readItem_1 : decode cX6_readItem 1 = .ok (.iload_n 2, 1) := by decide +kernel
theorem dX6_readItem_2 : decode cX6_readItem 2 = .ok (.invokevirtual 31, 3) := by decide +kernel
theorem dX6_readItem_5 : decode cX6_readItem 5 = .ok (.istore_n 3, 1) := by decide +kernel
theorem dX6_readItem_6 : decode cX6_readItem 6 = .ok (.iload_n 3, 1) := by decide +kernel
theorem dX6_readItem_7 : decode cX6_readItem 7 = .ok (.invokestatic 35, 3) := by decide +kernel
theorem dX6_readItem_10 : decode cX6_readItem 10 = .ok (.istore 4, 2) := by decide +kernel
theorem dX6_readItem_12 : decode cX6_readItem 12 = .ok (.iload_n 2, 1) := by decide +kernel
theorem dX6_readItem_13 : decode cX6_readItem 13 = .ok (.iconst 1, 1) := by decide +kernel
theorem dX6_readItem_14 : decode cX6_readItem 14 = .ok (.iadd, 1) := by decide +kernel
theorem dX6_readItem_15 : decode cX6_readItem 15 = .ok (.istore 5, 2) := by decide +kernel
theorem dX6_readItem_17 : decode cX6_readItem 17 = .ok (.iconst 0, 1) := by decide +kernel
theorem dX6_readItem_18 : decode cX6_readItem 18 = .ok (.istore 6, 2) := by decide +kernel
theorem dX6_readItem_20 : decode cX6_readItem 20 = .ok (.iload 6, 2) := by decide +kernel
theorem dX6_readItem_22 : decode cX6_readItem 22 = .ok (.iload 4, 2) := by decide +kernel
theorem dX6_readItem_24 : decode cX6_readItem 24 = .ok (.if_icmp .ge 86, 3) := by decide +kernel
theorem dX6_readItem_27 : decode cX6_readItem 27 = .ok (.iload 6, 2) := by decide +kernel
theorem dX6_readItem_29 : decode cX6_readItem 29 = .ok (.aload_n 0, 1) := by decide +kernel
theorem dX6_readItem_30 : decode cX6_readItem 30 = .ok (.getfield 15, 3) := by decide +kernel
theorem dX6_readItem_33 : decode cX6_readItem 33 = .ok (.arraylength, 1) := by decide +kernel
theorem dX6_readItem_34 : decode cX6_readItem 34 = .ok (.if_icmp .ge 76, 3) := by decide +kernel
theorem dX6_readItem_37 : decode cX6_readItem 37 = .ok (.aload_n 0, 1) := by decide +kernel
theorem dX6_readItem_38 : decode cX6_readItem 38 = .ok (.iload 5, 2) := by decide +kernel
theorem dX6_readItem_40 : decode cX6_readItem 40 = .ok (.invokevirtual 38, 3) := by decide +kernel
theorem dX6_readItem_43 : decode cX6_readItem 43 = .ok (.istore 7, 2) := by decide +kernel
theorem dX6_readItem_45 : decode cX6_readItem 45 = .ok (.iload 7, 2) := by decide +kernel
theorem dX6_readItem_47 : decode cX6_readItem 47 = .ok (.ifCond .ne 5, 3) := by decide +kernel
theorem dX6_readItem_50 : decode cX6_readItem 50 = .ok (.iconst (-1), 1) := by decide +kernel
theorem dX6_readItem_51 : decode cX6_readItem 51 = .ok (.ireturn, 1) := by decide +kernel
theorem dX6_readItem_52 : decode cX6_readItem 52 = .ok (.aload_n 0, 1) := by decide +kernel
theorem dX6_readItem_53 : decode cX6_readItem 53 = .ok (.getfield 15, 3) := by decide +kernel
theorem dX6_readItem_56 : decode cX6_readItem 56 = .ok (.iload 6, 2) := by decide +kernel
theorem dX6_readItem_58 : decode cX6_readItem 58 = .ok (.aload_n 0, 1) := by decide +kernel
theorem dX6_readItem_59 : decode cX6_readItem 59 = .ok (.iload 5, 2) := by decide +kernel
theorem dX6_readItem_61 : decode cX6_readItem 61 = .ok (.iload 7, 2) := by decide +kernel
theorem dX6_readItem_63 : decode cX6_readItem 63 = .ok (.invokevirtual 41, 3) := by decide +kernel
theorem dX6_readItem_66 : decode cX6_readItem 66 = .ok (.iastore, 1) := by decide +kernel
theorem dX6_readItem_67 : decode cX6_readItem 67 = .ok (.iload 5, 2) := by decide +kernel
theorem dX6_readItem_69 : decode cX6_readItem 69 = .ok (.iload 7, 2) := by decide +kernel
theorem dX6_readItem_71 : decode cX6_readItem 71 = .ok (.iadd, 1) := by decide +kernel
theorem dX6_readItem_72 : decode cX6_readItem 72 = .ok (.istore 5, 2) := by decide +kernel
theorem dX6_readItem_74 : decode cX6_readItem 74 = .ok (.aload_n 0, 1) := by decide +kernel
theorem dX6_readItem_75 : decode cX6_readItem 75 = .ok (.iload 5, 2) := by decide +kernel
theorem dX6_readItem_77 : decode cX6_readItem 77 = .ok (.invokevirtual 31, 3) := by decide +kernel
theorem dX6_readItem_80 : decode cX6_readItem 80 = .ok (.iload 6, 2) := by decide +kernel
theorem dX6_readItem_82 : decode cX6_readItem 82 = .ok (.iload 4, 2) := by decide +kernel
theorem dX6_readItem_84 : decode cX6_readItem 84 = .ok (.iconst 1, 1) := by decide +kernel
theorem dX6_readItem_85 : decode cX6_readItem 85 = .ok (.isub, 1) := by decide +kernel
theorem dX6_readItem_86 : decode cX6_readItem 86 = .ok (.if_icmp .ne 8, 3) := by decide +kernel
theorem dX6_readItem_89 : decode cX6_readItem 89 = .ok (.bipush 59, 2) := by decide +kernel
theorem dX6_readItem_91 : decode cX6_readItem 91 = .ok (.goto 5, 3) := by decide +kernel
theorem dX6_readItem_94 : decode cX6_readItem 94 = .ok (.bipush 44, 2) := by decide +kernel
theorem dX6_readItem_96 : decode cX6_readItem 96 = .ok (.if_icmp .eq 5, 3) := by decide +kernel
theorem dX6_readItem_99 : decode cX6_readItem 99 = .ok (.iconst (-1), 1) := by decide +kernel
theorem dX6_readItem_100 : decode cX6_readItem 100 = .ok (.ireturn, 1) := by decide +kernel
theorem dX6_readItem_101 : decode cX6_readItem 101 = .ok (.iinc 5 1, 3) := by decide +kernel
theorem dX6_readItem_104 : decode cX6_readItem 104 = .ok (.iinc 6 1, 3) := by decide +kernel
theorem dX6_readItem_107 : decode cX6_readItem 107 = .ok (.goto (-87), 3) := by decide +kernel
theorem dX6_readItem_110 : decode cX6_readItem 110 = .ok (.aload_n 0, 1) := by decide +kernel
theorem dX6_readItem_111 : decode cX6_readItem 111 = .ok (.aload_n 1, 1) := by decide +kernel
theorem dX6_readItem_112 : decode cX6_readItem 112 = .ok (.iload_n 3, 1) := by decide +kernel
theorem dX6_readItem_113 : decode cX6_readItem 113 = .ok (.invokevirtual 45, 3) := by decide +kernel
theorem dX6_readItem_116 : decode cX6_readItem 116 = .ok (.ifCond .eq 8, 3) := by decide +kernel
theorem dX6_readItem_119 : decode cX6_readItem 119 = .ok (.iload 5, 2) := by decide +kernel
theorem dX6_readItem_121 : decode cX6_readItem 121 = .ok (.goto 4, 3) := by decide +kernel
theorem dX6_readItem_124 : decode cX6_readItem 124 = .ok (.iconst (-1), 1) := by decide +kernel
theorem dX6_readItem_125 : decode cX6_readItem 125 = .ok (.ireturn, 1) := by decide +kernel
theorem dX6_take_0 : decode cX6_take 0 = .ok (.iload_n 2, 1) := by decide +kernel
theorem dX6_take_1 : decode cX6_take 1 = .ok (.lookupswitch 86 #[(98, 58), (112, 35), (114, 75)], 35) := by decide +kernel
theorem dX6_take_36 : decode cX6_take 36 = .ok (.aload_n 1, 1) := by decide +kernel
theorem dX6_take_37 : decode cX6_take 37 = .ok (.aload_n 0, 1) := by decide +kernel
theorem dX6_take_38 : decode cX6_take 38 = .ok (.getfield 15, 3) := by decide +kernel
theorem dX6_take_41 : decode cX6_take 41 = .ok (.iconst 0, 1) := by decide +kernel
theorem dX6_take_42 : decode cX6_take 42 = .ok (.iaload, 1) := by decide +kernel
theorem dX6_take_43 : decode cX6_take 43 = .ok (.aload_n 0, 1) := by decide +kernel
theorem dX6_take_44 : decode cX6_take 44 = .ok (.getfield 15, 3) := by decide +kernel
theorem dX6_take_47 : decode cX6_take 47 = .ok (.iconst 1, 1) := by decide +kernel
theorem dX6_take_48 : decode cX6_take 48 = .ok (.iaload, 1) := by decide +kernel
theorem dX6_take_49 : decode cX6_take 49 = .ok (.aload_n 0, 1) := by decide +kernel
theorem dX6_take_50 : decode cX6_take 50 = .ok (.getfield 15, 3) := by decide +kernel
theorem dX6_take_53 : decode cX6_take 53 = .ok (.iconst 2, 1) := by decide +kernel
theorem dX6_take_54 : decode cX6_take 54 = .ok (.iaload, 1) := by decide +kernel
theorem dX6_take_55 : decode cX6_take 55 = .ok (.invokevirtual 49, 3) := by decide +kernel
theorem dX6_take_58 : decode cX6_take 58 = .ok (.ireturn, 1) := by decide +kernel
theorem dX6_take_59 : decode cX6_take 59 = .ok (.aload_n 1, 1) := by decide +kernel
theorem dX6_take_60 : decode cX6_take 60 = .ok (.aload_n 0, 1) := by decide +kernel
theorem dX6_take_61 : decode cX6_take 61 = .ok (.getfield 15, 3) := by decide +kernel
theorem dX6_take_64 : decode cX6_take 64 = .ok (.iconst 0, 1) := by decide +kernel
theorem dX6_take_65 : decode cX6_take 65 = .ok (.iaload, 1) := by decide +kernel
theorem dX6_take_66 : decode cX6_take 66 = .ok (.aload_n 0, 1) := by decide +kernel
theorem dX6_take_67 : decode cX6_take 67 = .ok (.getfield 15, 3) := by decide +kernel
theorem dX6_take_70 : decode cX6_take 70 = .ok (.iconst 1, 1) := by decide +kernel
theorem dX6_take_71 : decode cX6_take 71 = .ok (.iaload, 1) := by decide +kernel
theorem dX6_take_72 : decode cX6_take 72 = .ok (.invokevirtual 53, 3) := by decide +kernel
theorem dX6_take_75 : decode cX6_take 75 = .ok (.ireturn, 1) := by decide +kernel
theorem dX6_take_76 : decode cX6_take 76 = .ok (.aload_n 1, 1) := by decide +kernel
theorem dX6_take_77 : decode cX6_take 77 = .ok (.aload_n 0, 1) := by decide +kernel
theorem dX6_take_78 : decode cX6_take 78 = .ok (.getfield 15, 3) := by decide +kernel
theorem dX6_take_81 : decode cX6_take 81 = .ok (.iconst 0, 1) := by decide +kernel
theorem dX6_take_82 : decode cX6_take 82 = .ok (.iaload, 1) := by decide +kernel
theorem dX6_take_83 : decode cX6_take 83 = .ok (.invokevirtual 57, 3) := by decide +kernel
theorem dX6_take_86 : decode cX6_take 86 = .ok (.ireturn, 1) := by decide +kernel
theorem dX6_take_87 : decode cX6_take 87 = .ok (.iconst 0, 1) := by decide +kernel
theorem dX6_take_88 : decode cX6_take 88 = .ok (.ireturn, 1) := by decide +kernel
theorem dX6_numbersBehind_0 : decode cX6_numbersBehind 0 = .ok (.iload_n 0, 1) := by decide +kernel
theorem dX6_numbersBehind_1 : decode cX6_numbersBehind 1 = .ok (.lookupswitch 41 #[(98, 37), (112, 35), (114, 39)], 35) := by decide +kernel
theorem dX6_numbersBehind_36 : decode cX6_numbersBehind 36 = .ok (.iconst 3, 1) := by decide +kernel
theorem dX6_numbersBehind_37 : decode cX6_numbersBehind 37 = .ok (.ireturn, 1) := by decide +kernel
theorem dX6_numbersBehind_38 : decode cX6_numbersBehind 38 = .ok (.iconst 2, 1) := by decide +kernel
theorem dX6_numbersBehind_39 : decode cX6_numbersBehind 39 = .ok (.ireturn, 1) := by decide +kernel
theorem dX6_numbersBehind_40 : decode cX6_numbersBehind 40 = .ok (.iconst 1, 1) := by decide +kernel
theorem dX6_numbersBehind_41 : decode cX6_numbersBehind 41 = .ok (.ireturn, 1) := by decide +kernel
theorem dX6_numbersBehind_42 : decode cX6_numbersBehind 42 = .ok (.iconst 0, 1) := by decide +kernel
theorem dX6_numbersBehind_43 : decode cX6_numbersBehind 43 = .ok (.ireturn, 1) := by decide +kernel
theorem dX6_figuresFrom_0 : decode cX6_figuresFrom 0 = .ok (.aload_n 0, 1) := by decide +kernel
theorem dX6_figuresFrom_1 : decode cX6_figuresFrom 1 = .ok (.iload_n 1, 1) := by decide +kernel
theorem dX6_figuresFrom_2 : decode cX6_figuresFrom 2 = .ok (.invokevirtual 31, 3) := by decide +kernel
theorem dX6_figuresFrom_5 : decode cX6_figuresFrom 5 = .ok (.invokestatic 61, 3) := by decide +kernel
theorem dX6_figuresFrom_8 : decode cX6_figuresFrom 8 = .ok (.ifCond .ne 5, 3) := by decide +kernel
theorem dX6_figuresFrom_11 : decode cX6_figuresFrom 11 = .ok (.iconst 0, 1) := by decide +kernel
theorem dX6_figuresFrom_12 : decode cX6_figuresFrom 12 = .ok (.ireturn, 1) := by decide +kernel
theorem dX6_figuresFrom_13 : decode cX6_figuresFrom 13 = .ok (.aload_n 0, 1) := by decide +kernel
theorem dX6_figuresFrom_14 : decode cX6_figuresFrom 14 = .ok (.iload_n 1, 1) := by decide +kernel
theorem dX6_figuresFrom_15 : decode cX6_figuresFrom 15 = .ok (.iconst 1, 1) := by decide +kernel
theorem dX6_figuresFrom_16 : decode cX6_figuresFrom 16 = .ok (.iadd, 1) := by decide +kernel
theorem dX6_figuresFrom_17 : decode cX6_figuresFrom 17 = .ok (.invokevirtual 31, 3) := by decide +kernel
theorem dX6_figuresFrom_20 : decode cX6_figuresFrom 20 = .ok (.invokestatic 61, 3) := by decide +kernel
theorem dX6_figuresFrom_23 : decode cX6_figuresFrom 23 = .ok (.ifCond .eq 7, 3) := by decide +kernel
theorem dX6_figuresFrom_26 : decode cX6_figuresFrom 26 = .ok (.iconst 2, 1) := by decide +kernel
theorem dX6_figuresFrom_27 : decode cX6_figuresFrom 27 = .ok (.goto 4, 3) := by decide +kernel
theorem dX6_figuresFrom_30 : decode cX6_figuresFrom 30 = .ok (.iconst 1, 1) := by decide +kernel
theorem dX6_figuresFrom_31 : decode cX6_figuresFrom 31 = .ok (.ireturn, 1) := by decide +kernel
theorem dX6_valueOf_0 : decode cX6_valueOf 0 = .ok (.aload_n 0, 1) := by decide +kernel
theorem dX6_valueOf_1 : decode cX6_valueOf 1 = .ok (.iload_n 1, 1) := by decide +kernel
theorem dX6_valueOf_2 : decode cX6_valueOf 2 = .ok (.invokevirtual 31, 3) := by decide +kernel
theorem dX6_valueOf_5 : decode cX6_valueOf 5 = .ok (.bipush 48, 2) := by decide +kernel
theorem dX6_valueOf_7 : decode cX6_valueOf 7 = .ok (.isub, 1) := by decide +kernel
theorem dX6_valueOf_8 : decode cX6_valueOf 8 = .ok (.istore_n 3, 1) := by decide +kernel
theorem dX6_valueOf_9 : decode cX6_valueOf 9 = .ok (.iload_n 2, 1) := by decide +kernel
theorem dX6_valueOf_10 : decode cX6_valueOf 10 = .ok (.iconst 2, 1) := by decide +kernel
theorem dX6_valueOf_11 : decode cX6_valueOf 11 = .ok (.if_icmp .ne 21, 3) := by decide +kernel
theorem dX6_valueOf_14 : decode cX6_valueOf 14 = .ok (.iload_n 3, 1) := by decide +kernel
theorem dX6_valueOf_15 : decode cX6_valueOf 15 = .ok (.bipush 10, 2) := by decide +kernel
theorem dX6_valueOf_17 : decode cX6_valueOf 17 = .ok (.imul, 1) := by decide +kernel
theorem dX6_valueOf_18 : decode cX6_valueOf 18 = .ok (.aload_n 0, 1) := by decide +kernel
theorem dX6_valueOf_19 : decode cX6_valueOf 19 = .ok (.iload_n 1, 1) := by decide +kernel
theorem dX6_valueOf_20 : decode cX6_valueOf 20 = .ok (.iconst 1, 1) := by decide +kernel
theorem dX6_valueOf_21 : decode cX6_valueOf 21 = .ok (.iadd, 1) := by decide +kernel
theorem dX6_valueOf_22 : decode cX6_valueOf 22 = .ok (.invokevirtual 31, 3) := by decide +kernel
theorem dX6_valueOf_25 : decode cX6_valueOf 25 = .ok (.iadd, 1) := by decide +kernel
theorem dX6_valueOf_26 : decode cX6_valueOf 26 = .ok (.bipush 48, 2) := by decide +kernel
theorem dX6_valueOf_28 : decode cX6_valueOf 28 = .ok (.isub, 1) := by decide +kernel
theorem dX6_valueOf_29 : decode cX6_valueOf 29 = .ok (.goto 4, 3) := by decide +kernel
theorem dX6_valueOf_32 : decode cX6_valueOf 32 = .ok (.iload_n 3, 1) := by decide +kernel
theorem dX6_valueOf_33 : decode cX6_valueOf 33 = .ok (.ireturn, 1) := by decide +kernel
theorem dX6_letterAt_0 : decode cX6_letterAt 0 = .ok (.iload_n 1, 1) := by decide +kernel
theorem dX6_letterAt_1 : decode cX6_letterAt 1 = .ok (.ifCond .lt 29, 3) := by decide +kernel
theorem dX6_letterAt_4 : decode cX6_letterAt 4 = .ok (.iload_n 1, 1) := by decide +kernel
theorem dX6_letterAt_5 : decode cX6_letterAt 5 = .ok (.aload_n 0, 1) := by decide +kernel
theorem dX6_letterAt_6 : decode cX6_letterAt 6 = .ok (.getfield 18, 3) := by decide +kernel
theorem dX6_letterAt_9 : decode cX6_letterAt 9 = .ok (.if_icmp .ge 21, 3) := by decide +kernel
theorem dX6_letterAt_12 : decode cX6_letterAt 12 = .ok (.iload_n 1, 1) := by decide +kernel
theorem dX6_letterAt_13 : decode cX6_letterAt 13 = .ok (.aload_n 0, 1) := by decide +kernel
theorem dX6_letterAt_14 : decode cX6_letterAt 14 = .ok (.getfield 9, 3) := by decide +kernel
theorem dX6_letterAt_17 : decode cX6_letterAt 17 = .ok (.arraylength, 1) := by decide +kernel
theorem dX6_letterAt_18 : decode cX6_letterAt 18 = .ok (.if_icmp .ge 12, 3) := by decide +kernel
theorem dX6_letterAt_21 : decode cX6_letterAt 21 = .ok (.aload_n 0, 1) := by decide +kernel
theorem dX6_letterAt_22 : decode cX6_letterAt 22 = .ok (.getfield 9, 3) := by decide +kernel
theorem dX6_letterAt_25 : decode cX6_letterAt 25 = .ok (.iload_n 1, 1) := by decide +kernel
theorem dX6_letterAt_26 : decode cX6_letterAt 26 = .ok (.iaload, 1) := by decide +kernel
theorem dX6_letterAt_27 : decode cX6_letterAt 27 = .ok (.goto 4, 3) := by decide +kernel
theorem dX6_letterAt_30 : decode cX6_letterAt 30 = .ok (.iconst (-1), 1) := by decide +kernel
theorem dX6_letterAt_31 : decode cX6_letterAt 31 = .ok (.ireturn, 1) := by decide +kernel
theorem dX6_isFigure_0 : decode cX6_isFigure 0 = .ok (.iload_n 0, 1) := by decide +kernel
theorem dX6_isFigure_1 : decode cX6_isFigure 1 = .ok (.bipush 48, 2) := by decide +kernel
theorem dX6_isFigure_3 : decode cX6_isFigure 3 = .ok (.if_icmp .lt 13, 3) := by decide +kernel
theorem dX6_isFigure_6 : decode cX6_isFigure 6 = .ok (.iload_n 0, 1) := by decide +kernel
theorem dX6_isFigure_7 : decode cX6_isFigure 7 = .ok (.bipush 57, 2) := by decide +kernel
theorem dX6_isFigure_9 : decode cX6_isFigure 9 = .ok (.if_icmp .gt 7, 3) := by decide +kernel
theorem dX6_isFigure_12 : decode cX6_isFigure 12 = .ok (.iconst 1, 1) := by decide +kernel
theorem dX6_isFigure_13 : decode cX6_isFigure 13 = .ok (.goto 4, 3) := by decide +kernel
theorem dX6_isFigure_16 : decode cX6_isFigure 16 = .ok (.iconst 0, 1) := by decide +kernel
theorem dX6_isFigure_17 : decode cX6_isFigure 17 = .ok (.ireturn, 1) := by decide +kernel
theorem dX7_init_0 : decode cX7_init 0 = .ok (.aload_n 0, 1) := by decide +kernel
theorem dX7_init_1 : decode cX7_init 1 = .ok (.invokespecial 1, 3) := by decide +kernel
theorem dX7_init_4 : decode cX7_init 4 = .ok (.aload_n 0, 1) := by decide +kernel
theorem dX7_init_5 : decode cX7_init 5 = .ok (.new 7, 3) := by decide +kernel
theorem dX7_init_8 : decode cX7_init 8 = .ok (.dup, 1) := by decide +kernel
theorem dX7_init_9 : decode cX7_init 9 = .ok (.invokespecial 9, 3) := by decide +kernel
theorem dX7_init_12 : decode cX7_init 12 = .ok (.putfield 10, 3) := by decide +kernel
theorem dX7_init_15 : decode cX7_init 15 = .ok (.aload_n 0, 1) := by decide +kernel
theorem dX7_init_16 : decode cX7_init 16 = .ok (.new 16, 3) := by decide +kernel
theorem dX7_init_19 : decode cX7_init 19 = .ok (.dup, 1) := by decide +kernel
theorem dX7_init_20 : decode cX7_init 20 = .ok (.invokespecial 18, 3) := by decide +kernel
theorem dX7_init_23 : decode cX7_init 23 = .ok (.putfield 19, 3) := by decide +kernel
theorem dX7_init_26 : decode cX7_init 26 = .ok (.aload_n 0, 1) := by decide +kernel
theorem dX7_init_27 : decode cX7_init 27 = .ok (.new 23, 3) := by decide +kernel
theorem dX7_init_30 : decode cX7_init 30 = .ok (.dup, 1) := by decide +kernel
theorem dX7_init_31 : decode cX7_init 31 = .ok (.invokespecial 25, 3) := by decide +kernel
theorem dX7_init_34 : decode cX7_init 34 = .ok (.putfield 26, 3) := by decide +kernel
theorem dX7_init_37 : decode cX7_init 37 = .ok (.aload_n 0, 1) := by decide +kernel
theorem dX7_init_38 : decode cX7_init 38 = .ok (.aload_n 0, 1) := by decide +kernel
theorem dX7_init_39 : decode cX7_init 39 = .ok (.getfield 26, 3) := by decide +kernel
theorem dX7_init_42 : decode cX7_init 42 = .ok (.getfield 30, 3) := by decide +kernel
theorem dX7_init_45 : decode cX7_init 45 = .ok (.putfield 33, 3) := by decide +kernel
theorem dX7_init_48 : decode cX7_init 48 = .ok (.aload_n 0, 1) := by decide +kernel
theorem dX7_init_49 : decode cX7_init 49 = .ok (.aload_n 0, 1) := by decide +kernel
theorem dX7_init_50 : decode cX7_init 50 = .ok (.getfield 26, 3) := by decide +kernel
theorem dX7_init_53 : decode cX7_init 53 = .ok (.getfield 34, 3) := by decide +kernel
theorem dX7_init_56 : decode cX7_init 56 = .ok (.putfield 38, 3) := by decide +kernel
theorem dX7_init_59 : decode cX7_init 59 = .ok (.aload_n 0, 1) := by decide +kernel
theorem dX7_init_60 : decode cX7_init 60 = .ok (.new 39, 3) := by decide +kernel
theorem dX7_init_63 : decode cX7_init 63 = .ok (.dup, 1) := by decide +kernel
theorem dX7_init_64 : decode cX7_init 64 = .ok (.invokespecial 41, 3) := by decide +kernel
theorem dX7_init_67 : decode cX7_init 67 = .ok (.putfield 42, 3) := by decide +kernel
theorem dX7_init_70 : decode cX7_init 70 = .ok (.aload_n 0, 1) := by decide +kernel
theorem dX7_init_71 : decode cX7_init 71 = .ok (.new 46, 3) := by decide +kernel
theorem dX7_init_74 : decode cX7_init 74 = .ok (.dup, 1) := by decide +kernel
theorem dX7_init_75 : decode cX7_init 75 = .ok (.bipush 8, 2) := by decide +kernel
theorem dX7_init_77 : decode cX7_init 77 = .ok (.invokespecial 48, 3) := by decide +kernel
theorem dX7_init_80 : decode cX7_init 80 = .ok (.putfield 51, 3) := by decide +kernel
theorem dX7_init_83 : decode cX7_init 83 = .ok (.aload_n 0, 1) := by decide +kernel
theorem dX7_init_84 : decode cX7_init 84 = .ok (.new 46, 3) := by decide +kernel
theorem dX7_init_87 : decode cX7_init 87 = .ok (.dup, 1) := by decide +kernel
theorem dX7_init_88 : decode cX7_init 88 = .ok (.iconst 2, 1) := by decide +kernel
theorem dX7_init_89 : decode cX7_init 89 = .ok (.invokespecial 48, 3) := by decide +kernel
theorem dX7_init_92 : decode cX7_init 92 = .ok (.putfield 55, 3) := by decide +kernel
theorem dX7_init_95 : decode cX7_init 95 = .ok (.iconst 0, 1) := by decide +kernel
theorem dX7_init_96 : decode cX7_init 96 = .ok (.istore_n 1, 1) := by decide +kernel
theorem dX7_init_97 : decode cX7_init 97 = .ok (.iload_n 1, 1) := by decide +kernel
theorem dX7_init_98 : decode cX7_init 98 = .ok (.ldc 58, 2) := by decide +kernel
theorem dX7_init_100 : decode cX7_init 100 = .ok (.invokevirtual 60, 3) := by decide +kernel
theorem dX7_init_103 : decode cX7_init 103 = .ok (.if_icmp .ge 23, 3) := by decide +kernel
theorem dX7_init_106 : decode cX7_init 106 = .ok (.aload_n 0, 1) := by decide +kernel
theorem dX7_init_107 : decode cX7_init 107 = .ok (.getfield 10, 3) := by decide +kernel
theorem dX7_init_110 : decode cX7_init 110 = .ok (.ldc 58, 2) := by decide +kernel
theorem dX7_init_112 : decode cX7_init 112 = .ok (.iload_n 1, 1) := by decide +kernel
theorem dX7_init_113 : decode cX7_init 113 = .ok (.invokevirtual 66, 3) := by decide +kernel
theorem dX7_init_116 : decode cX7_init 116 = .ok (.invokevirtual 70, 3) := by decide +kernel
theorem dX7_init_119 : decode cX7_init 119 = .ok (.pop, 1) := by decide +kernel
theorem dX7_init_120 : decode cX7_init 120 = .ok (.iinc 1 1, 3) := by decide +kernel
theorem dX7_init_123 : decode cX7_init 123 = .ok (.goto (-26), 3) := by decide +kernel
theorem dX7_init_126 : decode cX7_init 126 = .ok (.aload_n 0, 1) := by decide +kernel
theorem dX7_init_127 : decode cX7_init 127 = .ok (.getfield 10, 3) := by decide +kernel
theorem dX7_init_130 : decode cX7_init 130 = .ok (.aload_n 0, 1) := by decide +kernel
theorem dX7_init_131 : decode cX7_init 131 = .ok (.getfield 33, 3) := by decide +kernel
theorem dX7_init_134 : decode cX7_init 134 = .ok (.invokevirtual 74, 3) := by decide +kernel
theorem dX7_init_137 : decode cX7_init 137 = .ok (.pop, 1) := by decide +kernel
theorem dX7_init_138 : decode cX7_init 138 = .ok (.aload_n 0, 1) := by decide +kernel
theorem dX7_init_139 : decode cX7_init 139 = .ok (.getfield 10, 3) := by decide +kernel
theorem dX7_init_142 : decode cX7_init 142 = .ok (.invokevirtual 78, 3) := by decide +kernel
theorem dX7_init_145 : decode cX7_init 145 = .ok (.return_, 1) := by decide +kernel
theorem dX7_write_0 : decode cX7_write 0 = .ok (.iload_n 1, 1) := by decide +kernel
theorem dX7_write_1 : decode cX7_write 1 = .ok (.bipush 32, 2) := by decide +kernel
theorem dX7_write_3 : decode cX7_write 3 = .ok (.if_icmp .lt 9, 3) := by decide +kernel
theorem dX7_write_6 : decode cX7_write 6 = .ok (.iload_n 1, 1) := by decide +kernel
theorem dX7_write_7 : decode cX7_write 7 = .ok (.bipush 126, 2) := by decide +kernel
theorem dX7_write_9 : decode cX7_write 9 = .ok (.if_icmp .le 5, 3) := by decide +kernel
theorem dX7_write_12 : decode cX7_write 12 = .ok (.iconst (-1), 1) := by decide +kernel
theorem dX7_write_13 : decode cX7_write 13 = .ok (.ireturn, 1) := by decide +kernel
theorem dX7_write_14 : decode cX7_write 14 = .ok (.aload_n 0, 1) := by decide +kernel
theorem dX7_write_15 : decode cX7_write 15 = .ok (.getfield 10, 3) := by decide +kernel
theorem dX7_write_18 : decode cX7_write 18 = .ok (.iload_n 1, 1) := by decide +kernel
theorem dX7_write_19 : decode cX7_write 19 = .ok (.invokevirtual 70, 3) := by decide +kernel
theorem dX7_write_22 : decode cX7_write 22 = .ok (.ifCond .eq 13, 3) := by decide +kernel
theorem dX7_write_25 : decode cX7_write 25 = .ok (.aload_n 0, 1) := by decide +kernel
theorem dX7_write_26 : decode cX7_write 26 = .ok (.getfield 10, 3) := by decide +kernel
theorem dX7_write_29 : decode cX7_write 29 = .ok (.getfield 81, 3) := by decide +kernel
theorem dX7_write_32 : decode cX7_write 32 = .ok (.goto 5, 3) := by decide +kernel
theorem dX7_write_35 : decode cX7_write 35 = .ok (.bipush (-3), 2) := by decide +kernel
theorem dX7_write_37 : decode cX7_write 37 = .ok (.ireturn, 1) := by decide +kernel
theorem dX7_wipe_0 : decode cX7_wipe 0 = .ok (.aload_n 0, 1) := by decide +kernel
theorem dX7_wipe_1 : decode cX7_wipe 1 = .ok (.getfield 10, 3) := by decide +kernel
theorem dX7_wipe_4 : decode cX7_wipe 4 = .ok (.getfield 81, 3) := by decide +kernel
theorem dX7_wipe_7 : decode cX7_wipe 7 = .ok (.istore_n 1, 1) := by decide +kernel
theorem dX7_wipe_8 : decode cX7_wipe 8 = .ok (.aload_n 0, 1) := by decide +kernel
theorem dX7_wipe_9 : decode cX7_wipe 9 = .ok (.getfield 10, 3) := by decide +kernel
theorem dX7_wipe_12 : decode cX7_wipe 12 = .ok (.invokevirtual 78, 3) := by decide +kernel
theorem dX7_wipe_15 : decode cX7_wipe 15 = .ok (.iload_n 1, 1) := by decide +kernel
theorem dX7_wipe_16 : decode cX7_wipe 16 = .ok (.ireturn, 1) := by decide +kernel
theorem dX7_fault_0 : decode cX7_fault 0 = .ok (.aload_n 0, 1) := by decide +kernel
theorem dX7_fault_1 : decode cX7_fault 1 = .ok (.getfield 10, 3) := by decide +kernel
theorem dX7_fault_4 : decode cX7_fault 4 = .ok (.aload_n 0, 1) := by decide +kernel
theorem dX7_fault_5 : decode cX7_fault 5 = .ok (.getfield 19, 3) := by decide +kernel
theorem dX7_fault_8 : decode cX7_fault 8 = .ok (.invokevirtual 74, 3) := by decide +kernel
theorem dX7_fault_11 : decode cX7_fault 11 = .ok (.ireturn, 1) := by decide +kernel
theorem dX7_lay_0 : decode cX7_lay 0 = .ok (.aload_n 0, 1) := by decide +kernel
theorem dX7_lay_1 : decode cX7_lay 1 = .ok (.getfield 10, 3) := by decide +kernel
theorem dX7_lay_4 : decode cX7_lay 4 = .ok (.aload_n 0, 1) := by decide +kernel
theorem dX7_lay_5 : decode cX7_lay 5 = .ok (.getfield 19, 3) := by decide +kernel
theorem dX7_lay_8 : decode cX7_lay 8 = .ok (.invokevirtual 74, 3) := by decide +kernel
theorem dX7_lay_11 : decode cX7_lay 11 = .ok (.bipush (-4), 2) := by decide +kernel
theorem dX7_lay_13 : decode cX7_lay 13 = .ok (.if_icmp .ne 14, 3) := by decide +kernel
theorem dX7_lay_16 : decode cX7_lay 16 = .ok (.aload_n 0, 1) := by decide +kernel
theorem dX7_lay_17 : decode cX7_lay 17 = .ok (.getfield 19, 3) := by decide +kernel
theorem dX7_lay_20 : decode cX7_lay 20 = .ok (.getfield 84, 3) := by decide +kernel
theorem dX7_lay_23 : decode cX7_lay 23 = .ok (.iconst 1, 1) := by decide +kernel
theorem dX7_lay_24 : decode cX7_lay 24 = .ok (.if_icmp .ge 6, 3) := by decide +kernel
theorem dX7_lay_27 : decode cX7_lay 27 = .ok (.bipush (-2), 2) := by decide +kernel
theorem dX7_lay_29 : decode cX7_lay 29 = .ok (.ireturn, 1) := by decide +kernel
theorem dX7_lay_30 : decode cX7_lay 30 = .ok (.aload_n 0, 1) := by decide +kernel
theorem dX7_lay_31 : decode cX7_lay 31 = .ok (.getfield 33, 3) := by decide +kernel
theorem dX7_lay_34 : decode cX7_lay 34 = .ok (.aload_n 0, 1) := by decide +kernel
theorem dX7_lay_35 : decode cX7_lay 35 = .ok (.getfield 19, 3) := by decide +kernel
theorem dX7_lay_38 : decode cX7_lay 38 = .ok (.invokevirtual 87, 3) := by decide +kernel
theorem dX7_lay_41 : decode cX7_lay 41 = .ok (.aload_n 0, 1) := by decide +kernel
theorem dX7_lay_42 : decode cX7_lay 42 = .ok (.getfield 38, 3) := by decide +kernel
theorem dX7_lay_45 : decode cX7_lay 45 = .ok (.invokevirtual 91, 3) := by decide +kernel
theorem dX7_lay_48 : decode cX7_lay 48 = .ok (.aload_n 0, 1) := by decide +kernel
theorem dX7_lay_49 : decode cX7_lay 49 = .ok (.getfield 42, 3) := by decide +kernel
theorem dX7_lay_52 : decode cX7_lay 52 = .ok (.invokevirtual 96, 3) := by decide +kernel
theorem dX7_lay_55 : decode cX7_lay 55 = .ok (.aload_n 0, 1) := by decide +kernel
theorem dX7_lay_56 : decode cX7_lay 56 = .ok (.getfield 51, 3) := by decide +kernel
theorem dX7_lay_59 : decode cX7_lay 59 = .ok (.invokevirtual 97, 3) := by decide +kernel
theorem dX7_lay_62 : decode cX7_lay 62 = .ok (.aload_n 0, 1) := by decide +kernel
theorem dX7_lay_63 : decode cX7_lay 63 = .ok (.getfield 55, 3) := by decide +kernel
theorem dX7_lay_66 : decode cX7_lay 66 = .ok (.invokevirtual 97, 3) := by decide +kernel
theorem dX7_lay_69 : decode cX7_lay 69 = .ok (.aload_n 0, 1) := by decide +kernel
theorem dX7_lay_70 : decode cX7_lay 70 = .ok (.getfield 33, 3) := by decide +kernel
theorem dX7_lay_73 : decode cX7_lay 73 = .ok (.getfield 84, 3) := by decide +kernel
theorem dX7_lay_76 : decode cX7_lay 76 = .ok (.ireturn, 1) := by decide +kernel
theorem dX7_person_0 : decode cX7_person 0 = .ok (.aload_n 0, 1) := by decide +kernel
theorem dX7_person_1 : decode cX7_person 1 = .ok (.getfield 33, 3) := by decide +kernel
theorem dX7_person_4 : decode cX7_person 4 = .ok (.iload_n 1, 1) := by decide +kernel
theorem dX7_person_5 : decode cX7_person 5 = .ok (.invokevirtual 98, 3) := by decide +kernel
theorem dX7_person_8 : decode cX7_person 8 = .ok (.ifCond .ne 5, 3) := by decide +kernel
theorem dX7_person_11 : decode cX7_person 11 = .ok (.iconst (-1), 1) := by decide +kernel
theorem dX7_person_12 : decode cX7_person 12 = .ok (.ireturn, 1) := by decide +kernel
theorem dX7_person_13 : decode cX7_person 13 = .ok (.iload_n 2, 1) := by decide +kernel
theorem dX7_person_14 : decode cX7_person 14 = .ok (.tableswitch 118 0 7 #[46, 55, 64, 73, 82, 91, 100, 109], 46) := by decide +kernel
theorem dX7_person_60 : decode cX7_person 60 = .ok (.aload_n 0, 1) := by decide +kernel
theorem dX7_person_61 : decode cX7_person 61 = .ok (.getfield 33, 3) := by decide +kernel
theorem dX7_person_64 : decode cX7_person 64 = .ok (.iload_n 1, 1) := by decide +kernel
theorem dX7_person_65 : decode cX7_person 65 = .ok (.invokevirtual 101, 3) := by decide +kernel
theorem dX7_person_68 : decode cX7_person 68 = .ok (.ireturn, 1) := by decide +kernel
theorem dX7_person_69 : decode cX7_person 69 = .ok (.aload_n 0, 1) := by decide +kernel
theorem dX7_person_70 : decode cX7_person 70 = .ok (.getfield 33, 3) := by decide +kernel
theorem dX7_person_73 : decode cX7_person 73 = .ok (.iload_n 1, 1) := by decide +kernel
theorem dX7_person_74 : decode cX7_person 74 = .ok (.invokevirtual 105, 3) := by decide +kernel
theorem dX7_person_77 : decode cX7_person 77 = .ok (.ireturn, 1) := by decide +kernel
theorem dX7_person_78 : decode cX7_person 78 = .ok (.aload_n 0, 1) := by decide +kernel
theorem dX7_person_79 : decode cX7_person 79 = .ok (.getfield 33, 3) := by decide +kernel
theorem dX7_person_82 : decode cX7_person 82 = .ok (.iload_n 1, 1) := by decide +kernel
theorem dX7_person_83 : decode cX7_person 83 = .ok (.invokevirtual 108, 3) := by decide +kernel
theorem dX7_person_86 : decode cX7_person 86 = .ok (.ireturn, 1) := by decide +kernel
theorem dX7_person_87 : decode cX7_person 87 = .ok (.aload_n 0, 1) := by decide +kernel
theorem dX7_person_88 : decode cX7_person 88 = .ok (.getfield 38, 3) := by decide +kernel
theorem dX7_person_91 : decode cX7_person 91 = .ok (.iload_n 1, 1) := by decide +kernel
theorem dX7_person_92 : decode cX7_person 92 = .ok (.invokevirtual 111, 3) := by decide +kernel
theorem dX7_person_95 : decode cX7_person 95 = .ok (.ireturn, 1) := by decide +kernel
theorem dX7_person_96 : decode cX7_person 96 = .ok (.aload_n 0, 1) := by decide +kernel
theorem dX7_person_97 : decode cX7_person 97 = .ok (.getfield 38, 3) := by decide +kernel
theorem dX7_person_100 : decode cX7_person 100 = .ok (.iload_n 1, 1) := by decide +kernel
theorem dX7_person_101 : decode cX7_person 101 = .ok (.invokevirtual 114, 3) := by decide +kernel
theorem dX7_person_104 : decode cX7_person 104 = .ok (.ireturn, 1) := by decide +kernel
theorem dX7_person_105 : decode cX7_person 105 = .ok (.aload_n 0, 1) := by decide +kernel
theorem dX7_person_106 : decode cX7_person 106 = .ok (.getfield 38, 3) := by decide +kernel
theorem dX7_person_109 : decode cX7_person 109 = .ok (.iload_n 1, 1) := by decide +kernel
theorem dX7_person_110 : decode cX7_person 110 = .ok (.invokevirtual 117, 3) := by decide +kernel
theorem dX7_person_113 : decode cX7_person 113 = .ok (.ireturn, 1) := by decide +kernel
theorem dX7_person_114 : decode cX7_person 114 = .ok (.aload_n 0, 1) := by decide +kernel
theorem dX7_person_115 : decode cX7_person 115 = .ok (.getfield 38, 3) := by decide +kernel
theorem dX7_person_118 : decode cX7_person 118 = .ok (.iload_n 1, 1) := by decide +kernel
theorem dX7_person_119 : decode cX7_person 119 = .ok (.invokevirtual 120, 3) := by decide +kernel
theorem dX7_person_122 : decode cX7_person 122 = .ok (.ireturn, 1) := by decide +kernel
theorem dX7_person_123 : decode cX7_person 123 = .ok (.aload_n 0, 1) := by decide +kernel
theorem dX7_person_124 : decode cX7_person 124 = .ok (.getfield 38, 3) := by decide +kernel
theorem dX7_person_127 : decode cX7_person 127 = .ok (.iload_n 1, 1) := by decide +kernel
theorem dX7_person_128 : decode cX7_person 128 = .ok (.invokevirtual 123, 3) := by decide +kernel
theorem dX7_person_131 : decode cX7_person 131 = .ok (.ireturn, 1) := by decide +kernel
theorem dX7_person_132 : decode cX7_person 132 = .ok (.iconst (-1), 1) := by decide +kernel
theorem dX7_person_133 : decode cX7_person 133 = .ok (.ireturn, 1) := by decide +kernel
theorem dX7_at_0 : decode cX7_at 0 = .ok (.iload_n 1, 1) := by decide +kernel
theorem dX7_at_1 : decode cX7_at 1 = .ok (.ifCond .ge 7, 3) := by decide +kernel
theorem dX7_at_4 : decode cX7_at 4 = .ok (.iconst (-1), 1) := by decide +kernel
theorem dX7_at_5 : decode cX7_at 5 = .ok (.goto 11, 3) := by decide +kernel
theorem dX7_at_8 : decode cX7_at 8 = .ok (.aload_n 0, 1) := by decide +kernel
theorem dX7_at_9 : decode cX7_at 9 = .ok (.getfield 38, 3) := by decide +kernel
theorem dX7_at_12 : decode cX7_at 12 = .ok (.iload_n 1, 1) := by decide +kernel
theorem dX7_at_13 : decode cX7_at 13 = .ok (.invokevirtual 126, 3) := by decide +kernel
theorem dX7_at_16 : decode cX7_at 16 = .ok (.ireturn, 1) := by decide +kernel
theorem dX7_pass_0 : decode cX7_pass 0 = .ok (.iload_n 1, 1) := by decide +kernel
theorem dX7_pass_1 : decode cX7_pass 1 = .ok (.iconst 1, 1) := by decide +kernel
theorem dX7_pass_2 : decode cX7_pass 2 = .ok (.if_icmp .lt 9, 3) := by decide +kernel
theorem dX7_pass_5 : decode cX7_pass 5 = .ok (.iload_n 1, 1) := by decide +kernel
theorem dX7_pass_6 : decode cX7_pass 6 = .ok (.bipush 30, 2) := by decide +kernel
theorem dX7_pass_8 : decode cX7_pass 8 = .ok (.if_icmp .le 5, 3) := by decide +kernel
theorem dX7_pass_11 : decode cX7_pass 11 = .ok (.iconst (-1), 1) := by decide +kernel
theorem dX7_pass_12 : decode cX7_pass 12 = .ok (.ireturn, 1) := by decide +kernel
theorem dX7_pass_13 : decode cX7_pass 13 = .ok (.aload_n 0, 1) := by decide +kernel
theorem dX7_pass_14 : decode cX7_pass 14 = .ok (.getfield 51, 3) := by decide +kernel
theorem dX7_pass_17 : decode cX7_pass 17 = .ok (.aload_n 0, 1) := by decide +kernel
theorem dX7_pass_18 : decode cX7_pass 18 = .ok (.getfield 38, 3) := by decide +kernel
theorem dX7_pass_21 : decode cX7_pass 21 = .ok (.invokevirtual 129, 3) := by decide +kernel
theorem dX7_pass_24 : decode cX7_pass 24 = .ok (.aload_n 0, 1) := by decide +kernel
theorem dX7_pass_25 : decode cX7_pass 25 = .ok (.getfield 38, 3) := by decide +kernel
theorem dX7_pass_28 : decode cX7_pass 28 = .ok (.aload_n 0, 1) := by decide +kernel
theorem dX7_pass_29 : decode cX7_pass 29 = .ok (.getfield 33, 3) := by decide +kernel
theorem dX7_pass_32 : decode cX7_pass 32 = .ok (.iload_n 1, 1) := by decide +kernel
theorem dX7_pass_33 : decode cX7_pass 33 = .ok (.invokevirtual 133, 3) := by decide +kernel
theorem dX7_pass_36 : decode cX7_pass 36 = .ok (.aload_n 0, 1) := by decide +kernel
theorem dX7_pass_37 : decode cX7_pass 37 = .ok (.getfield 38, 3) := by decide +kernel
theorem dX7_pass_40 : decode cX7_pass 40 = .ok (.iconst 3, 1) := by decide +kernel
theorem dX7_pass_41 : decode cX7_pass 41 = .ok (.invokevirtual 137, 3) := by decide +kernel
theorem dX7_pass_44 : decode cX7_pass 44 = .ok (.ireturn, 1) := by decide +kernel
theorem dX7_giveUp_0 : decode cX7_giveUp 0 = .ok (.aload_n 0, 1) := by decide +kernel
theorem dX7_giveUp_1 : decode cX7_giveUp 1 = .ok (.getfield 33, 3) := by decide +kernel
theorem dX7_giveUp_4 : decode cX7_giveUp 4 = .ok (.iload_n 1, 1) := by decide +kernel
theorem dX7_giveUp_5 : decode cX7_giveUp 5 = .ok (.invokevirtual 98, 3) := by decide +kernel
theorem dX7_giveUp_8 : decode cX7_giveUp 8 = .ok (.ifCond .ne 5, 3) := by decide +kernel
theorem dX7_giveUp_11 : decode cX7_giveUp 11 = .ok (.iconst (-1), 1) := by decide +kernel
theorem dX7_giveUp_12 : decode cX7_giveUp 12 = .ok (.ireturn, 1) := by decide +kernel
theorem dX7_giveUp_13 : decode cX7_giveUp 13 = .ok (.aload_n 0, 1) := by decide +kernel
theorem dX7_giveUp_14 : decode cX7_giveUp 14 = .ok (.getfield 38, 3) := by decide +kernel
theorem dX7_giveUp_17 : decode cX7_giveUp 17 = .ok (.iload_n 1, 1) := by decide +kernel
theorem dX7_giveUp_18 : decode cX7_giveUp 18 = .ok (.invokevirtual 140, 3) := by decide +kernel
theorem dX7_giveUp_21 : decode cX7_giveUp 21 = .ok (.ifCond .ne 6, 3) := by decide +kernel
theorem dX7_giveUp_24 : decode cX7_giveUp 24 = .ok (.bipush (-2), 2) := by decide +kernel
theorem dX7_giveUp_26 : decode cX7_giveUp 26 = .ok (.ireturn, 1) := by decide +kernel
theorem dX7_giveUp_27 : decode cX7_giveUp 27 = .ok (.aload_n 0, 1) := by decide +kernel
theorem dX7_giveUp_28 : decode cX7_giveUp 28 = .ok (.getfield 51, 3) := by decide +kernel
theorem dX7_giveUp_31 : decode cX7_giveUp 31 = .ok (.aload_n 0, 1) := by decide +kernel
theorem dX7_giveUp_32 : decode cX7_giveUp 32 = .ok (.getfield 38, 3) := by decide +kernel
theorem dX7_giveUp_35 : decode cX7_giveUp 35 = .ok (.invokevirtual 129, 3) := by decide +kernel
theorem dX7_giveUp_38 : decode cX7_giveUp 38 = .ok (.aload_n 0, 1) := by decide +kernel
theorem dX7_giveUp_39 : decode cX7_giveUp 39 = .ok (.getfield 38, 3) := by decide +kernel
theorem dX7_giveUp_42 : decode cX7_giveUp 42 = .ok (.iload_n 1, 1) := by decide +kernel
theorem dX7_giveUp_43 : decode cX7_giveUp 43 = .ok (.invokevirtual 143, 3) := by decide +kernel
theorem dX7_giveUp_46 : decode cX7_giveUp 46 = .ok (.aload_n 0, 1) := by decide +kernel
theorem dX7_giveUp_47 : decode cX7_giveUp 47 = .ok (.getfield 38, 3) := by decide +kernel
theorem dX7_giveUp_50 : decode cX7_giveUp 50 = .ok (.iload_n 1, 1) := by decide +kernel
theorem dX7_giveUp_51 : decode cX7_giveUp 51 = .ok (.invokevirtual 114, 3) := by decide +kernel
theorem dX7_giveUp_54 : decode cX7_giveUp 54 = .ok (.ireturn, 1) := by decide +kernel
theorem dX7_sneeze_0 : decode cX7_sneeze 0 = .ok (.aload_n 0, 1) := by decide +kernel
theorem dX7_sneeze_1 : decode cX7_sneeze 1 = .ok (.getfield 33, 3) := by decide +kernel
theorem dX7_sneeze_4 : decode cX7_sneeze 4 = .ok (.iload_n 1, 1) := by decide +kernel
theorem dX7_sneeze_5 : decode cX7_sneeze 5 = .ok (.invokevirtual 98, 3) := by decide +kernel
theorem dX7_sneeze_8 : decode cX7_sneeze 8 = .ok (.ifCond .ne 5, 3) := by decide +kernel
theorem dX7_sneeze_11 : decode cX7_sneeze 11 = .ok (.iconst (-1), 1) := by decide +kernel
theorem dX7_sneeze_12 : decode cX7_sneeze 12 = .ok (.ireturn, 1) := by decide +kernel
theorem dX7_sneeze_13 : decode cX7_sneeze 13 = .ok (.aload_n 0, 1) := by decide +kernel
theorem dX7_sneeze_14 : decode cX7_sneeze 14 = .ok (.getfield 38, 3) := by decide +kernel
theorem dX7_sneeze_17 : decode cX7_sneeze 17 = .ok (.iload_n 1, 1) := by decide +kernel
theorem dX7_sneeze_18 : decode cX7_sneeze 18 = .ok (.invokevirtual 111, 3) := by decide +kernel
theorem dX7_sneeze_21 : decode cX7_sneeze 21 = .ok (.iconst 1, 1) := by decide +kernel
theorem dX7_sneeze_22 : decode cX7_sneeze 22 = .ok (.if_icmp .eq 6, 3) := by decide +kernel
theorem dX7_sneeze_25 : decode cX7_sneeze 25 = .ok (.bipush (-2), 2) := by decide +kernel
theorem dX7_sneeze_27 : decode cX7_sneeze 27 = .ok (.ireturn, 1) := by decide +kernel
theorem dX7_sneeze_28 : decode cX7_sneeze 28 = .ok (.aload_n 0, 1) := by decide +kernel
theorem dX7_sneeze_29 : decode cX7_sneeze 29 = .ok (.getfield 51, 3) := by decide +kernel
theorem dX7_sneeze_32 : decode cX7_sneeze 32 = .ok (.aload_n 0, 1) := by decide +kernel
theorem dX7_sneeze_33 : decode cX7_sneeze 33 = .ok (.getfield 38, 3) := by decide +kernel
theorem dX7_sneeze_36 : decode cX7_sneeze 36 = .ok (.invokevirtual 129, 3) := by decide +kernel
theorem dX7_sneeze_39 : decode cX7_sneeze 39 = .ok (.aload_n 0, 1) := by decide +kernel
theorem dX7_sneeze_40 : decode cX7_sneeze 40 = .ok (.getfield 38, 3) := by decide +kernel
theorem dX7_sneeze_43 : decode cX7_sneeze 43 = .ok (.iload_n 1, 1) := by decide +kernel
theorem dX7_sneeze_44 : decode cX7_sneeze 44 = .ok (.invokevirtual 146, 3) := by decide +kernel
theorem dX7_sneeze_47 : decode cX7_sneeze 47 = .ok (.aload_n 0, 1) := by decide +kernel
theorem dX7_sneeze_48 : decode cX7_sneeze 48 = .ok (.getfield 38, 3) := by decide +kernel
theorem dX7_sneeze_51 : decode cX7_sneeze 51 = .ok (.getfield 149, 3) := by decide +kernel
theorem dX7_sneeze_54 : decode cX7_sneeze 54 = .ok (.ireturn, 1) := by decide +kernel
theorem dX7_leave_0 : decode cX7_leave 0 = .ok (.aload_n 0, 1) := by decide +kernel
theorem dX7_leave_1 : decode cX7_leave 1 = .ok (.getfield 33, 3) := by decide +kernel
theorem dX7_leave_4 : decode cX7_leave 4 = .ok (.iload_n 1, 1) := by decide +kernel
theorem dX7_leave_5 : decode cX7_leave 5 = .ok (.invokevirtual 98, 3) := by decide +kernel
theorem dX7_leave_8 : decode cX7_leave 8 = .ok (.ifCond .ne 5, 3) := by decide +kernel
theorem dX7_leave_11 : decode cX7_leave 11 = .ok (.iconst (-1), 1) := by decide +kernel
theorem dX7_leave_12 : decode cX7_leave 12 = .ok (.ireturn, 1) := by decide +kernel
theorem dX7_leave_13 : decode cX7_leave 13 = .ok (.aload_n 0, 1) := by decide +kernel
theorem dX7_leave_14 : decode cX7_leave 14 = .ok (.getfield 38, 3) := by decide +kernel
theorem dX7_leave_17 : decode cX7_leave 17 = .ok (.iload_n 1, 1) := by decide +kernel
theorem dX7_leave_18 : decode cX7_leave 18 = .ok (.invokevirtual 111, 3) := by decide +kernel
theorem dX7_leave_21 : decode cX7_leave 21 = .ok (.iconst 1, 1) := by decide +kernel
theorem dX7_leave_22 : decode cX7_leave 22 = .ok (.if_icmp .eq 6, 3) := by decide +kernel
theorem dX7_leave_25 : decode cX7_leave 25 = .ok (.bipush (-2), 2) := by decide +kernel
theorem dX7_leave_27 : decode cX7_leave 27 = .ok (.ireturn, 1) := by decide +kernel
theorem dX7_leave_28 : decode cX7_leave 28 = .ok (.aload_n 0, 1) := by decide +kernel
theorem dX7_leave_29 : decode cX7_leave 29 = .ok (.getfield 51, 3) := by decide +kernel
theorem dX7_leave_32 : decode cX7_leave 32 = .ok (.aload_n 0, 1) := by decide +kernel
theorem dX7_leave_33 : decode cX7_leave 33 = .ok (.getfield 38, 3) := by decide +kernel
theorem dX7_leave_36 : decode cX7_leave 36 = .ok (.invokevirtual 129, 3) := by decide +kernel
theorem dX7_leave_39 : decode cX7_leave 39 = .ok (.aload_n 0, 1) := by decide +kernel
theorem dX7_leave_40 : decode cX7_leave 40 = .ok (.getfield 38, 3) := by decide +kernel
theorem dX7_leave_43 : decode cX7_leave 43 = .ok (.iload_n 1, 1) := by decide +kernel
theorem dX7_leave_44 : decode cX7_leave 44 = .ok (.invokevirtual 152, 3) := by decide +kernel
theorem dX7_leave_47 : decode cX7_leave 47 = .ok (.aload_n 0, 1) := by decide +kernel
theorem dX7_leave_48 : decode cX7_leave 48 = .ok (.getfield 38, 3) := by decide +kernel
theorem dX7_leave_51 : decode cX7_leave 51 = .ok (.getfield 149, 3) := by decide +kernel
theorem dX7_leave_54 : decode cX7_leave 54 = .ok (.ireturn, 1) := by decide +kernel
theorem dX7_again_0 : decode cX7_again 0 = .ok (.aload_n 0, 1) := by decide +kernel
theorem dX7_again_1 : decode cX7_again 1 = .ok (.getfield 33, 3) := by decide +kernel
theorem dX7_again_4 : decode cX7_again 4 = .ok (.iload_n 1, 1) := by decide +kernel
theorem dX7_again_5 : decode cX7_again 5 = .ok (.invokevirtual 98, 3) := by decide +kernel
theorem dX7_again_8 : decode cX7_again 8 = .ok (.ifCond .ne 5, 3) := by decide +kernel
theorem dX7_again_11 : decode cX7_again 11 = .ok (.iconst (-1), 1) := by decide +kernel
theorem dX7_again_12 : decode cX7_again 12 = .ok (.ireturn, 1) := by decide +kernel
theorem dX7_again_13 : decode cX7_again 13 = .ok (.aload_n 0, 1) := by decide +kernel
theorem dX7_again_14 : decode cX7_again 14 = .ok (.getfield 38, 3) := by decide +kernel
theorem dX7_again_17 : decode cX7_again 17 = .ok (.iload_n 1, 1) := by decide +kernel
theorem dX7_again_18 : decode cX7_again 18 = .ok (.invokevirtual 111, 3) := by decide +kernel
theorem dX7_again_21 : decode cX7_again 21 = .ok (.iconst 2, 1) := by decide +kernel
theorem dX7_again_22 : decode cX7_again 22 = .ok (.if_icmp .eq 6, 3) := by decide +kernel
theorem dX7_again_25 : decode cX7_again 25 = .ok (.bipush (-2), 2) := by decide +kernel
theorem dX7_again_27 : decode cX7_again 27 = .ok (.ireturn, 1) := by decide +kernel
theorem dX7_again_28 : decode cX7_again 28 = .ok (.aload_n 0, 1) := by decide +kernel
theorem dX7_again_29 : decode cX7_again 29 = .ok (.getfield 51, 3) := by decide +kernel
theorem dX7_again_32 : decode cX7_again 32 = .ok (.aload_n 0, 1) := by decide +kernel
theorem dX7_again_33 : decode cX7_again 33 = .ok (.getfield 38, 3) := by decide +kernel
theorem dX7_again_36 : decode cX7_again 36 = .ok (.invokevirtual 129, 3) := by decide +kernel
theorem dX7_again_39 : decode cX7_again 39 = .ok (.aload_n 0, 1) := by decide +kernel
theorem dX7_again_40 : decode cX7_again 40 = .ok (.getfield 38, 3) := by decide +kernel
theorem dX7_again_43 : decode cX7_again 43 = .ok (.aload_n 0, 1) := by decide +kernel
theorem dX7_again_44 : decode cX7_again 44 = .ok (.getfield 33, 3) := by decide +kernel
theorem dX7_again_47 : decode cX7_again 47 = .ok (.iload_n 1, 1) := by decide +kernel
theorem dX7_again_48 : decode cX7_again 48 = .ok (.invokevirtual 155, 3) := by decide +kernel
theorem dX7_again_51 : decode cX7_again 51 = .ok (.aload_n 0, 1) := by decide +kernel
theorem dX7_again_52 : decode cX7_again 52 = .ok (.getfield 38, 3) := by decide +kernel
theorem dX7_again_55 : decode cX7_again 55 = .ok (.iload_n 1, 1) := by decide +kernel
theorem dX7_again_56 : decode cX7_again 56 = .ok (.invokevirtual 114, 3) := by decide +kernel
theorem dX7_again_59 : decode cX7_again 59 = .ok (.ireturn, 1) := by decide +kernel
theorem dX7_undo_0 : decode cX7_undo 0 = .ok (.aload_n 0, 1) := by decide +kernel
theorem dX7_undo_1 : decode cX7_undo 1 = .ok (.getfield 51, 3) := by decide +kernel
theorem dX7_undo_4 : decode cX7_undo 4 = .ok (.aload_n 0, 1) := by decide +kernel
theorem dX7_undo_5 : decode cX7_undo 5 = .ok (.getfield 38, 3) := by decide +kernel
theorem dX7_undo_8 : decode cX7_undo 8 = .ok (.invokevirtual 158, 3) := by decide +kernel
theorem dX7_undo_11 : decode cX7_undo 11 = .ok (.ifCond .eq 13, 3) := by decide +kernel
theorem dX7_undo_14 : decode cX7_undo 14 = .ok (.aload_n 0, 1) := by decide +kernel
theorem dX7_undo_15 : decode cX7_undo 15 = .ok (.getfield 51, 3) := by decide +kernel
theorem dX7_undo_18 : decode cX7_undo 18 = .ok (.getfield 162, 3) := by decide +kernel
theorem dX7_undo_21 : decode cX7_undo 21 = .ok (.goto 5, 3) := by decide +kernel
theorem dX7_undo_24 : decode cX7_undo 24 = .ok (.bipush (-2), 2) := by decide +kernel
theorem dX7_undo_26 : decode cX7_undo 26 = .ok (.ireturn, 1) := by decide +kernel
theorem dX7_behind_0 : decode cX7_behind 0 = .ok (.iload_n 1, 1) := by decide +kernel
theorem dX7_behind_1 : decode cX7_behind 1 = .ok (.ifCond .lt 20, 3) := by decide +kernel
theorem dX7_behind_4 : decode cX7_behind 4 = .ok (.iload_n 1, 1) := by decide +kernel
theorem dX7_behind_5 : decode cX7_behind 5 = .ok (.bipush 60, 2) := by decide +kernel
theorem dX7_behind_7 : decode cX7_behind 7 = .ok (.if_icmp .gt 14, 3) := by decide +kernel
theorem dX7_behind_10 : decode cX7_behind 10 = .ok (.iload_n 2, 1) := by decide +kernel
theorem dX7_behind_11 : decode cX7_behind 11 = .ok (.iconst (-1), 1) := by decide +kernel
theorem dX7_behind_12 : decode cX7_behind 12 = .ok (.if_icmp .lt 9, 3) := by decide +kernel
theorem dX7_behind_15 : decode cX7_behind 15 = .ok (.iload_n 2, 1) := by decide +kernel
theorem dX7_behind_16 : decode cX7_behind 16 = .ok (.bipush 9, 2) := by decide +kernel
theorem dX7_behind_18 : decode cX7_behind 18 = .ok (.if_icmp .lt 5, 3) := by decide +kernel
theorem dX7_behind_21 : decode cX7_behind 21 = .ok (.iconst (-1), 1) := by decide +kernel
theorem dX7_behind_22 : decode cX7_behind 22 = .ok (.ireturn, 1) := by decide +kernel
theorem dX7_behind_23 : decode cX7_behind 23 = .ok (.aload_n 0, 1) := by decide +kernel
theorem dX7_behind_24 : decode cX7_behind 24 = .ok (.getfield 26, 3) := by decide +kernel
theorem dX7_behind_27 : decode cX7_behind 27 = .ok (.iload_n 1, 1) := by decide +kernel
theorem dX7_behind_28 : decode cX7_behind 28 = .ok (.invokevirtual 165, 3) := by decide +kernel
theorem dX7_behind_31 : decode cX7_behind 31 = .ok (.astore_n 3, 1) := by decide +kernel
theorem dX7_behind_32 : decode cX7_behind 32 = .ok (.iload_n 2, 1) := by decide +kernel
theorem dX7_behind_33 : decode cX7_behind 33 = .ok (.iconst (-1), 1) := by decide +kernel
theorem dX7_behind_34 : decode cX7_behind 34 = .ok (.if_icmp .ne 10, 3) := by decide +kernel
theorem dX7_behind_37 : decode cX7_behind 37 = .ok (.aload_n 3, 1) := by decide +kernel
theorem dX7_behind_38 : decode cX7_behind 38 = .ok (.getfield 149, 3) := by decide +kernel
theorem dX7_behind_41 : decode cX7_behind 41 = .ok (.goto 8, 3) := by decide +kernel
theorem dX7_behind_44 : decode cX7_behind 44 = .ok (.aload_n 3, 1) := by decide +kernel
theorem dX7_behind_45 : decode cX7_behind 45 = .ok (.iload_n 2, 1) := by decide +kernel
theorem dX7_behind_46 : decode cX7_behind 46 = .ok (.invokevirtual 126, 3) := by decide +kernel
theorem dX7_behind_49 : decode cX7_behind 49 = .ok (.ireturn, 1) := by decide +kernel
theorem dX7_when_0 : decode cX7_when 0 = .ok (.aload_n 0, 1) := by decide +kernel
theorem dX7_when_1 : decode cX7_when 1 = .ok (.iload_n 1, 1) := by decide +kernel
theorem dX7_when_2 : decode cX7_when 2 = .ok (.iconst 0, 1) := by decide +kernel
theorem dX7_when_3 : decode cX7_when 3 = .ok (.invokevirtual 169, 3) := by decide +kernel
theorem dX7_when_6 : decode cX7_when 6 = .ok (.ireturn, 1) := by decide +kernel
theorem dX7_pays_0 : decode cX7_pays 0 = .ok (.aload_n 0, 1) := by decide +kernel
theorem dX7_pays_1 : decode cX7_pays 1 = .ok (.getfield 26, 3) := by decide +kernel
theorem dX7_pays_4 : decode cX7_pays 4 = .ok (.iconst 1, 1) := by decide +kernel
theorem dX7_pays_5 : decode cX7_pays 5 = .ok (.invokevirtual 173, 3) := by decide +kernel
theorem dX7_pays_8 : decode cX7_pays 8 = .ok (.ireturn, 1) := by decide +kernel
theorem dX7_gains_0 : decode cX7_gains 0 = .ok (.aload_n 0, 1) := by decide +kernel
theorem dX7_gains_1 : decode cX7_gains 1 = .ok (.getfield 26, 3) := by decide +kernel
theorem dX7_gains_4 : decode cX7_gains 4 = .ok (.iconst 0, 1) := by decide +kernel
theorem dX7_gains_5 : decode cX7_gains 5 = .ok (.invokevirtual 173, 3) := by decide +kernel
theorem dX7_gains_8 : decode cX7_gains 8 = .ok (.ireturn, 1) := by decide +kernel
theorem dX7_besides_0 : decode cX7_besides 0 = .ok (.aload_n 0, 1) := by decide +kernel
theorem dX7_besides_1 : decode cX7_besides 1 = .ok (.iload_n 1, 1) := by decide +kernel
theorem dX7_besides_2 : decode cX7_besides 2 = .ok (.iconst 1, 1) := by decide +kernel
theorem dX7_besides_3 : decode cX7_besides 3 = .ok (.invokevirtual 169, 3) := by decide +kernel
theorem dX7_besides_6 : decode cX7_besides 6 = .ok (.ireturn, 1) := by decide +kernel
theorem dX7_whenOf_0 : decode cX7_whenOf 0 = .ok (.aload_n 0, 1) := by decide +kernel
theorem dX7_whenOf_1 : decode cX7_whenOf 1 = .ok (.getfield 33, 3) := by decide +kernel
theorem dX7_whenOf_4 : decode cX7_whenOf 4 = .ok (.iload_n 1, 1) := by decide +kernel
theorem dX7_whenOf_5 : decode cX7_whenOf 5 = .ok (.invokevirtual 98, 3) := by decide +kernel
theorem dX7_whenOf_8 : decode cX7_whenOf 8 = .ok (.ifCond .ne 5, 3) := by decide +kernel
theorem dX7_whenOf_11 : decode cX7_whenOf 11 = .ok (.iconst (-1), 1) := by decide +kernel
theorem dX7_whenOf_12 : decode cX7_whenOf 12 = .ok (.ireturn, 1) := by decide +kernel
theorem dX7_whenOf_13 : decode cX7_whenOf 13 = .ok (.aload_n 0, 1) := by decide +kernel
theorem dX7_whenOf_14 : decode cX7_whenOf 14 = .ok (.getfield 38, 3) := by decide +kernel
theorem dX7_whenOf_17 : decode cX7_whenOf 17 = .ok (.iload_n 1, 1) := by decide +kernel
theorem dX7_whenOf_18 : decode cX7_whenOf 18 = .ok (.invokevirtual 111, 3) := by decide +kernel
theorem dX7_whenOf_21 : decode cX7_whenOf 21 = .ok (.iconst 3, 1) := by decide +kernel
theorem dX7_whenOf_22 : decode cX7_whenOf 22 = .ok (.if_icmp .ne 6, 3) := by decide +kernel
theorem dX7_whenOf_25 : decode cX7_whenOf 25 = .ok (.bipush (-2), 2) := by decide +kernel
theorem dX7_whenOf_27 : decode cX7_whenOf 27 = .ok (.ireturn, 1) := by decide +kernel
theorem dX7_whenOf_28 : decode cX7_whenOf 28 = .ok (.aload_n 0, 1) := by decide +kernel
theorem dX7_whenOf_29 : decode cX7_whenOf 29 = .ok (.getfield 26, 3) := by decide +kernel
theorem dX7_whenOf_32 : decode cX7_whenOf 32 = .ok (.invokevirtual 177, 3) := by decide +kernel
theorem dX7_whenOf_35 : decode cX7_whenOf 35 = .ok (.aload_n 0, 1) := by decide +kernel
theorem dX7_whenOf_36 : decode cX7_whenOf 36 = .ok (.getfield 26, 3) := by decide +kernel
theorem dX7_whenOf_39 : decode cX7_whenOf 39 = .ok (.iload_n 1, 1) := by decide +kernel
theorem dX7_whenOf_40 : decode cX7_whenOf 40 = .ok (.iload_n 2, 1) := by decide +kernel
theorem dX7_whenOf_41 : decode cX7_whenOf 41 = .ok (.invokevirtual 180, 3) := by decide +kernel
theorem dX7_whenOf_44 : decode cX7_whenOf 44 = .ok (.istore_n 3, 1) := by decide +kernel
theorem dX7_whenOf_45 : decode cX7_whenOf 45 = .ok (.iload_n 3, 1) := by decide +kernel
theorem dX7_whenOf_46 : decode cX7_whenOf 46 = .ok (.bipush 99, 2) := by decide +kernel
theorem dX7_whenOf_48 : decode cX7_whenOf 48 = .ok (.if_icmp .le 8, 3) := by decide +kernel
theorem dX7_whenOf_51 : decode cX7_whenOf 51 = .ok (.bipush (-4), 2) := by decide +kernel
theorem dX7_whenOf_53 : decode cX7_whenOf 53 = .ok (.goto 4, 3) := by decide +kernel
theorem dX7_whenOf_56 : decode cX7_whenOf 56 = .ok (.iload_n 3, 1) := by decide +kernel
theorem dX7_whenOf_57 : decode cX7_whenOf 57 = .ok (.ireturn, 1) := by decide +kernel
theorem dX7_family_0 : decode cX7_family 0 = .ok (.iload_n 1, 1) := by decide +kernel
theorem dX7_family_1 : decode cX7_family 1 = .ok (.iconst 1, 1) := by decide +kernel
theorem dX7_family_2 : decode cX7_family 2 = .ok (.if_icmp .lt 17, 3) := by decide +kernel
theorem dX7_family_5 : decode cX7_family 5 = .ok (.iload_n 1, 1) := by decide +kernel
theorem dX7_family_6 : decode cX7_family 6 = .ok (.iconst 4, 1) := by decide +kernel
theorem dX7_family_7 : decode cX7_family 7 = .ok (.if_icmp .gt 12, 3) := by decide +kernel
theorem dX7_family_10 : decode cX7_family 10 = .ok (.iload_n 2, 1) := by decide +kernel
theorem dX7_family_11 : decode cX7_family 11 = .ok (.ifCond .lt 8, 3) := by decide +kernel
theorem dX7_family_14 : decode cX7_family 14 = .ok (.iload_n 2, 1) := by decide +kernel
theorem dX7_family_15 : decode cX7_family 15 = .ok (.iconst 5, 1) := by decide +kernel
theorem dX7_family_16 : decode cX7_family 16 = .ok (.if_icmp .le 5, 3) := by decide +kernel
theorem dX7_family_19 : decode cX7_family 19 = .ok (.iconst (-1), 1) := by decide +kernel
theorem dX7_family_20 : decode cX7_family 20 = .ok (.ireturn, 1) := by decide +kernel
theorem dX7_family_21 : decode cX7_family 21 = .ok (.aload_n 0, 1) := by decide +kernel
theorem dX7_family_22 : decode cX7_family 22 = .ok (.getfield 26, 3) := by decide +kernel
theorem dX7_family_25 : decode cX7_family 25 = .ok (.getfield 183, 3) := by decide +kernel
theorem dX7_family_28 : decode cX7_family 28 = .ok (.aload_n 0, 1) := by decide +kernel
theorem dX7_family_29 : decode cX7_family 29 = .ok (.getfield 33, 3) := by decide +kernel
theorem dX7_family_32 : decode cX7_family 32 = .ok (.aload_n 0, 1) := by decide +kernel
theorem dX7_family_33 : decode cX7_family 33 = .ok (.getfield 38, 3) := by decide +kernel
theorem dX7_family_36 : decode cX7_family 36 = .ok (.iload_n 1, 1) := by decide +kernel
theorem dX7_family_37 : decode cX7_family 37 = .ok (.invokevirtual 187, 3) := by decide +kernel
theorem dX7_family_40 : decode cX7_family 40 = .ok (.ifCond .ne 6, 3) := by decide +kernel
theorem dX7_family_43 : decode cX7_family 43 = .ok (.bipush (-2), 2) := by decide +kernel
theorem dX7_family_45 : decode cX7_family 45 = .ok (.ireturn, 1) := by decide +kernel
theorem dX7_family_46 : decode cX7_family 46 = .ok (.iload_n 2, 1) := by decide +kernel
theorem dX7_family_47 : decode cX7_family 47 = .ok (.aload_n 0, 1) := by decide +kernel
theorem dX7_family_48 : decode cX7_family 48 = .ok (.getfield 26, 3) := by decide +kernel
theorem dX7_family_51 : decode cX7_family 51 = .ok (.getfield 183, 3) := by decide +kernel
theorem dX7_family_54 : decode cX7_family 54 = .ok (.getfield 193, 3) := by decide +kernel
theorem dX7_family_57 : decode cX7_family 57 = .ok (.if_icmp .le 6, 3) := by decide +kernel
theorem dX7_family_60 : decode cX7_family 60 = .ok (.bipush (-4), 2) := by decide +kernel
theorem dX7_family_62 : decode cX7_family 62 = .ok (.ireturn, 1) := by decide +kernel
theorem dX7_family_63 : decode cX7_family 63 = .ok (.aload_n 0, 1) := by decide +kernel
theorem dX7_family_64 : decode cX7_family 64 = .ok (.getfield 26, 3) := by decide +kernel
theorem dX7_family_67 : decode cX7_family 67 = .ok (.invokevirtual 194, 3) := by decide +kernel
theorem dX7_family_70 : decode cX7_family 70 = .ok (.istore_n 3, 1) := by decide +kernel
theorem dX7_family_71 : decode cX7_family 71 = .ok (.iload_n 2, 1) := by decide +kernel
theorem dX7_family_72 : decode cX7_family 72 = .ok (.ifCond .ne 7, 3) := by decide +kernel
theorem dX7_family_75 : decode cX7_family 75 = .ok (.iload_n 3, 1) := by decide +kernel
theorem dX7_family_76 : decode cX7_family 76 = .ok (.goto 16, 3) := by decide +kernel
theorem dX7_family_79 : decode cX7_family 79 = .ok (.aload_n 0, 1) := by decide +kernel
theorem dX7_family_80 : decode cX7_family 80 = .ok (.getfield 26, 3) := by decide +kernel
theorem dX7_family_83 : decode cX7_family 83 = .ok (.getfield 183, 3) := by decide +kernel
theorem dX7_family_86 : decode cX7_family 86 = .ok (.iload_n 2, 1) := by decide +kernel
theorem dX7_family_87 : decode cX7_family 87 = .ok (.iconst 1, 1) := by decide +kernel
theorem dX7_family_88 : decode cX7_family 88 = .ok (.isub, 1) := by decide +kernel
theorem dX7_family_89 : decode cX7_family 89 = .ok (.invokevirtual 197, 3) := by decide +kernel
theorem dX7_family_92 : decode cX7_family 92 = .ok (.ireturn, 1) := by decide +kernel
theorem dX7_warmth_0 : decode cX7_warmth 0 = .ok (.iload_n 1, 1) := by decide +kernel
theorem dX7_warmth_1 : decode cX7_warmth 1 = .ok (.ifCond .lt 9, 3) := by decide +kernel
theorem dX7_warmth_4 : decode cX7_warmth 4 = .ok (.iload_n 1, 1) := by decide +kernel
theorem dX7_warmth_5 : decode cX7_warmth 5 = .ok (.bipush 60, 2) := by decide +kernel
theorem dX7_warmth_7 : decode cX7_warmth 7 = .ok (.if_icmp .le 5, 3) := by decide +kernel
theorem dX7_warmth_10 : decode cX7_warmth 10 = .ok (.iconst (-1), 1) := by decide +kernel
theorem dX7_warmth_11 : decode cX7_warmth 11 = .ok (.ireturn, 1) := by decide +kernel
theorem dX7_warmth_12 : decode cX7_warmth 12 = .ok (.aload_n 0, 1) := by decide +kernel
theorem dX7_warmth_13 : decode cX7_warmth 13 = .ok (.getfield 26, 3) := by decide +kernel
theorem dX7_warmth_16 : decode cX7_warmth 16 = .ok (.iload_n 1, 1) := by decide +kernel
theorem dX7_warmth_17 : decode cX7_warmth 17 = .ok (.invokevirtual 165, 3) := by decide +kernel
theorem dX7_warmth_20 : decode cX7_warmth 20 = .ok (.getfield 200, 3) := by decide +kernel
theorem dX7_warmth_23 : decode cX7_warmth 23 = .ok (.aload_n 0, 1) := by decide +kernel
theorem dX7_warmth_24 : decode cX7_warmth 24 = .ok (.getfield 38, 3) := by decide +kernel
theorem dX7_warmth_27 : decode cX7_warmth 27 = .ok (.getfield 200, 3) := by decide +kernel
theorem dX7_warmth_30 : decode cX7_warmth 30 = .ok (.isub, 1) := by decide +kernel
theorem dX7_warmth_31 : decode cX7_warmth 31 = .ok (.ireturn, 1) := by decide +kernel
theorem dX7_see_0 : decode cX7_see 0 = .ok (.aload_n 0, 1) := by decide +kernel
theorem dX7_see_1 : decode cX7_see 1 = .ok (.getfield 33, 3) := by decide +kernel
theorem dX7_see_4 : decode cX7_see 4 = .ok (.iload_n 1, 1) := by decide +kernel
theorem dX7_see_5 : decode cX7_see 5 = .ok (.invokevirtual 98, 3) := by decide +kernel
theorem dX7_see_8 : decode cX7_see 8 = .ok (.ifCond .eq 14, 3) := by decide +kernel
theorem dX7_see_11 : decode cX7_see 11 = .ok (.iload_n 2, 1) := by decide +kernel
theorem dX7_see_12 : decode cX7_see 12 = .ok (.iconst 1, 1) := by decide +kernel
theorem dX7_see_13 : decode cX7_see 13 = .ok (.if_icmp .lt 9, 3) := by decide +kernel
theorem dX7_see_16 : decode cX7_see 16 = .ok (.iload_n 2, 1) := by decide +kernel
theorem dX7_see_17 : decode cX7_see 17 = .ok (.bipush 60, 2) := by decide +kernel
theorem dX7_see_19 : decode cX7_see 19 = .ok (.if_icmp .le 5, 3) := by decide +kernel
theorem dX7_see_22 : decode cX7_see 22 = .ok (.iconst (-1), 1) := by decide +kernel
theorem dX7_see_23 : decode cX7_see 23 = .ok (.ireturn, 1) := by decide +kernel
theorem dX7_see_24 : decode cX7_see 24 = .ok (.aload_n 0, 1) := by decide +kernel
theorem dX7_see_25 : decode cX7_see 25 = .ok (.getfield 42, 3) := by decide +kernel
theorem dX7_see_28 : decode cX7_see 28 = .ok (.iload_n 1, 1) := by decide +kernel
theorem dX7_see_29 : decode cX7_see 29 = .ok (.iload_n 2, 1) := by decide +kernel
theorem dX7_see_30 : decode cX7_see 30 = .ok (.iload_n 3, 1) := by decide +kernel
theorem dX7_see_31 : decode cX7_see 31 = .ok (.invokevirtual 203, 3) := by decide +kernel
theorem dX7_see_34 : decode cX7_see 34 = .ok (.ifCond .eq 13, 3) := by decide +kernel
theorem dX7_see_37 : decode cX7_see 37 = .ok (.aload_n 0, 1) := by decide +kernel
theorem dX7_see_38 : decode cX7_see 38 = .ok (.getfield 42, 3) := by decide +kernel
theorem dX7_see_41 : decode cX7_see 41 = .ok (.getfield 207, 3) := by decide +kernel
theorem dX7_see_44 : decode cX7_see 44 = .ok (.goto 5, 3) := by decide +kernel
theorem dX7_see_47 : decode cX7_see 47 = .ok (.bipush (-3), 2) := by decide +kernel
theorem dX7_see_49 : decode cX7_see 49 = .ok (.ireturn, 1) := by decide +kernel
theorem dX7_forget_0 : decode cX7_forget 0 = .ok (.aload_n 0, 1) := by decide +kernel
theorem dX7_forget_1 : decode cX7_forget 1 = .ok (.getfield 42, 3) := by decide +kernel
theorem dX7_forget_4 : decode cX7_forget 4 = .ok (.getfield 207, 3) := by decide +kernel
theorem dX7_forget_7 : decode cX7_forget 7 = .ok (.istore_n 1, 1) := by decide +kernel
theorem dX7_forget_8 : decode cX7_forget 8 = .ok (.aload_n 0, 1) := by decide +kernel
theorem dX7_forget_9 : decode cX7_forget 9 = .ok (.getfield 42, 3) := by decide +kernel
theorem dX7_forget_12 : decode cX7_forget 12 = .ok (.invokevirtual 96, 3) := by decide +kernel
theorem dX7_forget_15 : decode cX7_forget 15 = .ok (.iload_n 1, 1) := by decide +kernel
theorem dX7_forget_16 : decode cX7_forget 16 = .ok (.ireturn, 1) := by decide +kernel
theorem dX7_sneezed_0 : decode cX7_sneezed 0 = .ok (.aload_n 0, 1) := by decide +kernel
theorem dX7_sneezed_1 : decode cX7_sneezed 1 = .ok (.getfield 26, 3) := by decide +kernel
theorem dX7_sneezed_4 : decode cX7_sneezed 4 = .ok (.aload_n 0, 1) := by decide +kernel
theorem dX7_sneezed_5 : decode cX7_sneezed 5 = .ok (.getfield 42, 3) := by decide +kernel
theorem dX7_sneezed_8 : decode cX7_sneezed 8 = .ok (.invokevirtual 208, 3) := by decide +kernel
theorem dX7_sneezed_11 : decode cX7_sneezed 11 = .ok (.ireturn, 1) := by decide +kernel
theorem dX7_kinds_0 : decode cX7_kinds 0 = .ok (.aload_n 0, 1) := by decide +kernel
theorem dX7_kinds_1 : decode cX7_kinds 1 = .ok (.getfield 33, 3) := by decide +kernel
theorem dX7_kinds_4 : decode cX7_kinds 4 = .ok (.iload_n 1, 1) := by decide +kernel
theorem dX7_kinds_5 : decode cX7_kinds 5 = .ok (.invokevirtual 98, 3) := by decide +kernel
theorem dX7_kinds_8 : decode cX7_kinds 8 = .ok (.ifCond .eq 18, 3) := by decide +kernel
theorem dX7_kinds_11 : decode cX7_kinds 11 = .ok (.aload_n 0, 1) := by decide +kernel
theorem dX7_kinds_12 : decode cX7_kinds 12 = .ok (.getfield 26, 3) := by decide +kernel
theorem dX7_kinds_15 : decode cX7_kinds 15 = .ok (.aload_n 0, 1) := by decide +kernel
theorem dX7_kinds_16 : decode cX7_kinds 16 = .ok (.getfield 42, 3) := by decide +kernel
theorem dX7_kinds_19 : decode cX7_kinds 19 = .ok (.iload_n 1, 1) := by decide +kernel
theorem dX7_kinds_20 : decode cX7_kinds 20 = .ok (.invokevirtual 212, 3) := by decide +kernel
theorem dX7_kinds_23 : decode cX7_kinds 23 = .ok (.goto 4, 3) := by decide +kernel
theorem dX7_kinds_26 : decode cX7_kinds 26 = .ok (.iconst (-1), 1) := by decide +kernel
theorem dX7_kinds_27 : decode cX7_kinds 27 = .ok (.ireturn, 1) := by decide +kernel
theorem dX7_rumours_0 : decode cX7_rumours 0 = .ok (.aload_n 0, 1) := by decide +kernel
theorem dX7_rumours_1 : decode cX7_rumours 1 = .ok (.getfield 33, 3) := by decide +kernel
theorem dX7_rumours_4 : decode cX7_rumours 4 = .ok (.iload_n 1, 1) := by decide +kernel
theorem dX7_rumours_5 : decode cX7_rumours 5 = .ok (.invokevirtual 98, 3) := by decide +kernel
theorem dX7_rumours_8 : decode cX7_rumours 8 = .ok (.ifCond .eq 34, 3) := by decide +kernel
theorem dX7_rumours_11 : decode cX7_rumours 11 = .ok (.iload_n 2, 1) := by decide +kernel
theorem dX7_rumours_12 : decode cX7_rumours 12 = .ok (.ifCond .lt 30, 3) := by decide +kernel
theorem dX7_rumours_15 : decode cX7_rumours 15 = .ok (.iload_n 2, 1) := by decide +kernel
theorem dX7_rumours_16 : decode cX7_rumours 16 = .ok (.bipush 8, 2) := by decide +kernel
theorem dX7_rumours_18 : decode cX7_rumours 18 = .ok (.if_icmp .gt 24, 3) := by decide +kernel
theorem dX7_rumours_21 : decode cX7_rumours 21 = .ok (.iload_n 3, 1) := by decide +kernel
theorem dX7_rumours_22 : decode cX7_rumours 22 = .ok (.ifCond .lt 20, 3) := by decide +kernel
theorem dX7_rumours_25 : decode cX7_rumours 25 = .ok (.iload_n 3, 1) := by decide +kernel
theorem dX7_rumours_26 : decode cX7_rumours 26 = .ok (.bipush 10, 2) := by decide +kernel
theorem dX7_rumours_28 : decode cX7_rumours 28 = .ok (.if_icmp .gt 14, 3) := by decide +kernel
theorem dX7_rumours_31 : decode cX7_rumours 31 = .ok (.iload 4, 2) := by decide +kernel
theorem dX7_rumours_33 : decode cX7_rumours 33 = .ok (.ifCond .lt 9, 3) := by decide +kernel
theorem dX7_rumours_36 : decode cX7_rumours 36 = .ok (.iload 4, 2) := by decide +kernel
theorem dX7_rumours_38 : decode cX7_rumours 38 = .ok (.iconst 1, 1) := by decide +kernel
theorem dX7_rumours_39 : decode cX7_rumours 39 = .ok (.if_icmp .le 5, 3) := by decide +kernel
theorem dX7_rumours_42 : decode cX7_rumours 42 = .ok (.iconst (-1), 1) := by decide +kernel
theorem dX7_rumours_43 : decode cX7_rumours 43 = .ok (.ireturn, 1) := by decide +kernel
theorem dX7_rumours_44 : decode cX7_rumours 44 = .ok (.aload_n 0, 1) := by decide +kernel
theorem dX7_rumours_45 : decode cX7_rumours 45 = .ok (.getfield 26, 3) := by decide +kernel
theorem dX7_rumours_48 : decode cX7_rumours 48 = .ok (.iload_n 1, 1) := by decide +kernel
theorem dX7_rumours_49 : decode cX7_rumours 49 = .ok (.iload_n 2, 1) := by decide +kernel
theorem dX7_rumours_50 : decode cX7_rumours 50 = .ok (.iload_n 3, 1) := by decide +kernel
theorem dX7_rumours_51 : decode cX7_rumours 51 = .ok (.invokevirtual 216, 3) := by decide +kernel
theorem dX7_rumours_54 : decode cX7_rumours 54 = .ok (.istore 5, 2) := by decide +kernel
theorem dX7_rumours_56 : decode cX7_rumours 56 = .ok (.bipush 10, 2) := by decide +kernel
theorem dX7_rumours_58 : decode cX7_rumours 58 = .ok (.iload_n 2, 1) := by decide +kernel
theorem dX7_rumours_59 : decode cX7_rumours 59 = .ok (.invokestatic 220, 3) := by decide +kernel
theorem dX7_rumours_62 : decode cX7_rumours 62 = .ok (.istore 6, 2) := by decide +kernel
theorem dX7_rumours_64 : decode cX7_rumours 64 = .ok (.iload 5, 2) := by decide +kernel
theorem dX7_rumours_66 : decode cX7_rumours 66 = .ok (.iload 6, 2) := by decide +kernel
theorem dX7_rumours_68 : decode cX7_rumours 68 = .ok (.invokestatic 224, 3) := by decide +kernel
theorem dX7_rumours_71 : decode cX7_rumours 71 = .ok (.istore 7, 2) := by decide +kernel
theorem dX7_rumours_73 : decode cX7_rumours 73 = .ok (.iload 7, 2) := by decide +kernel
theorem dX7_rumours_75 : decode cX7_rumours 75 = .ok (.iconst 1, 1) := by decide +kernel
theorem dX7_rumours_76 : decode cX7_rumours 76 = .ok (.if_icmp .ge 5, 3) := by decide +kernel
theorem dX7_rumours_79 : decode cX7_rumours 79 = .ok (.iconst (-1), 1) := by decide +kernel
theorem dX7_rumours_80 : decode cX7_rumours 80 = .ok (.ireturn, 1) := by decide +kernel
theorem dX7_rumours_81 : decode cX7_rumours 81 = .ok (.iload 4, 2) := by decide +kernel
theorem dX7_rumours_83 : decode cX7_rumours 83 = .ok (.ifCond .ne 8, 3) := by decide +kernel
theorem dX7_rumours_86 : decode cX7_rumours 86 = .ok (.iload 5, 2) := by decide +kernel
theorem dX7_rumours_88 : decode cX7_rumours 88 = .ok (.goto 5, 3) := by decide +kernel
theorem dX7_rumours_91 : decode cX7_rumours 91 = .ok (.iload 6, 2) := by decide +kernel
theorem dX7_rumours_93 : decode cX7_rumours 93 = .ok (.iload 7, 2) := by decide +kernel
theorem dX7_rumours_95 : decode cX7_rumours 95 = .ok (.idiv, 1) := by decide +kernel
theorem dX7_rumours_96 : decode cX7_rumours 96 = .ok (.ireturn, 1) := by decide +kernel
theorem dX7_day_0 : decode cX7_day 0 = .ok (.iload_n 1, 1) := by decide +kernel
theorem dX7_day_1 : decode cX7_day 1 = .ok (.ifCond .lt 30, 3) := by decide +kernel
theorem dX7_day_4 : decode cX7_day 4 = .ok (.iload_n 1, 1) := by decide +kernel
theorem dX7_day_5 : decode cX7_day 5 = .ok (.sipush 9999, 3) := by decide +kernel
theorem dX7_day_8 : decode cX7_day 8 = .ok (.if_icmp .gt 23, 3) := by decide +kernel
theorem dX7_day_11 : decode cX7_day 11 = .ok (.iload_n 2, 1) := by decide +kernel
theorem dX7_day_12 : decode cX7_day 12 = .ok (.iconst 1, 1) := by decide +kernel
theorem dX7_day_13 : decode cX7_day 13 = .ok (.if_icmp .lt 18, 3) := by decide +kernel
theorem dX7_day_16 : decode cX7_day 16 = .ok (.iload_n 2, 1) := by decide +kernel
theorem dX7_day_17 : decode cX7_day 17 = .ok (.bipush 60, 2) := by decide +kernel
theorem dX7_day_19 : decode cX7_day 19 = .ok (.if_icmp .gt 12, 3) := by decide +kernel
theorem dX7_day_22 : decode cX7_day 22 = .ok (.iload_n 3, 1) := by decide +kernel
theorem dX7_day_23 : decode cX7_day 23 = .ok (.ifCond .lt 8, 3) := by decide +kernel
theorem dX7_day_26 : decode cX7_day 26 = .ok (.iload_n 3, 1) := by decide +kernel
theorem dX7_day_27 : decode cX7_day 27 = .ok (.iconst 1, 1) := by decide +kernel
theorem dX7_day_28 : decode cX7_day 28 = .ok (.if_icmp .le 5, 3) := by decide +kernel
theorem dX7_day_31 : decode cX7_day 31 = .ok (.iconst (-1), 1) := by decide +kernel
theorem dX7_day_32 : decode cX7_day 32 = .ok (.ireturn, 1) := by decide +kernel
theorem dX7_day_33 : decode cX7_day 33 = .ok (.aload_n 0, 1) := by decide +kernel
theorem dX7_day_34 : decode cX7_day 34 = .ok (.getfield 26, 3) := by decide +kernel
theorem dX7_day_37 : decode cX7_day 37 = .ok (.iload_n 1, 1) := by decide +kernel
theorem dX7_day_38 : decode cX7_day 38 = .ok (.iload_n 2, 1) := by decide +kernel
theorem dX7_day_39 : decode cX7_day 39 = .ok (.invokevirtual 227, 3) := by decide +kernel
theorem dX7_day_42 : decode cX7_day 42 = .ok (.astore 4, 2) := by decide +kernel
theorem dX7_day_44 : decode cX7_day 44 = .ok (.iload_n 3, 1) := by decide +kernel
theorem dX7_day_45 : decode cX7_day 45 = .ok (.ifCond .ne 12, 3) := by decide +kernel
theorem dX7_day_48 : decode cX7_day 48 = .ok (.aload 4, 2) := by decide +kernel
theorem dX7_day_50 : decode cX7_day 50 = .ok (.iconst 3, 1) := by decide +kernel
theorem dX7_day_51 : decode cX7_day 51 = .ok (.invokevirtual 137, 3) := by decide +kernel
theorem dX7_day_54 : decode cX7_day 54 = .ok (.goto 16, 3) := by decide +kernel
theorem dX7_day_57 : decode cX7_day 57 = .ok (.aload 4, 2) := by decide +kernel
theorem dX7_day_59 : decode cX7_day 59 = .ok (.getfield 200, 3) := by decide +kernel
theorem dX7_day_62 : decode cX7_day 62 = .ok (.aload_n 0, 1) := by decide +kernel
theorem dX7_day_63 : decode cX7_day 63 = .ok (.getfield 38, 3) := by decide +kernel
theorem dX7_day_66 : decode cX7_day 66 = .ok (.getfield 200, 3) := by decide +kernel
theorem dX7_day_69 : decode cX7_day 69 = .ok (.isub, 1) := by decide +kernel
theorem dX7_day_70 : decode cX7_day 70 = .ok (.ireturn, 1) := by decide +kernel
theorem dX7_keep_0 : decode cX7_keep 0 = .ok (.aload_n 0, 1) := by decide +kernel
theorem dX7_keep_1 : decode cX7_keep 1 = .ok (.getfield 55, 3) := by decide +kernel
theorem dX7_keep_4 : decode cX7_keep 4 = .ok (.getfield 162, 3) := by decide +kernel
theorem dX7_keep_7 : decode cX7_keep 7 = .ok (.iconst 2, 1) := by decide +kernel
theorem dX7_keep_8 : decode cX7_keep 8 = .ok (.if_icmp .lt 6, 3) := by decide +kernel
theorem dX7_keep_11 : decode cX7_keep 11 = .ok (.bipush (-3), 2) := by decide +kernel
theorem dX7_keep_13 : decode cX7_keep 13 = .ok (.ireturn, 1) := by decide +kernel
theorem dX7_keep_14 : decode cX7_keep 14 = .ok (.aload_n 0, 1) := by decide +kernel
theorem dX7_keep_15 : decode cX7_keep 15 = .ok (.getfield 55, 3) := by decide +kernel
theorem dX7_keep_18 : decode cX7_keep 18 = .ok (.aload_n 0, 1) := by decide +kernel
theorem dX7_keep_19 : decode cX7_keep 19 = .ok (.getfield 38, 3) := by decide +kernel
theorem dX7_keep_22 : decode cX7_keep 22 = .ok (.invokevirtual 129, 3) := by decide +kernel
theorem dX7_keep_25 : decode cX7_keep 25 = .ok (.aload_n 0, 1) := by decide +kernel
theorem dX7_keep_26 : decode cX7_keep 26 = .ok (.getfield 55, 3) := by decide +kernel
theorem dX7_keep_29 : decode cX7_keep 29 = .ok (.getfield 162, 3) := by decide +kernel
theorem dX7_keep_32 : decode cX7_keep 32 = .ok (.ireturn, 1) := by decide +kernel
theorem dX7_back_0 : decode cX7_back 0 = .ok (.aload_n 0, 1) := by decide +kernel
theorem dX7_back_1 : decode cX7_back 1 = .ok (.getfield 55, 3) := by decide +kernel
theorem dX7_back_4 : decode cX7_back 4 = .ok (.aload_n 0, 1) := by decide +kernel
theorem dX7_back_5 : decode cX7_back 5 = .ok (.getfield 38, 3) := by decide +kernel
theorem dX7_back_8 : decode cX7_back 8 = .ok (.invokevirtual 158, 3) := by decide +kernel
theorem dX7_back_11 : decode cX7_back 11 = .ok (.ifCond .ne 6, 3) := by decide +kernel
theorem dX7_back_14 : decode cX7_back 14 = .ok (.bipush (-2), 2) := by decide +kernel
theorem dX7_back_16 : decode cX7_back 16 = .ok (.ireturn, 1) := by decide +kernel
theorem dX7_back_17 : decode cX7_back 17 = .ok (.aload_n 0, 1) := by decide +kernel
theorem dX7_back_18 : decode cX7_back 18 = .ok (.getfield 51, 3) := by decide +kernel
theorem dX7_back_21 : decode cX7_back 21 = .ok (.invokevirtual 97, 3) := by decide +kernel
theorem dX7_back_24 : decode cX7_back 24 = .ok (.aload_n 0, 1) := by decide +kernel
theorem dX7_back_25 : decode cX7_back 25 = .ok (.getfield 55, 3) := by decide +kernel
theorem dX7_back_28 : decode cX7_back 28 = .ok (.getfield 162, 3) := by decide +kernel
theorem dX7_back_31 : decode cX7_back 31 = .ok (.ireturn, 1) := by decide +kernel
theorem dX7_count_0 : decode cX7_count 0 = .ok (.iload_n 1, 1) := by decide +kernel
theorem dX7_count_1 : decode cX7_count 1 = .ok (.tableswitch 137 0 9 #[55, 63, 71, 79, 88, 97, 105, 113, 121, 129], 55) := by decide +kernel
theorem dX7_count_56 : decode cX7_count 56 = .ok (.aload_n 0, 1) := by decide +kernel
theorem dX7_count_57 : decode cX7_count 57 = .ok (.getfield 33, 3) := by decide +kernel
theorem dX7_count_60 : decode cX7_count 60 = .ok (.getfield 84, 3) := by decide +kernel
theorem dX7_count_63 : decode cX7_count 63 = .ok (.ireturn, 1) := by decide +kernel
theorem dX7_count_64 : decode cX7_count 64 = .ok (.aload_n 0, 1) := by decide +kernel
theorem dX7_count_65 : decode cX7_count 65 = .ok (.getfield 38, 3) := by decide +kernel
theorem dX7_count_68 : decode cX7_count 68 = .ok (.getfield 231, 3) := by decide +kernel
theorem dX7_count_71 : decode cX7_count 71 = .ok (.ireturn, 1) := by decide +kernel
theorem dX7_count_72 : decode cX7_count 72 = .ok (.aload_n 0, 1) := by decide +kernel
theorem dX7_count_73 : decode cX7_count 73 = .ok (.getfield 38, 3) := by decide +kernel
theorem dX7_count_76 : decode cX7_count 76 = .ok (.getfield 149, 3) := by decide +kernel
theorem dX7_count_79 : decode cX7_count 79 = .ok (.ireturn, 1) := by decide +kernel
theorem dX7_count_80 : decode cX7_count 80 = .ok (.aload_n 0, 1) := by decide +kernel
theorem dX7_count_81 : decode cX7_count 81 = .ok (.getfield 38, 3) := by decide +kernel
theorem dX7_count_84 : decode cX7_count 84 = .ok (.iconst 2, 1) := by decide +kernel
theorem dX7_count_85 : decode cX7_count 85 = .ok (.invokevirtual 137, 3) := by decide +kernel
theorem dX7_count_88 : decode cX7_count 88 = .ok (.ireturn, 1) := by decide +kernel
theorem dX7_count_89 : decode cX7_count 89 = .ok (.aload_n 0, 1) := by decide +kernel
theorem dX7_count_90 : decode cX7_count 90 = .ok (.getfield 38, 3) := by decide +kernel
theorem dX7_count_93 : decode cX7_count 93 = .ok (.iconst 3, 1) := by decide +kernel
theorem dX7_count_94 : decode cX7_count 94 = .ok (.invokevirtual 137, 3) := by decide +kernel
theorem dX7_count_97 : decode cX7_count 97 = .ok (.ireturn, 1) := by decide +kernel
theorem dX7_count_98 : decode cX7_count 98 = .ok (.aload_n 0, 1) := by decide +kernel
theorem dX7_count_99 : decode cX7_count 99 = .ok (.getfield 38, 3) := by decide +kernel
theorem dX7_count_102 : decode cX7_count 102 = .ok (.getfield 234, 3) := by decide +kernel
theorem dX7_count_105 : decode cX7_count 105 = .ok (.ireturn, 1) := by decide +kernel
theorem dX7_count_106 : decode cX7_count 106 = .ok (.aload_n 0, 1) := by decide +kernel
theorem dX7_count_107 : decode cX7_count 107 = .ok (.getfield 42, 3) := by decide +kernel
theorem dX7_count_110 : decode cX7_count 110 = .ok (.getfield 207, 3) := by decide +kernel
theorem dX7_count_113 : decode cX7_count 113 = .ok (.ireturn, 1) := by decide +kernel
theorem dX7_count_114 : decode cX7_count 114 = .ok (.aload_n 0, 1) := by decide +kernel
theorem dX7_count_115 : decode cX7_count 115 = .ok (.getfield 51, 3) := by decide +kernel
theorem dX7_count_118 : decode cX7_count 118 = .ok (.getfield 162, 3) := by decide +kernel
theorem dX7_count_121 : decode cX7_count 121 = .ok (.ireturn, 1) := by decide +kernel
theorem dX7_count_122 : decode cX7_count 122 = .ok (.aload_n 0, 1) := by decide +kernel
theorem dX7_count_123 : decode cX7_count 123 = .ok (.getfield 55, 3) := by decide +kernel
theorem dX7_count_126 : decode cX7_count 126 = .ok (.getfield 162, 3) := by decide +kernel
theorem dX7_count_129 : decode cX7_count 129 = .ok (.ireturn, 1) := by decide +kernel
theorem dX7_count_130 : decode cX7_count 130 = .ok (.aload_n 0, 1) := by decide +kernel
theorem dX7_count_131 : decode cX7_count 131 = .ok (.getfield 10, 3) := by decide +kernel
theorem dX7_count_134 : decode cX7_count 134 = .ok (.getfield 81, 3) := by decide +kernel
theorem dX7_count_137 : decode cX7_count 137 = .ok (.ireturn, 1) := by decide +kernel
theorem dX7_count_138 : decode cX7_count 138 = .ok (.iconst (-1), 1) := by decide +kernel
theorem dX7_count_139 : decode cX7_count 139 = .ok (.ireturn, 1) := by decide +kernel
theorem dX7_power_0 : decode cX7_power 0 = .ok (.iconst 1, 1) := by decide +kernel
theorem dX7_power_1 : decode cX7_power 1 = .ok (.istore_n 2, 1) := by decide +kernel
theorem dX7_power_2 : decode cX7_power 2 = .ok (.iconst 0, 1) := by decide +kernel
theorem dX7_power_3 : decode cX7_power 3 = .ok (.istore_n 3, 1) := by decide +kernel
theorem dX7_power_4 : decode cX7_power 4 = .ok (.iload_n 3, 1) := by decide +kernel
theorem dX7_power_5 : decode cX7_power 5 = .ok (.iload_n 1, 1) := by decide +kernel
theorem dX7_power_6 : decode cX7_power 6 = .ok (.if_icmp .ge 13, 3) := by decide +kernel
theorem dX7_power_9 : decode cX7_power 9 = .ok (.iload_n 2, 1) := by decide +kernel
theorem dX7_power_10 : decode cX7_power 10 = .ok (.iload_n 0, 1) := by decide +kernel
theorem dX7_power_11 : decode cX7_power 11 = .ok (.imul, 1) := by decide +kernel
theorem dX7_power_12 : decode cX7_power 12 = .ok (.istore_n 2, 1) := by decide +kernel
theorem dX7_power_13 : decode cX7_power 13 = .ok (.iinc 3 1, 3) := by decide +kernel
theorem dX7_power_16 : decode cX7_power 16 = .ok (.goto (-12), 3) := by decide +kernel
theorem dX7_power_19 : decode cX7_power 19 = .ok (.iload_n 2, 1) := by decide +kernel
theorem dX7_power_20 : decode cX7_power 20 = .ok (.ireturn, 1) := by decide +kernel
theorem dX7_greatestDivisor_0 : decode cX7_greatestDivisor 0 = .ok (.iload_n 0, 1) := by decide +kernel
theorem dX7_greatestDivisor_1 : decode cX7_greatestDivisor 1 = .ok (.istore_n 2, 1) := by decide +kernel
theorem dX7_greatestDivisor_2 : decode cX7_greatestDivisor 2 = .ok (.iload_n 1, 1) := by decide +kernel
theorem dX7_greatestDivisor_3 : decode cX7_greatestDivisor 3 = .ok (.istore_n 3, 1) := by decide +kernel
theorem dX7_greatestDivisor_4 : decode cX7_greatestDivisor 4 = .ok (.iconst 0, 1) := by decide +kernel
theorem dX7_greatestDivisor_5 : decode cX7_greatestDivisor 5 = .ok (.istore 4, 2) := by decide +kernel
theorem dX7_greatestDivisor_7 : decode cX7_greatestDivisor 7 = .ok (.iload 4, 2) := by decide +kernel
theorem dX7_greatestDivisor_9 : decode cX7_greatestDivisor 9 = .ok (.bipush 100, 2) := by decide +kernel
theorem dX7_greatestDivisor_11 : decode cX7_greatestDivisor 11 = .ok (.if_icmp .ge 23, 3) := by decide +kernel
theorem dX7_greatestDivisor_14 : decode cX7_greatestDivisor 14 = .ok (.iload_n 3, 1) := by decide +kernel
theorem dX7_greatestDivisor_15 : decode cX7_greatestDivisor 15 = .ok (.ifCond .eq 19, 3) := by decide +kernel
theorem dX7_greatestDivisor_18 : decode cX7_greatestDivisor 18 = .ok (.iload_n 2, 1) := by decide +kernel
theorem dX7_greatestDivisor_19 : decode cX7_greatestDivisor 19 = .ok (.iload_n 3, 1) := by decide +kernel
theorem dX7_greatestDivisor_20 : decode cX7_greatestDivisor 20 = .ok (.irem, 1) := by decide +kernel
theorem dX7_greatestDivisor_21 : decode cX7_greatestDivisor 21 = .ok (.istore 5, 2) := by decide +kernel
theorem dX7_greatestDivisor_23 : decode cX7_greatestDivisor 23 = .ok (.iload_n 3, 1) := by decide +kernel
theorem dX7_greatestDivisor_24 : decode cX7_greatestDivisor 24 = .ok (.istore_n 2, 1) := by decide +kernel
theorem dX7_greatestDivisor_25 : decode cX7_greatestDivisor 25 = .ok (.iload 5, 2) := by decide +kernel
theorem dX7_greatestDivisor_27 : decode cX7_greatestDivisor 27 = .ok (.istore_n 3, 1) := by decide +kernel
theorem dX7_greatestDivisor_28 : decode cX7_greatestDivisor 28 = .ok (.iinc 4 1, 3) := by decide +kernel
theorem dX7_greatestDivisor_31 : decode cX7_greatestDivisor 31 = .ok (.goto (-24), 3) := by decide +kernel
theorem dX7_greatestDivisor_34 : decode cX7_greatestDivisor 34 = .ok (.iload_n 2, 1) := by decide +kernel
theorem dX7_greatestDivisor_35 : decode cX7_greatestDivisor 35 = .ok (.ireturn, 1) := by decide +kernel
theorem dX8_init_0 : decode cX8_init 0 = .ok (.aload_n 0, 1) := by decide +kernel
theorem dX8_init_1 : decode cX8_init 1 = .ok (.invokespecial 1, 3) := by decide +kernel
theorem dX8_init_4 : decode cX8_init 4 = .ok (.aload_n 0, 1) := by decide +kernel
theorem dX8_init_5 : decode cX8_init 5 = .ok (.sipush 792, 3) := by decide +kernel
theorem dX8_init_8 : decode cX8_init 8 = .ok (.newarray .int, 2) := by decide +kernel
theorem dX8_init_10 : decode cX8_init 10 = .ok (.putfield 7, 3) := by decide +kernel
theorem dX8_init_13 : decode cX8_init 13 = .ok (.aload_n 0, 1) := by decide +kernel
theorem dX8_init_14 : decode cX8_init 14 = .ok (.bipush 9, 2) := by decide +kernel
theorem dX8_init_16 : decode cX8_init 16 = .ok (.newarray .int, 2) := by decide +kernel
theorem dX8_init_18 : decode cX8_init 18 = .ok (.putfield 13, 3) := by decide +kernel
theorem dX8_init_21 : decode cX8_init 21 = .ok (.aload_n 0, 1) := by decide +kernel
theorem dX8_init_22 : decode cX8_init 22 = .ok (.bipush 6, 2) := by decide +kernel
theorem dX8_init_24 : decode cX8_init 24 = .ok (.newarray .int, 2) := by decide +kernel
theorem dX8_init_26 : decode cX8_init 26 = .ok (.putfield 16, 3) := by decide +kernel
theorem dX8_init_29 : decode cX8_init 29 = .ok (.aload_n 0, 1) := by decide +kernel
theorem dX8_init_30 : decode cX8_init 30 = .ok (.bipush 6, 2) := by decide +kernel
theorem dX8_init_32 : decode cX8_init 32 = .ok (.newarray .int, 2) := by decide +kernel
theorem dX8_init_34 : decode cX8_init 34 = .ok (.putfield 19, 3) := by decide +kernel
theorem dX8_init_37 : decode cX8_init 37 = .ok (.aload_n 0, 1) := by decide +kernel
theorem dX8_init_38 : decode cX8_init 38 = .ok (.bipush 6, 2) := by decide +kernel
theorem dX8_init_40 : decode cX8_init 40 = .ok (.newarray .boolean, 2) := by decide +kernel
theorem dX8_init_42 : decode cX8_init 42 = .ok (.putfield 22, 3) := by decide +kernel
theorem dX8_init_45 : decode cX8_init 45 = .ok (.aload_n 0, 1) := by decide +kernel
theorem dX8_init_46 : decode cX8_init 46 = .ok (.sipush 200, 3) := by decide +kernel
end
section
theorem dX8_init_49 : decode cX8_init 49 = .ok (.newarray .int, 2) := by decide +kernel
theorem dX8_init_51 : decode cX8_init 51 = .ok (.putfield 26, 3) := by decide +kernel
theorem dX8_init_54 : decode cX8_init 54 = .ok (.aload_n 0, 1) := by decide +kernel
theorem dX8_init_55 : decode cX8_init 55 = .ok (.bipush 9, 2) := by decide +kernel
theorem dX8_init_57 : decode cX8_init 57 = .ok (.newarray .int, 2) := by decide +kernel
theorem dX8_init_59 : decode cX8_init 59 = .ok (.putfield 29, 3) := by decide +kernel
theorem dX8_init_62 : decode cX8_init 62 = .ok (.aload_n 0, 1) := by decide +kernel
theorem dX8_init_63 : decode cX8_init 63 = .ok (.bipush 9, 2) := by decide +kernel
theorem dX8_init_65 : decode cX8_init 65 = .ok (.newarray .int, 2) := by decide +kernel
theorem dX8_init_67 : decode cX8_init 67 = .ok (.putfield 32, 3) := by decide +kernel
theorem dX8_init_70 : decode cX8_init 70 = .ok (.aload_n 0, 1) := by decide +kernel
theorem dX8_init_71 : decode cX8_init 71 = .ok (.bipush 9, 2) := by decide +kernel
theorem dX8_init_73 : decode cX8_init 73 = .ok (.newarray .int, 2) := by decide +kernel
theorem dX8_init_75 : decode cX8_init 75 = .ok (.putfield 35, 3) := by decide +kernel
theorem dX8_init_78 : decode cX8_init 78 = .ok (.aload_n 0, 1) := by decide +kernel
theorem dX8_init_79 : decode cX8_init 79 = .ok (.iconst 5, 1) := by decide +kernel
theorem dX8_init_80 : decode cX8_init 80 = .ok (.newarray .int, 2) := by decide +kernel
theorem dX8_init_82 : decode cX8_init 82 = .ok (.putfield 38, 3) := by decide +kernel
theorem dX8_init_85 : decode cX8_init 85 = .ok (.aload_n 0, 1) := by decide +kernel
theorem dX8_init_86 : decode cX8_init 86 = .ok (.iconst 5, 1) := by decide +kernel
theorem dX8_init_87 : decode cX8_init 87 = .ok (.newarray .int, 2) := by decide +kernel
theorem dX8_init_89 : decode cX8_init 89 = .ok (.putfield 41, 3) := by decide +kernel
theorem dX8_init_92 : decode cX8_init 92 = .ok (.aload_n 0, 1) := by decide +kernel
theorem dX8_init_93 : decode cX8_init 93 = .ok (.iconst 5, 1) := by decide +kernel
theorem dX8_init_94 : decode cX8_init 94 = .ok (.newarray .int, 2) := by decide +kernel
theorem dX8_init_96 : decode cX8_init 96 = .ok (.putfield 44, 3) := by decide +kernel
theorem dX8_init_99 : decode cX8_init 99 = .ok (.aload_n 0, 1) := by decide +kernel
theorem dX8_init_100 : decode cX8_init 100 = .ok (.iconst 0, 1) := by decide +kernel
theorem dX8_init_101 : decode cX8_init 101 = .ok (.putfield 47, 3) := by decide +kernel
theorem dX8_init_104 : decode cX8_init 104 = .ok (.aload_n 0, 1) := by decide +kernel
theorem dX8_init_105 : decode cX8_init 105 = .ok (.iconst 0, 1) := by decide +kernel
theorem dX8_init_106 : decode cX8_init 106 = .ok (.iconst 0, 1) := by decide +kernel
theorem dX8_init_107 : decode cX8_init 107 = .ok (.iconst 0, 1) := by decide +kernel
theorem dX8_init_108 : decode cX8_init 108 = .ok (.invokevirtual 51, 3) := by decide +kernel
theorem dX8_init_111 : decode cX8_init 111 = .ok (.aload_n 0, 1) := by decide +kernel
theorem dX8_init_112 : decode cX8_init 112 = .ok (.iconst 1, 1) := by decide +kernel
theorem dX8_init_113 : decode cX8_init 113 = .ok (.iconst 0, 1) := by decide +kernel
theorem dX8_init_114 : decode cX8_init 114 = .ok (.iconst 1, 1) := by decide +kernel
theorem dX8_init_115 : decode cX8_init 115 = .ok (.invokevirtual 51, 3) := by decide +kernel
theorem dX8_init_118 : decode cX8_init 118 = .ok (.aload_n 0, 1) := by decide +kernel
theorem dX8_init_119 : decode cX8_init 119 = .ok (.iconst 0, 1) := by decide +kernel
theorem dX8_init_120 : decode cX8_init 120 = .ok (.iconst 1, 1) := by decide +kernel
theorem dX8_init_121 : decode cX8_init 121 = .ok (.iconst 1, 1) := by decide +kernel
theorem dX8_init_122 : decode cX8_init 122 = .ok (.invokevirtual 51, 3) := by decide +kernel
theorem dX8_init_125 : decode cX8_init 125 = .ok (.aload_n 0, 1) := by decide +kernel
theorem dX8_init_126 : decode cX8_init 126 = .ok (.iconst 2, 1) := by decide +kernel
theorem dX8_init_127 : decode cX8_init 127 = .ok (.iconst 2, 1) := by decide +kernel
theorem dX8_init_128 : decode cX8_init 128 = .ok (.iconst 0, 1) := by decide +kernel
theorem dX8_init_129 : decode cX8_init 129 = .ok (.invokevirtual 51, 3) := by decide +kernel
theorem dX8_init_132 : decode cX8_init 132 = .ok (.aload_n 0, 1) := by decide +kernel
theorem dX8_init_133 : decode cX8_init 133 = .ok (.iconst 0, 1) := by decide +kernel
theorem dX8_init_134 : decode cX8_init 134 = .ok (.iconst 3, 1) := by decide +kernel
theorem dX8_init_135 : decode cX8_init 135 = .ok (.iconst 2, 1) := by decide +kernel
theorem dX8_init_136 : decode cX8_init 136 = .ok (.invokevirtual 51, 3) := by decide +kernel
theorem dX8_init_139 : decode cX8_init 139 = .ok (.aload_n 0, 1) := by decide +kernel
theorem dX8_init_140 : decode cX8_init 140 = .ok (.iconst 3, 1) := by decide +kernel
theorem dX8_init_141 : decode cX8_init 141 = .ok (.iconst 4, 1) := by decide +kernel
theorem dX8_init_142 : decode cX8_init 142 = .ok (.iconst 2, 1) := by decide +kernel
theorem dX8_init_143 : decode cX8_init 143 = .ok (.invokevirtual 51, 3) := by decide +kernel
theorem dX8_init_146 : decode cX8_init 146 = .ok (.aload_n 0, 1) := by decide +kernel
theorem dX8_init_147 : decode cX8_init 147 = .ok (.iconst 1, 1) := by decide +kernel
theorem dX8_init_148 : decode cX8_init 148 = .ok (.bipush 6, 2) := by decide +kernel
theorem dX8_init_150 : decode cX8_init 150 = .ok (.iconst 0, 1) := by decide +kernel
theorem dX8_init_151 : decode cX8_init 151 = .ok (.invokevirtual 51, 3) := by decide +kernel
theorem dX8_init_154 : decode cX8_init 154 = .ok (.aload_n 0, 1) := by decide +kernel
theorem dX8_init_155 : decode cX8_init 155 = .ok (.iconst 0, 1) := by decide +kernel
theorem dX8_init_156 : decode cX8_init 156 = .ok (.bipush 8, 2) := by decide +kernel
theorem dX8_init_158 : decode cX8_init 158 = .ok (.iconst 0, 1) := by decide +kernel
theorem dX8_init_159 : decode cX8_init 159 = .ok (.invokevirtual 51, 3) := by decide +kernel
theorem dX8_init_162 : decode cX8_init 162 = .ok (.aload_n 0, 1) := by decide +kernel
theorem dX8_init_163 : decode cX8_init 163 = .ok (.iconst 2, 1) := by decide +kernel
theorem dX8_init_164 : decode cX8_init 164 = .ok (.bipush 9, 2) := by decide +kernel
theorem dX8_init_166 : decode cX8_init 166 = .ok (.iconst 1, 1) := by decide +kernel
theorem dX8_init_167 : decode cX8_init 167 = .ok (.invokevirtual 51, 3) := by decide +kernel
theorem dX8_init_170 : decode cX8_init 170 = .ok (.aload_n 0, 1) := by decide +kernel
theorem dX8_init_171 : decode cX8_init 171 = .ok (.iconst 3, 1) := by decide +kernel
theorem dX8_init_172 : decode cX8_init 172 = .ok (.putfield 55, 3) := by decide +kernel
theorem dX8_init_175 : decode cX8_init 175 = .ok (.aload_n 0, 1) := by decide +kernel
theorem dX8_init_176 : decode cX8_init 176 = .ok (.bipush 20, 2) := by decide +kernel
theorem dX8_init_178 : decode cX8_init 178 = .ok (.putfield 58, 3) := by decide +kernel
theorem dX8_init_181 : decode cX8_init 181 = .ok (.aload_n 0, 1) := by decide +kernel
theorem dX8_init_182 : decode cX8_init 182 = .ok (.bipush 7, 2) := by decide +kernel
theorem dX8_init_184 : decode cX8_init 184 = .ok (.putfield 61, 3) := by decide +kernel
theorem dX8_init_187 : decode cX8_init 187 = .ok (.aload_n 0, 1) := by decide +kernel
theorem dX8_init_188 : decode cX8_init 188 = .ok (.invokevirtual 64, 3) := by decide +kernel
theorem dX8_init_191 : decode cX8_init 191 = .ok (.return_, 1) := by decide +kernel
theorem dX8_in_0 : decode cX8_in 0 = .ok (.lload_n 0, 1) := by decide +kernel
theorem dX8_in_1 : decode cX8_in 1 = .ok (.lload_n 2, 1) := by decide +kernel
theorem dX8_in_2 : decode cX8_in 2 = .ok (.lcmp, 1) := by decide +kernel
theorem dX8_in_3 : decode cX8_in 3 = .ok (.ifCond .lt 14, 3) := by decide +kernel
theorem dX8_in_6 : decode cX8_in 6 = .ok (.lload_n 0, 1) := by decide +kernel
theorem dX8_in_7 : decode cX8_in 7 = .ok (.lload 4, 2) := by decide +kernel
theorem dX8_in_9 : decode cX8_in 9 = .ok (.lcmp, 1) := by decide +kernel
theorem dX8_in_10 : decode cX8_in 10 = .ok (.ifCond .gt 7, 3) := by decide +kernel
theorem dX8_in_13 : decode cX8_in 13 = .ok (.iconst 1, 1) := by decide +kernel
theorem dX8_in_14 : decode cX8_in 14 = .ok (.goto 4, 3) := by decide +kernel
theorem dX8_in_17 : decode cX8_in 17 = .ok (.iconst 0, 1) := by decide +kernel
theorem dX8_in_18 : decode cX8_in 18 = .ok (.ireturn, 1) := by decide +kernel
theorem dX8_isIn_0 : decode cX8_isIn 0 = .ok (.iload_n 0, 1) := by decide +kernel
theorem dX8_isIn_1 : decode cX8_isIn 1 = .ok (.iload_n 1, 1) := by decide +kernel
theorem dX8_isIn_2 : decode cX8_isIn 2 = .ok (.ishr, 1) := by decide +kernel
theorem dX8_isIn_3 : decode cX8_isIn 3 = .ok (.iconst 1, 1) := by decide +kernel
theorem dX8_isIn_4 : decode cX8_isIn 4 = .ok (.iand, 1) := by decide +kernel
theorem dX8_isIn_5 : decode cX8_isIn 5 = .ok (.iconst 1, 1) := by decide +kernel
theorem dX8_isIn_6 : decode cX8_isIn 6 = .ok (.if_icmp .ne 7, 3) := by decide +kernel
theorem dX8_isIn_9 : decode cX8_isIn 9 = .ok (.iconst 1, 1) := by decide +kernel
theorem dX8_isIn_10 : decode cX8_isIn 10 = .ok (.goto 4, 3) := by decide +kernel
theorem dX8_isIn_13 : decode cX8_isIn 13 = .ok (.iconst 0, 1) := by decide +kernel
theorem dX8_isIn_14 : decode cX8_isIn 14 = .ok (.ireturn, 1) := by decide +kernel
theorem dX8_copy_0 : decode cX8_copy 0 = .ok (.iconst 0, 1) := by decide +kernel
theorem dX8_copy_1 : decode cX8_copy 1 = .ok (.istore_n 3, 1) := by decide +kernel
theorem dX8_copy_2 : decode cX8_copy 2 = .ok (.iload_n 3, 1) := by decide +kernel
theorem dX8_copy_3 : decode cX8_copy 3 = .ok (.bipush 66, 2) := by decide +kernel
theorem dX8_copy_5 : decode cX8_copy 5 = .ok (.if_icmp .ge 25, 3) := by decide +kernel
theorem dX8_copy_8 : decode cX8_copy 8 = .ok (.aload_n 0, 1) := by decide +kernel
theorem dX8_copy_9 : decode cX8_copy 9 = .ok (.getfield 7, 3) := by decide +kernel
theorem dX8_copy_12 : decode cX8_copy 12 = .ok (.iload_n 2, 1) := by decide +kernel
theorem dX8_copy_13 : decode cX8_copy 13 = .ok (.iload_n 3, 1) := by decide +kernel
theorem dX8_copy_14 : decode cX8_copy 14 = .ok (.iadd, 1) := by decide +kernel
theorem dX8_copy_15 : decode cX8_copy 15 = .ok (.aload_n 0, 1) := by decide +kernel
theorem dX8_copy_16 : decode cX8_copy 16 = .ok (.getfield 7, 3) := by decide +kernel
theorem dX8_copy_19 : decode cX8_copy 19 = .ok (.iload_n 1, 1) := by decide +kernel
theorem dX8_copy_20 : decode cX8_copy 20 = .ok (.iload_n 3, 1) := by decide +kernel
theorem dX8_copy_21 : decode cX8_copy 21 = .ok (.iadd, 1) := by decide +kernel
theorem dX8_copy_22 : decode cX8_copy 22 = .ok (.iaload, 1) := by decide +kernel
theorem dX8_copy_23 : decode cX8_copy 23 = .ok (.iastore, 1) := by decide +kernel
theorem dX8_copy_24 : decode cX8_copy 24 = .ok (.iinc 3 1, 3) := by decide +kernel
theorem dX8_copy_27 : decode cX8_copy 27 = .ok (.goto (-25), 3) := by decide +kernel
theorem dX8_copy_30 : decode cX8_copy 30 = .ok (.return_, 1) := by decide +kernel
theorem dX8_isPerson_0 : decode cX8_isPerson 0 = .ok (.iload_n 1, 1) := by decide +kernel
theorem dX8_isPerson_1 : decode cX8_isPerson 1 = .ok (.i2l, 1) := by decide +kernel
theorem dX8_isPerson_2 : decode cX8_isPerson 2 = .ok (.lconst 0, 1) := by decide +kernel
theorem dX8_isPerson_3 : decode cX8_isPerson 3 = .ok (.aload_n 0, 1) := by decide +kernel
theorem dX8_isPerson_4 : decode cX8_isPerson 4 = .ok (.getfield 67, 3) := by decide +kernel
theorem dX8_isPerson_7 : decode cX8_isPerson 7 = .ok (.iconst 1, 1) := by decide +kernel
theorem dX8_isPerson_8 : decode cX8_isPerson 8 = .ok (.isub, 1) := by decide +kernel
theorem dX8_isPerson_9 : decode cX8_isPerson 9 = .ok (.i2l, 1) := by decide +kernel
theorem dX8_isPerson_10 : decode cX8_isPerson 10 = .ok (.invokestatic 70, 3) := by decide +kernel
theorem dX8_isPerson_13 : decode cX8_isPerson 13 = .ok (.ireturn, 1) := by decide +kernel
theorem dX8_adds_0 : decode cX8_adds 0 = .ok (.aload_n 0, 1) := by decide +kernel
theorem dX8_adds_1 : decode cX8_adds 1 = .ok (.getfield 29, 3) := by decide +kernel
theorem dX8_adds_4 : decode cX8_adds 4 = .ok (.aload_n 0, 1) := by decide +kernel
theorem dX8_adds_5 : decode cX8_adds 5 = .ok (.getfield 47, 3) := by decide +kernel
theorem dX8_adds_8 : decode cX8_adds 8 = .ok (.iload_n 1, 1) := by decide +kernel
theorem dX8_adds_9 : decode cX8_adds 9 = .ok (.iastore, 1) := by decide +kernel
theorem dX8_adds_10 : decode cX8_adds 10 = .ok (.aload_n 0, 1) := by decide +kernel
theorem dX8_adds_11 : decode cX8_adds 11 = .ok (.getfield 32, 3) := by decide +kernel
theorem dX8_adds_14 : decode cX8_adds 14 = .ok (.aload_n 0, 1) := by decide +kernel
theorem dX8_adds_15 : decode cX8_adds 15 = .ok (.getfield 47, 3) := by decide +kernel
theorem dX8_adds_18 : decode cX8_adds 18 = .ok (.iload_n 2, 1) := by decide +kernel
theorem dX8_adds_19 : decode cX8_adds 19 = .ok (.iastore, 1) := by decide +kernel
theorem dX8_adds_20 : decode cX8_adds 20 = .ok (.aload_n 0, 1) := by decide +kernel
theorem dX8_adds_21 : decode cX8_adds 21 = .ok (.getfield 35, 3) := by decide +kernel
theorem dX8_adds_24 : decode cX8_adds 24 = .ok (.aload_n 0, 1) := by decide +kernel
theorem dX8_adds_25 : decode cX8_adds 25 = .ok (.getfield 47, 3) := by decide +kernel
theorem dX8_adds_28 : decode cX8_adds 28 = .ok (.iload_n 3, 1) := by decide +kernel
theorem dX8_adds_29 : decode cX8_adds 29 = .ok (.iastore, 1) := by decide +kernel
theorem dX8_adds_30 : decode cX8_adds 30 = .ok (.aload_n 0, 1) := by decide +kernel
theorem dX8_adds_31 : decode cX8_adds 31 = .ok (.dup, 1) := by decide +kernel
theorem dX8_adds_32 : decode cX8_adds 32 = .ok (.getfield 47, 3) := by decide +kernel
theorem dX8_adds_35 : decode cX8_adds 35 = .ok (.iconst 1, 1) := by decide +kernel
theorem dX8_adds_36 : decode cX8_adds 36 = .ok (.iadd, 1) := by decide +kernel
theorem dX8_adds_37 : decode cX8_adds 37 = .ok (.putfield 47, 3) := by decide +kernel
theorem dX8_adds_40 : decode cX8_adds 40 = .ok (.return_, 1) := by decide +kernel
theorem dX8_begins_0 : decode cX8_begins 0 = .ok (.aload_n 0, 1) := by decide +kernel
theorem dX8_begins_1 : decode cX8_begins 1 = .ok (.aload_n 0, 1) := by decide +kernel
theorem dX8_begins_2 : decode cX8_begins 2 = .ok (.getfield 47, 3) := by decide +kernel
theorem dX8_begins_5 : decode cX8_begins 5 = .ok (.putfield 67, 3) := by decide +kernel
theorem dX8_begins_8 : decode cX8_begins 8 = .ok (.aload_n 0, 1) := by decide +kernel
theorem dX8_begins_9 : decode cX8_begins 9 = .ok (.aload_n 0, 1) := by decide +kernel
theorem dX8_begins_10 : decode cX8_begins 10 = .ok (.getfield 55, 3) := by decide +kernel
theorem dX8_begins_13 : decode cX8_begins 13 = .ok (.putfield 74, 3) := by decide +kernel
theorem dX8_begins_16 : decode cX8_begins 16 = .ok (.aload_n 0, 1) := by decide +kernel
theorem dX8_begins_17 : decode cX8_begins 17 = .ok (.aload_n 0, 1) := by decide +kernel
theorem dX8_begins_18 : decode cX8_begins 18 = .ok (.getfield 58, 3) := by decide +kernel
theorem dX8_begins_21 : decode cX8_begins 21 = .ok (.putfield 77, 3) := by decide +kernel
theorem dX8_begins_24 : decode cX8_begins 24 = .ok (.aload_n 0, 1) := by decide +kernel
theorem dX8_begins_25 : decode cX8_begins 25 = .ok (.aload_n 0, 1) := by decide +kernel
theorem dX8_begins_26 : decode cX8_begins 26 = .ok (.getfield 61, 3) := by decide +kernel
theorem dX8_begins_29 : decode cX8_begins 29 = .ok (.putfield 80, 3) := by decide +kernel
theorem dX8_begins_32 : decode cX8_begins 32 = .ok (.iconst 0, 1) := by decide +kernel
theorem dX8_begins_33 : decode cX8_begins 33 = .ok (.istore_n 1, 1) := by decide +kernel
theorem dX8_begins_34 : decode cX8_begins 34 = .ok (.iload_n 1, 1) := by decide +kernel
theorem dX8_begins_35 : decode cX8_begins 35 = .ok (.bipush 66, 2) := by decide +kernel
theorem dX8_begins_37 : decode cX8_begins 37 = .ok (.if_icmp .ge 16, 3) := by decide +kernel
theorem dX8_begins_40 : decode cX8_begins 40 = .ok (.aload_n 0, 1) := by decide +kernel
theorem dX8_begins_41 : decode cX8_begins 41 = .ok (.getfield 7, 3) := by decide +kernel
theorem dX8_begins_44 : decode cX8_begins 44 = .ok (.iload_n 1, 1) := by decide +kernel
theorem dX8_begins_45 : decode cX8_begins 45 = .ok (.iconst 0, 1) := by decide +kernel
theorem dX8_begins_46 : decode cX8_begins 46 = .ok (.iastore, 1) := by decide +kernel
theorem dX8_begins_47 : decode cX8_begins 47 = .ok (.iinc 1 1, 3) := by decide +kernel
theorem dX8_begins_50 : decode cX8_begins 50 = .ok (.goto (-16), 3) := by decide +kernel
theorem dX8_begins_53 : decode cX8_begins 53 = .ok (.iconst 0, 1) := by decide +kernel
theorem dX8_begins_54 : decode cX8_begins 54 = .ok (.istore_n 1, 1) := by decide +kernel
theorem dX8_begins_55 : decode cX8_begins 55 = .ok (.iload_n 1, 1) := by decide +kernel
theorem dX8_begins_56 : decode cX8_begins 56 = .ok (.aload_n 0, 1) := by decide +kernel
theorem dX8_begins_57 : decode cX8_begins 57 = .ok (.getfield 67, 3) := by decide +kernel
theorem dX8_begins_60 : decode cX8_begins 60 = .ok (.if_icmp .ge 73, 3) := by decide +kernel
theorem dX8_begins_63 : decode cX8_begins 63 = .ok (.aload_n 0, 1) := by decide +kernel
theorem dX8_begins_64 : decode cX8_begins 64 = .ok (.getfield 13, 3) := by decide +kernel
theorem dX8_begins_67 : decode cX8_begins 67 = .ok (.iload_n 1, 1) := by decide +kernel
theorem dX8_begins_68 : decode cX8_begins 68 = .ok (.aload_n 0, 1) := by decide +kernel
theorem dX8_begins_69 : decode cX8_begins 69 = .ok (.getfield 35, 3) := by decide +kernel
theorem dX8_begins_72 : decode cX8_begins 72 = .ok (.iload_n 1, 1) := by decide +kernel
theorem dX8_begins_73 : decode cX8_begins 73 = .ok (.iaload, 1) := by decide +kernel
theorem dX8_begins_74 : decode cX8_begins 74 = .ok (.iastore, 1) := by decide +kernel
theorem dX8_begins_75 : decode cX8_begins 75 = .ok (.aload_n 0, 1) := by decide +kernel
theorem dX8_begins_76 : decode cX8_begins 76 = .ok (.getfield 7, 3) := by decide +kernel
theorem dX8_begins_79 : decode cX8_begins 79 = .ok (.bipush 48, 2) := by decide +kernel
theorem dX8_begins_81 : decode cX8_begins 81 = .ok (.iload_n 1, 1) := by decide +kernel
theorem dX8_begins_82 : decode cX8_begins 82 = .ok (.iadd, 1) := by decide +kernel
theorem dX8_begins_83 : decode cX8_begins 83 = .ok (.aload_n 0, 1) := by decide +kernel
theorem dX8_begins_84 : decode cX8_begins 84 = .ok (.getfield 32, 3) := by decide +kernel
theorem dX8_begins_87 : decode cX8_begins 87 = .ok (.iload_n 1, 1) := by decide +kernel
theorem dX8_begins_88 : decode cX8_begins 88 = .ok (.iaload, 1) := by decide +kernel
theorem dX8_begins_89 : decode cX8_begins 89 = .ok (.iastore, 1) := by decide +kernel
theorem dX8_begins_90 : decode cX8_begins 90 = .ok (.aload_n 0, 1) := by decide +kernel
theorem dX8_begins_91 : decode cX8_begins 91 = .ok (.getfield 7, 3) := by decide +kernel
theorem dX8_begins_94 : decode cX8_begins 94 = .ok (.bipush 57, 2) := by decide +kernel
theorem dX8_begins_96 : decode cX8_begins 96 = .ok (.iload_n 1, 1) := by decide +kernel
theorem dX8_begins_97 : decode cX8_begins 97 = .ok (.iadd, 1) := by decide +kernel
theorem dX8_begins_98 : decode cX8_begins 98 = .ok (.aload_n 0, 1) := by decide +kernel
theorem dX8_begins_99 : decode cX8_begins 99 = .ok (.getfield 29, 3) := by decide +kernel
theorem dX8_begins_102 : decode cX8_begins 102 = .ok (.iload_n 1, 1) := by decide +kernel
theorem dX8_begins_103 : decode cX8_begins 103 = .ok (.iaload, 1) := by decide +kernel
theorem dX8_begins_104 : decode cX8_begins 104 = .ok (.iastore, 1) := by decide +kernel
theorem dX8_begins_105 : decode cX8_begins 105 = .ok (.aload_n 0, 1) := by decide +kernel
theorem dX8_begins_106 : decode cX8_begins 106 = .ok (.getfield 7, 3) := by decide +kernel
theorem dX8_begins_109 : decode cX8_begins 109 = .ok (.bipush 30, 2) := by decide +kernel
theorem dX8_begins_111 : decode cX8_begins 111 = .ok (.iload_n 1, 1) := by decide +kernel
theorem dX8_begins_112 : decode cX8_begins 112 = .ok (.iadd, 1) := by decide +kernel
theorem dX8_begins_113 : decode cX8_begins 113 = .ok (.bipush (-4), 2) := by decide +kernel
theorem dX8_begins_115 : decode cX8_begins 115 = .ok (.iastore, 1) := by decide +kernel
theorem dX8_begins_116 : decode cX8_begins 116 = .ok (.aload_n 0, 1) := by decide +kernel
theorem dX8_begins_117 : decode cX8_begins 117 = .ok (.getfield 7, 3) := by decide +kernel
theorem dX8_begins_120 : decode cX8_begins 120 = .ok (.bipush 39, 2) := by decide +kernel
theorem dX8_begins_122 : decode cX8_begins 122 = .ok (.iload_n 1, 1) := by decide +kernel
theorem dX8_begins_123 : decode cX8_begins 123 = .ok (.iadd, 1) := by decide +kernel
theorem dX8_begins_124 : decode cX8_begins 124 = .ok (.bipush (-4), 2) := by decide +kernel
theorem dX8_begins_126 : decode cX8_begins 126 = .ok (.iastore, 1) := by decide +kernel
theorem dX8_begins_127 : decode cX8_begins 127 = .ok (.iinc 1 1, 3) := by decide +kernel
theorem dX8_begins_130 : decode cX8_begins 130 = .ok (.goto (-75), 3) := by decide +kernel
theorem dX8_begins_133 : decode cX8_begins 133 = .ok (.aload_n 0, 1) := by decide +kernel
theorem dX8_begins_134 : decode cX8_begins 134 = .ok (.iconst 0, 1) := by decide +kernel
theorem dX8_begins_135 : decode cX8_begins 135 = .ok (.putfield 83, 3) := by decide +kernel
theorem dX8_begins_138 : decode cX8_begins 138 = .ok (.aload_n 0, 1) := by decide +kernel
theorem dX8_begins_139 : decode cX8_begins 139 = .ok (.iconst 0, 1) := by decide +kernel
theorem dX8_begins_140 : decode cX8_begins 140 = .ok (.putfield 86, 3) := by decide +kernel
theorem dX8_begins_143 : decode cX8_begins 143 = .ok (.aload_n 0, 1) := by decide +kernel
theorem dX8_begins_144 : decode cX8_begins 144 = .ok (.iconst 0, 1) := by decide +kernel
theorem dX8_begins_145 : decode cX8_begins 145 = .ok (.putfield 89, 3) := by decide +kernel
theorem dX8_begins_148 : decode cX8_begins 148 = .ok (.return_, 1) := by decide +kernel
theorem dX8_write_0 : decode cX8_write 0 = .ok (.iload_n 1, 1) := by decide +kernel
theorem dX8_write_1 : decode cX8_write 1 = .ok (.i2l, 1) := by decide +kernel
theorem dX8_write_2 : decode cX8_write 2 = .ok (.ldc2_w 92, 3) := by decide +kernel
theorem dX8_write_5 : decode cX8_write 5 = .ok (.ldc2_w 94, 3) := by decide +kernel
theorem dX8_write_8 : decode cX8_write 8 = .ok (.invokestatic 70, 3) := by decide +kernel
theorem dX8_write_11 : decode cX8_write 11 = .ok (.ifCond .ne 5, 3) := by decide +kernel
theorem dX8_write_14 : decode cX8_write 14 = .ok (.iconst (-1), 1) := by decide +kernel
theorem dX8_write_15 : decode cX8_write 15 = .ok (.ireturn, 1) := by decide +kernel
theorem dX8_write_16 : decode cX8_write 16 = .ok (.aload_n 0, 1) := by decide +kernel
theorem dX8_write_17 : decode cX8_write 17 = .ok (.getfield 96, 3) := by decide +kernel
theorem dX8_write_20 : decode cX8_write 20 = .ok (.sipush 200, 3) := by decide +kernel
theorem dX8_write_23 : decode cX8_write 23 = .ok (.if_icmp .ne 6, 3) := by decide +kernel
theorem dX8_write_26 : decode cX8_write 26 = .ok (.bipush (-3), 2) := by decide +kernel
theorem dX8_write_28 : decode cX8_write 28 = .ok (.ireturn, 1) := by decide +kernel
theorem dX8_write_29 : decode cX8_write 29 = .ok (.aload_n 0, 1) := by decide +kernel
theorem dX8_write_30 : decode cX8_write 30 = .ok (.getfield 26, 3) := by decide +kernel
theorem dX8_write_33 : decode cX8_write 33 = .ok (.aload_n 0, 1) := by decide +kernel
theorem dX8_write_34 : decode cX8_write 34 = .ok (.getfield 96, 3) := by decide +kernel
theorem dX8_write_37 : decode cX8_write 37 = .ok (.iload_n 1, 1) := by decide +kernel
theorem dX8_write_38 : decode cX8_write 38 = .ok (.iastore, 1) := by decide +kernel
theorem dX8_write_39 : decode cX8_write 39 = .ok (.aload_n 0, 1) := by decide +kernel
theorem dX8_write_40 : decode cX8_write 40 = .ok (.dup, 1) := by decide +kernel
theorem dX8_write_41 : decode cX8_write 41 = .ok (.getfield 96, 3) := by decide +kernel
theorem dX8_write_44 : decode cX8_write 44 = .ok (.iconst 1, 1) := by decide +kernel
theorem dX8_write_45 : decode cX8_write 45 = .ok (.iadd, 1) := by decide +kernel
theorem dX8_write_46 : decode cX8_write 46 = .ok (.putfield 96, 3) := by decide +kernel
theorem dX8_write_49 : decode cX8_write 49 = .ok (.aload_n 0, 1) := by decide +kernel
theorem dX8_write_50 : decode cX8_write 50 = .ok (.getfield 96, 3) := by decide +kernel
theorem dX8_write_53 : decode cX8_write 53 = .ok (.ireturn, 1) := by decide +kernel
theorem dX8_wipe_0 : decode cX8_wipe 0 = .ok (.aload_n 0, 1) := by decide +kernel
theorem dX8_wipe_1 : decode cX8_wipe 1 = .ok (.getfield 96, 3) := by decide +kernel
theorem dX8_wipe_4 : decode cX8_wipe 4 = .ok (.istore_n 1, 1) := by decide +kernel
theorem dX8_wipe_5 : decode cX8_wipe 5 = .ok (.aload_n 0, 1) := by decide +kernel
theorem dX8_wipe_6 : decode cX8_wipe 6 = .ok (.iconst 0, 1) := by decide +kernel
theorem dX8_wipe_7 : decode cX8_wipe 7 = .ok (.putfield 96, 3) := by decide +kernel
theorem dX8_wipe_10 : decode cX8_wipe 10 = .ok (.iload_n 1, 1) := by decide +kernel
theorem dX8_wipe_11 : decode cX8_wipe 11 = .ok (.ireturn, 1) := by decide +kernel
theorem dX8_letterAt_0 : decode cX8_letterAt 0 = .ok (.iload_n 1, 1) := by decide +kernel
theorem dX8_letterAt_1 : decode cX8_letterAt 1 = .ok (.aload_n 0, 1) := by decide +kernel
theorem dX8_letterAt_2 : decode cX8_letterAt 2 = .ok (.getfield 96, 3) := by decide +kernel
theorem dX8_letterAt_5 : decode cX8_letterAt 5 = .ok (.if_icmp .ge 12, 3) := by decide +kernel
theorem dX8_letterAt_8 : decode cX8_letterAt 8 = .ok (.aload_n 0, 1) := by decide +kernel
theorem dX8_letterAt_9 : decode cX8_letterAt 9 = .ok (.getfield 26, 3) := by decide +kernel
theorem dX8_letterAt_12 : decode cX8_letterAt 12 = .ok (.iload_n 1, 1) := by decide +kernel
theorem dX8_letterAt_13 : decode cX8_letterAt 13 = .ok (.iaload, 1) := by decide +kernel
theorem dX8_letterAt_14 : decode cX8_letterAt 14 = .ok (.goto 4, 3) := by decide +kernel
theorem dX8_letterAt_17 : decode cX8_letterAt 17 = .ok (.iconst (-1), 1) := by decide +kernel
theorem dX8_letterAt_18 : decode cX8_letterAt 18 = .ok (.ireturn, 1) := by decide +kernel
theorem dX8_takesNumber_0 : decode cX8_takesNumber 0 = .ok (.aload_n 0, 1) := by decide +kernel
theorem dX8_takesNumber_1 : decode cX8_takesNumber 1 = .ok (.getfield 99, 3) := by decide +kernel
theorem dX8_takesNumber_4 : decode cX8_takesNumber 4 = .ok (.istore 4, 2) := by decide +kernel
theorem dX8_takesNumber_6 : decode cX8_takesNumber 6 = .ok (.aload_n 0, 1) := by decide +kernel
theorem dX8_takesNumber_7 : decode cX8_takesNumber 7 = .ok (.iconst 0, 1) := by decide +kernel
theorem dX8_takesNumber_8 : decode cX8_takesNumber 8 = .ok (.putfield 102, 3) := by decide +kernel
theorem dX8_takesNumber_11 : decode cX8_takesNumber 11 = .ok (.aload_n 0, 1) := by decide +kernel
theorem dX8_takesNumber_12 : decode cX8_takesNumber 12 = .ok (.getfield 99, 3) := by decide +kernel
theorem dX8_takesNumber_15 : decode cX8_takesNumber 15 = .ok (.iload 4, 2) := by decide +kernel
theorem dX8_takesNumber_17 : decode cX8_takesNumber 17 = .ok (.isub, 1) := by decide +kernel
theorem dX8_takesNumber_18 : decode cX8_takesNumber 18 = .ok (.iconst 2, 1) := by decide +kernel
theorem dX8_takesNumber_19 : decode cX8_takesNumber 19 = .ok (.if_icmp .ge 60, 3) := by decide +kernel
theorem dX8_takesNumber_22 : decode cX8_takesNumber 22 = .ok (.aload_n 0, 1) := by decide +kernel
theorem dX8_takesNumber_23 : decode cX8_takesNumber 23 = .ok (.aload_n 0, 1) := by decide +kernel
theorem dX8_takesNumber_24 : decode cX8_takesNumber 24 = .ok (.getfield 99, 3) := by decide +kernel
theorem dX8_takesNumber_27 : decode cX8_takesNumber 27 = .ok (.invokevirtual 105, 3) := by decide +kernel
theorem dX8_takesNumber_30 : decode cX8_takesNumber 30 = .ok (.i2l, 1) := by decide +kernel
theorem dX8_takesNumber_31 : decode cX8_takesNumber 31 = .ok (.ldc2_w 109, 3) := by decide +kernel
theorem dX8_takesNumber_34 : decode cX8_takesNumber 34 = .ok (.ldc2_w 111, 3) := by decide +kernel
theorem dX8_takesNumber_37 : decode cX8_takesNumber 37 = .ok (.invokestatic 70, 3) := by decide +kernel
theorem dX8_takesNumber_40 : decode cX8_takesNumber 40 = .ok (.ifCond .eq 39, 3) := by decide +kernel
theorem dX8_takesNumber_43 : decode cX8_takesNumber 43 = .ok (.aload_n 0, 1) := by decide +kernel
theorem dX8_takesNumber_44 : decode cX8_takesNumber 44 = .ok (.bipush 10, 2) := by decide +kernel
theorem dX8_takesNumber_46 : decode cX8_takesNumber 46 = .ok (.aload_n 0, 1) := by decide +kernel
theorem dX8_takesNumber_47 : decode cX8_takesNumber 47 = .ok (.getfield 102, 3) := by decide +kernel
theorem dX8_takesNumber_50 : decode cX8_takesNumber 50 = .ok (.imul, 1) := by decide +kernel
theorem dX8_takesNumber_51 : decode cX8_takesNumber 51 = .ok (.aload_n 0, 1) := by decide +kernel
theorem dX8_takesNumber_52 : decode cX8_takesNumber 52 = .ok (.aload_n 0, 1) := by decide +kernel
theorem dX8_takesNumber_53 : decode cX8_takesNumber 53 = .ok (.getfield 99, 3) := by decide +kernel
theorem dX8_takesNumber_56 : decode cX8_takesNumber 56 = .ok (.invokevirtual 105, 3) := by decide +kernel
theorem dX8_takesNumber_59 : decode cX8_takesNumber 59 = .ok (.iadd, 1) := by decide +kernel
theorem dX8_takesNumber_60 : decode cX8_takesNumber 60 = .ok (.bipush 48, 2) := by decide +kernel
theorem dX8_takesNumber_62 : decode cX8_takesNumber 62 = .ok (.isub, 1) := by decide +kernel
theorem dX8_takesNumber_63 : decode cX8_takesNumber 63 = .ok (.putfield 102, 3) := by decide +kernel
theorem dX8_takesNumber_66 : decode cX8_takesNumber 66 = .ok (.aload_n 0, 1) := by decide +kernel
theorem dX8_takesNumber_67 : decode cX8_takesNumber 67 = .ok (.dup, 1) := by decide +kernel
theorem dX8_takesNumber_68 : decode cX8_takesNumber 68 = .ok (.getfield 99, 3) := by decide +kernel
theorem dX8_takesNumber_71 : decode cX8_takesNumber 71 = .ok (.iconst 1, 1) := by decide +kernel
theorem dX8_takesNumber_72 : decode cX8_takesNumber 72 = .ok (.iadd, 1) := by decide +kernel
theorem dX8_takesNumber_73 : decode cX8_takesNumber 73 = .ok (.putfield 99, 3) := by decide +kernel
theorem dX8_takesNumber_76 : decode cX8_takesNumber 76 = .ok (.goto (-65), 3) := by decide +kernel
theorem dX8_takesNumber_79 : decode cX8_takesNumber 79 = .ok (.aload_n 0, 1) := by decide +kernel
theorem dX8_takesNumber_80 : decode cX8_takesNumber 80 = .ok (.getfield 99, 3) := by decide +kernel
theorem dX8_takesNumber_83 : decode cX8_takesNumber 83 = .ok (.iload 4, 2) := by decide +kernel
theorem dX8_takesNumber_85 : decode cX8_takesNumber 85 = .ok (.if_icmp .eq 30, 3) := by decide +kernel
theorem dX8_takesNumber_88 : decode cX8_takesNumber 88 = .ok (.aload_n 0, 1) := by decide +kernel
theorem dX8_takesNumber_89 : decode cX8_takesNumber 89 = .ok (.getfield 102, 3) := by decide +kernel
theorem dX8_takesNumber_92 : decode cX8_takesNumber 92 = .ok (.i2l, 1) := by decide +kernel
theorem dX8_takesNumber_93 : decode cX8_takesNumber 93 = .ok (.iload_n 1, 1) := by decide +kernel
theorem dX8_takesNumber_94 : decode cX8_takesNumber 94 = .ok (.i2l, 1) := by decide +kernel
theorem dX8_takesNumber_95 : decode cX8_takesNumber 95 = .ok (.iload_n 2, 1) := by decide +kernel
theorem dX8_takesNumber_96 : decode cX8_takesNumber 96 = .ok (.i2l, 1) := by decide +kernel
theorem dX8_takesNumber_97 : decode cX8_takesNumber 97 = .ok (.invokestatic 70, 3) := by decide +kernel
theorem dX8_takesNumber_100 : decode cX8_takesNumber 100 = .ok (.ifCond .eq 15, 3) := by decide +kernel
theorem dX8_takesNumber_103 : decode cX8_takesNumber 103 = .ok (.aload_n 0, 1) := by decide +kernel
theorem dX8_takesNumber_104 : decode cX8_takesNumber 104 = .ok (.aload_n 0, 1) := by decide +kernel
theorem dX8_takesNumber_105 : decode cX8_takesNumber 105 = .ok (.getfield 99, 3) := by decide +kernel
theorem dX8_takesNumber_108 : decode cX8_takesNumber 108 = .ok (.invokevirtual 105, 3) := by decide +kernel
theorem dX8_takesNumber_111 : decode cX8_takesNumber 111 = .ok (.iload_n 3, 1) := by decide +kernel
theorem dX8_takesNumber_112 : decode cX8_takesNumber 112 = .ok (.if_icmp .eq 5, 3) := by decide +kernel
theorem dX8_takesNumber_115 : decode cX8_takesNumber 115 = .ok (.iconst 0, 1) := by decide +kernel
theorem dX8_takesNumber_116 : decode cX8_takesNumber 116 = .ok (.ireturn, 1) := by decide +kernel
theorem dX8_takesNumber_117 : decode cX8_takesNumber 117 = .ok (.aload_n 0, 1) := by decide +kernel
theorem dX8_takesNumber_118 : decode cX8_takesNumber 118 = .ok (.dup, 1) := by decide +kernel
theorem dX8_takesNumber_119 : decode cX8_takesNumber 119 = .ok (.getfield 99, 3) := by decide +kernel
theorem dX8_takesNumber_122 : decode cX8_takesNumber 122 = .ok (.iconst 1, 1) := by decide +kernel
theorem dX8_takesNumber_123 : decode cX8_takesNumber 123 = .ok (.iadd, 1) := by decide +kernel
theorem dX8_takesNumber_124 : decode cX8_takesNumber 124 = .ok (.putfield 99, 3) := by decide +kernel
theorem dX8_takesNumber_127 : decode cX8_takesNumber 127 = .ok (.iconst 1, 1) := by decide +kernel
theorem dX8_takesNumber_128 : decode cX8_takesNumber 128 = .ok (.ireturn, 1) := by decide +kernel
theorem dX8_takesPerson_0 : decode cX8_takesPerson 0 = .ok (.aload_n 0, 1) := by decide +kernel
theorem dX8_takesPerson_1 : decode cX8_takesPerson 1 = .ok (.getfield 47, 3) := by decide +kernel
theorem dX8_takesPerson_4 : decode cX8_takesPerson 4 = .ok (.bipush 9, 2) := by decide +kernel
theorem dX8_takesPerson_6 : decode cX8_takesPerson 6 = .ok (.if_icmp .eq 14, 3) := by decide +kernel
theorem dX8_takesPerson_9 : decode cX8_takesPerson 9 = .ok (.aload_n 0, 1) := by decide +kernel
theorem dX8_takesPerson_10 : decode cX8_takesPerson 10 = .ok (.iconst 0, 1) := by decide +kernel
theorem dX8_takesPerson_11 : decode cX8_takesPerson 11 = .ok (.iconst 3, 1) := by decide +kernel
theorem dX8_takesPerson_12 : decode cX8_takesPerson 12 = .ok (.bipush 44, 2) := by decide +kernel
theorem dX8_takesPerson_14 : decode cX8_takesPerson 14 = .ok (.invokevirtual 113, 3) := by decide +kernel
theorem dX8_takesPerson_17 : decode cX8_takesPerson 17 = .ok (.ifCond .ne 5, 3) := by decide +kernel
theorem dX8_takesPerson_20 : decode cX8_takesPerson 20 = .ok (.iconst 0, 1) := by decide +kernel
theorem dX8_takesPerson_21 : decode cX8_takesPerson 21 = .ok (.ireturn, 1) := by decide +kernel
theorem dX8_takesPerson_22 : decode cX8_takesPerson 22 = .ok (.aload_n 0, 1) := by decide +kernel
theorem dX8_takesPerson_23 : decode cX8_takesPerson 23 = .ok (.getfield 102, 3) := by decide +kernel
theorem dX8_takesPerson_26 : decode cX8_takesPerson 26 = .ok (.istore_n 1, 1) := by decide +kernel
theorem dX8_takesPerson_27 : decode cX8_takesPerson 27 = .ok (.aload_n 0, 1) := by decide +kernel
theorem dX8_takesPerson_28 : decode cX8_takesPerson 28 = .ok (.iconst 0, 1) := by decide +kernel
theorem dX8_takesPerson_29 : decode cX8_takesPerson 29 = .ok (.bipush 99, 2) := by decide +kernel
theorem dX8_takesPerson_31 : decode cX8_takesPerson 31 = .ok (.bipush 44, 2) := by decide +kernel
theorem dX8_takesPerson_33 : decode cX8_takesPerson 33 = .ok (.invokevirtual 113, 3) := by decide +kernel
theorem dX8_takesPerson_36 : decode cX8_takesPerson 36 = .ok (.ifCond .ne 5, 3) := by decide +kernel
theorem dX8_takesPerson_39 : decode cX8_takesPerson 39 = .ok (.iconst 0, 1) := by decide +kernel
theorem dX8_takesPerson_40 : decode cX8_takesPerson 40 = .ok (.ireturn, 1) := by decide +kernel
theorem dX8_takesPerson_41 : decode cX8_takesPerson 41 = .ok (.aload_n 0, 1) := by decide +kernel
theorem dX8_takesPerson_42 : decode cX8_takesPerson 42 = .ok (.getfield 102, 3) := by decide +kernel
theorem dX8_takesPerson_45 : decode cX8_takesPerson 45 = .ok (.istore_n 2, 1) := by decide +kernel
theorem dX8_takesPerson_46 : decode cX8_takesPerson 46 = .ok (.aload_n 0, 1) := by decide +kernel
theorem dX8_takesPerson_47 : decode cX8_takesPerson 47 = .ok (.iconst 0, 1) := by decide +kernel
theorem dX8_takesPerson_48 : decode cX8_takesPerson 48 = .ok (.iconst 4, 1) := by decide +kernel
theorem dX8_takesPerson_49 : decode cX8_takesPerson 49 = .ok (.bipush 59, 2) := by decide +kernel
theorem dX8_takesPerson_51 : decode cX8_takesPerson 51 = .ok (.invokevirtual 113, 3) := by decide +kernel
theorem dX8_takesPerson_54 : decode cX8_takesPerson 54 = .ok (.ifCond .ne 5, 3) := by decide +kernel
theorem dX8_takesPerson_57 : decode cX8_takesPerson 57 = .ok (.iconst 0, 1) := by decide +kernel
theorem dX8_takesPerson_58 : decode cX8_takesPerson 58 = .ok (.ireturn, 1) := by decide +kernel
theorem dX8_takesPerson_59 : decode cX8_takesPerson 59 = .ok (.iconst 0, 1) := by decide +kernel
theorem dX8_takesPerson_60 : decode cX8_takesPerson 60 = .ok (.istore_n 3, 1) := by decide +kernel
theorem dX8_takesPerson_61 : decode cX8_takesPerson 61 = .ok (.iconst 0, 1) := by decide +kernel
theorem dX8_takesPerson_62 : decode cX8_takesPerson 62 = .ok (.istore 4, 2) := by decide +kernel
theorem dX8_takesPerson_64 : decode cX8_takesPerson 64 = .ok (.iload 4, 2) := by decide +kernel
theorem dX8_takesPerson_66 : decode cX8_takesPerson 66 = .ok (.aload_n 0, 1) := by decide +kernel
theorem dX8_takesPerson_67 : decode cX8_takesPerson 67 = .ok (.getfield 47, 3) := by decide +kernel
theorem dX8_takesPerson_70 : decode cX8_takesPerson 70 = .ok (.if_icmp .ge 38, 3) := by decide +kernel
theorem dX8_takesPerson_73 : decode cX8_takesPerson 73 = .ok (.iload_n 3, 1) := by decide +kernel
theorem dX8_takesPerson_74 : decode cX8_takesPerson 74 = .ok (.aload_n 0, 1) := by decide +kernel
theorem dX8_takesPerson_75 : decode cX8_takesPerson 75 = .ok (.getfield 102, 3) := by decide +kernel
theorem dX8_takesPerson_78 : decode cX8_takesPerson 78 = .ok (.ifCond .le 21, 3) := by decide +kernel
theorem dX8_takesPerson_81 : decode cX8_takesPerson 81 = .ok (.aload_n 0, 1) := by decide +kernel
theorem dX8_takesPerson_82 : decode cX8_takesPerson 82 = .ok (.getfield 35, 3) := by decide +kernel
theorem dX8_takesPerson_85 : decode cX8_takesPerson 85 = .ok (.iload 4, 2) := by decide +kernel
theorem dX8_takesPerson_87 : decode cX8_takesPerson 87 = .ok (.iaload, 1) := by decide +kernel
theorem dX8_takesPerson_88 : decode cX8_takesPerson 88 = .ok (.aload_n 0, 1) := by decide +kernel
theorem dX8_takesPerson_89 : decode cX8_takesPerson 89 = .ok (.getfield 102, 3) := by decide +kernel
theorem dX8_takesPerson_92 : decode cX8_takesPerson 92 = .ok (.if_icmp .ne 7, 3) := by decide +kernel
theorem dX8_takesPerson_95 : decode cX8_takesPerson 95 = .ok (.iconst 1, 1) := by decide +kernel
theorem dX8_takesPerson_96 : decode cX8_takesPerson 96 = .ok (.goto 4, 3) := by decide +kernel
theorem dX8_takesPerson_99 : decode cX8_takesPerson 99 = .ok (.iconst 0, 1) := by decide +kernel
theorem dX8_takesPerson_100 : decode cX8_takesPerson 100 = .ok (.iadd, 1) := by decide +kernel
theorem dX8_takesPerson_101 : decode cX8_takesPerson 101 = .ok (.istore_n 3, 1) := by decide +kernel
theorem dX8_takesPerson_102 : decode cX8_takesPerson 102 = .ok (.iinc 4 1, 3) := by decide +kernel
theorem dX8_takesPerson_105 : decode cX8_takesPerson 105 = .ok (.goto (-41), 3) := by decide +kernel
theorem dX8_takesPerson_108 : decode cX8_takesPerson 108 = .ok (.iload_n 3, 1) := by decide +kernel
theorem dX8_takesPerson_109 : decode cX8_takesPerson 109 = .ok (.iconst 5, 1) := by decide +kernel
theorem dX8_takesPerson_110 : decode cX8_takesPerson 110 = .ok (.if_icmp .ne 5, 3) := by decide +kernel
theorem dX8_takesPerson_113 : decode cX8_takesPerson 113 = .ok (.iconst 0, 1) := by decide +kernel
theorem dX8_takesPerson_114 : decode cX8_takesPerson 114 = .ok (.ireturn, 1) := by decide +kernel
theorem dX8_takesPerson_115 : decode cX8_takesPerson 115 = .ok (.aload_n 0, 1) := by decide +kernel
theorem dX8_takesPerson_116 : decode cX8_takesPerson 116 = .ok (.iload_n 1, 1) := by decide +kernel
theorem dX8_takesPerson_117 : decode cX8_takesPerson 117 = .ok (.iload_n 2, 1) := by decide +kernel
theorem dX8_takesPerson_118 : decode cX8_takesPerson 118 = .ok (.aload_n 0, 1) := by decide +kernel
theorem dX8_takesPerson_119 : decode cX8_takesPerson 119 = .ok (.getfield 102, 3) := by decide +kernel
theorem dX8_takesPerson_122 : decode cX8_takesPerson 122 = .ok (.invokevirtual 51, 3) := by decide +kernel
theorem dX8_takesPerson_125 : decode cX8_takesPerson 125 = .ok (.iconst 1, 1) := by decide +kernel
theorem dX8_takesPerson_126 : decode cX8_takesPerson 126 = .ok (.ireturn, 1) := by decide +kernel
theorem dX8_takesBaker_0 : decode cX8_takesBaker 0 = .ok (.aload_n 0, 1) := by decide +kernel
theorem dX8_takesBaker_1 : decode cX8_takesBaker 1 = .ok (.iconst 1, 1) := by decide +kernel
theorem dX8_takesBaker_2 : decode cX8_takesBaker 2 = .ok (.bipush 9, 2) := by decide +kernel
theorem dX8_takesBaker_4 : decode cX8_takesBaker 4 = .ok (.bipush 44, 2) := by decide +kernel
theorem dX8_takesBaker_6 : decode cX8_takesBaker 6 = .ok (.invokevirtual 113, 3) := by decide +kernel
theorem dX8_takesBaker_9 : decode cX8_takesBaker 9 = .ok (.ifCond .ne 5, 3) := by decide +kernel
theorem dX8_takesBaker_12 : decode cX8_takesBaker 12 = .ok (.iconst 0, 1) := by decide +kernel
theorem dX8_takesBaker_13 : decode cX8_takesBaker 13 = .ok (.ireturn, 1) := by decide +kernel
theorem dX8_takesBaker_14 : decode cX8_takesBaker 14 = .ok (.aload_n 0, 1) := by decide +kernel
theorem dX8_takesBaker_15 : decode cX8_takesBaker 15 = .ok (.getfield 102, 3) := by decide +kernel
theorem dX8_takesBaker_18 : decode cX8_takesBaker 18 = .ok (.istore_n 1, 1) := by decide +kernel
theorem dX8_takesBaker_19 : decode cX8_takesBaker 19 = .ok (.aload_n 0, 1) := by decide +kernel
theorem dX8_takesBaker_20 : decode cX8_takesBaker 20 = .ok (.iconst 0, 1) := by decide +kernel
theorem dX8_takesBaker_21 : decode cX8_takesBaker 21 = .ok (.bipush 40, 2) := by decide +kernel
theorem dX8_takesBaker_23 : decode cX8_takesBaker 23 = .ok (.bipush 59, 2) := by decide +kernel
theorem dX8_takesBaker_25 : decode cX8_takesBaker 25 = .ok (.invokevirtual 113, 3) := by decide +kernel
theorem dX8_takesBaker_28 : decode cX8_takesBaker 28 = .ok (.ifCond .ne 5, 3) := by decide +kernel
theorem dX8_takesBaker_31 : decode cX8_takesBaker 31 = .ok (.iconst 0, 1) := by decide +kernel
theorem dX8_takesBaker_32 : decode cX8_takesBaker 32 = .ok (.ireturn, 1) := by decide +kernel
theorem dX8_takesBaker_33 : decode cX8_takesBaker 33 = .ok (.aload_n 0, 1) := by decide +kernel
theorem dX8_takesBaker_34 : decode cX8_takesBaker 34 = .ok (.iload_n 1, 1) := by decide +kernel
theorem dX8_takesBaker_35 : decode cX8_takesBaker 35 = .ok (.putfield 55, 3) := by decide +kernel
theorem dX8_takesBaker_38 : decode cX8_takesBaker 38 = .ok (.aload_n 0, 1) := by decide +kernel
theorem dX8_takesBaker_39 : decode cX8_takesBaker 39 = .ok (.aload_n 0, 1) := by decide +kernel
theorem dX8_takesBaker_40 : decode cX8_takesBaker 40 = .ok (.getfield 102, 3) := by decide +kernel
theorem dX8_takesBaker_43 : decode cX8_takesBaker 43 = .ok (.putfield 58, 3) := by decide +kernel
theorem dX8_takesBaker_46 : decode cX8_takesBaker 46 = .ok (.iconst 1, 1) := by decide +kernel
theorem dX8_takesBaker_47 : decode cX8_takesBaker 47 = .ok (.ireturn, 1) := by decide +kernel
theorem dX8_takesRumour_0 : decode cX8_takesRumour 0 = .ok (.aload_n 0, 1) := by decide +kernel
theorem dX8_takesRumour_1 : decode cX8_takesRumour 1 = .ok (.iconst 2, 1) := by decide +kernel
theorem dX8_takesRumour_2 : decode cX8_takesRumour 2 = .ok (.bipush 30, 2) := by decide +kernel
theorem dX8_takesRumour_4 : decode cX8_takesRumour 4 = .ok (.bipush 59, 2) := by decide +kernel
theorem dX8_takesRumour_6 : decode cX8_takesRumour 6 = .ok (.invokevirtual 113, 3) := by decide +kernel
theorem dX8_takesRumour_9 : decode cX8_takesRumour 9 = .ok (.ifCond .ne 5, 3) := by decide +kernel
theorem dX8_takesRumour_12 : decode cX8_takesRumour 12 = .ok (.iconst 0, 1) := by decide +kernel
theorem dX8_takesRumour_13 : decode cX8_takesRumour 13 = .ok (.ireturn, 1) := by decide +kernel
theorem dX8_takesRumour_14 : decode cX8_takesRumour 14 = .ok (.aload_n 0, 1) := by decide +kernel
theorem dX8_takesRumour_15 : decode cX8_takesRumour 15 = .ok (.aload_n 0, 1) := by decide +kernel
theorem dX8_takesRumour_16 : decode cX8_takesRumour 16 = .ok (.getfield 102, 3) := by decide +kernel
theorem dX8_takesRumour_19 : decode cX8_takesRumour 19 = .ok (.putfield 61, 3) := by decide +kernel
theorem dX8_takesRumour_22 : decode cX8_takesRumour 22 = .ok (.iconst 1, 1) := by decide +kernel
theorem dX8_takesRumour_23 : decode cX8_takesRumour 23 = .ok (.ireturn, 1) := by decide +kernel
theorem dX8_takesItem_0 : decode cX8_takesItem 0 = .ok (.aload_n 0, 1) := by decide +kernel
theorem dX8_takesItem_1 : decode cX8_takesItem 1 = .ok (.aload_n 0, 1) := by decide +kernel
theorem dX8_takesItem_2 : decode cX8_takesItem 2 = .ok (.getfield 99, 3) := by decide +kernel
theorem dX8_takesItem_5 : decode cX8_takesItem 5 = .ok (.invokevirtual 105, 3) := by decide +kernel
theorem dX8_takesItem_8 : decode cX8_takesItem 8 = .ok (.istore_n 1, 1) := by decide +kernel
theorem dX8_takesItem_9 : decode cX8_takesItem 9 = .ok (.aload_n 0, 1) := by decide +kernel
theorem dX8_takesItem_10 : decode cX8_takesItem 10 = .ok (.dup, 1) := by decide +kernel
theorem dX8_takesItem_11 : decode cX8_takesItem 11 = .ok (.getfield 99, 3) := by decide +kernel
theorem dX8_takesItem_14 : decode cX8_takesItem 14 = .ok (.iconst 1, 1) := by decide +kernel
theorem dX8_takesItem_15 : decode cX8_takesItem 15 = .ok (.iadd, 1) := by decide +kernel
theorem dX8_takesItem_16 : decode cX8_takesItem 16 = .ok (.putfield 99, 3) := by decide +kernel
theorem dX8_takesItem_19 : decode cX8_takesItem 19 = .ok (.iload_n 1, 1) := by decide +kernel
theorem dX8_takesItem_20 : decode cX8_takesItem 20 = .ok (.bipush 112, 2) := by decide +kernel
theorem dX8_takesItem_22 : decode cX8_takesItem 22 = .ok (.if_icmp .ne 10, 3) := by decide +kernel
theorem dX8_takesItem_25 : decode cX8_takesItem 25 = .ok (.aload_n 0, 1) := by decide +kernel
theorem dX8_takesItem_26 : decode cX8_takesItem 26 = .ok (.invokevirtual 117, 3) := by decide +kernel
theorem dX8_takesItem_29 : decode cX8_takesItem 29 = .ok (.goto 34, 3) := by decide +kernel
theorem dX8_takesItem_32 : decode cX8_takesItem 32 = .ok (.iload_n 1, 1) := by decide +kernel
theorem dX8_takesItem_33 : decode cX8_takesItem 33 = .ok (.bipush 98, 2) := by decide +kernel
theorem dX8_takesItem_35 : decode cX8_takesItem 35 = .ok (.if_icmp .ne 10, 3) := by decide +kernel
theorem dX8_takesItem_38 : decode cX8_takesItem 38 = .ok (.aload_n 0, 1) := by decide +kernel
theorem dX8_takesItem_39 : decode cX8_takesItem 39 = .ok (.invokevirtual 121, 3) := by decide +kernel
theorem dX8_takesItem_42 : decode cX8_takesItem 42 = .ok (.goto 21, 3) := by decide +kernel
theorem dX8_takesItem_45 : decode cX8_takesItem 45 = .ok (.iload_n 1, 1) := by decide +kernel
theorem dX8_takesItem_46 : decode cX8_takesItem 46 = .ok (.bipush 114, 2) := by decide +kernel
theorem dX8_takesItem_48 : decode cX8_takesItem 48 = .ok (.if_icmp .ne 14, 3) := by decide +kernel
theorem dX8_takesItem_51 : decode cX8_takesItem 51 = .ok (.aload_n 0, 1) := by decide +kernel
theorem dX8_takesItem_52 : decode cX8_takesItem 52 = .ok (.invokevirtual 124, 3) := by decide +kernel
theorem dX8_takesItem_55 : decode cX8_takesItem 55 = .ok (.ifCond .eq 7, 3) := by decide +kernel
theorem dX8_takesItem_58 : decode cX8_takesItem 58 = .ok (.iconst 1, 1) := by decide +kernel
theorem dX8_takesItem_59 : decode cX8_takesItem 59 = .ok (.goto 4, 3) := by decide +kernel
theorem dX8_takesItem_62 : decode cX8_takesItem 62 = .ok (.iconst 0, 1) := by decide +kernel
theorem dX8_takesItem_63 : decode cX8_takesItem 63 = .ok (.ireturn, 1) := by decide +kernel
theorem dX8_faultOf_0 : decode cX8_faultOf 0 = .ok (.aload_n 0, 1) := by decide +kernel
theorem dX8_faultOf_1 : decode cX8_faultOf 1 = .ok (.iconst 0, 1) := by decide +kernel
theorem dX8_faultOf_2 : decode cX8_faultOf 2 = .ok (.putfield 47, 3) := by decide +kernel
theorem dX8_faultOf_5 : decode cX8_faultOf 5 = .ok (.aload_n 0, 1) := by decide +kernel
theorem dX8_faultOf_6 : decode cX8_faultOf 6 = .ok (.iconst 2, 1) := by decide +kernel
theorem dX8_faultOf_7 : decode cX8_faultOf 7 = .ok (.putfield 55, 3) := by decide +kernel
theorem dX8_faultOf_10 : decode cX8_faultOf 10 = .ok (.aload_n 0, 1) := by decide +kernel
theorem dX8_faultOf_11 : decode cX8_faultOf 11 = .ok (.bipush 20, 2) := by decide +kernel
theorem dX8_faultOf_13 : decode cX8_faultOf 13 = .ok (.putfield 58, 3) := by decide +kernel
theorem dX8_faultOf_16 : decode cX8_faultOf 16 = .ok (.aload_n 0, 1) := by decide +kernel
theorem dX8_faultOf_17 : decode cX8_faultOf 17 = .ok (.iconst 0, 1) := by decide +kernel
theorem dX8_faultOf_18 : decode cX8_faultOf 18 = .ok (.putfield 61, 3) := by decide +kernel
theorem dX8_faultOf_21 : decode cX8_faultOf 21 = .ok (.aload_n 0, 1) := by decide +kernel
theorem dX8_faultOf_22 : decode cX8_faultOf 22 = .ok (.iconst 0, 1) := by decide +kernel
theorem dX8_faultOf_23 : decode cX8_faultOf 23 = .ok (.putfield 99, 3) := by decide +kernel
theorem dX8_faultOf_26 : decode cX8_faultOf 26 = .ok (.aload_n 0, 1) := by decide +kernel
theorem dX8_faultOf_27 : decode cX8_faultOf 27 = .ok (.getfield 99, 3) := by decide +kernel
theorem dX8_faultOf_30 : decode cX8_faultOf 30 = .ok (.aload_n 0, 1) := by decide +kernel
theorem dX8_faultOf_31 : decode cX8_faultOf 31 = .ok (.getfield 96, 3) := by decide +kernel
theorem dX8_faultOf_34 : decode cX8_faultOf 34 = .ok (.if_icmp .ge 20, 3) := by decide +kernel
theorem dX8_faultOf_37 : decode cX8_faultOf 37 = .ok (.aload_n 0, 1) := by decide +kernel
theorem dX8_faultOf_38 : decode cX8_faultOf 38 = .ok (.getfield 99, 3) := by decide +kernel
theorem dX8_faultOf_41 : decode cX8_faultOf 41 = .ok (.istore_n 1, 1) := by decide +kernel
theorem dX8_faultOf_42 : decode cX8_faultOf 42 = .ok (.aload_n 0, 1) := by decide +kernel
theorem dX8_faultOf_43 : decode cX8_faultOf 43 = .ok (.invokevirtual 127, 3) := by decide +kernel
theorem dX8_faultOf_46 : decode cX8_faultOf 46 = .ok (.ifCond .ne 5, 3) := by decide +kernel
theorem dX8_faultOf_49 : decode cX8_faultOf 49 = .ok (.iload_n 1, 1) := by decide +kernel
theorem dX8_faultOf_50 : decode cX8_faultOf 50 = .ok (.ireturn, 1) := by decide +kernel
theorem dX8_faultOf_51 : decode cX8_faultOf 51 = .ok (.goto (-25), 3) := by decide +kernel
theorem dX8_faultOf_54 : decode cX8_faultOf 54 = .ok (.bipush (-4), 2) := by decide +kernel
theorem dX8_faultOf_56 : decode cX8_faultOf 56 = .ok (.ireturn, 1) := by decide +kernel
theorem dX8_fault_0 : decode cX8_fault 0 = .ok (.aload_n 0, 1) := by decide +kernel
theorem dX8_fault_1 : decode cX8_fault 1 = .ok (.invokevirtual 130, 3) := by decide +kernel
theorem dX8_fault_4 : decode cX8_fault 4 = .ok (.ireturn, 1) := by decide +kernel
theorem dX8_lay_0 : decode cX8_lay 0 = .ok (.aload_n 0, 1) := by decide +kernel
theorem dX8_lay_1 : decode cX8_lay 1 = .ok (.invokevirtual 130, 3) := by decide +kernel
theorem dX8_lay_4 : decode cX8_lay 4 = .ok (.bipush (-4), 2) := by decide +kernel
theorem dX8_lay_6 : decode cX8_lay 6 = .ok (.if_icmp .ne 10, 3) := by decide +kernel
theorem dX8_lay_9 : decode cX8_lay 9 = .ok (.aload_n 0, 1) := by decide +kernel
theorem dX8_lay_10 : decode cX8_lay 10 = .ok (.getfield 47, 3) := by decide +kernel
theorem dX8_lay_13 : decode cX8_lay 13 = .ok (.ifCond .ne 6, 3) := by decide +kernel
theorem dX8_lay_16 : decode cX8_lay 16 = .ok (.bipush (-2), 2) := by decide +kernel
theorem dX8_lay_18 : decode cX8_lay 18 = .ok (.ireturn, 1) := by decide +kernel
theorem dX8_lay_19 : decode cX8_lay 19 = .ok (.aload_n 0, 1) := by decide +kernel
theorem dX8_lay_20 : decode cX8_lay 20 = .ok (.invokevirtual 64, 3) := by decide +kernel
theorem dX8_lay_23 : decode cX8_lay 23 = .ok (.aload_n 0, 1) := by decide +kernel
theorem dX8_lay_24 : decode cX8_lay 24 = .ok (.getfield 67, 3) := by decide +kernel
theorem dX8_lay_27 : decode cX8_lay 27 = .ok (.ireturn, 1) := by decide +kernel
theorem dX8_placeOf_0 : decode cX8_placeOf 0 = .ok (.iconst 0, 1) := by decide +kernel
theorem dX8_placeOf_1 : decode cX8_placeOf 1 = .ok (.istore_n 3, 1) := by decide +kernel
theorem dX8_placeOf_2 : decode cX8_placeOf 2 = .ok (.iload_n 3, 1) := by decide +kernel
theorem dX8_placeOf_3 : decode cX8_placeOf 3 = .ok (.aload_n 0, 1) := by decide +kernel
theorem dX8_placeOf_4 : decode cX8_placeOf 4 = .ok (.getfield 7, 3) := by decide +kernel
theorem dX8_placeOf_7 : decode cX8_placeOf 7 = .ok (.iload_n 1, 1) := by decide +kernel
theorem dX8_placeOf_8 : decode cX8_placeOf 8 = .ok (.iconst 2, 1) := by decide +kernel
theorem dX8_placeOf_9 : decode cX8_placeOf 9 = .ok (.iadd, 1) := by decide +kernel
theorem dX8_placeOf_10 : decode cX8_placeOf 10 = .ok (.iaload, 1) := by decide +kernel
theorem dX8_placeOf_11 : decode cX8_placeOf 11 = .ok (.if_icmp .ge 25, 3) := by decide +kernel
theorem dX8_placeOf_14 : decode cX8_placeOf 14 = .ok (.aload_n 0, 1) := by decide +kernel
theorem dX8_placeOf_15 : decode cX8_placeOf 15 = .ok (.getfield 7, 3) := by decide +kernel
theorem dX8_placeOf_18 : decode cX8_placeOf 18 = .ok (.iload_n 1, 1) := by decide +kernel
theorem dX8_placeOf_19 : decode cX8_placeOf 19 = .ok (.iconst 3, 1) := by decide +kernel
theorem dX8_placeOf_20 : decode cX8_placeOf 20 = .ok (.iadd, 1) := by decide +kernel
theorem dX8_placeOf_21 : decode cX8_placeOf 21 = .ok (.iload_n 3, 1) := by decide +kernel
theorem dX8_placeOf_22 : decode cX8_placeOf 22 = .ok (.iadd, 1) := by decide +kernel
theorem dX8_placeOf_23 : decode cX8_placeOf 23 = .ok (.iaload, 1) := by decide +kernel
theorem dX8_placeOf_24 : decode cX8_placeOf 24 = .ok (.iload_n 2, 1) := by decide +kernel
theorem dX8_placeOf_25 : decode cX8_placeOf 25 = .ok (.if_icmp .ne 5, 3) := by decide +kernel
theorem dX8_placeOf_28 : decode cX8_placeOf 28 = .ok (.iload_n 3, 1) := by decide +kernel
theorem dX8_placeOf_29 : decode cX8_placeOf 29 = .ok (.ireturn, 1) := by decide +kernel
theorem dX8_placeOf_30 : decode cX8_placeOf 30 = .ok (.iinc 3 1, 3) := by decide +kernel
theorem dX8_placeOf_33 : decode cX8_placeOf 33 = .ok (.goto (-31), 3) := by decide +kernel
theorem dX8_placeOf_36 : decode cX8_placeOf 36 = .ok (.bipush (-4), 2) := by decide +kernel
theorem dX8_placeOf_38 : decode cX8_placeOf 38 = .ok (.ireturn, 1) := by decide +kernel
theorem dX8_stands_0 : decode cX8_stands 0 = .ok (.aload_n 0, 1) := by decide +kernel
theorem dX8_stands_1 : decode cX8_stands 1 = .ok (.getfield 7, 3) := by decide +kernel
theorem dX8_stands_4 : decode cX8_stands 4 = .ok (.iload_n 1, 1) := by decide +kernel
theorem dX8_stands_5 : decode cX8_stands 5 = .ok (.iconst 2, 1) := by decide +kernel
theorem dX8_stands_6 : decode cX8_stands 6 = .ok (.iadd, 1) := by decide +kernel
theorem dX8_stands_7 : decode cX8_stands 7 = .ok (.iaload, 1) := by decide +kernel
theorem dX8_stands_8 : decode cX8_stands 8 = .ok (.istore 4, 2) := by decide +kernel
theorem dX8_stands_10 : decode cX8_stands 10 = .ok (.iload 4, 2) := by decide +kernel
theorem dX8_stands_12 : decode cX8_stands 12 = .ok (.iload_n 3, 1) := by decide +kernel
theorem dX8_stands_13 : decode cX8_stands 13 = .ok (.if_icmp .le 33, 3) := by decide +kernel
theorem dX8_stands_16 : decode cX8_stands 16 = .ok (.aload_n 0, 1) := by decide +kernel
theorem dX8_stands_17 : decode cX8_stands 17 = .ok (.getfield 7, 3) := by decide +kernel
theorem dX8_stands_20 : decode cX8_stands 20 = .ok (.iload_n 1, 1) := by decide +kernel
theorem dX8_stands_21 : decode cX8_stands 21 = .ok (.iconst 3, 1) := by decide +kernel
theorem dX8_stands_22 : decode cX8_stands 22 = .ok (.iadd, 1) := by decide +kernel
theorem dX8_stands_23 : decode cX8_stands 23 = .ok (.iload 4, 2) := by decide +kernel
theorem dX8_stands_25 : decode cX8_stands 25 = .ok (.iadd, 1) := by decide +kernel
theorem dX8_stands_26 : decode cX8_stands 26 = .ok (.aload_n 0, 1) := by decide +kernel
theorem dX8_stands_27 : decode cX8_stands 27 = .ok (.getfield 7, 3) := by decide +kernel
theorem dX8_stands_30 : decode cX8_stands 30 = .ok (.iload_n 1, 1) := by decide +kernel
theorem dX8_stands_31 : decode cX8_stands 31 = .ok (.iconst 3, 1) := by decide +kernel
theorem dX8_stands_32 : decode cX8_stands 32 = .ok (.iadd, 1) := by decide +kernel
theorem dX8_stands_33 : decode cX8_stands 33 = .ok (.iload 4, 2) := by decide +kernel
theorem dX8_stands_35 : decode cX8_stands 35 = .ok (.iadd, 1) := by decide +kernel
theorem dX8_stands_36 : decode cX8_stands 36 = .ok (.iconst 1, 1) := by decide +kernel
theorem dX8_stands_37 : decode cX8_stands 37 = .ok (.isub, 1) := by decide +kernel
theorem dX8_stands_38 : decode cX8_stands 38 = .ok (.iaload, 1) := by decide +kernel
theorem dX8_stands_39 : decode cX8_stands 39 = .ok (.iastore, 1) := by decide +kernel
theorem dX8_stands_40 : decode cX8_stands 40 = .ok (.iinc 4 (-1), 3) := by decide +kernel
theorem dX8_stands_43 : decode cX8_stands 43 = .ok (.goto (-33), 3) := by decide +kernel
theorem dX8_stands_46 : decode cX8_stands 46 = .ok (.aload_n 0, 1) := by decide +kernel
theorem dX8_stands_47 : decode cX8_stands 47 = .ok (.getfield 7, 3) := by decide +kernel
theorem dX8_stands_50 : decode cX8_stands 50 = .ok (.iload_n 1, 1) := by decide +kernel
theorem dX8_stands_51 : decode cX8_stands 51 = .ok (.iconst 3, 1) := by decide +kernel
theorem dX8_stands_52 : decode cX8_stands 52 = .ok (.iadd, 1) := by decide +kernel
theorem dX8_stands_53 : decode cX8_stands 53 = .ok (.iload_n 3, 1) := by decide +kernel
theorem dX8_stands_54 : decode cX8_stands 54 = .ok (.iadd, 1) := by decide +kernel
theorem dX8_stands_55 : decode cX8_stands 55 = .ok (.iload_n 2, 1) := by decide +kernel
theorem dX8_stands_56 : decode cX8_stands 56 = .ok (.iastore, 1) := by decide +kernel
theorem dX8_stands_57 : decode cX8_stands 57 = .ok (.aload_n 0, 1) := by decide +kernel
theorem dX8_stands_58 : decode cX8_stands 58 = .ok (.getfield 7, 3) := by decide +kernel
theorem dX8_stands_61 : decode cX8_stands 61 = .ok (.iload_n 1, 1) := by decide +kernel
theorem dX8_stands_62 : decode cX8_stands 62 = .ok (.iconst 2, 1) := by decide +kernel
theorem dX8_stands_63 : decode cX8_stands 63 = .ok (.iadd, 1) := by decide +kernel
theorem dX8_stands_64 : decode cX8_stands 64 = .ok (.dup2, 1) := by decide +kernel
theorem dX8_stands_65 : decode cX8_stands 65 = .ok (.iaload, 1) := by decide +kernel
theorem dX8_stands_66 : decode cX8_stands 66 = .ok (.iconst 1, 1) := by decide +kernel
theorem dX8_stands_67 : decode cX8_stands 67 = .ok (.iadd, 1) := by decide +kernel
theorem dX8_stands_68 : decode cX8_stands 68 = .ok (.iastore, 1) := by decide +kernel
theorem dX8_stands_69 : decode cX8_stands 69 = .ok (.aload_n 0, 1) := by decide +kernel
theorem dX8_stands_70 : decode cX8_stands 70 = .ok (.getfield 7, 3) := by decide +kernel
theorem dX8_stands_73 : decode cX8_stands 73 = .ok (.iload_n 1, 1) := by decide +kernel
theorem dX8_stands_74 : decode cX8_stands 74 = .ok (.bipush 12, 2) := by decide +kernel
theorem dX8_stands_76 : decode cX8_stands 76 = .ok (.iadd, 1) := by decide +kernel
theorem dX8_stands_77 : decode cX8_stands 77 = .ok (.iload_n 2, 1) := by decide +kernel
theorem dX8_stands_78 : decode cX8_stands 78 = .ok (.iadd, 1) := by decide +kernel
theorem dX8_stands_79 : decode cX8_stands 79 = .ok (.iconst 1, 1) := by decide +kernel
theorem dX8_stands_80 : decode cX8_stands 80 = .ok (.iastore, 1) := by decide +kernel
theorem dX8_stands_81 : decode cX8_stands 81 = .ok (.aload_n 0, 1) := by decide +kernel
theorem dX8_stands_82 : decode cX8_stands 82 = .ok (.getfield 7, 3) := by decide +kernel
theorem dX8_stands_85 : decode cX8_stands 85 = .ok (.iload_n 1, 1) := by decide +kernel
theorem dX8_stands_86 : decode cX8_stands 86 = .ok (.bipush 21, 2) := by decide +kernel
theorem dX8_stands_88 : decode cX8_stands 88 = .ok (.iadd, 1) := by decide +kernel
theorem dX8_stands_89 : decode cX8_stands 89 = .ok (.iload_n 2, 1) := by decide +kernel
theorem dX8_stands_90 : decode cX8_stands 90 = .ok (.iadd, 1) := by decide +kernel
theorem dX8_stands_91 : decode cX8_stands 91 = .ok (.iconst 0, 1) := by decide +kernel
theorem dX8_stands_92 : decode cX8_stands 92 = .ok (.iastore, 1) := by decide +kernel
theorem dX8_stands_93 : decode cX8_stands 93 = .ok (.return_, 1) := by decide +kernel
theorem dX8_goes_0 : decode cX8_goes 0 = .ok (.aload_n 0, 1) := by decide +kernel
theorem dX8_goes_1 : decode cX8_goes 1 = .ok (.iload_n 1, 1) := by decide +kernel
theorem dX8_goes_2 : decode cX8_goes 2 = .ok (.iload_n 2, 1) := by decide +kernel
theorem dX8_goes_3 : decode cX8_goes 3 = .ok (.invokevirtual 134, 3) := by decide +kernel
theorem dX8_goes_6 : decode cX8_goes 6 = .ok (.istore 4, 2) := by decide +kernel
theorem dX8_goes_8 : decode cX8_goes 8 = .ok (.iload 4, 2) := by decide +kernel
theorem dX8_goes_10 : decode cX8_goes 10 = .ok (.aload_n 0, 1) := by decide +kernel
theorem dX8_goes_11 : decode cX8_goes 11 = .ok (.getfield 7, 3) := by decide +kernel
theorem dX8_goes_14 : decode cX8_goes 14 = .ok (.iload_n 1, 1) := by decide +kernel
theorem dX8_goes_15 : decode cX8_goes 15 = .ok (.iconst 2, 1) := by decide +kernel
theorem dX8_goes_16 : decode cX8_goes 16 = .ok (.iadd, 1) := by decide +kernel
theorem dX8_goes_17 : decode cX8_goes 17 = .ok (.iaload, 1) := by decide +kernel
theorem dX8_goes_18 : decode cX8_goes 18 = .ok (.iconst 1, 1) := by decide +kernel
theorem dX8_goes_19 : decode cX8_goes 19 = .ok (.isub, 1) := by decide +kernel
theorem dX8_goes_20 : decode cX8_goes 20 = .ok (.if_icmp .ge 33, 3) := by decide +kernel
theorem dX8_goes_23 : decode cX8_goes 23 = .ok (.aload_n 0, 1) := by decide +kernel
theorem dX8_goes_24 : decode cX8_goes 24 = .ok (.getfield 7, 3) := by decide +kernel
theorem dX8_goes_27 : decode cX8_goes 27 = .ok (.iload_n 1, 1) := by decide +kernel
theorem dX8_goes_28 : decode cX8_goes 28 = .ok (.iconst 3, 1) := by decide +kernel
theorem dX8_goes_29 : decode cX8_goes 29 = .ok (.iadd, 1) := by decide +kernel
theorem dX8_goes_30 : decode cX8_goes 30 = .ok (.iload 4, 2) := by decide +kernel
theorem dX8_goes_32 : decode cX8_goes 32 = .ok (.iadd, 1) := by decide +kernel
theorem dX8_goes_33 : decode cX8_goes 33 = .ok (.aload_n 0, 1) := by decide +kernel
theorem dX8_goes_34 : decode cX8_goes 34 = .ok (.getfield 7, 3) := by decide +kernel
theorem dX8_goes_37 : decode cX8_goes 37 = .ok (.iload_n 1, 1) := by decide +kernel
theorem dX8_goes_38 : decode cX8_goes 38 = .ok (.iconst 3, 1) := by decide +kernel
theorem dX8_goes_39 : decode cX8_goes 39 = .ok (.iadd, 1) := by decide +kernel
theorem dX8_goes_40 : decode cX8_goes 40 = .ok (.iload 4, 2) := by decide +kernel
theorem dX8_goes_42 : decode cX8_goes 42 = .ok (.iadd, 1) := by decide +kernel
theorem dX8_goes_43 : decode cX8_goes 43 = .ok (.iconst 1, 1) := by decide +kernel
theorem dX8_goes_44 : decode cX8_goes 44 = .ok (.iadd, 1) := by decide +kernel
theorem dX8_goes_45 : decode cX8_goes 45 = .ok (.iaload, 1) := by decide +kernel
theorem dX8_goes_46 : decode cX8_goes 46 = .ok (.iastore, 1) := by decide +kernel
theorem dX8_goes_47 : decode cX8_goes 47 = .ok (.iinc 4 1, 3) := by decide +kernel
theorem dX8_goes_50 : decode cX8_goes 50 = .ok (.goto (-42), 3) := by decide +kernel
theorem dX8_goes_53 : decode cX8_goes 53 = .ok (.aload_n 0, 1) := by decide +kernel
theorem dX8_goes_54 : decode cX8_goes 54 = .ok (.getfield 7, 3) := by decide +kernel
theorem dX8_goes_57 : decode cX8_goes 57 = .ok (.iload_n 1, 1) := by decide +kernel
theorem dX8_goes_58 : decode cX8_goes 58 = .ok (.iconst 2, 1) := by decide +kernel
theorem dX8_goes_59 : decode cX8_goes 59 = .ok (.iadd, 1) := by decide +kernel
theorem dX8_goes_60 : decode cX8_goes 60 = .ok (.dup2, 1) := by decide +kernel
theorem dX8_goes_61 : decode cX8_goes 61 = .ok (.iaload, 1) := by decide +kernel
theorem dX8_goes_62 : decode cX8_goes 62 = .ok (.iconst 1, 1) := by decide +kernel
theorem dX8_goes_63 : decode cX8_goes 63 = .ok (.isub, 1) := by decide +kernel
theorem dX8_goes_64 : decode cX8_goes 64 = .ok (.iastore, 1) := by decide +kernel
theorem dX8_goes_65 : decode cX8_goes 65 = .ok (.aload_n 0, 1) := by decide +kernel
theorem dX8_goes_66 : decode cX8_goes 66 = .ok (.getfield 7, 3) := by decide +kernel
theorem dX8_goes_69 : decode cX8_goes 69 = .ok (.iload_n 1, 1) := by decide +kernel
theorem dX8_goes_70 : decode cX8_goes 70 = .ok (.bipush 12, 2) := by decide +kernel
theorem dX8_goes_72 : decode cX8_goes 72 = .ok (.iadd, 1) := by decide +kernel
theorem dX8_goes_73 : decode cX8_goes 73 = .ok (.iload_n 2, 1) := by decide +kernel
theorem dX8_goes_74 : decode cX8_goes 74 = .ok (.iadd, 1) := by decide +kernel
theorem dX8_goes_75 : decode cX8_goes 75 = .ok (.iload_n 3, 1) := by decide +kernel
theorem dX8_goes_76 : decode cX8_goes 76 = .ok (.iastore, 1) := by decide +kernel
theorem dX8_goes_77 : decode cX8_goes 77 = .ok (.aload_n 0, 1) := by decide +kernel
theorem dX8_goes_78 : decode cX8_goes 78 = .ok (.getfield 7, 3) := by decide +kernel
theorem dX8_goes_81 : decode cX8_goes 81 = .ok (.iload_n 1, 1) := by decide +kernel
theorem dX8_goes_82 : decode cX8_goes 82 = .ok (.bipush 21, 2) := by decide +kernel
theorem dX8_goes_84 : decode cX8_goes 84 = .ok (.iadd, 1) := by decide +kernel
theorem dX8_goes_85 : decode cX8_goes 85 = .ok (.iload_n 2, 1) := by decide +kernel
theorem dX8_goes_86 : decode cX8_goes 86 = .ok (.iadd, 1) := by decide +kernel
theorem dX8_goes_87 : decode cX8_goes 87 = .ok (.iconst 0, 1) := by decide +kernel
theorem dX8_goes_88 : decode cX8_goes 88 = .ok (.iastore, 1) := by decide +kernel
theorem dX8_goes_89 : decode cX8_goes 89 = .ok (.return_, 1) := by decide +kernel
theorem dX8_joins_0 : decode cX8_joins 0 = .ok (.aload_n 0, 1) := by decide +kernel
theorem dX8_joins_1 : decode cX8_joins 1 = .ok (.getfield 7, 3) := by decide +kernel
theorem dX8_joins_4 : decode cX8_joins 4 = .ok (.iload_n 1, 1) := by decide +kernel
theorem dX8_joins_5 : decode cX8_joins 5 = .ok (.iconst 2, 1) := by decide +kernel
theorem dX8_joins_6 : decode cX8_joins 6 = .ok (.iadd, 1) := by decide +kernel
theorem dX8_joins_7 : decode cX8_joins 7 = .ok (.iaload, 1) := by decide +kernel
theorem dX8_joins_8 : decode cX8_joins 8 = .ok (.ifCond .ne 8, 3) := by decide +kernel
theorem dX8_joins_11 : decode cX8_joins 11 = .ok (.bipush (-4), 2) := by decide +kernel
theorem dX8_joins_13 : decode cX8_joins 13 = .ok (.goto 11, 3) := by decide +kernel
theorem dX8_joins_16 : decode cX8_joins 16 = .ok (.aload_n 0, 1) := by decide +kernel
theorem dX8_joins_17 : decode cX8_joins 17 = .ok (.getfield 7, 3) := by decide +kernel
theorem dX8_joins_20 : decode cX8_joins 20 = .ok (.iload_n 1, 1) := by decide +kernel
theorem dX8_joins_21 : decode cX8_joins 21 = .ok (.iconst 3, 1) := by decide +kernel
theorem dX8_joins_22 : decode cX8_joins 22 = .ok (.iadd, 1) := by decide +kernel
theorem dX8_joins_23 : decode cX8_joins 23 = .ok (.iaload, 1) := by decide +kernel
theorem dX8_joins_24 : decode cX8_joins 24 = .ok (.istore_n 3, 1) := by decide +kernel
theorem dX8_joins_25 : decode cX8_joins 25 = .ok (.iload_n 3, 1) := by decide +kernel
theorem dX8_joins_26 : decode cX8_joins 26 = .ok (.bipush (-4), 2) := by decide +kernel
theorem dX8_joins_28 : decode cX8_joins 28 = .ok (.if_icmp .eq 46, 3) := by decide +kernel
theorem dX8_joins_31 : decode cX8_joins 31 = .ok (.aload_n 0, 1) := by decide +kernel
theorem dX8_joins_32 : decode cX8_joins 32 = .ok (.getfield 7, 3) := by decide +kernel
theorem dX8_joins_35 : decode cX8_joins 35 = .ok (.iload_n 1, 1) := by decide +kernel
theorem dX8_joins_36 : decode cX8_joins 36 = .ok (.bipush 57, 2) := by decide +kernel
theorem dX8_joins_38 : decode cX8_joins 38 = .ok (.iadd, 1) := by decide +kernel
theorem dX8_joins_39 : decode cX8_joins 39 = .ok (.iload_n 3, 1) := by decide +kernel
theorem dX8_joins_40 : decode cX8_joins 40 = .ok (.iadd, 1) := by decide +kernel
theorem dX8_joins_41 : decode cX8_joins 41 = .ok (.iaload, 1) := by decide +kernel
theorem dX8_joins_42 : decode cX8_joins 42 = .ok (.iconst 1, 1) := by decide +kernel
theorem dX8_joins_43 : decode cX8_joins 43 = .ok (.if_icmp .ne 31, 3) := by decide +kernel
theorem dX8_joins_46 : decode cX8_joins 46 = .ok (.aload_n 0, 1) := by decide +kernel
theorem dX8_joins_47 : decode cX8_joins 47 = .ok (.getfield 13, 3) := by decide +kernel
theorem dX8_joins_50 : decode cX8_joins 50 = .ok (.iload_n 2, 1) := by decide +kernel
theorem dX8_joins_51 : decode cX8_joins 51 = .ok (.iaload, 1) := by decide +kernel
theorem dX8_joins_52 : decode cX8_joins 52 = .ok (.ifCond .eq 18, 3) := by decide +kernel
theorem dX8_joins_55 : decode cX8_joins 55 = .ok (.aload_n 0, 1) := by decide +kernel
theorem dX8_joins_56 : decode cX8_joins 56 = .ok (.getfield 13, 3) := by decide +kernel
theorem dX8_joins_59 : decode cX8_joins 59 = .ok (.iload_n 2, 1) := by decide +kernel
theorem dX8_joins_60 : decode cX8_joins 60 = .ok (.iaload, 1) := by decide +kernel
theorem dX8_joins_61 : decode cX8_joins 61 = .ok (.aload_n 0, 1) := by decide +kernel
theorem dX8_joins_62 : decode cX8_joins 62 = .ok (.getfield 13, 3) := by decide +kernel
theorem dX8_joins_65 : decode cX8_joins 65 = .ok (.iload_n 3, 1) := by decide +kernel
theorem dX8_joins_66 : decode cX8_joins 66 = .ok (.iaload, 1) := by decide +kernel
theorem dX8_joins_67 : decode cX8_joins 67 = .ok (.if_icmp .eq 7, 3) := by decide +kernel
theorem dX8_joins_70 : decode cX8_joins 70 = .ok (.iconst 1, 1) := by decide +kernel
theorem dX8_joins_71 : decode cX8_joins 71 = .ok (.goto 4, 3) := by decide +kernel
theorem dX8_joins_74 : decode cX8_joins 74 = .ok (.iconst 0, 1) := by decide +kernel
theorem dX8_joins_75 : decode cX8_joins 75 = .ok (.istore 4, 2) := by decide +kernel
theorem dX8_joins_77 : decode cX8_joins 77 = .ok (.aload_n 0, 1) := by decide +kernel
theorem dX8_joins_78 : decode cX8_joins 78 = .ok (.iload_n 1, 1) := by decide +kernel
theorem dX8_joins_79 : decode cX8_joins 79 = .ok (.iload_n 2, 1) := by decide +kernel
theorem dX8_joins_80 : decode cX8_joins 80 = .ok (.iload 4, 2) := by decide +kernel
theorem dX8_joins_82 : decode cX8_joins 82 = .ok (.ifCond .eq 7, 3) := by decide +kernel
theorem dX8_joins_85 : decode cX8_joins 85 = .ok (.iconst 1, 1) := by decide +kernel
theorem dX8_joins_86 : decode cX8_joins 86 = .ok (.goto 4, 3) := by decide +kernel
theorem dX8_joins_89 : decode cX8_joins 89 = .ok (.iconst 0, 1) := by decide +kernel
theorem dX8_joins_90 : decode cX8_joins 90 = .ok (.invokevirtual 138, 3) := by decide +kernel
theorem dX8_joins_93 : decode cX8_joins 93 = .ok (.return_, 1) := by decide +kernel
theorem dX8_sneezes_0 : decode cX8_sneezes 0 = .ok (.aload_n 0, 1) := by decide +kernel
theorem dX8_sneezes_1 : decode cX8_sneezes 1 = .ok (.iload_n 1, 1) := by decide +kernel
theorem dX8_sneezes_2 : decode cX8_sneezes 2 = .ok (.iload_n 2, 1) := by decide +kernel
theorem dX8_sneezes_3 : decode cX8_sneezes 3 = .ok (.iconst 1, 1) := by decide +kernel
theorem dX8_sneezes_4 : decode cX8_sneezes 4 = .ok (.invokevirtual 141, 3) := by decide +kernel
theorem dX8_sneezes_7 : decode cX8_sneezes 7 = .ok (.aload_n 0, 1) := by decide +kernel
theorem dX8_sneezes_8 : decode cX8_sneezes 8 = .ok (.iload_n 1, 1) := by decide +kernel
theorem dX8_sneezes_9 : decode cX8_sneezes 9 = .ok (.iload_n 2, 1) := by decide +kernel
theorem dX8_sneezes_10 : decode cX8_sneezes 10 = .ok (.aload_n 0, 1) := by decide +kernel
theorem dX8_sneezes_11 : decode cX8_sneezes 11 = .ok (.getfield 7, 3) := by decide +kernel
theorem dX8_sneezes_14 : decode cX8_sneezes 14 = .ok (.iload_n 1, 1) := by decide +kernel
theorem dX8_sneezes_15 : decode cX8_sneezes 15 = .ok (.iconst 2, 1) := by decide +kernel
theorem dX8_sneezes_16 : decode cX8_sneezes 16 = .ok (.iadd, 1) := by decide +kernel
theorem dX8_sneezes_17 : decode cX8_sneezes 17 = .ok (.iaload, 1) := by decide +kernel
theorem dX8_sneezes_18 : decode cX8_sneezes 18 = .ok (.invokevirtual 138, 3) := by decide +kernel
theorem dX8_sneezes_21 : decode cX8_sneezes 21 = .ok (.return_, 1) := by decide +kernel
theorem dX8_givesOne_0 : decode cX8_givesOne 0 = .ok (.aload_n 0, 1) := by decide +kernel
theorem dX8_givesOne_1 : decode cX8_givesOne 1 = .ok (.getfield 7, 3) := by decide +kernel
theorem dX8_givesOne_4 : decode cX8_givesOne 4 = .ok (.iload_n 1, 1) := by decide +kernel
theorem dX8_givesOne_5 : decode cX8_givesOne 5 = .ok (.iconst 2, 1) := by decide +kernel
theorem dX8_givesOne_6 : decode cX8_givesOne 6 = .ok (.iadd, 1) := by decide +kernel
theorem dX8_givesOne_7 : decode cX8_givesOne 7 = .ok (.iaload, 1) := by decide +kernel
theorem dX8_givesOne_8 : decode cX8_givesOne 8 = .ok (.istore_n 3, 1) := by decide +kernel
theorem dX8_givesOne_9 : decode cX8_givesOne 9 = .ok (.iload_n 3, 1) := by decide +kernel
theorem dX8_givesOne_10 : decode cX8_givesOne 10 = .ok (.ifCond .ne 4, 3) := by decide +kernel
theorem dX8_givesOne_13 : decode cX8_givesOne 13 = .ok (.return_, 1) := by decide +kernel
theorem dX8_givesOne_14 : decode cX8_givesOne 14 = .ok (.aload_n 0, 1) := by decide +kernel
theorem dX8_givesOne_15 : decode cX8_givesOne 15 = .ok (.getfield 7, 3) := by decide +kernel
theorem dX8_givesOne_18 : decode cX8_givesOne 18 = .ok (.iload_n 1, 1) := by decide +kernel
theorem dX8_givesOne_19 : decode cX8_givesOne 19 = .ok (.iconst 3, 1) := by decide +kernel
theorem dX8_givesOne_20 : decode cX8_givesOne 20 = .ok (.iadd, 1) := by decide +kernel
theorem dX8_givesOne_21 : decode cX8_givesOne 21 = .ok (.iload_n 2, 1) := by decide +kernel
theorem dX8_givesOne_22 : decode cX8_givesOne 22 = .ok (.ifCond .eq 9, 3) := by decide +kernel
theorem dX8_givesOne_25 : decode cX8_givesOne 25 = .ok (.iload_n 3, 1) := by decide +kernel
theorem dX8_givesOne_26 : decode cX8_givesOne 26 = .ok (.iconst 1, 1) := by decide +kernel
theorem dX8_givesOne_27 : decode cX8_givesOne 27 = .ok (.isub, 1) := by decide +kernel
theorem dX8_givesOne_28 : decode cX8_givesOne 28 = .ok (.goto 4, 3) := by decide +kernel
theorem dX8_givesOne_31 : decode cX8_givesOne 31 = .ok (.iconst 0, 1) := by decide +kernel
theorem dX8_givesOne_32 : decode cX8_givesOne 32 = .ok (.iadd, 1) := by decide +kernel
theorem dX8_givesOne_33 : decode cX8_givesOne 33 = .ok (.iaload, 1) := by decide +kernel
theorem dX8_givesOne_34 : decode cX8_givesOne 34 = .ok (.istore 4, 2) := by decide +kernel
theorem dX8_givesOne_36 : decode cX8_givesOne 36 = .ok (.aload_n 0, 1) := by decide +kernel
theorem dX8_givesOne_37 : decode cX8_givesOne 37 = .ok (.getfield 7, 3) := by decide +kernel
theorem dX8_givesOne_40 : decode cX8_givesOne 40 = .ok (.iload_n 1, 1) := by decide +kernel
theorem dX8_givesOne_41 : decode cX8_givesOne 41 = .ok (.bipush 57, 2) := by decide +kernel
theorem dX8_givesOne_43 : decode cX8_givesOne 43 = .ok (.iadd, 1) := by decide +kernel
theorem dX8_givesOne_44 : decode cX8_givesOne 44 = .ok (.iload 4, 2) := by decide +kernel
theorem dX8_givesOne_46 : decode cX8_givesOne 46 = .ok (.iadd, 1) := by decide +kernel
theorem dX8_givesOne_47 : decode cX8_givesOne 47 = .ok (.iaload, 1) := by decide +kernel
theorem dX8_givesOne_48 : decode cX8_givesOne 48 = .ok (.iconst 3, 1) := by decide +kernel
theorem dX8_givesOne_49 : decode cX8_givesOne 49 = .ok (.if_icmp .ne 7, 3) := by decide +kernel
theorem dX8_givesOne_52 : decode cX8_givesOne 52 = .ok (.iconst 1, 1) := by decide +kernel
theorem dX8_givesOne_53 : decode cX8_givesOne 53 = .ok (.goto 4, 3) := by decide +kernel
theorem dX8_givesOne_56 : decode cX8_givesOne 56 = .ok (.iconst 0, 1) := by decide +kernel
theorem dX8_givesOne_57 : decode cX8_givesOne 57 = .ok (.istore 5, 2) := by decide +kernel
theorem dX8_givesOne_59 : decode cX8_givesOne 59 = .ok (.iconst 0, 1) := by decide +kernel
theorem dX8_givesOne_60 : decode cX8_givesOne 60 = .ok (.istore 6, 2) := by decide +kernel
theorem dX8_givesOne_62 : decode cX8_givesOne 62 = .ok (.iload 6, 2) := by decide +kernel
theorem dX8_givesOne_64 : decode cX8_givesOne 64 = .ok (.iload_n 3, 1) := by decide +kernel
theorem dX8_givesOne_65 : decode cX8_givesOne 65 = .ok (.if_icmp .ge 63, 3) := by decide +kernel
theorem dX8_givesOne_68 : decode cX8_givesOne 68 = .ok (.iload 5, 2) := by decide +kernel
theorem dX8_givesOne_70 : decode cX8_givesOne 70 = .ok (.ifCond .eq 58, 3) := by decide +kernel
theorem dX8_givesOne_73 : decode cX8_givesOne 73 = .ok (.aload_n 0, 1) := by decide +kernel
theorem dX8_givesOne_74 : decode cX8_givesOne 74 = .ok (.getfield 7, 3) := by decide +kernel
theorem dX8_givesOne_77 : decode cX8_givesOne 77 = .ok (.iload_n 1, 1) := by decide +kernel
theorem dX8_givesOne_78 : decode cX8_givesOne 78 = .ok (.iconst 3, 1) := by decide +kernel
theorem dX8_givesOne_79 : decode cX8_givesOne 79 = .ok (.iadd, 1) := by decide +kernel
theorem dX8_givesOne_80 : decode cX8_givesOne 80 = .ok (.iload_n 2, 1) := by decide +kernel
theorem dX8_givesOne_81 : decode cX8_givesOne 81 = .ok (.ifCond .eq 12, 3) := by decide +kernel
theorem dX8_givesOne_84 : decode cX8_givesOne 84 = .ok (.iload_n 3, 1) := by decide +kernel
theorem dX8_givesOne_85 : decode cX8_givesOne 85 = .ok (.iconst 1, 1) := by decide +kernel
theorem dX8_givesOne_86 : decode cX8_givesOne 86 = .ok (.isub, 1) := by decide +kernel
theorem dX8_givesOne_87 : decode cX8_givesOne 87 = .ok (.iload 6, 2) := by decide +kernel
theorem dX8_givesOne_89 : decode cX8_givesOne 89 = .ok (.isub, 1) := by decide +kernel
theorem dX8_givesOne_90 : decode cX8_givesOne 90 = .ok (.goto 5, 3) := by decide +kernel
theorem dX8_givesOne_93 : decode cX8_givesOne 93 = .ok (.iload 6, 2) := by decide +kernel
theorem dX8_givesOne_95 : decode cX8_givesOne 95 = .ok (.iadd, 1) := by decide +kernel
theorem dX8_givesOne_96 : decode cX8_givesOne 96 = .ok (.iaload, 1) := by decide +kernel
theorem dX8_givesOne_97 : decode cX8_givesOne 97 = .ok (.istore 7, 2) := by decide +kernel
theorem dX8_givesOne_99 : decode cX8_givesOne 99 = .ok (.aload_n 0, 1) := by decide +kernel
theorem dX8_givesOne_100 : decode cX8_givesOne 100 = .ok (.getfield 7, 3) := by decide +kernel
theorem dX8_givesOne_103 : decode cX8_givesOne 103 = .ok (.iload_n 1, 1) := by decide +kernel
theorem dX8_givesOne_104 : decode cX8_givesOne 104 = .ok (.bipush 57, 2) := by decide +kernel
theorem dX8_givesOne_106 : decode cX8_givesOne 106 = .ok (.iadd, 1) := by decide +kernel
theorem dX8_givesOne_107 : decode cX8_givesOne 107 = .ok (.iload 7, 2) := by decide +kernel
theorem dX8_givesOne_109 : decode cX8_givesOne 109 = .ok (.iadd, 1) := by decide +kernel
theorem dX8_givesOne_110 : decode cX8_givesOne 110 = .ok (.iaload, 1) := by decide +kernel
theorem dX8_givesOne_111 : decode cX8_givesOne 111 = .ok (.iconst 3, 1) := by decide +kernel
theorem dX8_givesOne_112 : decode cX8_givesOne 112 = .ok (.if_icmp .eq 10, 3) := by decide +kernel
theorem dX8_givesOne_115 : decode cX8_givesOne 115 = .ok (.iload 7, 2) := by decide +kernel
theorem dX8_givesOne_117 : decode cX8_givesOne 117 = .ok (.istore 4, 2) := by decide +kernel
theorem dX8_givesOne_119 : decode cX8_givesOne 119 = .ok (.iconst 0, 1) := by decide +kernel
theorem dX8_givesOne_120 : decode cX8_givesOne 120 = .ok (.istore 5, 2) := by decide +kernel
theorem dX8_givesOne_122 : decode cX8_givesOne 122 = .ok (.iinc 6 1, 3) := by decide +kernel
theorem dX8_givesOne_125 : decode cX8_givesOne 125 = .ok (.goto (-63), 3) := by decide +kernel
theorem dX8_givesOne_128 : decode cX8_givesOne 128 = .ok (.aload_n 0, 1) := by decide +kernel
theorem dX8_givesOne_129 : decode cX8_givesOne 129 = .ok (.iload_n 1, 1) := by decide +kernel
theorem dX8_givesOne_130 : decode cX8_givesOne 130 = .ok (.iload 4, 2) := by decide +kernel
theorem dX8_givesOne_132 : decode cX8_givesOne 132 = .ok (.iconst 3, 1) := by decide +kernel
theorem dX8_givesOne_133 : decode cX8_givesOne 133 = .ok (.invokevirtual 141, 3) := by decide +kernel
theorem dX8_givesOne_136 : decode cX8_givesOne 136 = .ok (.aload_n 0, 1) := by decide +kernel
theorem dX8_givesOne_137 : decode cX8_givesOne 137 = .ok (.getfield 77, 3) := by decide +kernel
theorem dX8_givesOne_140 : decode cX8_givesOne 140 = .ok (.aload_n 0, 1) := by decide +kernel
theorem dX8_givesOne_141 : decode cX8_givesOne 141 = .ok (.getfield 7, 3) := by decide +kernel
theorem dX8_givesOne_144 : decode cX8_givesOne 144 = .ok (.iload_n 1, 1) := by decide +kernel
theorem dX8_givesOne_145 : decode cX8_givesOne 145 = .ok (.iconst 1, 1) := by decide +kernel
theorem dX8_givesOne_146 : decode cX8_givesOne 146 = .ok (.iadd, 1) := by decide +kernel
theorem dX8_givesOne_147 : decode cX8_givesOne 147 = .ok (.iaload, 1) := by decide +kernel
theorem dX8_givesOne_148 : decode cX8_givesOne 148 = .ok (.isub, 1) := by decide +kernel
theorem dX8_givesOne_149 : decode cX8_givesOne 149 = .ok (.istore 6, 2) := by decide +kernel
theorem dX8_givesOne_151 : decode cX8_givesOne 151 = .ok (.aload_n 0, 1) := by decide +kernel
theorem dX8_givesOne_152 : decode cX8_givesOne 152 = .ok (.getfield 7, 3) := by decide +kernel
theorem dX8_givesOne_155 : decode cX8_givesOne 155 = .ok (.iload_n 1, 1) := by decide +kernel
theorem dX8_givesOne_156 : decode cX8_givesOne 156 = .ok (.bipush 30, 2) := by decide +kernel
theorem dX8_givesOne_158 : decode cX8_givesOne 158 = .ok (.iadd, 1) := by decide +kernel
theorem dX8_givesOne_159 : decode cX8_givesOne 159 = .ok (.iload 4, 2) := by decide +kernel
theorem dX8_givesOne_161 : decode cX8_givesOne 161 = .ok (.iadd, 1) := by decide +kernel
theorem dX8_givesOne_162 : decode cX8_givesOne 162 = .ok (.aload_n 0, 1) := by decide +kernel
theorem dX8_givesOne_163 : decode cX8_givesOne 163 = .ok (.getfield 7, 3) := by decide +kernel
theorem dX8_givesOne_166 : decode cX8_givesOne 166 = .ok (.iload_n 1, 1) := by decide +kernel
theorem dX8_givesOne_167 : decode cX8_givesOne 167 = .ok (.iconst 0, 1) := by decide +kernel
theorem dX8_givesOne_168 : decode cX8_givesOne 168 = .ok (.iadd, 1) := by decide +kernel
theorem dX8_givesOne_169 : decode cX8_givesOne 169 = .ok (.iaload, 1) := by decide +kernel
theorem dX8_givesOne_170 : decode cX8_givesOne 170 = .ok (.iastore, 1) := by decide +kernel
theorem dX8_givesOne_171 : decode cX8_givesOne 171 = .ok (.aload_n 0, 1) := by decide +kernel
theorem dX8_givesOne_172 : decode cX8_givesOne 172 = .ok (.getfield 7, 3) := by decide +kernel
theorem dX8_givesOne_175 : decode cX8_givesOne 175 = .ok (.iload_n 1, 1) := by decide +kernel
theorem dX8_givesOne_176 : decode cX8_givesOne 176 = .ok (.bipush 39, 2) := by decide +kernel
theorem dX8_givesOne_178 : decode cX8_givesOne 178 = .ok (.iadd, 1) := by decide +kernel
theorem dX8_givesOne_179 : decode cX8_givesOne 179 = .ok (.iload 4, 2) := by decide +kernel
theorem dX8_givesOne_181 : decode cX8_givesOne 181 = .ok (.iadd, 1) := by decide +kernel
theorem dX8_givesOne_182 : decode cX8_givesOne 182 = .ok (.iload 6, 2) := by decide +kernel
theorem dX8_givesOne_184 : decode cX8_givesOne 184 = .ok (.ifCond .ge 7, 3) := by decide +kernel
theorem dX8_givesOne_187 : decode cX8_givesOne 187 = .ok (.iconst 0, 1) := by decide +kernel
theorem dX8_givesOne_188 : decode cX8_givesOne 188 = .ok (.goto 5, 3) := by decide +kernel
theorem dX8_givesOne_191 : decode cX8_givesOne 191 = .ok (.iload 6, 2) := by decide +kernel
theorem dX8_givesOne_193 : decode cX8_givesOne 193 = .ok (.iastore, 1) := by decide +kernel
theorem dX8_givesOne_194 : decode cX8_givesOne 194 = .ok (.aload_n 0, 1) := by decide +kernel
theorem dX8_givesOne_195 : decode cX8_givesOne 195 = .ok (.getfield 7, 3) := by decide +kernel
theorem dX8_givesOne_198 : decode cX8_givesOne 198 = .ok (.iload_n 1, 1) := by decide +kernel
theorem dX8_givesOne_199 : decode cX8_givesOne 199 = .ok (.iconst 1, 1) := by decide +kernel
theorem dX8_givesOne_200 : decode cX8_givesOne 200 = .ok (.iadd, 1) := by decide +kernel
theorem dX8_givesOne_201 : decode cX8_givesOne 201 = .ok (.dup2, 1) := by decide +kernel
theorem dX8_givesOne_202 : decode cX8_givesOne 202 = .ok (.iaload, 1) := by decide +kernel
theorem dX8_givesOne_203 : decode cX8_givesOne 203 = .ok (.iconst 1, 1) := by decide +kernel
theorem dX8_givesOne_204 : decode cX8_givesOne 204 = .ok (.iadd, 1) := by decide +kernel
theorem dX8_givesOne_205 : decode cX8_givesOne 205 = .ok (.iastore, 1) := by decide +kernel
theorem dX8_givesOne_206 : decode cX8_givesOne 206 = .ok (.return_, 1) := by decide +kernel
theorem dX8_passesBy_0 : decode cX8_passesBy 0 = .ok (.iconst 0, 1) := by decide +kernel
theorem dX8_passesBy_1 : decode cX8_passesBy 1 = .ok (.istore 4, 2) := by decide +kernel
theorem dX8_passesBy_3 : decode cX8_passesBy 3 = .ok (.iload 4, 2) := by decide +kernel
theorem dX8_passesBy_5 : decode cX8_passesBy 5 = .ok (.aload_n 0, 1) := by decide +kernel
theorem dX8_passesBy_6 : decode cX8_passesBy 6 = .ok (.getfield 67, 3) := by decide +kernel
theorem dX8_passesBy_9 : decode cX8_passesBy 9 = .ok (.if_icmp .ge 54, 3) := by decide +kernel
theorem dX8_passesBy_12 : decode cX8_passesBy 12 = .ok (.aload_n 0, 1) := by decide +kernel
theorem dX8_passesBy_13 : decode cX8_passesBy 13 = .ok (.getfield 7, 3) := by decide +kernel
theorem dX8_passesBy_16 : decode cX8_passesBy 16 = .ok (.iload_n 1, 1) := by decide +kernel
theorem dX8_passesBy_17 : decode cX8_passesBy 17 = .ok (.bipush 12, 2) := by decide +kernel
theorem dX8_passesBy_19 : decode cX8_passesBy 19 = .ok (.iadd, 1) := by decide +kernel
theorem dX8_passesBy_20 : decode cX8_passesBy 20 = .ok (.iload 4, 2) := by decide +kernel
theorem dX8_passesBy_22 : decode cX8_passesBy 22 = .ok (.iadd, 1) := by decide +kernel
theorem dX8_passesBy_23 : decode cX8_passesBy 23 = .ok (.iaload, 1) := by decide +kernel
theorem dX8_passesBy_24 : decode cX8_passesBy 24 = .ok (.ifCond .ne 33, 3) := by decide +kernel
theorem dX8_passesBy_27 : decode cX8_passesBy 27 = .ok (.aload_n 0, 1) := by decide +kernel
theorem dX8_passesBy_28 : decode cX8_passesBy 28 = .ok (.getfield 7, 3) := by decide +kernel
theorem dX8_passesBy_31 : decode cX8_passesBy 31 = .ok (.iload_n 1, 1) := by decide +kernel
theorem dX8_passesBy_32 : decode cX8_passesBy 32 = .ok (.bipush 48, 2) := by decide +kernel
theorem dX8_passesBy_34 : decode cX8_passesBy 34 = .ok (.iadd, 1) := by decide +kernel
theorem dX8_passesBy_35 : decode cX8_passesBy 35 = .ok (.iload 4, 2) := by decide +kernel
theorem dX8_passesBy_37 : decode cX8_passesBy 37 = .ok (.iadd, 1) := by decide +kernel
theorem dX8_passesBy_38 : decode cX8_passesBy 38 = .ok (.iaload, 1) := by decide +kernel
theorem dX8_passesBy_39 : decode cX8_passesBy 39 = .ok (.aload_n 0, 1) := by decide +kernel
theorem dX8_passesBy_40 : decode cX8_passesBy 40 = .ok (.getfield 7, 3) := by decide +kernel
theorem dX8_passesBy_43 : decode cX8_passesBy 43 = .ok (.iload_n 1, 1) := by decide +kernel
theorem dX8_passesBy_44 : decode cX8_passesBy 44 = .ok (.iconst 0, 1) := by decide +kernel
theorem dX8_passesBy_45 : decode cX8_passesBy 45 = .ok (.iadd, 1) := by decide +kernel
theorem dX8_passesBy_46 : decode cX8_passesBy 46 = .ok (.iaload, 1) := by decide +kernel
theorem dX8_passesBy_47 : decode cX8_passesBy 47 = .ok (.if_icmp .ne 10, 3) := by decide +kernel
theorem dX8_passesBy_50 : decode cX8_passesBy 50 = .ok (.aload_n 0, 1) := by decide +kernel
theorem dX8_passesBy_51 : decode cX8_passesBy 51 = .ok (.iload_n 1, 1) := by decide +kernel
theorem dX8_passesBy_52 : decode cX8_passesBy 52 = .ok (.iload 4, 2) := by decide +kernel
theorem dX8_passesBy_54 : decode cX8_passesBy 54 = .ok (.invokevirtual 144, 3) := by decide +kernel
theorem dX8_passesBy_57 : decode cX8_passesBy 57 = .ok (.iinc 4 1, 3) := by decide +kernel
theorem dX8_passesBy_60 : decode cX8_passesBy 60 = .ok (.goto (-57), 3) := by decide +kernel
theorem dX8_passesBy_63 : decode cX8_passesBy 63 = .ok (.iconst 0, 1) := by decide +kernel
theorem dX8_passesBy_64 : decode cX8_passesBy 64 = .ok (.istore 4, 2) := by decide +kernel
theorem dX8_passesBy_66 : decode cX8_passesBy 66 = .ok (.iload 4, 2) := by decide +kernel
theorem dX8_passesBy_68 : decode cX8_passesBy 68 = .ok (.aload_n 0, 1) := by decide +kernel
theorem dX8_passesBy_69 : decode cX8_passesBy 69 = .ok (.getfield 67, 3) := by decide +kernel
theorem dX8_passesBy_72 : decode cX8_passesBy 72 = .ok (.if_icmp .ge 64, 3) := by decide +kernel
theorem dX8_passesBy_75 : decode cX8_passesBy 75 = .ok (.aload_n 0, 1) := by decide +kernel
theorem dX8_passesBy_76 : decode cX8_passesBy 76 = .ok (.getfield 7, 3) := by decide +kernel
theorem dX8_passesBy_79 : decode cX8_passesBy 79 = .ok (.iload_n 1, 1) := by decide +kernel
theorem dX8_passesBy_80 : decode cX8_passesBy 80 = .ok (.bipush 57, 2) := by decide +kernel
theorem dX8_passesBy_82 : decode cX8_passesBy 82 = .ok (.iadd, 1) := by decide +kernel
theorem dX8_passesBy_83 : decode cX8_passesBy 83 = .ok (.iload 4, 2) := by decide +kernel
theorem dX8_passesBy_85 : decode cX8_passesBy 85 = .ok (.iadd, 1) := by decide +kernel
theorem dX8_passesBy_86 : decode cX8_passesBy 86 = .ok (.iaload, 1) := by decide +kernel
theorem dX8_passesBy_87 : decode cX8_passesBy 87 = .ok (.iconst 2, 1) := by decide +kernel
theorem dX8_passesBy_88 : decode cX8_passesBy 88 = .ok (.if_icmp .ne 42, 3) := by decide +kernel
theorem dX8_passesBy_91 : decode cX8_passesBy 91 = .ok (.aload_n 0, 1) := by decide +kernel
theorem dX8_passesBy_92 : decode cX8_passesBy 92 = .ok (.getfield 7, 3) := by decide +kernel
theorem dX8_passesBy_95 : decode cX8_passesBy 95 = .ok (.iload_n 1, 1) := by decide +kernel
theorem dX8_passesBy_96 : decode cX8_passesBy 96 = .ok (.bipush 12, 2) := by decide +kernel
theorem dX8_passesBy_98 : decode cX8_passesBy 98 = .ok (.iadd, 1) := by decide +kernel
theorem dX8_passesBy_99 : decode cX8_passesBy 99 = .ok (.iload 4, 2) := by decide +kernel
theorem dX8_passesBy_101 : decode cX8_passesBy 101 = .ok (.iadd, 1) := by decide +kernel
theorem dX8_passesBy_102 : decode cX8_passesBy 102 = .ok (.iaload, 1) := by decide +kernel
theorem dX8_passesBy_103 : decode cX8_passesBy 103 = .ok (.iconst 1, 1) := by decide +kernel
theorem dX8_passesBy_104 : decode cX8_passesBy 104 = .ok (.if_icmp .ne 26, 3) := by decide +kernel
theorem dX8_passesBy_107 : decode cX8_passesBy 107 = .ok (.aload_n 0, 1) := by decide +kernel
theorem dX8_passesBy_108 : decode cX8_passesBy 108 = .ok (.getfield 7, 3) := by decide +kernel
theorem dX8_passesBy_111 : decode cX8_passesBy 111 = .ok (.iload_n 1, 1) := by decide +kernel
theorem dX8_passesBy_112 : decode cX8_passesBy 112 = .ok (.bipush 21, 2) := by decide +kernel
theorem dX8_passesBy_114 : decode cX8_passesBy 114 = .ok (.iadd, 1) := by decide +kernel
theorem dX8_passesBy_115 : decode cX8_passesBy 115 = .ok (.iload 4, 2) := by decide +kernel
theorem dX8_passesBy_117 : decode cX8_passesBy 117 = .ok (.iadd, 1) := by decide +kernel
theorem dX8_passesBy_118 : decode cX8_passesBy 118 = .ok (.iaload, 1) := by decide +kernel
theorem dX8_passesBy_119 : decode cX8_passesBy 119 = .ok (.iconst 4, 1) := by decide +kernel
theorem dX8_passesBy_120 : decode cX8_passesBy 120 = .ok (.if_icmp .lt 10, 3) := by decide +kernel
theorem dX8_passesBy_123 : decode cX8_passesBy 123 = .ok (.aload_n 0, 1) := by decide +kernel
theorem dX8_passesBy_124 : decode cX8_passesBy 124 = .ok (.iload_n 1, 1) := by decide +kernel
theorem dX8_passesBy_125 : decode cX8_passesBy 125 = .ok (.iload 4, 2) := by decide +kernel
theorem dX8_passesBy_127 : decode cX8_passesBy 127 = .ok (.invokevirtual 148, 3) := by decide +kernel
theorem dX8_passesBy_130 : decode cX8_passesBy 130 = .ok (.iinc 4 1, 3) := by decide +kernel
theorem dX8_passesBy_133 : decode cX8_passesBy 133 = .ok (.goto (-67), 3) := by decide +kernel
theorem dX8_passesBy_136 : decode cX8_passesBy 136 = .ok (.aload_n 0, 1) := by decide +kernel
theorem dX8_passesBy_137 : decode cX8_passesBy 137 = .ok (.getfield 7, 3) := by decide +kernel
theorem dX8_passesBy_140 : decode cX8_passesBy 140 = .ok (.iload_n 1, 1) := by decide +kernel
theorem dX8_passesBy_141 : decode cX8_passesBy 141 = .ok (.iconst 0, 1) := by decide +kernel
theorem dX8_passesBy_142 : decode cX8_passesBy 142 = .ok (.iadd, 1) := by decide +kernel
theorem dX8_passesBy_143 : decode cX8_passesBy 143 = .ok (.iaload, 1) := by decide +kernel
theorem dX8_passesBy_144 : decode cX8_passesBy 144 = .ok (.aload_n 0, 1) := by decide +kernel
theorem dX8_passesBy_145 : decode cX8_passesBy 145 = .ok (.getfield 74, 3) := by decide +kernel
theorem dX8_passesBy_148 : decode cX8_passesBy 148 = .ok (.irem, 1) := by decide +kernel
theorem dX8_passesBy_149 : decode cX8_passesBy 149 = .ok (.ifCond .ne 27, 3) := by decide +kernel
theorem dX8_passesBy_152 : decode cX8_passesBy 152 = .ok (.aload_n 0, 1) := by decide +kernel
theorem dX8_passesBy_153 : decode cX8_passesBy 153 = .ok (.iload_n 1, 1) := by decide +kernel
theorem dX8_passesBy_154 : decode cX8_passesBy 154 = .ok (.iload_n 3, 1) := by decide +kernel
theorem dX8_passesBy_155 : decode cX8_passesBy 155 = .ok (.invokevirtual 151, 3) := by decide +kernel
theorem dX8_passesBy_158 : decode cX8_passesBy 158 = .ok (.iload_n 2, 1) := by decide +kernel
theorem dX8_passesBy_159 : decode cX8_passesBy 159 = .ok (.ifCond .eq 17, 3) := by decide +kernel
theorem dX8_passesBy_162 : decode cX8_passesBy 162 = .ok (.aload_n 0, 1) := by decide +kernel
theorem dX8_passesBy_163 : decode cX8_passesBy 163 = .ok (.iload_n 1, 1) := by decide +kernel
theorem dX8_passesBy_164 : decode cX8_passesBy 164 = .ok (.iload_n 3, 1) := by decide +kernel
theorem dX8_passesBy_165 : decode cX8_passesBy 165 = .ok (.ifCond .ne 7, 3) := by decide +kernel
theorem dX8_passesBy_168 : decode cX8_passesBy 168 = .ok (.iconst 1, 1) := by decide +kernel
theorem dX8_passesBy_169 : decode cX8_passesBy 169 = .ok (.goto 4, 3) := by decide +kernel
theorem dX8_passesBy_172 : decode cX8_passesBy 172 = .ok (.iconst 0, 1) := by decide +kernel
theorem dX8_passesBy_173 : decode cX8_passesBy 173 = .ok (.invokevirtual 151, 3) := by decide +kernel
theorem dX8_passesBy_176 : decode cX8_passesBy 176 = .ok (.iconst 0, 1) := by decide +kernel
theorem dX8_passesBy_177 : decode cX8_passesBy 177 = .ok (.istore 4, 2) := by decide +kernel
theorem dX8_passesBy_179 : decode cX8_passesBy 179 = .ok (.iload 4, 2) := by decide +kernel
theorem dX8_passesBy_181 : decode cX8_passesBy 181 = .ok (.aload_n 0, 1) := by decide +kernel
theorem dX8_passesBy_182 : decode cX8_passesBy 182 = .ok (.getfield 7, 3) := by decide +kernel
theorem dX8_passesBy_185 : decode cX8_passesBy 185 = .ok (.iload_n 1, 1) := by decide +kernel
theorem dX8_passesBy_186 : decode cX8_passesBy 186 = .ok (.iconst 2, 1) := by decide +kernel
theorem dX8_passesBy_187 : decode cX8_passesBy 187 = .ok (.iadd, 1) := by decide +kernel
theorem dX8_passesBy_188 : decode cX8_passesBy 188 = .ok (.iaload, 1) := by decide +kernel
theorem dX8_passesBy_189 : decode cX8_passesBy 189 = .ok (.if_icmp .ge 34, 3) := by decide +kernel
theorem dX8_passesBy_192 : decode cX8_passesBy 192 = .ok (.aload_n 0, 1) := by decide +kernel
theorem dX8_passesBy_193 : decode cX8_passesBy 193 = .ok (.getfield 7, 3) := by decide +kernel
theorem dX8_passesBy_196 : decode cX8_passesBy 196 = .ok (.iload_n 1, 1) := by decide +kernel
theorem dX8_passesBy_197 : decode cX8_passesBy 197 = .ok (.bipush 21, 2) := by decide +kernel
theorem dX8_passesBy_199 : decode cX8_passesBy 199 = .ok (.iadd, 1) := by decide +kernel
theorem dX8_passesBy_200 : decode cX8_passesBy 200 = .ok (.aload_n 0, 1) := by decide +kernel
theorem dX8_passesBy_201 : decode cX8_passesBy 201 = .ok (.getfield 7, 3) := by decide +kernel
theorem dX8_passesBy_204 : decode cX8_passesBy 204 = .ok (.iload_n 1, 1) := by decide +kernel
theorem dX8_passesBy_205 : decode cX8_passesBy 205 = .ok (.iconst 3, 1) := by decide +kernel
theorem dX8_passesBy_206 : decode cX8_passesBy 206 = .ok (.iadd, 1) := by decide +kernel
theorem dX8_passesBy_207 : decode cX8_passesBy 207 = .ok (.iload 4, 2) := by decide +kernel
theorem dX8_passesBy_209 : decode cX8_passesBy 209 = .ok (.iadd, 1) := by decide +kernel
theorem dX8_passesBy_210 : decode cX8_passesBy 210 = .ok (.iaload, 1) := by decide +kernel
theorem dX8_passesBy_211 : decode cX8_passesBy 211 = .ok (.iadd, 1) := by decide +kernel
theorem dX8_passesBy_212 : decode cX8_passesBy 212 = .ok (.dup2, 1) := by decide +kernel
theorem dX8_passesBy_213 : decode cX8_passesBy 213 = .ok (.iaload, 1) := by decide +kernel
theorem dX8_passesBy_214 : decode cX8_passesBy 214 = .ok (.iconst 1, 1) := by decide +kernel
theorem dX8_passesBy_215 : decode cX8_passesBy 215 = .ok (.iadd, 1) := by decide +kernel
theorem dX8_passesBy_216 : decode cX8_passesBy 216 = .ok (.iastore, 1) := by decide +kernel
theorem dX8_passesBy_217 : decode cX8_passesBy 217 = .ok (.iinc 4 1, 3) := by decide +kernel
theorem dX8_passesBy_220 : decode cX8_passesBy 220 = .ok (.goto (-41), 3) := by decide +kernel
theorem dX8_passesBy_223 : decode cX8_passesBy 223 = .ok (.aload_n 0, 1) := by decide +kernel
theorem dX8_passesBy_224 : decode cX8_passesBy 224 = .ok (.getfield 7, 3) := by decide +kernel
theorem dX8_passesBy_227 : decode cX8_passesBy 227 = .ok (.iload_n 1, 1) := by decide +kernel
theorem dX8_passesBy_228 : decode cX8_passesBy 228 = .ok (.iconst 0, 1) := by decide +kernel
theorem dX8_passesBy_229 : decode cX8_passesBy 229 = .ok (.iadd, 1) := by decide +kernel
theorem dX8_passesBy_230 : decode cX8_passesBy 230 = .ok (.dup2, 1) := by decide +kernel
theorem dX8_passesBy_231 : decode cX8_passesBy 231 = .ok (.iaload, 1) := by decide +kernel
theorem dX8_passesBy_232 : decode cX8_passesBy 232 = .ok (.iconst 1, 1) := by decide +kernel
theorem dX8_passesBy_233 : decode cX8_passesBy 233 = .ok (.iadd, 1) := by decide +kernel
theorem dX8_passesBy_234 : decode cX8_passesBy 234 = .ok (.iastore, 1) := by decide +kernel
theorem dX8_passesBy_235 : decode cX8_passesBy 235 = .ok (.return_, 1) := by decide +kernel
theorem dX8_isRumour_0 : decode cX8_isRumour 0 = .ok (.aload_n 0, 1) := by decide +kernel
theorem dX8_isRumour_1 : decode cX8_isRumour 1 = .ok (.getfield 80, 3) := by decide +kernel
theorem dX8_isRumour_4 : decode cX8_isRumour 4 = .ok (.ifCond .le 23, 3) := by decide +kernel
theorem dX8_isRumour_7 : decode cX8_isRumour 7 = .ok (.aload_n 0, 1) := by decide +kernel
theorem dX8_isRumour_8 : decode cX8_isRumour 8 = .ok (.getfield 7, 3) := by decide +kernel
theorem dX8_isRumour_11 : decode cX8_isRumour 11 = .ok (.iload_n 1, 1) := by decide +kernel
theorem dX8_isRumour_12 : decode cX8_isRumour 12 = .ok (.iconst 0, 1) := by decide +kernel
theorem dX8_isRumour_13 : decode cX8_isRumour 13 = .ok (.iadd, 1) := by decide +kernel
theorem dX8_isRumour_14 : decode cX8_isRumour 14 = .ok (.iaload, 1) := by decide +kernel
theorem dX8_isRumour_15 : decode cX8_isRumour 15 = .ok (.aload_n 0, 1) := by decide +kernel
theorem dX8_isRumour_16 : decode cX8_isRumour 16 = .ok (.getfield 80, 3) := by decide +kernel
theorem dX8_isRumour_19 : decode cX8_isRumour 19 = .ok (.irem, 1) := by decide +kernel
theorem dX8_isRumour_20 : decode cX8_isRumour 20 = .ok (.ifCond .ne 7, 3) := by decide +kernel
theorem dX8_isRumour_23 : decode cX8_isRumour 23 = .ok (.iconst 1, 1) := by decide +kernel
theorem dX8_isRumour_24 : decode cX8_isRumour 24 = .ok (.goto 4, 3) := by decide +kernel
theorem dX8_isRumour_27 : decode cX8_isRumour 27 = .ok (.iconst 0, 1) := by decide +kernel
theorem dX8_isRumour_28 : decode cX8_isRumour 28 = .ok (.ireturn, 1) := by decide +kernel
theorem dX8_passes_0 : decode cX8_passes 0 = .ok (.aload_n 0, 1) := by decide +kernel
theorem dX8_passes_1 : decode cX8_passes 1 = .ok (.iload_n 1, 1) := by decide +kernel
theorem dX8_passes_2 : decode cX8_passes 2 = .ok (.iconst 0, 1) := by decide +kernel
theorem dX8_passes_3 : decode cX8_passes 3 = .ok (.aload_n 0, 1) := by decide +kernel
theorem dX8_passes_4 : decode cX8_passes 4 = .ok (.iload_n 1, 1) := by decide +kernel
theorem dX8_passes_5 : decode cX8_passes 5 = .ok (.invokevirtual 155, 3) := by decide +kernel
theorem dX8_passes_8 : decode cX8_passes 8 = .ok (.invokevirtual 159, 3) := by decide +kernel
theorem dX8_passes_11 : decode cX8_passes 11 = .ok (.return_, 1) := by decide +kernel
theorem dX8_isWhere_0 : decode cX8_isWhere 0 = .ok (.aload_n 0, 1) := by decide +kernel
theorem dX8_isWhere_1 : decode cX8_isWhere 1 = .ok (.getfield 7, 3) := by decide +kernel
theorem dX8_isWhere_4 : decode cX8_isWhere 4 = .ok (.iload_n 1, 1) := by decide +kernel
theorem dX8_isWhere_5 : decode cX8_isWhere 5 = .ok (.bipush 12, 2) := by decide +kernel
theorem dX8_isWhere_7 : decode cX8_isWhere 7 = .ok (.iadd, 1) := by decide +kernel
theorem dX8_isWhere_8 : decode cX8_isWhere 8 = .ok (.iload_n 2, 1) := by decide +kernel
theorem dX8_isWhere_9 : decode cX8_isWhere 9 = .ok (.iadd, 1) := by decide +kernel
theorem dX8_isWhere_10 : decode cX8_isWhere 10 = .ok (.iaload, 1) := by decide +kernel
theorem dX8_isWhere_11 : decode cX8_isWhere 11 = .ok (.iload_n 3, 1) := by decide +kernel
theorem dX8_isWhere_12 : decode cX8_isWhere 12 = .ok (.if_icmp .ne 7, 3) := by decide +kernel
theorem dX8_isWhere_15 : decode cX8_isWhere 15 = .ok (.iconst 1, 1) := by decide +kernel
theorem dX8_isWhere_16 : decode cX8_isWhere 16 = .ok (.goto 4, 3) := by decide +kernel
theorem dX8_isWhere_19 : decode cX8_isWhere 19 = .ok (.iconst 0, 1) := by decide +kernel
theorem dX8_isWhere_20 : decode cX8_isWhere 20 = .ok (.ireturn, 1) := by decide +kernel
theorem dX8_manyWhere_0 : decode cX8_manyWhere 0 = .ok (.iconst 0, 1) := by decide +kernel
theorem dX8_manyWhere_1 : decode cX8_manyWhere 1 = .ok (.istore_n 2, 1) := by decide +kernel
theorem dX8_manyWhere_2 : decode cX8_manyWhere 2 = .ok (.iconst 0, 1) := by decide +kernel
theorem dX8_manyWhere_3 : decode cX8_manyWhere 3 = .ok (.istore_n 3, 1) := by decide +kernel
theorem dX8_manyWhere_4 : decode cX8_manyWhere 4 = .ok (.iload_n 3, 1) := by decide +kernel
theorem dX8_manyWhere_5 : decode cX8_manyWhere 5 = .ok (.aload_n 0, 1) := by decide +kernel
theorem dX8_manyWhere_6 : decode cX8_manyWhere 6 = .ok (.getfield 67, 3) := by decide +kernel
theorem dX8_manyWhere_9 : decode cX8_manyWhere 9 = .ok (.if_icmp .ge 27, 3) := by decide +kernel
theorem dX8_manyWhere_12 : decode cX8_manyWhere 12 = .ok (.iload_n 2, 1) := by decide +kernel
theorem dX8_manyWhere_13 : decode cX8_manyWhere 13 = .ok (.aload_n 0, 1) := by decide +kernel
theorem dX8_manyWhere_14 : decode cX8_manyWhere 14 = .ok (.iconst 0, 1) := by decide +kernel
theorem dX8_manyWhere_15 : decode cX8_manyWhere 15 = .ok (.iload_n 3, 1) := by decide +kernel
theorem dX8_manyWhere_16 : decode cX8_manyWhere 16 = .ok (.iload_n 1, 1) := by decide +kernel
theorem dX8_manyWhere_17 : decode cX8_manyWhere 17 = .ok (.invokevirtual 163, 3) := by decide +kernel
theorem dX8_manyWhere_20 : decode cX8_manyWhere 20 = .ok (.ifCond .eq 7, 3) := by decide +kernel
theorem dX8_manyWhere_23 : decode cX8_manyWhere 23 = .ok (.iconst 1, 1) := by decide +kernel
theorem dX8_manyWhere_24 : decode cX8_manyWhere 24 = .ok (.goto 4, 3) := by decide +kernel
theorem dX8_manyWhere_27 : decode cX8_manyWhere 27 = .ok (.iconst 0, 1) := by decide +kernel
theorem dX8_manyWhere_28 : decode cX8_manyWhere 28 = .ok (.iadd, 1) := by decide +kernel
theorem dX8_manyWhere_29 : decode cX8_manyWhere 29 = .ok (.istore_n 2, 1) := by decide +kernel
theorem dX8_manyWhere_30 : decode cX8_manyWhere 30 = .ok (.iinc 3 1, 3) := by decide +kernel
theorem dX8_manyWhere_33 : decode cX8_manyWhere 33 = .ok (.goto (-29), 3) := by decide +kernel
theorem dX8_manyWhere_36 : decode cX8_manyWhere 36 = .ok (.iload_n 2, 1) := by decide +kernel
theorem dX8_manyWhere_37 : decode cX8_manyWhere 37 = .ok (.ireturn, 1) := by decide +kernel
theorem dX8_person_0 : decode cX8_person 0 = .ok (.aload_n 0, 1) := by decide +kernel
theorem dX8_person_1 : decode cX8_person 1 = .ok (.iload_n 1, 1) := by decide +kernel
theorem dX8_person_2 : decode cX8_person 2 = .ok (.invokevirtual 166, 3) := by decide +kernel
theorem dX8_person_5 : decode cX8_person 5 = .ok (.ifCond .ne 5, 3) := by decide +kernel
theorem dX8_person_8 : decode cX8_person 8 = .ok (.iconst (-1), 1) := by decide +kernel
theorem dX8_person_9 : decode cX8_person 9 = .ok (.ireturn, 1) := by decide +kernel
theorem dX8_person_10 : decode cX8_person 10 = .ok (.iload_n 2, 1) := by decide +kernel
theorem dX8_person_11 : decode cX8_person 11 = .ok (.tableswitch 119 0 7 #[45, 55, 65, 72, 82, 89, 99, 109], 45) := by decide +kernel
theorem dX8_person_56 : decode cX8_person 56 = .ok (.aload_n 0, 1) := by decide +kernel
theorem dX8_person_57 : decode cX8_person 57 = .ok (.getfield 7, 3) := by decide +kernel
theorem dX8_person_60 : decode cX8_person 60 = .ok (.bipush 57, 2) := by decide +kernel
theorem dX8_person_62 : decode cX8_person 62 = .ok (.iload_n 1, 1) := by decide +kernel
theorem dX8_person_63 : decode cX8_person 63 = .ok (.iadd, 1) := by decide +kernel
theorem dX8_person_64 : decode cX8_person 64 = .ok (.iaload, 1) := by decide +kernel
theorem dX8_person_65 : decode cX8_person 65 = .ok (.ireturn, 1) := by decide +kernel
theorem dX8_person_66 : decode cX8_person 66 = .ok (.aload_n 0, 1) := by decide +kernel
theorem dX8_person_67 : decode cX8_person 67 = .ok (.getfield 7, 3) := by decide +kernel
theorem dX8_person_70 : decode cX8_person 70 = .ok (.bipush 48, 2) := by decide +kernel
theorem dX8_person_72 : decode cX8_person 72 = .ok (.iload_n 1, 1) := by decide +kernel
theorem dX8_person_73 : decode cX8_person 73 = .ok (.iadd, 1) := by decide +kernel
theorem dX8_person_74 : decode cX8_person 74 = .ok (.iaload, 1) := by decide +kernel
theorem dX8_person_75 : decode cX8_person 75 = .ok (.ireturn, 1) := by decide +kernel
theorem dX8_person_76 : decode cX8_person 76 = .ok (.aload_n 0, 1) := by decide +kernel
theorem dX8_person_77 : decode cX8_person 77 = .ok (.getfield 13, 3) := by decide +kernel
theorem dX8_person_80 : decode cX8_person 80 = .ok (.iload_n 1, 1) := by decide +kernel
theorem dX8_person_81 : decode cX8_person 81 = .ok (.iaload, 1) := by decide +kernel
theorem dX8_person_82 : decode cX8_person 82 = .ok (.ireturn, 1) := by decide +kernel
theorem dX8_person_83 : decode cX8_person 83 = .ok (.aload_n 0, 1) := by decide +kernel
theorem dX8_person_84 : decode cX8_person 84 = .ok (.getfield 7, 3) := by decide +kernel
theorem dX8_person_87 : decode cX8_person 87 = .ok (.bipush 12, 2) := by decide +kernel
theorem dX8_person_89 : decode cX8_person 89 = .ok (.iload_n 1, 1) := by decide +kernel
theorem dX8_person_90 : decode cX8_person 90 = .ok (.iadd, 1) := by decide +kernel
theorem dX8_person_91 : decode cX8_person 91 = .ok (.iaload, 1) := by decide +kernel
theorem dX8_person_92 : decode cX8_person 92 = .ok (.ireturn, 1) := by decide +kernel
theorem dX8_person_93 : decode cX8_person 93 = .ok (.aload_n 0, 1) := by decide +kernel
theorem dX8_person_94 : decode cX8_person 94 = .ok (.iconst 0, 1) := by decide +kernel
theorem dX8_person_95 : decode cX8_person 95 = .ok (.iload_n 1, 1) := by decide +kernel
theorem dX8_person_96 : decode cX8_person 96 = .ok (.invokevirtual 134, 3) := by decide +kernel
theorem dX8_person_99 : decode cX8_person 99 = .ok (.ireturn, 1) := by decide +kernel
theorem dX8_person_100 : decode cX8_person 100 = .ok (.aload_n 0, 1) := by decide +kernel
theorem dX8_person_101 : decode cX8_person 101 = .ok (.getfield 7, 3) := by decide +kernel
theorem dX8_person_104 : decode cX8_person 104 = .ok (.bipush 21, 2) := by decide +kernel
theorem dX8_person_106 : decode cX8_person 106 = .ok (.iload_n 1, 1) := by decide +kernel
theorem dX8_person_107 : decode cX8_person 107 = .ok (.iadd, 1) := by decide +kernel
theorem dX8_person_108 : decode cX8_person 108 = .ok (.iaload, 1) := by decide +kernel
theorem dX8_person_109 : decode cX8_person 109 = .ok (.ireturn, 1) := by decide +kernel
theorem dX8_person_110 : decode cX8_person 110 = .ok (.aload_n 0, 1) := by decide +kernel
theorem dX8_person_111 : decode cX8_person 111 = .ok (.getfield 7, 3) := by decide +kernel
theorem dX8_person_114 : decode cX8_person 114 = .ok (.bipush 30, 2) := by decide +kernel
theorem dX8_person_116 : decode cX8_person 116 = .ok (.iload_n 1, 1) := by decide +kernel
theorem dX8_person_117 : decode cX8_person 117 = .ok (.iadd, 1) := by decide +kernel
theorem dX8_person_118 : decode cX8_person 118 = .ok (.iaload, 1) := by decide +kernel
theorem dX8_person_119 : decode cX8_person 119 = .ok (.ireturn, 1) := by decide +kernel
theorem dX8_person_120 : decode cX8_person 120 = .ok (.aload_n 0, 1) := by decide +kernel
theorem dX8_person_121 : decode cX8_person 121 = .ok (.getfield 7, 3) := by decide +kernel
theorem dX8_person_124 : decode cX8_person 124 = .ok (.bipush 39, 2) := by decide +kernel
theorem dX8_person_126 : decode cX8_person 126 = .ok (.iload_n 1, 1) := by decide +kernel
theorem dX8_person_127 : decode cX8_person 127 = .ok (.iadd, 1) := by decide +kernel
theorem dX8_person_128 : decode cX8_person 128 = .ok (.iaload, 1) := by decide +kernel
theorem dX8_person_129 : decode cX8_person 129 = .ok (.ireturn, 1) := by decide +kernel
theorem dX8_person_130 : decode cX8_person 130 = .ok (.iconst (-1), 1) := by decide +kernel
theorem dX8_person_131 : decode cX8_person 131 = .ok (.ireturn, 1) := by decide +kernel
theorem dX8_at_0 : decode cX8_at 0 = .ok (.iload_n 1, 1) := by decide +kernel
theorem dX8_at_1 : decode cX8_at 1 = .ok (.ifCond .ge 5, 3) := by decide +kernel
theorem dX8_at_4 : decode cX8_at 4 = .ok (.iconst (-1), 1) := by decide +kernel
theorem dX8_at_5 : decode cX8_at 5 = .ok (.ireturn, 1) := by decide +kernel
theorem dX8_at_6 : decode cX8_at 6 = .ok (.iload_n 1, 1) := by decide +kernel
theorem dX8_at_7 : decode cX8_at 7 = .ok (.aload_n 0, 1) := by decide +kernel
theorem dX8_at_8 : decode cX8_at 8 = .ok (.getfield 7, 3) := by decide +kernel
theorem dX8_at_11 : decode cX8_at 11 = .ok (.iconst 2, 1) := by decide +kernel
theorem dX8_at_12 : decode cX8_at 12 = .ok (.iaload, 1) := by decide +kernel
theorem dX8_at_13 : decode cX8_at 13 = .ok (.if_icmp .ge 14, 3) := by decide +kernel
theorem dX8_at_16 : decode cX8_at 16 = .ok (.aload_n 0, 1) := by decide +kernel
theorem dX8_at_17 : decode cX8_at 17 = .ok (.getfield 7, 3) := by decide +kernel
theorem dX8_at_20 : decode cX8_at 20 = .ok (.iconst 3, 1) := by decide +kernel
theorem dX8_at_21 : decode cX8_at 21 = .ok (.iload_n 1, 1) := by decide +kernel
theorem dX8_at_22 : decode cX8_at 22 = .ok (.iadd, 1) := by decide +kernel
theorem dX8_at_23 : decode cX8_at 23 = .ok (.iaload, 1) := by decide +kernel
theorem dX8_at_24 : decode cX8_at 24 = .ok (.goto 5, 3) := by decide +kernel
theorem dX8_at_27 : decode cX8_at 27 = .ok (.bipush (-4), 2) := by decide +kernel
theorem dX8_at_29 : decode cX8_at 29 = .ok (.ireturn, 1) := by decide +kernel
theorem dX8_minds_0 : decode cX8_minds 0 = .ok (.aload_n 0, 1) := by decide +kernel
theorem dX8_minds_1 : decode cX8_minds 1 = .ok (.getfield 83, 3) := by decide +kernel
theorem dX8_minds_4 : decode cX8_minds 4 = .ok (.bipush 8, 2) := by decide +kernel
theorem dX8_minds_6 : decode cX8_minds 6 = .ok (.if_icmp .ne 51, 3) := by decide +kernel
theorem dX8_minds_9 : decode cX8_minds 9 = .ok (.iconst 0, 1) := by decide +kernel
theorem dX8_minds_10 : decode cX8_minds 10 = .ok (.istore_n 1, 1) := by decide +kernel
theorem dX8_minds_11 : decode cX8_minds 11 = .ok (.iload_n 1, 1) := by decide +kernel
theorem dX8_minds_12 : decode cX8_minds 12 = .ok (.sipush 462, 3) := by decide +kernel
theorem dX8_minds_15 : decode cX8_minds 15 = .ok (.if_icmp .ge 32, 3) := by decide +kernel
theorem dX8_minds_18 : decode cX8_minds 18 = .ok (.aload_n 0, 1) := by decide +kernel
theorem dX8_minds_19 : decode cX8_minds 19 = .ok (.getfield 7, 3) := by decide +kernel
theorem dX8_minds_22 : decode cX8_minds 22 = .ok (.sipush 264, 3) := by decide +kernel
theorem dX8_minds_25 : decode cX8_minds 25 = .ok (.iload_n 1, 1) := by decide +kernel
theorem dX8_minds_26 : decode cX8_minds 26 = .ok (.iadd, 1) := by decide +kernel
theorem dX8_minds_27 : decode cX8_minds 27 = .ok (.aload_n 0, 1) := by decide +kernel
theorem dX8_minds_28 : decode cX8_minds 28 = .ok (.getfield 7, 3) := by decide +kernel
theorem dX8_minds_31 : decode cX8_minds 31 = .ok (.sipush 264, 3) := by decide +kernel
theorem dX8_minds_34 : decode cX8_minds 34 = .ok (.iload_n 1, 1) := by decide +kernel
theorem dX8_minds_35 : decode cX8_minds 35 = .ok (.iadd, 1) := by decide +kernel
theorem dX8_minds_36 : decode cX8_minds 36 = .ok (.bipush 66, 2) := by decide +kernel
theorem dX8_minds_38 : decode cX8_minds 38 = .ok (.iadd, 1) := by decide +kernel
theorem dX8_minds_39 : decode cX8_minds 39 = .ok (.iaload, 1) := by decide +kernel
theorem dX8_minds_40 : decode cX8_minds 40 = .ok (.iastore, 1) := by decide +kernel
theorem dX8_minds_41 : decode cX8_minds 41 = .ok (.iinc 1 1, 3) := by decide +kernel
theorem dX8_minds_44 : decode cX8_minds 44 = .ok (.goto (-33), 3) := by decide +kernel
theorem dX8_minds_47 : decode cX8_minds 47 = .ok (.aload_n 0, 1) := by decide +kernel
theorem dX8_minds_48 : decode cX8_minds 48 = .ok (.dup, 1) := by decide +kernel
theorem dX8_minds_49 : decode cX8_minds 49 = .ok (.getfield 83, 3) := by decide +kernel
theorem dX8_minds_52 : decode cX8_minds 52 = .ok (.iconst 1, 1) := by decide +kernel
theorem dX8_minds_53 : decode cX8_minds 53 = .ok (.isub, 1) := by decide +kernel
theorem dX8_minds_54 : decode cX8_minds 54 = .ok (.putfield 83, 3) := by decide +kernel
theorem dX8_minds_57 : decode cX8_minds 57 = .ok (.aload_n 0, 1) := by decide +kernel
theorem dX8_minds_58 : decode cX8_minds 58 = .ok (.iconst 0, 1) := by decide +kernel
theorem dX8_minds_59 : decode cX8_minds 59 = .ok (.sipush 264, 3) := by decide +kernel
theorem dX8_minds_62 : decode cX8_minds 62 = .ok (.bipush 66, 2) := by decide +kernel
theorem dX8_minds_64 : decode cX8_minds 64 = .ok (.aload_n 0, 1) := by decide +kernel
theorem dX8_minds_65 : decode cX8_minds 65 = .ok (.getfield 83, 3) := by decide +kernel
theorem dX8_minds_68 : decode cX8_minds 68 = .ok (.imul, 1) := by decide +kernel
theorem dX8_minds_69 : decode cX8_minds 69 = .ok (.iadd, 1) := by decide +kernel
theorem dX8_minds_70 : decode cX8_minds 70 = .ok (.invokevirtual 169, 3) := by decide +kernel
theorem dX8_minds_73 : decode cX8_minds 73 = .ok (.aload_n 0, 1) := by decide +kernel
theorem dX8_minds_74 : decode cX8_minds 74 = .ok (.dup, 1) := by decide +kernel
theorem dX8_minds_75 : decode cX8_minds 75 = .ok (.getfield 83, 3) := by decide +kernel
theorem dX8_minds_78 : decode cX8_minds 78 = .ok (.iconst 1, 1) := by decide +kernel
theorem dX8_minds_79 : decode cX8_minds 79 = .ok (.iadd, 1) := by decide +kernel
theorem dX8_minds_80 : decode cX8_minds 80 = .ok (.putfield 83, 3) := by decide +kernel
theorem dX8_minds_83 : decode cX8_minds 83 = .ok (.return_, 1) := by decide +kernel
theorem dX8_pass_0 : decode cX8_pass 0 = .ok (.iload_n 1, 1) := by decide +kernel
theorem dX8_pass_1 : decode cX8_pass 1 = .ok (.i2l, 1) := by decide +kernel
theorem dX8_pass_2 : decode cX8_pass 2 = .ok (.lconst 1, 1) := by decide +kernel
theorem dX8_pass_3 : decode cX8_pass 3 = .ok (.ldc2_w 172, 3) := by decide +kernel
theorem dX8_pass_6 : decode cX8_pass 6 = .ok (.invokestatic 70, 3) := by decide +kernel
theorem dX8_pass_9 : decode cX8_pass 9 = .ok (.ifCond .ne 5, 3) := by decide +kernel
theorem dX8_pass_12 : decode cX8_pass 12 = .ok (.iconst (-1), 1) := by decide +kernel
theorem dX8_pass_13 : decode cX8_pass 13 = .ok (.ireturn, 1) := by decide +kernel
theorem dX8_pass_14 : decode cX8_pass 14 = .ok (.aload_n 0, 1) := by decide +kernel
theorem dX8_pass_15 : decode cX8_pass 15 = .ok (.invokevirtual 174, 3) := by decide +kernel
theorem dX8_pass_18 : decode cX8_pass 18 = .ok (.iconst 0, 1) := by decide +kernel
theorem dX8_pass_19 : decode cX8_pass 19 = .ok (.istore_n 2, 1) := by decide +kernel
theorem dX8_pass_20 : decode cX8_pass 20 = .ok (.iload_n 2, 1) := by decide +kernel
theorem dX8_pass_21 : decode cX8_pass 21 = .ok (.iload_n 1, 1) := by decide +kernel
theorem dX8_pass_22 : decode cX8_pass 22 = .ok (.if_icmp .ge 14, 3) := by decide +kernel
theorem dX8_pass_25 : decode cX8_pass 25 = .ok (.aload_n 0, 1) := by decide +kernel
theorem dX8_pass_26 : decode cX8_pass 26 = .ok (.iconst 0, 1) := by decide +kernel
theorem dX8_pass_27 : decode cX8_pass 27 = .ok (.invokevirtual 177, 3) := by decide +kernel
theorem dX8_pass_30 : decode cX8_pass 30 = .ok (.iinc 2 1, 3) := by decide +kernel
theorem dX8_pass_33 : decode cX8_pass 33 = .ok (.goto (-13), 3) := by decide +kernel
theorem dX8_pass_36 : decode cX8_pass 36 = .ok (.aload_n 0, 1) := by decide +kernel
theorem dX8_pass_37 : decode cX8_pass 37 = .ok (.iconst 3, 1) := by decide +kernel
theorem dX8_pass_38 : decode cX8_pass 38 = .ok (.invokevirtual 181, 3) := by decide +kernel
theorem dX8_pass_41 : decode cX8_pass 41 = .ok (.ireturn, 1) := by decide +kernel
theorem dX8_canGiveUp_0 : decode cX8_canGiveUp 0 = .ok (.aload_n 0, 1) := by decide +kernel
theorem dX8_canGiveUp_1 : decode cX8_canGiveUp 1 = .ok (.iload_n 1, 1) := by decide +kernel
theorem dX8_canGiveUp_2 : decode cX8_canGiveUp 2 = .ok (.iload_n 2, 1) := by decide +kernel
theorem dX8_canGiveUp_3 : decode cX8_canGiveUp 3 = .ok (.iconst 1, 1) := by decide +kernel
theorem dX8_canGiveUp_4 : decode cX8_canGiveUp 4 = .ok (.invokevirtual 163, 3) := by decide +kernel
theorem dX8_canGiveUp_7 : decode cX8_canGiveUp 7 = .ok (.ifCond .eq 26, 3) := by decide +kernel
theorem dX8_canGiveUp_10 : decode cX8_canGiveUp 10 = .ok (.aload_n 0, 1) := by decide +kernel
theorem dX8_canGiveUp_11 : decode cX8_canGiveUp 11 = .ok (.iload_n 1, 1) := by decide +kernel
theorem dX8_canGiveUp_12 : decode cX8_canGiveUp 12 = .ok (.iload_n 2, 1) := by decide +kernel
theorem dX8_canGiveUp_13 : decode cX8_canGiveUp 13 = .ok (.invokevirtual 134, 3) := by decide +kernel
theorem dX8_canGiveUp_16 : decode cX8_canGiveUp 16 = .ok (.aload_n 0, 1) := by decide +kernel
theorem dX8_canGiveUp_17 : decode cX8_canGiveUp 17 = .ok (.getfield 7, 3) := by decide +kernel
theorem dX8_canGiveUp_20 : decode cX8_canGiveUp 20 = .ok (.iload_n 1, 1) := by decide +kernel
theorem dX8_canGiveUp_21 : decode cX8_canGiveUp 21 = .ok (.iconst 2, 1) := by decide +kernel
theorem dX8_canGiveUp_22 : decode cX8_canGiveUp 22 = .ok (.iadd, 1) := by decide +kernel
theorem dX8_canGiveUp_23 : decode cX8_canGiveUp 23 = .ok (.iaload, 1) := by decide +kernel
theorem dX8_canGiveUp_24 : decode cX8_canGiveUp 24 = .ok (.iconst 1, 1) := by decide +kernel
theorem dX8_canGiveUp_25 : decode cX8_canGiveUp 25 = .ok (.isub, 1) := by decide +kernel
theorem dX8_canGiveUp_26 : decode cX8_canGiveUp 26 = .ok (.if_icmp .ge 7, 3) := by decide +kernel
theorem dX8_canGiveUp_29 : decode cX8_canGiveUp 29 = .ok (.iconst 1, 1) := by decide +kernel
theorem dX8_canGiveUp_30 : decode cX8_canGiveUp 30 = .ok (.goto 4, 3) := by decide +kernel
theorem dX8_canGiveUp_33 : decode cX8_canGiveUp 33 = .ok (.iconst 0, 1) := by decide +kernel
theorem dX8_canGiveUp_34 : decode cX8_canGiveUp 34 = .ok (.ireturn, 1) := by decide +kernel
theorem dX8_givesUp_0 : decode cX8_givesUp 0 = .ok (.aload_n 0, 1) := by decide +kernel
theorem dX8_givesUp_1 : decode cX8_givesUp 1 = .ok (.iload_n 1, 1) := by decide +kernel
theorem dX8_givesUp_2 : decode cX8_givesUp 2 = .ok (.iload_n 2, 1) := by decide +kernel
theorem dX8_givesUp_3 : decode cX8_givesUp 3 = .ok (.invokevirtual 134, 3) := by decide +kernel
theorem dX8_givesUp_6 : decode cX8_givesUp 6 = .ok (.istore_n 3, 1) := by decide +kernel
theorem dX8_givesUp_7 : decode cX8_givesUp 7 = .ok (.aload_n 0, 1) := by decide +kernel
theorem dX8_givesUp_8 : decode cX8_givesUp 8 = .ok (.getfield 7, 3) := by decide +kernel
theorem dX8_givesUp_11 : decode cX8_givesUp 11 = .ok (.iload_n 1, 1) := by decide +kernel
theorem dX8_givesUp_12 : decode cX8_givesUp 12 = .ok (.iconst 3, 1) := by decide +kernel
theorem dX8_givesUp_13 : decode cX8_givesUp 13 = .ok (.iadd, 1) := by decide +kernel
theorem dX8_givesUp_14 : decode cX8_givesUp 14 = .ok (.iload_n 3, 1) := by decide +kernel
theorem dX8_givesUp_15 : decode cX8_givesUp 15 = .ok (.iadd, 1) := by decide +kernel
theorem dX8_givesUp_16 : decode cX8_givesUp 16 = .ok (.aload_n 0, 1) := by decide +kernel
theorem dX8_givesUp_17 : decode cX8_givesUp 17 = .ok (.getfield 7, 3) := by decide +kernel
theorem dX8_givesUp_20 : decode cX8_givesUp 20 = .ok (.iload_n 1, 1) := by decide +kernel
theorem dX8_givesUp_21 : decode cX8_givesUp 21 = .ok (.iconst 3, 1) := by decide +kernel
theorem dX8_givesUp_22 : decode cX8_givesUp 22 = .ok (.iadd, 1) := by decide +kernel
theorem dX8_givesUp_23 : decode cX8_givesUp 23 = .ok (.iload_n 3, 1) := by decide +kernel
theorem dX8_givesUp_24 : decode cX8_givesUp 24 = .ok (.iadd, 1) := by decide +kernel
theorem dX8_givesUp_25 : decode cX8_givesUp 25 = .ok (.iconst 1, 1) := by decide +kernel
theorem dX8_givesUp_26 : decode cX8_givesUp 26 = .ok (.iadd, 1) := by decide +kernel
theorem dX8_givesUp_27 : decode cX8_givesUp 27 = .ok (.iaload, 1) := by decide +kernel
theorem dX8_givesUp_28 : decode cX8_givesUp 28 = .ok (.iastore, 1) := by decide +kernel
theorem dX8_givesUp_29 : decode cX8_givesUp 29 = .ok (.aload_n 0, 1) := by decide +kernel
theorem dX8_givesUp_30 : decode cX8_givesUp 30 = .ok (.getfield 7, 3) := by decide +kernel
theorem dX8_givesUp_33 : decode cX8_givesUp 33 = .ok (.iload_n 1, 1) := by decide +kernel
theorem dX8_givesUp_34 : decode cX8_givesUp 34 = .ok (.iconst 3, 1) := by decide +kernel
theorem dX8_givesUp_35 : decode cX8_givesUp 35 = .ok (.iadd, 1) := by decide +kernel
theorem dX8_givesUp_36 : decode cX8_givesUp 36 = .ok (.iload_n 3, 1) := by decide +kernel
theorem dX8_givesUp_37 : decode cX8_givesUp 37 = .ok (.iadd, 1) := by decide +kernel
theorem dX8_givesUp_38 : decode cX8_givesUp 38 = .ok (.iconst 1, 1) := by decide +kernel
theorem dX8_givesUp_39 : decode cX8_givesUp 39 = .ok (.iadd, 1) := by decide +kernel
theorem dX8_givesUp_40 : decode cX8_givesUp 40 = .ok (.iload_n 2, 1) := by decide +kernel
theorem dX8_givesUp_41 : decode cX8_givesUp 41 = .ok (.iastore, 1) := by decide +kernel
theorem dX8_givesUp_42 : decode cX8_givesUp 42 = .ok (.return_, 1) := by decide +kernel
theorem dX8_giveUp_0 : decode cX8_giveUp 0 = .ok (.aload_n 0, 1) := by decide +kernel
theorem dX8_giveUp_1 : decode cX8_giveUp 1 = .ok (.iload_n 1, 1) := by decide +kernel
theorem dX8_giveUp_2 : decode cX8_giveUp 2 = .ok (.invokevirtual 166, 3) := by decide +kernel
theorem dX8_giveUp_5 : decode cX8_giveUp 5 = .ok (.ifCond .ne 5, 3) := by decide +kernel
theorem dX8_giveUp_8 : decode cX8_giveUp 8 = .ok (.iconst (-1), 1) := by decide +kernel
theorem dX8_giveUp_9 : decode cX8_giveUp 9 = .ok (.ireturn, 1) := by decide +kernel
theorem dX8_giveUp_10 : decode cX8_giveUp 10 = .ok (.aload_n 0, 1) := by decide +kernel
theorem dX8_giveUp_11 : decode cX8_giveUp 11 = .ok (.iconst 0, 1) := by decide +kernel
theorem dX8_giveUp_12 : decode cX8_giveUp 12 = .ok (.iload_n 1, 1) := by decide +kernel
theorem dX8_giveUp_13 : decode cX8_giveUp 13 = .ok (.invokevirtual 184, 3) := by decide +kernel
theorem dX8_giveUp_16 : decode cX8_giveUp 16 = .ok (.ifCond .ne 6, 3) := by decide +kernel
theorem dX8_giveUp_19 : decode cX8_giveUp 19 = .ok (.bipush (-2), 2) := by decide +kernel
theorem dX8_giveUp_21 : decode cX8_giveUp 21 = .ok (.ireturn, 1) := by decide +kernel
theorem dX8_giveUp_22 : decode cX8_giveUp 22 = .ok (.aload_n 0, 1) := by decide +kernel
theorem dX8_giveUp_23 : decode cX8_giveUp 23 = .ok (.invokevirtual 174, 3) := by decide +kernel
theorem dX8_giveUp_26 : decode cX8_giveUp 26 = .ok (.aload_n 0, 1) := by decide +kernel
theorem dX8_giveUp_27 : decode cX8_giveUp 27 = .ok (.iconst 0, 1) := by decide +kernel
theorem dX8_giveUp_28 : decode cX8_giveUp 28 = .ok (.iload_n 1, 1) := by decide +kernel
theorem dX8_giveUp_29 : decode cX8_giveUp 29 = .ok (.invokevirtual 188, 3) := by decide +kernel
theorem dX8_giveUp_32 : decode cX8_giveUp 32 = .ok (.aload_n 0, 1) := by decide +kernel
theorem dX8_giveUp_33 : decode cX8_giveUp 33 = .ok (.iconst 0, 1) := by decide +kernel
theorem dX8_giveUp_34 : decode cX8_giveUp 34 = .ok (.iload_n 1, 1) := by decide +kernel
theorem dX8_giveUp_35 : decode cX8_giveUp 35 = .ok (.invokevirtual 134, 3) := by decide +kernel
theorem dX8_giveUp_38 : decode cX8_giveUp 38 = .ok (.ireturn, 1) := by decide +kernel
theorem dX8_sneeze_0 : decode cX8_sneeze 0 = .ok (.aload_n 0, 1) := by decide +kernel
theorem dX8_sneeze_1 : decode cX8_sneeze 1 = .ok (.iload_n 1, 1) := by decide +kernel
theorem dX8_sneeze_2 : decode cX8_sneeze 2 = .ok (.invokevirtual 166, 3) := by decide +kernel
theorem dX8_sneeze_5 : decode cX8_sneeze 5 = .ok (.ifCond .ne 5, 3) := by decide +kernel
theorem dX8_sneeze_8 : decode cX8_sneeze 8 = .ok (.iconst (-1), 1) := by decide +kernel
theorem dX8_sneeze_9 : decode cX8_sneeze 9 = .ok (.ireturn, 1) := by decide +kernel
theorem dX8_sneeze_10 : decode cX8_sneeze 10 = .ok (.aload_n 0, 1) := by decide +kernel
theorem dX8_sneeze_11 : decode cX8_sneeze 11 = .ok (.iconst 0, 1) := by decide +kernel
theorem dX8_sneeze_12 : decode cX8_sneeze 12 = .ok (.iload_n 1, 1) := by decide +kernel
theorem dX8_sneeze_13 : decode cX8_sneeze 13 = .ok (.iconst 1, 1) := by decide +kernel
theorem dX8_sneeze_14 : decode cX8_sneeze 14 = .ok (.invokevirtual 163, 3) := by decide +kernel
theorem dX8_sneeze_17 : decode cX8_sneeze 17 = .ok (.ifCond .ne 6, 3) := by decide +kernel
theorem dX8_sneeze_20 : decode cX8_sneeze 20 = .ok (.bipush (-2), 2) := by decide +kernel
theorem dX8_sneeze_22 : decode cX8_sneeze 22 = .ok (.ireturn, 1) := by decide +kernel
theorem dX8_sneeze_23 : decode cX8_sneeze 23 = .ok (.aload_n 0, 1) := by decide +kernel
theorem dX8_sneeze_24 : decode cX8_sneeze 24 = .ok (.invokevirtual 174, 3) := by decide +kernel
theorem dX8_sneeze_27 : decode cX8_sneeze 27 = .ok (.aload_n 0, 1) := by decide +kernel
theorem dX8_sneeze_28 : decode cX8_sneeze 28 = .ok (.iconst 0, 1) := by decide +kernel
theorem dX8_sneeze_29 : decode cX8_sneeze 29 = .ok (.iload_n 1, 1) := by decide +kernel
theorem dX8_sneeze_30 : decode cX8_sneeze 30 = .ok (.invokevirtual 148, 3) := by decide +kernel
theorem dX8_sneeze_33 : decode cX8_sneeze 33 = .ok (.aload_n 0, 1) := by decide +kernel
theorem dX8_sneeze_34 : decode cX8_sneeze 34 = .ok (.getfield 7, 3) := by decide +kernel
theorem dX8_sneeze_37 : decode cX8_sneeze 37 = .ok (.iconst 2, 1) := by decide +kernel
theorem dX8_sneeze_38 : decode cX8_sneeze 38 = .ok (.iaload, 1) := by decide +kernel
theorem dX8_sneeze_39 : decode cX8_sneeze 39 = .ok (.ireturn, 1) := by decide +kernel
theorem dX8_leave_0 : decode cX8_leave 0 = .ok (.aload_n 0, 1) := by decide +kernel
theorem dX8_leave_1 : decode cX8_leave 1 = .ok (.iload_n 1, 1) := by decide +kernel
theorem dX8_leave_2 : decode cX8_leave 2 = .ok (.invokevirtual 166, 3) := by decide +kernel
theorem dX8_leave_5 : decode cX8_leave 5 = .ok (.ifCond .ne 5, 3) := by decide +kernel
theorem dX8_leave_8 : decode cX8_leave 8 = .ok (.iconst (-1), 1) := by decide +kernel
theorem dX8_leave_9 : decode cX8_leave 9 = .ok (.ireturn, 1) := by decide +kernel
theorem dX8_leave_10 : decode cX8_leave 10 = .ok (.aload_n 0, 1) := by decide +kernel
theorem dX8_leave_11 : decode cX8_leave 11 = .ok (.iconst 0, 1) := by decide +kernel
theorem dX8_leave_12 : decode cX8_leave 12 = .ok (.iload_n 1, 1) := by decide +kernel
theorem dX8_leave_13 : decode cX8_leave 13 = .ok (.iconst 1, 1) := by decide +kernel
theorem dX8_leave_14 : decode cX8_leave 14 = .ok (.invokevirtual 163, 3) := by decide +kernel
theorem dX8_leave_17 : decode cX8_leave 17 = .ok (.ifCond .ne 6, 3) := by decide +kernel
theorem dX8_leave_20 : decode cX8_leave 20 = .ok (.bipush (-2), 2) := by decide +kernel
theorem dX8_leave_22 : decode cX8_leave 22 = .ok (.ireturn, 1) := by decide +kernel
theorem dX8_leave_23 : decode cX8_leave 23 = .ok (.aload_n 0, 1) := by decide +kernel
theorem dX8_leave_24 : decode cX8_leave 24 = .ok (.invokevirtual 174, 3) := by decide +kernel
theorem dX8_leave_27 : decode cX8_leave 27 = .ok (.aload_n 0, 1) := by decide +kernel
theorem dX8_leave_28 : decode cX8_leave 28 = .ok (.iconst 0, 1) := by decide +kernel
theorem dX8_leave_29 : decode cX8_leave 29 = .ok (.iload_n 1, 1) := by decide +kernel
theorem dX8_leave_30 : decode cX8_leave 30 = .ok (.iconst 2, 1) := by decide +kernel
theorem dX8_leave_31 : decode cX8_leave 31 = .ok (.invokevirtual 141, 3) := by decide +kernel
theorem dX8_leave_34 : decode cX8_leave 34 = .ok (.aload_n 0, 1) := by decide +kernel
theorem dX8_leave_35 : decode cX8_leave 35 = .ok (.getfield 7, 3) := by decide +kernel
theorem dX8_leave_38 : decode cX8_leave 38 = .ok (.iconst 2, 1) := by decide +kernel
theorem dX8_leave_39 : decode cX8_leave 39 = .ok (.iaload, 1) := by decide +kernel
theorem dX8_leave_40 : decode cX8_leave 40 = .ok (.ireturn, 1) := by decide +kernel
theorem dX8_again_0 : decode cX8_again 0 = .ok (.aload_n 0, 1) := by decide +kernel
theorem dX8_again_1 : decode cX8_again 1 = .ok (.iload_n 1, 1) := by decide +kernel
theorem dX8_again_2 : decode cX8_again 2 = .ok (.invokevirtual 166, 3) := by decide +kernel
theorem dX8_again_5 : decode cX8_again 5 = .ok (.ifCond .ne 5, 3) := by decide +kernel
theorem dX8_again_8 : decode cX8_again 8 = .ok (.iconst (-1), 1) := by decide +kernel
theorem dX8_again_9 : decode cX8_again 9 = .ok (.ireturn, 1) := by decide +kernel
theorem dX8_again_10 : decode cX8_again 10 = .ok (.aload_n 0, 1) := by decide +kernel
theorem dX8_again_11 : decode cX8_again 11 = .ok (.iconst 0, 1) := by decide +kernel
theorem dX8_again_12 : decode cX8_again 12 = .ok (.iload_n 1, 1) := by decide +kernel
theorem dX8_again_13 : decode cX8_again 13 = .ok (.iconst 2, 1) := by decide +kernel
theorem dX8_again_14 : decode cX8_again 14 = .ok (.invokevirtual 163, 3) := by decide +kernel
theorem dX8_again_17 : decode cX8_again 17 = .ok (.ifCond .ne 6, 3) := by decide +kernel
theorem dX8_again_20 : decode cX8_again 20 = .ok (.bipush (-2), 2) := by decide +kernel
theorem dX8_again_22 : decode cX8_again 22 = .ok (.ireturn, 1) := by decide +kernel
theorem dX8_again_23 : decode cX8_again 23 = .ok (.aload_n 0, 1) := by decide +kernel
theorem dX8_again_24 : decode cX8_again 24 = .ok (.invokevirtual 174, 3) := by decide +kernel
theorem dX8_again_27 : decode cX8_again 27 = .ok (.aload_n 0, 1) := by decide +kernel
theorem dX8_again_28 : decode cX8_again 28 = .ok (.iconst 0, 1) := by decide +kernel
theorem dX8_again_29 : decode cX8_again 29 = .ok (.iload_n 1, 1) := by decide +kernel
theorem dX8_again_30 : decode cX8_again 30 = .ok (.invokevirtual 144, 3) := by decide +kernel
theorem dX8_again_33 : decode cX8_again 33 = .ok (.aload_n 0, 1) := by decide +kernel
theorem dX8_again_34 : decode cX8_again 34 = .ok (.iconst 0, 1) := by decide +kernel
theorem dX8_again_35 : decode cX8_again 35 = .ok (.iload_n 1, 1) := by decide +kernel
theorem dX8_again_36 : decode cX8_again 36 = .ok (.invokevirtual 134, 3) := by decide +kernel
theorem dX8_again_39 : decode cX8_again 39 = .ok (.ireturn, 1) := by decide +kernel
theorem dX8_undo_0 : decode cX8_undo 0 = .ok (.aload_n 0, 1) := by decide +kernel
theorem dX8_undo_1 : decode cX8_undo 1 = .ok (.getfield 83, 3) := by decide +kernel
theorem dX8_undo_4 : decode cX8_undo 4 = .ok (.ifCond .ne 6, 3) := by decide +kernel
theorem dX8_undo_7 : decode cX8_undo 7 = .ok (.bipush (-2), 2) := by decide +kernel
theorem dX8_undo_9 : decode cX8_undo 9 = .ok (.ireturn, 1) := by decide +kernel
theorem dX8_undo_10 : decode cX8_undo 10 = .ok (.aload_n 0, 1) := by decide +kernel
theorem dX8_undo_11 : decode cX8_undo 11 = .ok (.dup, 1) := by decide +kernel
theorem dX8_undo_12 : decode cX8_undo 12 = .ok (.getfield 83, 3) := by decide +kernel
theorem dX8_undo_15 : decode cX8_undo 15 = .ok (.iconst 1, 1) := by decide +kernel
theorem dX8_undo_16 : decode cX8_undo 16 = .ok (.isub, 1) := by decide +kernel
theorem dX8_undo_17 : decode cX8_undo 17 = .ok (.putfield 83, 3) := by decide +kernel
theorem dX8_undo_20 : decode cX8_undo 20 = .ok (.aload_n 0, 1) := by decide +kernel
theorem dX8_undo_21 : decode cX8_undo 21 = .ok (.sipush 264, 3) := by decide +kernel
theorem dX8_undo_24 : decode cX8_undo 24 = .ok (.bipush 66, 2) := by decide +kernel
theorem dX8_undo_26 : decode cX8_undo 26 = .ok (.aload_n 0, 1) := by decide +kernel
theorem dX8_undo_27 : decode cX8_undo 27 = .ok (.getfield 83, 3) := by decide +kernel
theorem dX8_undo_30 : decode cX8_undo 30 = .ok (.imul, 1) := by decide +kernel
theorem dX8_undo_31 : decode cX8_undo 31 = .ok (.iadd, 1) := by decide +kernel
theorem dX8_undo_32 : decode cX8_undo 32 = .ok (.iconst 0, 1) := by decide +kernel
theorem dX8_undo_33 : decode cX8_undo 33 = .ok (.invokevirtual 169, 3) := by decide +kernel
theorem dX8_undo_36 : decode cX8_undo 36 = .ok (.aload_n 0, 1) := by decide +kernel
theorem dX8_undo_37 : decode cX8_undo 37 = .ok (.getfield 83, 3) := by decide +kernel
theorem dX8_undo_40 : decode cX8_undo 40 = .ok (.ireturn, 1) := by decide +kernel
theorem dX8_tries_0 : decode cX8_tries 0 = .ok (.aload_n 0, 1) := by decide +kernel
theorem dX8_tries_1 : decode cX8_tries 1 = .ok (.iconst 0, 1) := by decide +kernel
theorem dX8_tries_2 : decode cX8_tries 2 = .ok (.bipush 66, 2) := by decide +kernel
theorem dX8_tries_4 : decode cX8_tries 4 = .ok (.invokevirtual 169, 3) := by decide +kernel
theorem dX8_tries_7 : decode cX8_tries 7 = .ok (.return_, 1) := by decide +kernel
theorem dX8_behind_0 : decode cX8_behind 0 = .ok (.iload_n 1, 1) := by decide +kernel
theorem dX8_behind_1 : decode cX8_behind 1 = .ok (.i2l, 1) := by decide +kernel
theorem dX8_behind_2 : decode cX8_behind 2 = .ok (.lconst 0, 1) := by decide +kernel
theorem dX8_behind_3 : decode cX8_behind 3 = .ok (.ldc2_w 191, 3) := by decide +kernel
theorem dX8_behind_6 : decode cX8_behind 6 = .ok (.invokestatic 70, 3) := by decide +kernel
theorem dX8_behind_9 : decode cX8_behind 9 = .ok (.ifCond .eq 17, 3) := by decide +kernel
theorem dX8_behind_12 : decode cX8_behind 12 = .ok (.iload_n 2, 1) := by decide +kernel
theorem dX8_behind_13 : decode cX8_behind 13 = .ok (.i2l, 1) := by decide +kernel
theorem dX8_behind_14 : decode cX8_behind 14 = .ok (.ldc2_w 193, 3) := by decide +kernel
theorem dX8_behind_17 : decode cX8_behind 17 = .ok (.ldc2_w 195, 3) := by decide +kernel
theorem dX8_behind_20 : decode cX8_behind 20 = .ok (.invokestatic 70, 3) := by decide +kernel
theorem dX8_behind_23 : decode cX8_behind 23 = .ok (.ifCond .ne 5, 3) := by decide +kernel
theorem dX8_behind_26 : decode cX8_behind 26 = .ok (.iconst (-1), 1) := by decide +kernel
theorem dX8_behind_27 : decode cX8_behind 27 = .ok (.ireturn, 1) := by decide +kernel
theorem dX8_behind_28 : decode cX8_behind 28 = .ok (.aload_n 0, 1) := by decide +kernel
theorem dX8_behind_29 : decode cX8_behind 29 = .ok (.invokevirtual 197, 3) := by decide +kernel
theorem dX8_behind_32 : decode cX8_behind 32 = .ok (.iconst 0, 1) := by decide +kernel
theorem dX8_behind_33 : decode cX8_behind 33 = .ok (.istore_n 3, 1) := by decide +kernel
theorem dX8_behind_34 : decode cX8_behind 34 = .ok (.iload_n 3, 1) := by decide +kernel
theorem dX8_behind_35 : decode cX8_behind 35 = .ok (.iload_n 1, 1) := by decide +kernel
theorem dX8_behind_36 : decode cX8_behind 36 = .ok (.if_icmp .ge 15, 3) := by decide +kernel
theorem dX8_behind_39 : decode cX8_behind 39 = .ok (.aload_n 0, 1) := by decide +kernel
theorem dX8_behind_40 : decode cX8_behind 40 = .ok (.bipush 66, 2) := by decide +kernel
theorem dX8_behind_42 : decode cX8_behind 42 = .ok (.invokevirtual 177, 3) := by decide +kernel
theorem dX8_behind_45 : decode cX8_behind 45 = .ok (.iinc 3 1, 3) := by decide +kernel
theorem dX8_behind_48 : decode cX8_behind 48 = .ok (.goto (-14), 3) := by decide +kernel
end
section
theorem dX8_behind_51 : decode cX8_behind 51 = .ok (.iload_n 2, 1) := by decide +kernel
theorem dX8_behind_52 : decode cX8_behind 52 = .ok (.ifCond .ge 13, 3) := by decide +kernel
theorem dX8_behind_55 : decode cX8_behind 55 = .ok (.aload_n 0, 1) := by decide +kernel
theorem dX8_behind_56 : decode cX8_behind 56 = .ok (.getfield 7, 3) := by decide +kernel
theorem dX8_behind_59 : decode cX8_behind 59 = .ok (.bipush 68, 2) := by decide +kernel
theorem dX8_behind_61 : decode cX8_behind 61 = .ok (.iaload, 1) := by decide +kernel
theorem dX8_behind_62 : decode cX8_behind 62 = .ok (.goto 28, 3) := by decide +kernel
theorem dX8_behind_65 : decode cX8_behind 65 = .ok (.iload_n 2, 1) := by decide +kernel
theorem dX8_behind_66 : decode cX8_behind 66 = .ok (.aload_n 0, 1) := by decide +kernel
theorem dX8_behind_67 : decode cX8_behind 67 = .ok (.getfield 7, 3) := by decide +kernel
theorem dX8_behind_70 : decode cX8_behind 70 = .ok (.bipush 68, 2) := by decide +kernel
theorem dX8_behind_72 : decode cX8_behind 72 = .ok (.iaload, 1) := by decide +kernel
theorem dX8_behind_73 : decode cX8_behind 73 = .ok (.if_icmp .ge 15, 3) := by decide +kernel
theorem dX8_behind_76 : decode cX8_behind 76 = .ok (.aload_n 0, 1) := by decide +kernel
theorem dX8_behind_77 : decode cX8_behind 77 = .ok (.getfield 7, 3) := by decide +kernel
theorem dX8_behind_80 : decode cX8_behind 80 = .ok (.bipush 69, 2) := by decide +kernel
theorem dX8_behind_82 : decode cX8_behind 82 = .ok (.iload_n 2, 1) := by decide +kernel
theorem dX8_behind_83 : decode cX8_behind 83 = .ok (.iadd, 1) := by decide +kernel
theorem dX8_behind_84 : decode cX8_behind 84 = .ok (.iaload, 1) := by decide +kernel
theorem dX8_behind_85 : decode cX8_behind 85 = .ok (.goto 5, 3) := by decide +kernel
theorem dX8_behind_88 : decode cX8_behind 88 = .ok (.bipush (-4), 2) := by decide +kernel
theorem dX8_behind_90 : decode cX8_behind 90 = .ok (.ireturn, 1) := by decide +kernel
theorem dX8_eats_0 : decode cX8_eats 0 = .ok (.iconst 1, 1) := by decide +kernel
theorem dX8_eats_1 : decode cX8_eats 1 = .ok (.istore_n 3, 1) := by decide +kernel
theorem dX8_eats_2 : decode cX8_eats 2 = .ok (.iload_n 3, 1) := by decide +kernel
theorem dX8_eats_3 : decode cX8_eats 3 = .ok (.bipush 99, 2) := by decide +kernel
theorem dX8_eats_5 : decode cX8_eats 5 = .ok (.if_icmp .gt 35, 3) := by decide +kernel
theorem dX8_eats_8 : decode cX8_eats 8 = .ok (.aload_n 0, 1) := by decide +kernel
theorem dX8_eats_9 : decode cX8_eats 9 = .ok (.bipush 66, 2) := by decide +kernel
theorem dX8_eats_11 : decode cX8_eats 11 = .ok (.iload_n 2, 1) := by decide +kernel
theorem dX8_eats_12 : decode cX8_eats 12 = .ok (.aload_n 0, 1) := by decide +kernel
theorem dX8_eats_13 : decode cX8_eats 13 = .ok (.bipush 66, 2) := by decide +kernel
theorem dX8_eats_15 : decode cX8_eats 15 = .ok (.invokevirtual 155, 3) := by decide +kernel
theorem dX8_eats_18 : decode cX8_eats 18 = .ok (.invokevirtual 159, 3) := by decide +kernel
theorem dX8_eats_21 : decode cX8_eats 21 = .ok (.aload_n 0, 1) := by decide +kernel
theorem dX8_eats_22 : decode cX8_eats 22 = .ok (.bipush 66, 2) := by decide +kernel
theorem dX8_eats_24 : decode cX8_eats 24 = .ok (.iload_n 1, 1) := by decide +kernel
theorem dX8_eats_25 : decode cX8_eats 25 = .ok (.iconst 3, 1) := by decide +kernel
theorem dX8_eats_26 : decode cX8_eats 26 = .ok (.invokevirtual 163, 3) := by decide +kernel
theorem dX8_eats_29 : decode cX8_eats 29 = .ok (.ifCond .eq 5, 3) := by decide +kernel
theorem dX8_eats_32 : decode cX8_eats 32 = .ok (.iload_n 3, 1) := by decide +kernel
theorem dX8_eats_33 : decode cX8_eats 33 = .ok (.ireturn, 1) := by decide +kernel
theorem dX8_eats_34 : decode cX8_eats 34 = .ok (.iinc 3 1, 3) := by decide +kernel
theorem dX8_eats_37 : decode cX8_eats 37 = .ok (.goto (-35), 3) := by decide +kernel
theorem dX8_eats_40 : decode cX8_eats 40 = .ok (.bipush 100, 2) := by decide +kernel
theorem dX8_eats_42 : decode cX8_eats 42 = .ok (.ireturn, 1) := by decide +kernel
theorem dX8_whenOf_0 : decode cX8_whenOf 0 = .ok (.aload_n 0, 1) := by decide +kernel
theorem dX8_whenOf_1 : decode cX8_whenOf 1 = .ok (.iload_n 1, 1) := by decide +kernel
theorem dX8_whenOf_2 : decode cX8_whenOf 2 = .ok (.invokevirtual 166, 3) := by decide +kernel
theorem dX8_whenOf_5 : decode cX8_whenOf 5 = .ok (.ifCond .ne 5, 3) := by decide +kernel
theorem dX8_whenOf_8 : decode cX8_whenOf 8 = .ok (.iconst (-1), 1) := by decide +kernel
theorem dX8_whenOf_9 : decode cX8_whenOf 9 = .ok (.ireturn, 1) := by decide +kernel
theorem dX8_whenOf_10 : decode cX8_whenOf 10 = .ok (.aload_n 0, 1) := by decide +kernel
theorem dX8_whenOf_11 : decode cX8_whenOf 11 = .ok (.iconst 0, 1) := by decide +kernel
theorem dX8_whenOf_12 : decode cX8_whenOf 12 = .ok (.iload_n 1, 1) := by decide +kernel
theorem dX8_whenOf_13 : decode cX8_whenOf 13 = .ok (.iconst 3, 1) := by decide +kernel
theorem dX8_whenOf_14 : decode cX8_whenOf 14 = .ok (.invokevirtual 163, 3) := by decide +kernel
theorem dX8_whenOf_17 : decode cX8_whenOf 17 = .ok (.ifCond .eq 6, 3) := by decide +kernel
theorem dX8_whenOf_20 : decode cX8_whenOf 20 = .ok (.bipush (-2), 2) := by decide +kernel
theorem dX8_whenOf_22 : decode cX8_whenOf 22 = .ok (.ireturn, 1) := by decide +kernel
theorem dX8_whenOf_23 : decode cX8_whenOf 23 = .ok (.aload_n 0, 1) := by decide +kernel
theorem dX8_whenOf_24 : decode cX8_whenOf 24 = .ok (.invokevirtual 197, 3) := by decide +kernel
theorem dX8_whenOf_27 : decode cX8_whenOf 27 = .ok (.aload_n 0, 1) := by decide +kernel
theorem dX8_whenOf_28 : decode cX8_whenOf 28 = .ok (.iload_n 1, 1) := by decide +kernel
theorem dX8_whenOf_29 : decode cX8_whenOf 29 = .ok (.iload_n 2, 1) := by decide +kernel
theorem dX8_whenOf_30 : decode cX8_whenOf 30 = .ok (.invokevirtual 200, 3) := by decide +kernel
theorem dX8_whenOf_33 : decode cX8_whenOf 33 = .ok (.istore_n 3, 1) := by decide +kernel
theorem dX8_whenOf_34 : decode cX8_whenOf 34 = .ok (.iload_n 3, 1) := by decide +kernel
theorem dX8_whenOf_35 : decode cX8_whenOf 35 = .ok (.bipush 99, 2) := by decide +kernel
theorem dX8_whenOf_37 : decode cX8_whenOf 37 = .ok (.if_icmp .le 8, 3) := by decide +kernel
theorem dX8_whenOf_40 : decode cX8_whenOf 40 = .ok (.bipush (-4), 2) := by decide +kernel
theorem dX8_whenOf_42 : decode cX8_whenOf 42 = .ok (.goto 4, 3) := by decide +kernel
theorem dX8_whenOf_45 : decode cX8_whenOf 45 = .ok (.iload_n 3, 1) := by decide +kernel
theorem dX8_whenOf_46 : decode cX8_whenOf 46 = .ok (.ireturn, 1) := by decide +kernel
theorem dX8_when_0 : decode cX8_when 0 = .ok (.aload_n 0, 1) := by decide +kernel
theorem dX8_when_1 : decode cX8_when 1 = .ok (.iload_n 1, 1) := by decide +kernel
theorem dX8_when_2 : decode cX8_when 2 = .ok (.iconst 0, 1) := by decide +kernel
theorem dX8_when_3 : decode cX8_when 3 = .ok (.invokevirtual 204, 3) := by decide +kernel
theorem dX8_when_6 : decode cX8_when 6 = .ok (.ireturn, 1) := by decide +kernel
theorem dX8_besides_0 : decode cX8_besides 0 = .ok (.aload_n 0, 1) := by decide +kernel
theorem dX8_besides_1 : decode cX8_besides 1 = .ok (.iload_n 1, 1) := by decide +kernel
theorem dX8_besides_2 : decode cX8_besides 2 = .ok (.iconst 1, 1) := by decide +kernel
theorem dX8_besides_3 : decode cX8_besides 3 = .ok (.invokevirtual 204, 3) := by decide +kernel
theorem dX8_besides_6 : decode cX8_besides 6 = .ok (.ireturn, 1) := by decide +kernel
theorem dX8_servedBy_0 : decode cX8_servedBy 0 = .ok (.iconst 0, 1) := by decide +kernel
theorem dX8_servedBy_1 : decode cX8_servedBy 1 = .ok (.istore_n 2, 1) := by decide +kernel
theorem dX8_servedBy_2 : decode cX8_servedBy 2 = .ok (.iconst 0, 1) := by decide +kernel
theorem dX8_servedBy_3 : decode cX8_servedBy 3 = .ok (.istore_n 3, 1) := by decide +kernel
theorem dX8_servedBy_4 : decode cX8_servedBy 4 = .ok (.iload_n 3, 1) := by decide +kernel
theorem dX8_servedBy_5 : decode cX8_servedBy 5 = .ok (.aload_n 0, 1) := by decide +kernel
theorem dX8_servedBy_6 : decode cX8_servedBy 6 = .ok (.getfield 67, 3) := by decide +kernel
theorem dX8_servedBy_9 : decode cX8_servedBy 9 = .ok (.if_icmp .ge 85, 3) := by decide +kernel
theorem dX8_servedBy_12 : decode cX8_servedBy 12 = .ok (.aload_n 0, 1) := by decide +kernel
theorem dX8_servedBy_13 : decode cX8_servedBy 13 = .ok (.iconst 0, 1) := by decide +kernel
theorem dX8_servedBy_14 : decode cX8_servedBy 14 = .ok (.iload_n 3, 1) := by decide +kernel
theorem dX8_servedBy_15 : decode cX8_servedBy 15 = .ok (.iconst 1, 1) := by decide +kernel
theorem dX8_servedBy_16 : decode cX8_servedBy 16 = .ok (.invokevirtual 163, 3) := by decide +kernel
theorem dX8_servedBy_19 : decode cX8_servedBy 19 = .ok (.ifCond .eq 69, 3) := by decide +kernel
theorem dX8_servedBy_22 : decode cX8_servedBy 22 = .ok (.aload_n 0, 1) := by decide +kernel
theorem dX8_servedBy_23 : decode cX8_servedBy 23 = .ok (.invokevirtual 197, 3) := by decide +kernel
theorem dX8_servedBy_26 : decode cX8_servedBy 26 = .ok (.aload_n 0, 1) := by decide +kernel
theorem dX8_servedBy_27 : decode cX8_servedBy 27 = .ok (.iload_n 3, 1) := by decide +kernel
theorem dX8_servedBy_28 : decode cX8_servedBy 28 = .ok (.iconst 0, 1) := by decide +kernel
theorem dX8_servedBy_29 : decode cX8_servedBy 29 = .ok (.invokevirtual 200, 3) := by decide +kernel
theorem dX8_servedBy_32 : decode cX8_servedBy 32 = .ok (.istore 4, 2) := by decide +kernel
theorem dX8_servedBy_34 : decode cX8_servedBy 34 = .ok (.aload_n 0, 1) := by decide +kernel
theorem dX8_servedBy_35 : decode cX8_servedBy 35 = .ok (.invokevirtual 197, 3) := by decide +kernel
theorem dX8_servedBy_38 : decode cX8_servedBy 38 = .ok (.iload_n 1, 1) := by decide +kernel
theorem dX8_servedBy_39 : decode cX8_servedBy 39 = .ok (.ifCond .eq 13, 3) := by decide +kernel
theorem dX8_servedBy_42 : decode cX8_servedBy 42 = .ok (.aload_n 0, 1) := by decide +kernel
theorem dX8_servedBy_43 : decode cX8_servedBy 43 = .ok (.bipush 66, 2) := by decide +kernel
theorem dX8_servedBy_45 : decode cX8_servedBy 45 = .ok (.iload_n 3, 1) := by decide +kernel
theorem dX8_servedBy_46 : decode cX8_servedBy 46 = .ok (.invokevirtual 148, 3) := by decide +kernel
theorem dX8_servedBy_49 : decode cX8_servedBy 49 = .ok (.goto 18, 3) := by decide +kernel
theorem dX8_servedBy_52 : decode cX8_servedBy 52 = .ok (.aload_n 0, 1) := by decide +kernel
theorem dX8_servedBy_53 : decode cX8_servedBy 53 = .ok (.bipush 66, 2) := by decide +kernel
theorem dX8_servedBy_55 : decode cX8_servedBy 55 = .ok (.iload_n 3, 1) := by decide +kernel
theorem dX8_servedBy_56 : decode cX8_servedBy 56 = .ok (.iconst 2, 1) := by decide +kernel
theorem dX8_servedBy_57 : decode cX8_servedBy 57 = .ok (.invokevirtual 141, 3) := by decide +kernel
theorem dX8_servedBy_60 : decode cX8_servedBy 60 = .ok (.aload_n 0, 1) := by decide +kernel
theorem dX8_servedBy_61 : decode cX8_servedBy 61 = .ok (.bipush 66, 2) := by decide +kernel
theorem dX8_servedBy_63 : decode cX8_servedBy 63 = .ok (.iload_n 3, 1) := by decide +kernel
theorem dX8_servedBy_64 : decode cX8_servedBy 64 = .ok (.invokevirtual 144, 3) := by decide +kernel
theorem dX8_servedBy_67 : decode cX8_servedBy 67 = .ok (.iload_n 2, 1) := by decide +kernel
theorem dX8_servedBy_68 : decode cX8_servedBy 68 = .ok (.aload_n 0, 1) := by decide +kernel
theorem dX8_servedBy_69 : decode cX8_servedBy 69 = .ok (.iload_n 3, 1) := by decide +kernel
theorem dX8_servedBy_70 : decode cX8_servedBy 70 = .ok (.iconst 0, 1) := by decide +kernel
theorem dX8_servedBy_71 : decode cX8_servedBy 71 = .ok (.invokevirtual 200, 3) := by decide +kernel
theorem dX8_servedBy_74 : decode cX8_servedBy 74 = .ok (.iload 4, 2) := by decide +kernel
theorem dX8_servedBy_76 : decode cX8_servedBy 76 = .ok (.if_icmp .ge 9, 3) := by decide +kernel
theorem dX8_servedBy_79 : decode cX8_servedBy 79 = .ok (.iconst 1, 1) := by decide +kernel
theorem dX8_servedBy_80 : decode cX8_servedBy 80 = .ok (.iload_n 3, 1) := by decide +kernel
theorem dX8_servedBy_81 : decode cX8_servedBy 81 = .ok (.ishl, 1) := by decide +kernel
theorem dX8_servedBy_82 : decode cX8_servedBy 82 = .ok (.goto 4, 3) := by decide +kernel
theorem dX8_servedBy_85 : decode cX8_servedBy 85 = .ok (.iconst 0, 1) := by decide +kernel
theorem dX8_servedBy_86 : decode cX8_servedBy 86 = .ok (.ior, 1) := by decide +kernel
theorem dX8_servedBy_87 : decode cX8_servedBy 87 = .ok (.istore_n 2, 1) := by decide +kernel
theorem dX8_servedBy_88 : decode cX8_servedBy 88 = .ok (.iinc 3 1, 3) := by decide +kernel
theorem dX8_servedBy_91 : decode cX8_servedBy 91 = .ok (.goto (-87), 3) := by decide +kernel
theorem dX8_servedBy_94 : decode cX8_servedBy 94 = .ok (.iload_n 2, 1) := by decide +kernel
theorem dX8_servedBy_95 : decode cX8_servedBy 95 = .ok (.ireturn, 1) := by decide +kernel
theorem dX8_pays_0 : decode cX8_pays 0 = .ok (.aload_n 0, 1) := by decide +kernel
theorem dX8_pays_1 : decode cX8_pays 1 = .ok (.iconst 0, 1) := by decide +kernel
theorem dX8_pays_2 : decode cX8_pays 2 = .ok (.invokevirtual 207, 3) := by decide +kernel
theorem dX8_pays_5 : decode cX8_pays 5 = .ok (.ireturn, 1) := by decide +kernel
theorem dX8_gains_0 : decode cX8_gains 0 = .ok (.aload_n 0, 1) := by decide +kernel
theorem dX8_gains_1 : decode cX8_gains 1 = .ok (.iconst 1, 1) := by decide +kernel
theorem dX8_gains_2 : decode cX8_gains 2 = .ok (.invokevirtual 207, 3) := by decide +kernel
theorem dX8_gains_5 : decode cX8_gains 5 = .ok (.ireturn, 1) := by decide +kernel
theorem dX8_waitBy_0 : decode cX8_waitBy 0 = .ok (.aload_n 0, 1) := by decide +kernel
theorem dX8_waitBy_1 : decode cX8_waitBy 1 = .ok (.invokevirtual 197, 3) := by decide +kernel
theorem dX8_waitBy_4 : decode cX8_waitBy 4 = .ok (.iconst 0, 1) := by decide +kernel
theorem dX8_waitBy_5 : decode cX8_waitBy 5 = .ok (.istore_n 2, 1) := by decide +kernel
theorem dX8_waitBy_6 : decode cX8_waitBy 6 = .ok (.iload_n 2, 1) := by decide +kernel
theorem dX8_waitBy_7 : decode cX8_waitBy 7 = .ok (.iload_n 1, 1) := by decide +kernel
theorem dX8_waitBy_8 : decode cX8_waitBy 8 = .ok (.if_icmp .ge 31, 3) := by decide +kernel
theorem dX8_waitBy_11 : decode cX8_waitBy 11 = .ok (.aload_n 0, 1) := by decide +kernel
theorem dX8_waitBy_12 : decode cX8_waitBy 12 = .ok (.getfield 7, 3) := by decide +kernel
theorem dX8_waitBy_15 : decode cX8_waitBy 15 = .ok (.bipush 114, 2) := by decide +kernel
theorem dX8_waitBy_17 : decode cX8_waitBy 17 = .ok (.aload_n 0, 1) := by decide +kernel
theorem dX8_waitBy_18 : decode cX8_waitBy 18 = .ok (.getfield 41, 3) := by decide +kernel
theorem dX8_waitBy_21 : decode cX8_waitBy 21 = .ok (.iload_n 2, 1) := by decide +kernel
theorem dX8_waitBy_22 : decode cX8_waitBy 22 = .ok (.iaload, 1) := by decide +kernel
theorem dX8_waitBy_23 : decode cX8_waitBy 23 = .ok (.iadd, 1) := by decide +kernel
theorem dX8_waitBy_24 : decode cX8_waitBy 24 = .ok (.aload_n 0, 1) := by decide +kernel
theorem dX8_waitBy_25 : decode cX8_waitBy 25 = .ok (.getfield 7, 3) := by decide +kernel
theorem dX8_waitBy_28 : decode cX8_waitBy 28 = .ok (.iconst 0, 1) := by decide +kernel
theorem dX8_waitBy_29 : decode cX8_waitBy 29 = .ok (.iaload, 1) := by decide +kernel
theorem dX8_waitBy_30 : decode cX8_waitBy 30 = .ok (.iload_n 2, 1) := by decide +kernel
theorem dX8_waitBy_31 : decode cX8_waitBy 31 = .ok (.iadd, 1) := by decide +kernel
theorem dX8_waitBy_32 : decode cX8_waitBy 32 = .ok (.iastore, 1) := by decide +kernel
theorem dX8_waitBy_33 : decode cX8_waitBy 33 = .ok (.iinc 2 1, 3) := by decide +kernel
theorem dX8_waitBy_36 : decode cX8_waitBy 36 = .ok (.goto (-30), 3) := by decide +kernel
theorem dX8_waitBy_39 : decode cX8_waitBy 39 = .ok (.iconst 0, 1) := by decide +kernel
theorem dX8_waitBy_40 : decode cX8_waitBy 40 = .ok (.istore_n 2, 1) := by decide +kernel
theorem dX8_waitBy_41 : decode cX8_waitBy 41 = .ok (.iload_n 2, 1) := by decide +kernel
theorem dX8_waitBy_42 : decode cX8_waitBy 42 = .ok (.bipush 99, 2) := by decide +kernel
theorem dX8_waitBy_44 : decode cX8_waitBy 44 = .ok (.if_icmp .ge 15, 3) := by decide +kernel
theorem dX8_waitBy_47 : decode cX8_waitBy 47 = .ok (.aload_n 0, 1) := by decide +kernel
theorem dX8_waitBy_48 : decode cX8_waitBy 48 = .ok (.bipush 66, 2) := by decide +kernel
theorem dX8_waitBy_50 : decode cX8_waitBy 50 = .ok (.invokevirtual 177, 3) := by decide +kernel
theorem dX8_waitBy_53 : decode cX8_waitBy 53 = .ok (.iinc 2 1, 3) := by decide +kernel
theorem dX8_waitBy_56 : decode cX8_waitBy 56 = .ok (.goto (-15), 3) := by decide +kernel
theorem dX8_waitBy_59 : decode cX8_waitBy 59 = .ok (.iconst 0, 1) := by decide +kernel
theorem dX8_waitBy_60 : decode cX8_waitBy 60 = .ok (.istore_n 2, 1) := by decide +kernel
theorem dX8_waitBy_61 : decode cX8_waitBy 61 = .ok (.iconst 0, 1) := by decide +kernel
theorem dX8_waitBy_62 : decode cX8_waitBy 62 = .ok (.istore_n 3, 1) := by decide +kernel
theorem dX8_waitBy_63 : decode cX8_waitBy 63 = .ok (.iload_n 3, 1) := by decide +kernel
theorem dX8_waitBy_64 : decode cX8_waitBy 64 = .ok (.iload_n 1, 1) := by decide +kernel
theorem dX8_waitBy_65 : decode cX8_waitBy 65 = .ok (.if_icmp .ge 72, 3) := by decide +kernel
theorem dX8_waitBy_68 : decode cX8_waitBy 68 = .ok (.aload_n 0, 1) := by decide +kernel
theorem dX8_waitBy_69 : decode cX8_waitBy 69 = .ok (.bipush 66, 2) := by decide +kernel
theorem dX8_waitBy_71 : decode cX8_waitBy 71 = .ok (.aload_n 0, 1) := by decide +kernel
theorem dX8_waitBy_72 : decode cX8_waitBy 72 = .ok (.getfield 41, 3) := by decide +kernel
theorem dX8_waitBy_75 : decode cX8_waitBy 75 = .ok (.iload_n 3, 1) := by decide +kernel
theorem dX8_waitBy_76 : decode cX8_waitBy 76 = .ok (.iaload, 1) := by decide +kernel
theorem dX8_waitBy_77 : decode cX8_waitBy 77 = .ok (.iconst 3, 1) := by decide +kernel
theorem dX8_waitBy_78 : decode cX8_waitBy 78 = .ok (.invokevirtual 163, 3) := by decide +kernel
theorem dX8_waitBy_81 : decode cX8_waitBy 81 = .ok (.istore 4, 2) := by decide +kernel
theorem dX8_waitBy_83 : decode cX8_waitBy 83 = .ok (.iload 4, 2) := by decide +kernel
theorem dX8_waitBy_85 : decode cX8_waitBy 85 = .ok (.ifCond .eq 29, 3) := by decide +kernel
theorem dX8_waitBy_88 : decode cX8_waitBy 88 = .ok (.aload_n 0, 1) := by decide +kernel
theorem dX8_waitBy_89 : decode cX8_waitBy 89 = .ok (.getfield 7, 3) := by decide +kernel
theorem dX8_waitBy_92 : decode cX8_waitBy 92 = .ok (.bipush 96, 2) := by decide +kernel
theorem dX8_waitBy_94 : decode cX8_waitBy 94 = .ok (.aload_n 0, 1) := by decide +kernel
theorem dX8_waitBy_95 : decode cX8_waitBy 95 = .ok (.getfield 41, 3) := by decide +kernel
theorem dX8_waitBy_98 : decode cX8_waitBy 98 = .ok (.iload_n 3, 1) := by decide +kernel
theorem dX8_waitBy_99 : decode cX8_waitBy 99 = .ok (.iaload, 1) := by decide +kernel
theorem dX8_waitBy_100 : decode cX8_waitBy 100 = .ok (.iadd, 1) := by decide +kernel
theorem dX8_waitBy_101 : decode cX8_waitBy 101 = .ok (.iaload, 1) := by decide +kernel
theorem dX8_waitBy_102 : decode cX8_waitBy 102 = .ok (.aload_n 0, 1) := by decide +kernel
theorem dX8_waitBy_103 : decode cX8_waitBy 103 = .ok (.getfield 7, 3) := by decide +kernel
theorem dX8_waitBy_106 : decode cX8_waitBy 106 = .ok (.iconst 0, 1) := by decide +kernel
theorem dX8_waitBy_107 : decode cX8_waitBy 107 = .ok (.iaload, 1) := by decide +kernel
theorem dX8_waitBy_108 : decode cX8_waitBy 108 = .ok (.isub, 1) := by decide +kernel
theorem dX8_waitBy_109 : decode cX8_waitBy 109 = .ok (.iload_n 3, 1) := by decide +kernel
theorem dX8_waitBy_110 : decode cX8_waitBy 110 = .ok (.isub, 1) := by decide +kernel
theorem dX8_waitBy_111 : decode cX8_waitBy 111 = .ok (.goto 5, 3) := by decide +kernel
theorem dX8_waitBy_114 : decode cX8_waitBy 114 = .ok (.bipush 99, 2) := by decide +kernel
theorem dX8_waitBy_116 : decode cX8_waitBy 116 = .ok (.istore 5, 2) := by decide +kernel
theorem dX8_waitBy_118 : decode cX8_waitBy 118 = .ok (.iload 5, 2) := by decide +kernel
theorem dX8_waitBy_120 : decode cX8_waitBy 120 = .ok (.iload_n 2, 1) := by decide +kernel
theorem dX8_waitBy_121 : decode cX8_waitBy 121 = .ok (.if_icmp .le 8, 3) := by decide +kernel
theorem dX8_waitBy_124 : decode cX8_waitBy 124 = .ok (.iload 5, 2) := by decide +kernel
theorem dX8_waitBy_126 : decode cX8_waitBy 126 = .ok (.goto 4, 3) := by decide +kernel
theorem dX8_waitBy_129 : decode cX8_waitBy 129 = .ok (.iload_n 2, 1) := by decide +kernel
theorem dX8_waitBy_130 : decode cX8_waitBy 130 = .ok (.istore_n 2, 1) := by decide +kernel
theorem dX8_waitBy_131 : decode cX8_waitBy 131 = .ok (.iinc 3 1, 3) := by decide +kernel
theorem dX8_waitBy_134 : decode cX8_waitBy 134 = .ok (.goto (-71), 3) := by decide +kernel
theorem dX8_waitBy_137 : decode cX8_waitBy 137 = .ok (.iload_n 2, 1) := by decide +kernel
theorem dX8_waitBy_138 : decode cX8_waitBy 138 = .ok (.ireturn, 1) := by decide +kernel
theorem dX8_family_0 : decode cX8_family 0 = .ok (.iload_n 1, 1) := by decide +kernel
theorem dX8_family_1 : decode cX8_family 1 = .ok (.i2l, 1) := by decide +kernel
theorem dX8_family_2 : decode cX8_family 2 = .ok (.lconst 1, 1) := by decide +kernel
theorem dX8_family_3 : decode cX8_family 3 = .ok (.ldc2_w 211, 3) := by decide +kernel
theorem dX8_family_6 : decode cX8_family 6 = .ok (.invokestatic 70, 3) := by decide +kernel
theorem dX8_family_9 : decode cX8_family 9 = .ok (.ifCond .eq 15, 3) := by decide +kernel
theorem dX8_family_12 : decode cX8_family 12 = .ok (.iload_n 2, 1) := by decide +kernel
theorem dX8_family_13 : decode cX8_family 13 = .ok (.i2l, 1) := by decide +kernel
theorem dX8_family_14 : decode cX8_family 14 = .ok (.lconst 0, 1) := by decide +kernel
theorem dX8_family_15 : decode cX8_family 15 = .ok (.ldc2_w 213, 3) := by decide +kernel
theorem dX8_family_18 : decode cX8_family 18 = .ok (.invokestatic 70, 3) := by decide +kernel
theorem dX8_family_21 : decode cX8_family 21 = .ok (.ifCond .ne 5, 3) := by decide +kernel
theorem dX8_family_24 : decode cX8_family 24 = .ok (.iconst (-1), 1) := by decide +kernel
theorem dX8_family_25 : decode cX8_family 25 = .ok (.ireturn, 1) := by decide +kernel
theorem dX8_family_26 : decode cX8_family 26 = .ok (.iconst 0, 1) := by decide +kernel
theorem dX8_family_27 : decode cX8_family 27 = .ok (.istore_n 3, 1) := by decide +kernel
theorem dX8_family_28 : decode cX8_family 28 = .ok (.iconst 0, 1) := by decide +kernel
theorem dX8_family_29 : decode cX8_family 29 = .ok (.istore 4, 2) := by decide +kernel
theorem dX8_family_31 : decode cX8_family 31 = .ok (.iload 4, 2) := by decide +kernel
theorem dX8_family_33 : decode cX8_family 33 = .ok (.aload_n 0, 1) := by decide +kernel
theorem dX8_family_34 : decode cX8_family 34 = .ok (.getfield 67, 3) := by decide +kernel
theorem dX8_family_37 : decode cX8_family 37 = .ok (.if_icmp .ge 42, 3) := by decide +kernel
theorem dX8_family_40 : decode cX8_family 40 = .ok (.aload_n 0, 1) := by decide +kernel
theorem dX8_family_41 : decode cX8_family 41 = .ok (.getfield 13, 3) := by decide +kernel
theorem dX8_family_44 : decode cX8_family 44 = .ok (.iload 4, 2) := by decide +kernel
theorem dX8_family_46 : decode cX8_family 46 = .ok (.iaload, 1) := by decide +kernel
theorem dX8_family_47 : decode cX8_family 47 = .ok (.iload_n 1, 1) := by decide +kernel
theorem dX8_family_48 : decode cX8_family 48 = .ok (.if_icmp .ne 25, 3) := by decide +kernel
theorem dX8_family_51 : decode cX8_family 51 = .ok (.aload_n 0, 1) := by decide +kernel
theorem dX8_family_52 : decode cX8_family 52 = .ok (.iconst 0, 1) := by decide +kernel
theorem dX8_family_53 : decode cX8_family 53 = .ok (.iload 4, 2) := by decide +kernel
theorem dX8_family_55 : decode cX8_family 55 = .ok (.iconst 0, 1) := by decide +kernel
theorem dX8_family_56 : decode cX8_family 56 = .ok (.invokevirtual 163, 3) := by decide +kernel
theorem dX8_family_59 : decode cX8_family 59 = .ok (.ifCond .eq 14, 3) := by decide +kernel
theorem dX8_family_62 : decode cX8_family 62 = .ok (.aload_n 0, 1) := by decide +kernel
theorem dX8_family_63 : decode cX8_family 63 = .ok (.getfield 38, 3) := by decide +kernel
theorem dX8_family_66 : decode cX8_family 66 = .ok (.iload_n 3, 1) := by decide +kernel
theorem dX8_family_67 : decode cX8_family 67 = .ok (.iload 4, 2) := by decide +kernel
theorem dX8_family_69 : decode cX8_family 69 = .ok (.iastore, 1) := by decide +kernel
theorem dX8_family_70 : decode cX8_family 70 = .ok (.iinc 3 1, 3) := by decide +kernel
theorem dX8_family_73 : decode cX8_family 73 = .ok (.iinc 4 1, 3) := by decide +kernel
theorem dX8_family_76 : decode cX8_family 76 = .ok (.goto (-45), 3) := by decide +kernel
theorem dX8_family_79 : decode cX8_family 79 = .ok (.iload_n 3, 1) := by decide +kernel
theorem dX8_family_80 : decode cX8_family 80 = .ok (.ifCond .ne 6, 3) := by decide +kernel
theorem dX8_family_83 : decode cX8_family 83 = .ok (.bipush (-2), 2) := by decide +kernel
theorem dX8_family_85 : decode cX8_family 85 = .ok (.ireturn, 1) := by decide +kernel
theorem dX8_family_86 : decode cX8_family 86 = .ok (.iconst 1, 1) := by decide +kernel
theorem dX8_family_87 : decode cX8_family 87 = .ok (.istore 4, 2) := by decide +kernel
theorem dX8_family_89 : decode cX8_family 89 = .ok (.iconst 0, 1) := by decide +kernel
theorem dX8_family_90 : decode cX8_family 90 = .ok (.istore 5, 2) := by decide +kernel
theorem dX8_family_92 : decode cX8_family 92 = .ok (.iload 5, 2) := by decide +kernel
theorem dX8_family_94 : decode cX8_family 94 = .ok (.iload_n 3, 1) := by decide +kernel
theorem dX8_family_95 : decode cX8_family 95 = .ok (.if_icmp .ge 15, 3) := by decide +kernel
theorem dX8_family_98 : decode cX8_family 98 = .ok (.iload 4, 2) := by decide +kernel
theorem dX8_family_100 : decode cX8_family 100 = .ok (.iload_n 3, 1) := by decide +kernel
theorem dX8_family_101 : decode cX8_family 101 = .ok (.imul, 1) := by decide +kernel
theorem dX8_family_102 : decode cX8_family 102 = .ok (.istore 4, 2) := by decide +kernel
theorem dX8_family_104 : decode cX8_family 104 = .ok (.iinc 5 1, 3) := by decide +kernel
theorem dX8_family_107 : decode cX8_family 107 = .ok (.goto (-15), 3) := by decide +kernel
theorem dX8_family_110 : decode cX8_family 110 = .ok (.bipush 100, 2) := by decide +kernel
theorem dX8_family_112 : decode cX8_family 112 = .ok (.istore 5, 2) := by decide +kernel
theorem dX8_family_114 : decode cX8_family 114 = .ok (.iconst 0, 1) := by decide +kernel
theorem dX8_family_115 : decode cX8_family 115 = .ok (.istore 6, 2) := by decide +kernel
theorem dX8_family_117 : decode cX8_family 117 = .ok (.iload 6, 2) := by decide +kernel
theorem dX8_family_119 : decode cX8_family 119 = .ok (.iload 4, 2) := by decide +kernel
theorem dX8_family_121 : decode cX8_family 121 = .ok (.if_icmp .ge 127, 3) := by decide +kernel
theorem dX8_family_124 : decode cX8_family 124 = .ok (.iload 6, 2) := by decide +kernel
theorem dX8_family_126 : decode cX8_family 126 = .ok (.istore 7, 2) := by decide +kernel
theorem dX8_family_128 : decode cX8_family 128 = .ok (.iconst 0, 1) := by decide +kernel
theorem dX8_family_129 : decode cX8_family 129 = .ok (.istore 8, 2) := by decide +kernel
theorem dX8_family_131 : decode cX8_family 131 = .ok (.iload_n 3, 1) := by decide +kernel
theorem dX8_family_132 : decode cX8_family 132 = .ok (.iconst 1, 1) := by decide +kernel
theorem dX8_family_133 : decode cX8_family 133 = .ok (.isub, 1) := by decide +kernel
theorem dX8_family_134 : decode cX8_family 134 = .ok (.istore 9, 2) := by decide +kernel
theorem dX8_family_136 : decode cX8_family 136 = .ok (.iload 9, 2) := by decide +kernel
theorem dX8_family_138 : decode cX8_family 138 = .ok (.ifCond .lt 42, 3) := by decide +kernel
theorem dX8_family_141 : decode cX8_family 141 = .ok (.aload_n 0, 1) := by decide +kernel
theorem dX8_family_142 : decode cX8_family 142 = .ok (.getfield 41, 3) := by decide +kernel
theorem dX8_family_145 : decode cX8_family 145 = .ok (.iload 9, 2) := by decide +kernel
theorem dX8_family_147 : decode cX8_family 147 = .ok (.aload_n 0, 1) := by decide +kernel
theorem dX8_family_148 : decode cX8_family 148 = .ok (.getfield 38, 3) := by decide +kernel
theorem dX8_family_151 : decode cX8_family 151 = .ok (.iload 7, 2) := by decide +kernel
theorem dX8_family_153 : decode cX8_family 153 = .ok (.iload_n 3, 1) := by decide +kernel
theorem dX8_family_154 : decode cX8_family 154 = .ok (.irem, 1) := by decide +kernel
theorem dX8_family_155 : decode cX8_family 155 = .ok (.iaload, 1) := by decide +kernel
theorem dX8_family_156 : decode cX8_family 156 = .ok (.iastore, 1) := by decide +kernel
theorem dX8_family_157 : decode cX8_family 157 = .ok (.iload 8, 2) := by decide +kernel
theorem dX8_family_159 : decode cX8_family 159 = .ok (.iconst 1, 1) := by decide +kernel
theorem dX8_family_160 : decode cX8_family 160 = .ok (.iload 7, 2) := by decide +kernel
theorem dX8_family_162 : decode cX8_family 162 = .ok (.iload_n 3, 1) := by decide +kernel
theorem dX8_family_163 : decode cX8_family 163 = .ok (.irem, 1) := by decide +kernel
theorem dX8_family_164 : decode cX8_family 164 = .ok (.ishl, 1) := by decide +kernel
theorem dX8_family_165 : decode cX8_family 165 = .ok (.ior, 1) := by decide +kernel
theorem dX8_family_166 : decode cX8_family 166 = .ok (.istore 8, 2) := by decide +kernel
theorem dX8_family_168 : decode cX8_family 168 = .ok (.iload 7, 2) := by decide +kernel
theorem dX8_family_170 : decode cX8_family 170 = .ok (.iload_n 3, 1) := by decide +kernel
theorem dX8_family_171 : decode cX8_family 171 = .ok (.idiv, 1) := by decide +kernel
theorem dX8_family_172 : decode cX8_family 172 = .ok (.istore 7, 2) := by decide +kernel
theorem dX8_family_174 : decode cX8_family 174 = .ok (.iinc 9 (-1), 3) := by decide +kernel
theorem dX8_family_177 : decode cX8_family 177 = .ok (.goto (-41), 3) := by decide +kernel
theorem dX8_family_180 : decode cX8_family 180 = .ok (.iload 8, 2) := by decide +kernel
theorem dX8_family_182 : decode cX8_family 182 = .ok (.iconst 1, 1) := by decide +kernel
theorem dX8_family_183 : decode cX8_family 183 = .ok (.iload_n 3, 1) := by decide +kernel
theorem dX8_family_184 : decode cX8_family 184 = .ok (.ishl, 1) := by decide +kernel
theorem dX8_family_185 : decode cX8_family 185 = .ok (.iconst 1, 1) := by decide +kernel
theorem dX8_family_186 : decode cX8_family 186 = .ok (.isub, 1) := by decide +kernel
theorem dX8_family_187 : decode cX8_family 187 = .ok (.if_icmp .ne 11, 3) := by decide +kernel
theorem dX8_family_190 : decode cX8_family 190 = .ok (.aload_n 0, 1) := by decide +kernel
theorem dX8_family_191 : decode cX8_family 191 = .ok (.iload_n 3, 1) := by decide +kernel
theorem dX8_family_192 : decode cX8_family 192 = .ok (.invokevirtual 215, 3) := by decide +kernel
theorem dX8_family_195 : decode cX8_family 195 = .ok (.goto 5, 3) := by decide +kernel
theorem dX8_family_198 : decode cX8_family 198 = .ok (.bipush 100, 2) := by decide +kernel
theorem dX8_family_200 : decode cX8_family 200 = .ok (.istore 9, 2) := by decide +kernel
theorem dX8_family_202 : decode cX8_family 202 = .ok (.iload 9, 2) := by decide +kernel
theorem dX8_family_204 : decode cX8_family 204 = .ok (.iload 5, 2) := by decide +kernel
theorem dX8_family_206 : decode cX8_family 206 = .ok (.if_icmp .ge 36, 3) := by decide +kernel
theorem dX8_family_209 : decode cX8_family 209 = .ok (.iload 9, 2) := by decide +kernel
theorem dX8_family_211 : decode cX8_family 211 = .ok (.istore 5, 2) := by decide +kernel
theorem dX8_family_213 : decode cX8_family 213 = .ok (.iconst 0, 1) := by decide +kernel
theorem dX8_family_214 : decode cX8_family 214 = .ok (.istore 10, 2) := by decide +kernel
theorem dX8_family_216 : decode cX8_family 216 = .ok (.iload 10, 2) := by decide +kernel
theorem dX8_family_218 : decode cX8_family 218 = .ok (.iload_n 3, 1) := by decide +kernel
theorem dX8_family_219 : decode cX8_family 219 = .ok (.if_icmp .ge 23, 3) := by decide +kernel
theorem dX8_family_222 : decode cX8_family 222 = .ok (.aload_n 0, 1) := by decide +kernel
theorem dX8_family_223 : decode cX8_family 223 = .ok (.getfield 44, 3) := by decide +kernel
theorem dX8_family_226 : decode cX8_family 226 = .ok (.iload 10, 2) := by decide +kernel
theorem dX8_family_228 : decode cX8_family 228 = .ok (.aload_n 0, 1) := by decide +kernel
theorem dX8_family_229 : decode cX8_family 229 = .ok (.getfield 41, 3) := by decide +kernel
theorem dX8_family_232 : decode cX8_family 232 = .ok (.iload 10, 2) := by decide +kernel
theorem dX8_family_234 : decode cX8_family 234 = .ok (.iaload, 1) := by decide +kernel
theorem dX8_family_235 : decode cX8_family 235 = .ok (.iastore, 1) := by decide +kernel
theorem dX8_family_236 : decode cX8_family 236 = .ok (.iinc 10 1, 3) := by decide +kernel
theorem dX8_family_239 : decode cX8_family 239 = .ok (.goto (-23), 3) := by decide +kernel
theorem dX8_family_242 : decode cX8_family 242 = .ok (.iinc 6 1, 3) := by decide +kernel
theorem dX8_family_245 : decode cX8_family 245 = .ok (.goto (-128), 3) := by decide +kernel
theorem dX8_family_248 : decode cX8_family 248 = .ok (.iload_n 2, 1) := by decide +kernel
theorem dX8_family_249 : decode cX8_family 249 = .ok (.ifCond .ne 8, 3) := by decide +kernel
theorem dX8_family_252 : decode cX8_family 252 = .ok (.iload 5, 2) := by decide +kernel
theorem dX8_family_254 : decode cX8_family 254 = .ok (.goto 21, 3) := by decide +kernel
theorem dX8_family_257 : decode cX8_family 257 = .ok (.iload_n 2, 1) := by decide +kernel
theorem dX8_family_258 : decode cX8_family 258 = .ok (.iload_n 3, 1) := by decide +kernel
theorem dX8_family_259 : decode cX8_family 259 = .ok (.if_icmp .gt 14, 3) := by decide +kernel
theorem dX8_family_262 : decode cX8_family 262 = .ok (.aload_n 0, 1) := by decide +kernel
theorem dX8_family_263 : decode cX8_family 263 = .ok (.getfield 44, 3) := by decide +kernel
theorem dX8_family_266 : decode cX8_family 266 = .ok (.iload_n 2, 1) := by decide +kernel
theorem dX8_family_267 : decode cX8_family 267 = .ok (.iconst 1, 1) := by decide +kernel
theorem dX8_family_268 : decode cX8_family 268 = .ok (.isub, 1) := by decide +kernel
theorem dX8_family_269 : decode cX8_family 269 = .ok (.iaload, 1) := by decide +kernel
theorem dX8_family_270 : decode cX8_family 270 = .ok (.goto 5, 3) := by decide +kernel
theorem dX8_family_273 : decode cX8_family 273 = .ok (.bipush (-4), 2) := by decide +kernel
theorem dX8_family_275 : decode cX8_family 275 = .ok (.ireturn, 1) := by decide +kernel
theorem dX8_warmthOf_0 : decode cX8_warmthOf 0 = .ok (.iconst 0, 1) := by decide +kernel
theorem dX8_warmthOf_1 : decode cX8_warmthOf 1 = .ok (.istore_n 3, 1) := by decide +kernel
theorem dX8_warmthOf_2 : decode cX8_warmthOf 2 = .ok (.iload_n 1, 1) := by decide +kernel
theorem dX8_warmthOf_3 : decode cX8_warmthOf 3 = .ok (.istore 4, 2) := by decide +kernel
theorem dX8_warmthOf_5 : decode cX8_warmthOf 5 = .ok (.iload 4, 2) := by decide +kernel
theorem dX8_warmthOf_7 : decode cX8_warmthOf 7 = .ok (.iload_n 2, 1) := by decide +kernel
theorem dX8_warmthOf_8 : decode cX8_warmthOf 8 = .ok (.if_icmp .ge 32, 3) := by decide +kernel
theorem dX8_warmthOf_11 : decode cX8_warmthOf 11 = .ok (.iload_n 3, 1) := by decide +kernel
theorem dX8_warmthOf_12 : decode cX8_warmthOf 12 = .ok (.aload_n 0, 1) := by decide +kernel
theorem dX8_warmthOf_13 : decode cX8_warmthOf 13 = .ok (.getfield 77, 3) := by decide +kernel
theorem dX8_warmthOf_16 : decode cX8_warmthOf 16 = .ok (.iload 4, 2) := by decide +kernel
theorem dX8_warmthOf_18 : decode cX8_warmthOf 18 = .ok (.if_icmp .le 13, 3) := by decide +kernel
theorem dX8_warmthOf_21 : decode cX8_warmthOf 21 = .ok (.aload_n 0, 1) := by decide +kernel
theorem dX8_warmthOf_22 : decode cX8_warmthOf 22 = .ok (.getfield 77, 3) := by decide +kernel
theorem dX8_warmthOf_25 : decode cX8_warmthOf 25 = .ok (.iload 4, 2) := by decide +kernel
theorem dX8_warmthOf_27 : decode cX8_warmthOf 27 = .ok (.isub, 1) := by decide +kernel
theorem dX8_warmthOf_28 : decode cX8_warmthOf 28 = .ok (.goto 4, 3) := by decide +kernel
theorem dX8_warmthOf_31 : decode cX8_warmthOf 31 = .ok (.iconst 0, 1) := by decide +kernel
theorem dX8_warmthOf_32 : decode cX8_warmthOf 32 = .ok (.iadd, 1) := by decide +kernel
theorem dX8_warmthOf_33 : decode cX8_warmthOf 33 = .ok (.istore_n 3, 1) := by decide +kernel
theorem dX8_warmthOf_34 : decode cX8_warmthOf 34 = .ok (.iinc 4 1, 3) := by decide +kernel
theorem dX8_warmthOf_37 : decode cX8_warmthOf 37 = .ok (.goto (-32), 3) := by decide +kernel
theorem dX8_warmthOf_40 : decode cX8_warmthOf 40 = .ok (.iload_n 3, 1) := by decide +kernel
theorem dX8_warmthOf_41 : decode cX8_warmthOf 41 = .ok (.ireturn, 1) := by decide +kernel
theorem dX8_warmth_0 : decode cX8_warmth 0 = .ok (.iload_n 1, 1) := by decide +kernel
theorem dX8_warmth_1 : decode cX8_warmth 1 = .ok (.i2l, 1) := by decide +kernel
theorem dX8_warmth_2 : decode cX8_warmth 2 = .ok (.lconst 0, 1) := by decide +kernel
theorem dX8_warmth_3 : decode cX8_warmth 3 = .ok (.ldc2_w 191, 3) := by decide +kernel
theorem dX8_warmth_6 : decode cX8_warmth 6 = .ok (.invokestatic 70, 3) := by decide +kernel
theorem dX8_warmth_9 : decode cX8_warmth 9 = .ok (.ifCond .ne 5, 3) := by decide +kernel
theorem dX8_warmth_12 : decode cX8_warmth 12 = .ok (.iconst (-1), 1) := by decide +kernel
theorem dX8_warmth_13 : decode cX8_warmth 13 = .ok (.ireturn, 1) := by decide +kernel
theorem dX8_warmth_14 : decode cX8_warmth 14 = .ok (.aload_n 0, 1) := by decide +kernel
theorem dX8_warmth_15 : decode cX8_warmth 15 = .ok (.invokevirtual 197, 3) := by decide +kernel
theorem dX8_warmth_18 : decode cX8_warmth 18 = .ok (.iconst 0, 1) := by decide +kernel
theorem dX8_warmth_19 : decode cX8_warmth 19 = .ok (.istore_n 2, 1) := by decide +kernel
theorem dX8_warmth_20 : decode cX8_warmth 20 = .ok (.iload_n 2, 1) := by decide +kernel
theorem dX8_warmth_21 : decode cX8_warmth 21 = .ok (.iload_n 1, 1) := by decide +kernel
theorem dX8_warmth_22 : decode cX8_warmth 22 = .ok (.if_icmp .ge 15, 3) := by decide +kernel
theorem dX8_warmth_25 : decode cX8_warmth 25 = .ok (.aload_n 0, 1) := by decide +kernel
theorem dX8_warmth_26 : decode cX8_warmth 26 = .ok (.bipush 66, 2) := by decide +kernel
theorem dX8_warmth_28 : decode cX8_warmth 28 = .ok (.invokevirtual 177, 3) := by decide +kernel
theorem dX8_warmth_31 : decode cX8_warmth 31 = .ok (.iinc 2 1, 3) := by decide +kernel
theorem dX8_warmth_34 : decode cX8_warmth 34 = .ok (.goto (-14), 3) := by decide +kernel
theorem dX8_warmth_37 : decode cX8_warmth 37 = .ok (.aload_n 0, 1) := by decide +kernel
theorem dX8_warmth_38 : decode cX8_warmth 38 = .ok (.aload_n 0, 1) := by decide +kernel
theorem dX8_warmth_39 : decode cX8_warmth 39 = .ok (.getfield 7, 3) := by decide +kernel
theorem dX8_warmth_42 : decode cX8_warmth 42 = .ok (.iconst 1, 1) := by decide +kernel
theorem dX8_warmth_43 : decode cX8_warmth 43 = .ok (.iaload, 1) := by decide +kernel
theorem dX8_warmth_44 : decode cX8_warmth 44 = .ok (.aload_n 0, 1) := by decide +kernel
theorem dX8_warmth_45 : decode cX8_warmth 45 = .ok (.getfield 7, 3) := by decide +kernel
theorem dX8_warmth_48 : decode cX8_warmth 48 = .ok (.bipush 67, 2) := by decide +kernel
theorem dX8_warmth_50 : decode cX8_warmth 50 = .ok (.iaload, 1) := by decide +kernel
theorem dX8_warmth_51 : decode cX8_warmth 51 = .ok (.invokevirtual 218, 3) := by decide +kernel
theorem dX8_warmth_54 : decode cX8_warmth 54 = .ok (.ireturn, 1) := by decide +kernel
theorem dX8_see_0 : decode cX8_see 0 = .ok (.aload_n 0, 1) := by decide +kernel
theorem dX8_see_1 : decode cX8_see 1 = .ok (.iload_n 1, 1) := by decide +kernel
theorem dX8_see_2 : decode cX8_see 2 = .ok (.invokevirtual 166, 3) := by decide +kernel
theorem dX8_see_5 : decode cX8_see 5 = .ok (.ifCond .eq 15, 3) := by decide +kernel
theorem dX8_see_8 : decode cX8_see 8 = .ok (.iload_n 2, 1) := by decide +kernel
theorem dX8_see_9 : decode cX8_see 9 = .ok (.i2l, 1) := by decide +kernel
theorem dX8_see_10 : decode cX8_see 10 = .ok (.lconst 1, 1) := by decide +kernel
theorem dX8_see_11 : decode cX8_see 11 = .ok (.ldc2_w 191, 3) := by decide +kernel
theorem dX8_see_14 : decode cX8_see 14 = .ok (.invokestatic 70, 3) := by decide +kernel
theorem dX8_see_17 : decode cX8_see 17 = .ok (.ifCond .ne 5, 3) := by decide +kernel
theorem dX8_see_20 : decode cX8_see 20 = .ok (.iconst (-1), 1) := by decide +kernel
theorem dX8_see_21 : decode cX8_see 21 = .ok (.ireturn, 1) := by decide +kernel
theorem dX8_see_22 : decode cX8_see 22 = .ok (.aload_n 0, 1) := by decide +kernel
theorem dX8_see_23 : decode cX8_see 23 = .ok (.getfield 89, 3) := by decide +kernel
theorem dX8_see_26 : decode cX8_see 26 = .ok (.bipush 6, 2) := by decide +kernel
theorem dX8_see_28 : decode cX8_see 28 = .ok (.if_icmp .ne 6, 3) := by decide +kernel
theorem dX8_see_31 : decode cX8_see 31 = .ok (.bipush (-3), 2) := by decide +kernel
theorem dX8_see_33 : decode cX8_see 33 = .ok (.ireturn, 1) := by decide +kernel
theorem dX8_see_34 : decode cX8_see 34 = .ok (.aload_n 0, 1) := by decide +kernel
theorem dX8_see_35 : decode cX8_see 35 = .ok (.getfield 16, 3) := by decide +kernel
theorem dX8_see_38 : decode cX8_see 38 = .ok (.aload_n 0, 1) := by decide +kernel
theorem dX8_see_39 : decode cX8_see 39 = .ok (.getfield 89, 3) := by decide +kernel
theorem dX8_see_42 : decode cX8_see 42 = .ok (.iload_n 1, 1) := by decide +kernel
theorem dX8_see_43 : decode cX8_see 43 = .ok (.iastore, 1) := by decide +kernel
theorem dX8_see_44 : decode cX8_see 44 = .ok (.aload_n 0, 1) := by decide +kernel
theorem dX8_see_45 : decode cX8_see 45 = .ok (.getfield 19, 3) := by decide +kernel
theorem dX8_see_48 : decode cX8_see 48 = .ok (.aload_n 0, 1) := by decide +kernel
theorem dX8_see_49 : decode cX8_see 49 = .ok (.getfield 89, 3) := by decide +kernel
theorem dX8_see_52 : decode cX8_see 52 = .ok (.iload_n 2, 1) := by decide +kernel
theorem dX8_see_53 : decode cX8_see 53 = .ok (.iastore, 1) := by decide +kernel
theorem dX8_see_54 : decode cX8_see 54 = .ok (.aload_n 0, 1) := by decide +kernel
theorem dX8_see_55 : decode cX8_see 55 = .ok (.getfield 22, 3) := by decide +kernel
theorem dX8_see_58 : decode cX8_see 58 = .ok (.aload_n 0, 1) := by decide +kernel
theorem dX8_see_59 : decode cX8_see 59 = .ok (.getfield 89, 3) := by decide +kernel
theorem dX8_see_62 : decode cX8_see 62 = .ok (.iload_n 3, 1) := by decide +kernel
theorem dX8_see_63 : decode cX8_see 63 = .ok (.bastore, 1) := by decide +kernel
theorem dX8_see_64 : decode cX8_see 64 = .ok (.aload_n 0, 1) := by decide +kernel
theorem dX8_see_65 : decode cX8_see 65 = .ok (.dup, 1) := by decide +kernel
theorem dX8_see_66 : decode cX8_see 66 = .ok (.getfield 89, 3) := by decide +kernel
theorem dX8_see_69 : decode cX8_see 69 = .ok (.iconst 1, 1) := by decide +kernel
theorem dX8_see_70 : decode cX8_see 70 = .ok (.iadd, 1) := by decide +kernel
theorem dX8_see_71 : decode cX8_see 71 = .ok (.putfield 89, 3) := by decide +kernel
theorem dX8_see_74 : decode cX8_see 74 = .ok (.aload_n 0, 1) := by decide +kernel
theorem dX8_see_75 : decode cX8_see 75 = .ok (.getfield 89, 3) := by decide +kernel
theorem dX8_see_78 : decode cX8_see 78 = .ok (.ireturn, 1) := by decide +kernel
theorem dX8_forget_0 : decode cX8_forget 0 = .ok (.aload_n 0, 1) := by decide +kernel
theorem dX8_forget_1 : decode cX8_forget 1 = .ok (.getfield 89, 3) := by decide +kernel
theorem dX8_forget_4 : decode cX8_forget 4 = .ok (.istore_n 1, 1) := by decide +kernel
theorem dX8_forget_5 : decode cX8_forget 5 = .ok (.aload_n 0, 1) := by decide +kernel
theorem dX8_forget_6 : decode cX8_forget 6 = .ok (.iconst 0, 1) := by decide +kernel
theorem dX8_forget_7 : decode cX8_forget 7 = .ok (.putfield 89, 3) := by decide +kernel
theorem dX8_forget_10 : decode cX8_forget 10 = .ok (.iload_n 1, 1) := by decide +kernel
theorem dX8_forget_11 : decode cX8_forget 11 = .ok (.ireturn, 1) := by decide +kernel
theorem dX8_isSeen_0 : decode cX8_isSeen 0 = .ok (.iconst 1, 1) := by decide +kernel
theorem dX8_isSeen_1 : decode cX8_isSeen 1 = .ok (.istore_n 1, 1) := by decide +kernel
theorem dX8_isSeen_2 : decode cX8_isSeen 2 = .ok (.iconst 1, 1) := by decide +kernel
theorem dX8_isSeen_3 : decode cX8_isSeen 3 = .ok (.istore_n 2, 1) := by decide +kernel
theorem dX8_isSeen_4 : decode cX8_isSeen 4 = .ok (.iload_n 2, 1) := by decide +kernel
theorem dX8_isSeen_5 : decode cX8_isSeen 5 = .ok (.bipush 60, 2) := by decide +kernel
theorem dX8_isSeen_7 : decode cX8_isSeen 7 = .ok (.if_icmp .gt 73, 3) := by decide +kernel
theorem dX8_isSeen_10 : decode cX8_isSeen 10 = .ok (.aload_n 0, 1) := by decide +kernel
theorem dX8_isSeen_11 : decode cX8_isSeen 11 = .ok (.bipush 66, 2) := by decide +kernel
theorem dX8_isSeen_13 : decode cX8_isSeen 13 = .ok (.invokevirtual 177, 3) := by decide +kernel
theorem dX8_isSeen_16 : decode cX8_isSeen 16 = .ok (.iconst 0, 1) := by decide +kernel
theorem dX8_isSeen_17 : decode cX8_isSeen 17 = .ok (.istore_n 3, 1) := by decide +kernel
theorem dX8_isSeen_18 : decode cX8_isSeen 18 = .ok (.iload_n 3, 1) := by decide +kernel
theorem dX8_isSeen_19 : decode cX8_isSeen 19 = .ok (.aload_n 0, 1) := by decide +kernel
theorem dX8_isSeen_20 : decode cX8_isSeen 20 = .ok (.getfield 89, 3) := by decide +kernel
theorem dX8_isSeen_23 : decode cX8_isSeen 23 = .ok (.if_icmp .ge 51, 3) := by decide +kernel
theorem dX8_isSeen_26 : decode cX8_isSeen 26 = .ok (.iload_n 1, 1) := by decide +kernel
theorem dX8_isSeen_27 : decode cX8_isSeen 27 = .ok (.ifCond .eq 39, 3) := by decide +kernel
theorem dX8_isSeen_30 : decode cX8_isSeen 30 = .ok (.aload_n 0, 1) := by decide +kernel
theorem dX8_isSeen_31 : decode cX8_isSeen 31 = .ok (.getfield 19, 3) := by decide +kernel
theorem dX8_isSeen_34 : decode cX8_isSeen 34 = .ok (.iload_n 3, 1) := by decide +kernel
theorem dX8_isSeen_35 : decode cX8_isSeen 35 = .ok (.iaload, 1) := by decide +kernel
theorem dX8_isSeen_36 : decode cX8_isSeen 36 = .ok (.iload_n 2, 1) := by decide +kernel
theorem dX8_isSeen_37 : decode cX8_isSeen 37 = .ok (.if_icmp .ne 25, 3) := by decide +kernel
theorem dX8_isSeen_40 : decode cX8_isSeen 40 = .ok (.aload_n 0, 1) := by decide +kernel
theorem dX8_isSeen_41 : decode cX8_isSeen 41 = .ok (.bipush 66, 2) := by decide +kernel
theorem dX8_isSeen_43 : decode cX8_isSeen 43 = .ok (.aload_n 0, 1) := by decide +kernel
theorem dX8_isSeen_44 : decode cX8_isSeen 44 = .ok (.getfield 16, 3) := by decide +kernel
theorem dX8_isSeen_47 : decode cX8_isSeen 47 = .ok (.iload_n 3, 1) := by decide +kernel
theorem dX8_isSeen_48 : decode cX8_isSeen 48 = .ok (.iaload, 1) := by decide +kernel
theorem dX8_isSeen_49 : decode cX8_isSeen 49 = .ok (.iconst 3, 1) := by decide +kernel
theorem dX8_isSeen_50 : decode cX8_isSeen 50 = .ok (.invokevirtual 163, 3) := by decide +kernel
theorem dX8_isSeen_53 : decode cX8_isSeen 53 = .ok (.aload_n 0, 1) := by decide +kernel
theorem dX8_isSeen_54 : decode cX8_isSeen 54 = .ok (.getfield 22, 3) := by decide +kernel
theorem dX8_isSeen_57 : decode cX8_isSeen 57 = .ok (.iload_n 3, 1) := by decide +kernel
theorem dX8_isSeen_58 : decode cX8_isSeen 58 = .ok (.baload, 1) := by decide +kernel
theorem dX8_isSeen_59 : decode cX8_isSeen 59 = .ok (.if_icmp .ne 7, 3) := by decide +kernel
theorem dX8_isSeen_62 : decode cX8_isSeen 62 = .ok (.iconst 1, 1) := by decide +kernel
theorem dX8_isSeen_63 : decode cX8_isSeen 63 = .ok (.goto 4, 3) := by decide +kernel
theorem dX8_isSeen_66 : decode cX8_isSeen 66 = .ok (.iconst 0, 1) := by decide +kernel
theorem dX8_isSeen_67 : decode cX8_isSeen 67 = .ok (.istore_n 1, 1) := by decide +kernel
theorem dX8_isSeen_68 : decode cX8_isSeen 68 = .ok (.iinc 3 1, 3) := by decide +kernel
theorem dX8_isSeen_71 : decode cX8_isSeen 71 = .ok (.goto (-53), 3) := by decide +kernel
theorem dX8_isSeen_74 : decode cX8_isSeen 74 = .ok (.iinc 2 1, 3) := by decide +kernel
theorem dX8_isSeen_77 : decode cX8_isSeen 77 = .ok (.goto (-73), 3) := by decide +kernel
theorem dX8_isSeen_80 : decode cX8_isSeen 80 = .ok (.iload_n 1, 1) := by decide +kernel
theorem dX8_isSeen_81 : decode cX8_isSeen 81 = .ok (.ireturn, 1) := by decide +kernel
theorem dX8_sneezed_0 : decode cX8_sneezed 0 = .ok (.aload_n 0, 1) := by decide +kernel
theorem dX8_sneezed_1 : decode cX8_sneezed 1 = .ok (.invokevirtual 197, 3) := by decide +kernel
theorem dX8_sneezed_4 : decode cX8_sneezed 4 = .ok (.aload_n 0, 1) := by decide +kernel
theorem dX8_sneezed_5 : decode cX8_sneezed 5 = .ok (.invokevirtual 221, 3) := by decide +kernel
theorem dX8_sneezed_8 : decode cX8_sneezed 8 = .ok (.ifCond .eq 9, 3) := by decide +kernel
theorem dX8_sneezed_11 : decode cX8_sneezed 11 = .ok (.sipush 512, 3) := by decide +kernel
theorem dX8_sneezed_14 : decode cX8_sneezed 14 = .ok (.goto 4, 3) := by decide +kernel
theorem dX8_sneezed_17 : decode cX8_sneezed 17 = .ok (.iconst 0, 1) := by decide +kernel
theorem dX8_sneezed_18 : decode cX8_sneezed 18 = .ok (.istore_n 1, 1) := by decide +kernel
theorem dX8_sneezed_19 : decode cX8_sneezed 19 = .ok (.iconst 0, 1) := by decide +kernel
theorem dX8_sneezed_20 : decode cX8_sneezed 20 = .ok (.istore_n 2, 1) := by decide +kernel
theorem dX8_sneezed_21 : decode cX8_sneezed 21 = .ok (.iload_n 2, 1) := by decide +kernel
theorem dX8_sneezed_22 : decode cX8_sneezed 22 = .ok (.aload_n 0, 1) := by decide +kernel
theorem dX8_sneezed_23 : decode cX8_sneezed 23 = .ok (.getfield 67, 3) := by decide +kernel
theorem dX8_sneezed_26 : decode cX8_sneezed 26 = .ok (.if_icmp .ge 47, 3) := by decide +kernel
theorem dX8_sneezed_29 : decode cX8_sneezed 29 = .ok (.aload_n 0, 1) := by decide +kernel
theorem dX8_sneezed_30 : decode cX8_sneezed 30 = .ok (.iconst 0, 1) := by decide +kernel
theorem dX8_sneezed_31 : decode cX8_sneezed 31 = .ok (.iload_n 2, 1) := by decide +kernel
theorem dX8_sneezed_32 : decode cX8_sneezed 32 = .ok (.iconst 1, 1) := by decide +kernel
theorem dX8_sneezed_33 : decode cX8_sneezed 33 = .ok (.invokevirtual 163, 3) := by decide +kernel
theorem dX8_sneezed_36 : decode cX8_sneezed 36 = .ok (.ifCond .eq 31, 3) := by decide +kernel
theorem dX8_sneezed_39 : decode cX8_sneezed 39 = .ok (.aload_n 0, 1) := by decide +kernel
theorem dX8_sneezed_40 : decode cX8_sneezed 40 = .ok (.invokevirtual 197, 3) := by decide +kernel
theorem dX8_sneezed_43 : decode cX8_sneezed 43 = .ok (.aload_n 0, 1) := by decide +kernel
theorem dX8_sneezed_44 : decode cX8_sneezed 44 = .ok (.bipush 66, 2) := by decide +kernel
theorem dX8_sneezed_46 : decode cX8_sneezed 46 = .ok (.iload_n 2, 1) := by decide +kernel
theorem dX8_sneezed_47 : decode cX8_sneezed 47 = .ok (.invokevirtual 148, 3) := by decide +kernel
theorem dX8_sneezed_50 : decode cX8_sneezed 50 = .ok (.iload_n 1, 1) := by decide +kernel
theorem dX8_sneezed_51 : decode cX8_sneezed 51 = .ok (.aload_n 0, 1) := by decide +kernel
theorem dX8_sneezed_52 : decode cX8_sneezed 52 = .ok (.invokevirtual 221, 3) := by decide +kernel
theorem dX8_sneezed_55 : decode cX8_sneezed 55 = .ok (.ifCond .eq 9, 3) := by decide +kernel
theorem dX8_sneezed_58 : decode cX8_sneezed 58 = .ok (.iconst 1, 1) := by decide +kernel
theorem dX8_sneezed_59 : decode cX8_sneezed 59 = .ok (.iload_n 2, 1) := by decide +kernel
theorem dX8_sneezed_60 : decode cX8_sneezed 60 = .ok (.ishl, 1) := by decide +kernel
theorem dX8_sneezed_61 : decode cX8_sneezed 61 = .ok (.goto 4, 3) := by decide +kernel
theorem dX8_sneezed_64 : decode cX8_sneezed 64 = .ok (.iconst 0, 1) := by decide +kernel
theorem dX8_sneezed_65 : decode cX8_sneezed 65 = .ok (.ior, 1) := by decide +kernel
theorem dX8_sneezed_66 : decode cX8_sneezed 66 = .ok (.istore_n 1, 1) := by decide +kernel
theorem dX8_sneezed_67 : decode cX8_sneezed 67 = .ok (.iinc 2 1, 3) := by decide +kernel
theorem dX8_sneezed_70 : decode cX8_sneezed 70 = .ok (.goto (-49), 3) := by decide +kernel
theorem dX8_sneezed_73 : decode cX8_sneezed 73 = .ok (.iload_n 1, 1) := by decide +kernel
theorem dX8_sneezed_74 : decode cX8_sneezed 74 = .ok (.ireturn, 1) := by decide +kernel
theorem dX8_kinds_0 : decode cX8_kinds 0 = .ok (.aload_n 0, 1) := by decide +kernel
theorem dX8_kinds_1 : decode cX8_kinds 1 = .ok (.iload_n 1, 1) := by decide +kernel
theorem dX8_kinds_2 : decode cX8_kinds 2 = .ok (.invokevirtual 166, 3) := by decide +kernel
theorem dX8_kinds_5 : decode cX8_kinds 5 = .ok (.ifCond .ne 5, 3) := by decide +kernel
theorem dX8_kinds_8 : decode cX8_kinds 8 = .ok (.iconst (-1), 1) := by decide +kernel
theorem dX8_kinds_9 : decode cX8_kinds 9 = .ok (.ireturn, 1) := by decide +kernel
theorem dX8_kinds_10 : decode cX8_kinds 10 = .ok (.iconst 0, 1) := by decide +kernel
theorem dX8_kinds_11 : decode cX8_kinds 11 = .ok (.istore_n 2, 1) := by decide +kernel
theorem dX8_kinds_12 : decode cX8_kinds 12 = .ok (.iconst 0, 1) := by decide +kernel
theorem dX8_kinds_13 : decode cX8_kinds 13 = .ok (.istore_n 3, 1) := by decide +kernel
theorem dX8_kinds_14 : decode cX8_kinds 14 = .ok (.iload_n 3, 1) := by decide +kernel
theorem dX8_kinds_15 : decode cX8_kinds 15 = .ok (.iconst 3, 1) := by decide +kernel
theorem dX8_kinds_16 : decode cX8_kinds 16 = .ok (.if_icmp .gt 40, 3) := by decide +kernel
theorem dX8_kinds_19 : decode cX8_kinds 19 = .ok (.aload_n 0, 1) := by decide +kernel
theorem dX8_kinds_20 : decode cX8_kinds 20 = .ok (.invokevirtual 197, 3) := by decide +kernel
theorem dX8_kinds_23 : decode cX8_kinds 23 = .ok (.aload_n 0, 1) := by decide +kernel
theorem dX8_kinds_24 : decode cX8_kinds 24 = .ok (.getfield 7, 3) := by decide +kernel
theorem dX8_kinds_27 : decode cX8_kinds 27 = .ok (.bipush 123, 2) := by decide +kernel
theorem dX8_kinds_29 : decode cX8_kinds 29 = .ok (.iload_n 1, 1) := by decide +kernel
theorem dX8_kinds_30 : decode cX8_kinds 30 = .ok (.iadd, 1) := by decide +kernel
theorem dX8_kinds_31 : decode cX8_kinds 31 = .ok (.iload_n 3, 1) := by decide +kernel
theorem dX8_kinds_32 : decode cX8_kinds 32 = .ok (.iastore, 1) := by decide +kernel
theorem dX8_kinds_33 : decode cX8_kinds 33 = .ok (.iload_n 2, 1) := by decide +kernel
theorem dX8_kinds_34 : decode cX8_kinds 34 = .ok (.aload_n 0, 1) := by decide +kernel
theorem dX8_kinds_35 : decode cX8_kinds 35 = .ok (.invokevirtual 221, 3) := by decide +kernel
theorem dX8_kinds_38 : decode cX8_kinds 38 = .ok (.ifCond .eq 9, 3) := by decide +kernel
theorem dX8_kinds_41 : decode cX8_kinds 41 = .ok (.iconst 1, 1) := by decide +kernel
theorem dX8_kinds_42 : decode cX8_kinds 42 = .ok (.iload_n 3, 1) := by decide +kernel
theorem dX8_kinds_43 : decode cX8_kinds 43 = .ok (.ishl, 1) := by decide +kernel
theorem dX8_kinds_44 : decode cX8_kinds 44 = .ok (.goto 4, 3) := by decide +kernel
theorem dX8_kinds_47 : decode cX8_kinds 47 = .ok (.iconst 0, 1) := by decide +kernel
theorem dX8_kinds_48 : decode cX8_kinds 48 = .ok (.ior, 1) := by decide +kernel
theorem dX8_kinds_49 : decode cX8_kinds 49 = .ok (.istore_n 2, 1) := by decide +kernel
theorem dX8_kinds_50 : decode cX8_kinds 50 = .ok (.iinc 3 1, 3) := by decide +kernel
theorem dX8_kinds_53 : decode cX8_kinds 53 = .ok (.goto (-39), 3) := by decide +kernel
theorem dX8_kinds_56 : decode cX8_kinds 56 = .ok (.iload_n 2, 1) := by decide +kernel
theorem dX8_kinds_57 : decode cX8_kinds 57 = .ok (.ireturn, 1) := by decide +kernel
theorem dX8_rumours_0 : decode cX8_rumours 0 = .ok (.aload_n 0, 1) := by decide +kernel
theorem dX8_rumours_1 : decode cX8_rumours 1 = .ok (.iload_n 1, 1) := by decide +kernel
theorem dX8_rumours_2 : decode cX8_rumours 2 = .ok (.invokevirtual 166, 3) := by decide +kernel
theorem dX8_rumours_5 : decode cX8_rumours 5 = .ok (.ifCond .eq 38, 3) := by decide +kernel
theorem dX8_rumours_8 : decode cX8_rumours 8 = .ok (.iload_n 2, 1) := by decide +kernel
theorem dX8_rumours_9 : decode cX8_rumours 9 = .ok (.i2l, 1) := by decide +kernel
theorem dX8_rumours_10 : decode cX8_rumours 10 = .ok (.lconst 0, 1) := by decide +kernel
theorem dX8_rumours_11 : decode cX8_rumours 11 = .ok (.ldc2_w 195, 3) := by decide +kernel
theorem dX8_rumours_14 : decode cX8_rumours 14 = .ok (.invokestatic 70, 3) := by decide +kernel
theorem dX8_rumours_17 : decode cX8_rumours 17 = .ok (.ifCond .eq 26, 3) := by decide +kernel
theorem dX8_rumours_20 : decode cX8_rumours 20 = .ok (.iload_n 3, 1) := by decide +kernel
theorem dX8_rumours_21 : decode cX8_rumours 21 = .ok (.i2l, 1) := by decide +kernel
theorem dX8_rumours_22 : decode cX8_rumours 22 = .ok (.lconst 0, 1) := by decide +kernel
theorem dX8_rumours_23 : decode cX8_rumours 23 = .ok (.ldc2_w 224, 3) := by decide +kernel
theorem dX8_rumours_26 : decode cX8_rumours 26 = .ok (.invokestatic 70, 3) := by decide +kernel
theorem dX8_rumours_29 : decode cX8_rumours 29 = .ok (.ifCond .eq 14, 3) := by decide +kernel
theorem dX8_rumours_32 : decode cX8_rumours 32 = .ok (.iload 4, 2) := by decide +kernel
theorem dX8_rumours_34 : decode cX8_rumours 34 = .ok (.i2l, 1) := by decide +kernel
theorem dX8_rumours_35 : decode cX8_rumours 35 = .ok (.lconst 0, 1) := by decide +kernel
theorem dX8_rumours_36 : decode cX8_rumours 36 = .ok (.lconst 1, 1) := by decide +kernel
theorem dX8_rumours_37 : decode cX8_rumours 37 = .ok (.invokestatic 70, 3) := by decide +kernel
theorem dX8_rumours_40 : decode cX8_rumours 40 = .ok (.ifCond .ne 5, 3) := by decide +kernel
theorem dX8_rumours_43 : decode cX8_rumours 43 = .ok (.iconst (-1), 1) := by decide +kernel
theorem dX8_rumours_44 : decode cX8_rumours 44 = .ok (.ireturn, 1) := by decide +kernel
theorem dX8_rumours_45 : decode cX8_rumours 45 = .ok (.iconst 0, 1) := by decide +kernel
theorem dX8_rumours_46 : decode cX8_rumours 46 = .ok (.istore 5, 2) := by decide +kernel
theorem dX8_rumours_48 : decode cX8_rumours 48 = .ok (.iconst 1, 1) := by decide +kernel
theorem dX8_rumours_49 : decode cX8_rumours 49 = .ok (.istore 6, 2) := by decide +kernel
theorem dX8_rumours_51 : decode cX8_rumours 51 = .ok (.iconst 0, 1) := by decide +kernel
theorem dX8_rumours_52 : decode cX8_rumours 52 = .ok (.istore 7, 2) := by decide +kernel
theorem dX8_rumours_54 : decode cX8_rumours 54 = .ok (.iload 7, 2) := by decide +kernel
theorem dX8_rumours_56 : decode cX8_rumours 56 = .ok (.iload_n 2, 1) := by decide +kernel
theorem dX8_rumours_57 : decode cX8_rumours 57 = .ok (.if_icmp .ge 16, 3) := by decide +kernel
theorem dX8_rumours_60 : decode cX8_rumours 60 = .ok (.iload 6, 2) := by decide +kernel
theorem dX8_rumours_62 : decode cX8_rumours 62 = .ok (.bipush 10, 2) := by decide +kernel
theorem dX8_rumours_64 : decode cX8_rumours 64 = .ok (.imul, 1) := by decide +kernel
theorem dX8_rumours_65 : decode cX8_rumours 65 = .ok (.istore 6, 2) := by decide +kernel
theorem dX8_rumours_67 : decode cX8_rumours 67 = .ok (.iinc 7 1, 3) := by decide +kernel
theorem dX8_rumours_70 : decode cX8_rumours 70 = .ok (.goto (-16), 3) := by decide +kernel
theorem dX8_rumours_73 : decode cX8_rumours 73 = .ok (.iconst 0, 1) := by decide +kernel
theorem dX8_rumours_74 : decode cX8_rumours 74 = .ok (.istore 7, 2) := by decide +kernel
theorem dX8_rumours_76 : decode cX8_rumours 76 = .ok (.iload 7, 2) := by decide +kernel
theorem dX8_rumours_78 : decode cX8_rumours 78 = .ok (.iconst 1, 1) := by decide +kernel
theorem dX8_rumours_79 : decode cX8_rumours 79 = .ok (.iload_n 2, 1) := by decide +kernel
theorem dX8_rumours_80 : decode cX8_rumours 80 = .ok (.ishl, 1) := by decide +kernel
theorem dX8_rumours_81 : decode cX8_rumours 81 = .ok (.if_icmp .ge 90, 3) := by decide +kernel
theorem dX8_rumours_84 : decode cX8_rumours 84 = .ok (.iconst 1, 1) := by decide +kernel
theorem dX8_rumours_85 : decode cX8_rumours 85 = .ok (.istore 8, 2) := by decide +kernel
theorem dX8_rumours_87 : decode cX8_rumours 87 = .ok (.aload_n 0, 1) := by decide +kernel
theorem dX8_rumours_88 : decode cX8_rumours 88 = .ok (.invokevirtual 197, 3) := by decide +kernel
theorem dX8_rumours_91 : decode cX8_rumours 91 = .ok (.iconst 0, 1) := by decide +kernel
theorem dX8_rumours_92 : decode cX8_rumours 92 = .ok (.istore 9, 2) := by decide +kernel
theorem dX8_rumours_94 : decode cX8_rumours 94 = .ok (.iload 9, 2) := by decide +kernel
theorem dX8_rumours_96 : decode cX8_rumours 96 = .ok (.iload_n 2, 1) := by decide +kernel
theorem dX8_rumours_97 : decode cX8_rumours 97 = .ok (.if_icmp .ge 46, 3) := by decide +kernel
theorem dX8_rumours_100 : decode cX8_rumours 100 = .ok (.iload 8, 2) := by decide +kernel
theorem dX8_rumours_102 : decode cX8_rumours 102 = .ok (.iload 7, 2) := by decide +kernel
theorem dX8_rumours_104 : decode cX8_rumours 104 = .ok (.iload 9, 2) := by decide +kernel
theorem dX8_rumours_106 : decode cX8_rumours 106 = .ok (.invokestatic 226, 3) := by decide +kernel
theorem dX8_rumours_109 : decode cX8_rumours 109 = .ok (.ifCond .eq 7, 3) := by decide +kernel
theorem dX8_rumours_112 : decode cX8_rumours 112 = .ok (.iload_n 3, 1) := by decide +kernel
theorem dX8_rumours_113 : decode cX8_rumours 113 = .ok (.goto 7, 3) := by decide +kernel
theorem dX8_rumours_116 : decode cX8_rumours 116 = .ok (.bipush 10, 2) := by decide +kernel
theorem dX8_rumours_118 : decode cX8_rumours 118 = .ok (.iload_n 3, 1) := by decide +kernel
theorem dX8_rumours_119 : decode cX8_rumours 119 = .ok (.isub, 1) := by decide +kernel
theorem dX8_rumours_120 : decode cX8_rumours 120 = .ok (.imul, 1) := by decide +kernel
theorem dX8_rumours_121 : decode cX8_rumours 121 = .ok (.istore 8, 2) := by decide +kernel
theorem dX8_rumours_123 : decode cX8_rumours 123 = .ok (.aload_n 0, 1) := by decide +kernel
theorem dX8_rumours_124 : decode cX8_rumours 124 = .ok (.bipush 66, 2) := by decide +kernel
theorem dX8_rumours_126 : decode cX8_rumours 126 = .ok (.iconst 0, 1) := by decide +kernel
theorem dX8_rumours_127 : decode cX8_rumours 127 = .ok (.iload 7, 2) := by decide +kernel
theorem dX8_rumours_129 : decode cX8_rumours 129 = .ok (.iload 9, 2) := by decide +kernel
theorem dX8_rumours_131 : decode cX8_rumours 131 = .ok (.invokestatic 226, 3) := by decide +kernel
theorem dX8_rumours_134 : decode cX8_rumours 134 = .ok (.invokevirtual 159, 3) := by decide +kernel
theorem dX8_rumours_137 : decode cX8_rumours 137 = .ok (.iinc 9 1, 3) := by decide +kernel
theorem dX8_rumours_140 : decode cX8_rumours 140 = .ok (.goto (-46), 3) := by decide +kernel
theorem dX8_rumours_143 : decode cX8_rumours 143 = .ok (.iload 5, 2) := by decide +kernel
theorem dX8_rumours_145 : decode cX8_rumours 145 = .ok (.aload_n 0, 1) := by decide +kernel
theorem dX8_rumours_146 : decode cX8_rumours 146 = .ok (.bipush 66, 2) := by decide +kernel
theorem dX8_rumours_148 : decode cX8_rumours 148 = .ok (.iload_n 1, 1) := by decide +kernel
theorem dX8_rumours_149 : decode cX8_rumours 149 = .ok (.iconst 3, 1) := by decide +kernel
theorem dX8_rumours_150 : decode cX8_rumours 150 = .ok (.invokevirtual 163, 3) := by decide +kernel
theorem dX8_rumours_153 : decode cX8_rumours 153 = .ok (.ifCond .eq 8, 3) := by decide +kernel
theorem dX8_rumours_156 : decode cX8_rumours 156 = .ok (.iload 8, 2) := by decide +kernel
theorem dX8_rumours_158 : decode cX8_rumours 158 = .ok (.goto 4, 3) := by decide +kernel
theorem dX8_rumours_161 : decode cX8_rumours 161 = .ok (.iconst 0, 1) := by decide +kernel
theorem dX8_rumours_162 : decode cX8_rumours 162 = .ok (.iadd, 1) := by decide +kernel
theorem dX8_rumours_163 : decode cX8_rumours 163 = .ok (.istore 5, 2) := by decide +kernel
theorem dX8_rumours_165 : decode cX8_rumours 165 = .ok (.iinc 7 1, 3) := by decide +kernel
theorem dX8_rumours_168 : decode cX8_rumours 168 = .ok (.goto (-92), 3) := by decide +kernel
theorem dX8_rumours_171 : decode cX8_rumours 171 = .ok (.iload 5, 2) := by decide +kernel
theorem dX8_rumours_173 : decode cX8_rumours 173 = .ok (.istore 7, 2) := by decide +kernel
theorem dX8_rumours_175 : decode cX8_rumours 175 = .ok (.iload 6, 2) := by decide +kernel
theorem dX8_rumours_177 : decode cX8_rumours 177 = .ok (.istore 8, 2) := by decide +kernel
theorem dX8_rumours_179 : decode cX8_rumours 179 = .ok (.iload 8, 2) := by decide +kernel
theorem dX8_rumours_181 : decode cX8_rumours 181 = .ok (.ifCond .eq 21, 3) := by decide +kernel
theorem dX8_rumours_184 : decode cX8_rumours 184 = .ok (.iload 7, 2) := by decide +kernel
theorem dX8_rumours_186 : decode cX8_rumours 186 = .ok (.iload 8, 2) := by decide +kernel
theorem dX8_rumours_188 : decode cX8_rumours 188 = .ok (.irem, 1) := by decide +kernel
theorem dX8_rumours_189 : decode cX8_rumours 189 = .ok (.istore 9, 2) := by decide +kernel
theorem dX8_rumours_191 : decode cX8_rumours 191 = .ok (.iload 8, 2) := by decide +kernel
theorem dX8_rumours_193 : decode cX8_rumours 193 = .ok (.istore 7, 2) := by decide +kernel
theorem dX8_rumours_195 : decode cX8_rumours 195 = .ok (.iload 9, 2) := by decide +kernel
theorem dX8_rumours_197 : decode cX8_rumours 197 = .ok (.istore 8, 2) := by decide +kernel
theorem dX8_rumours_199 : decode cX8_rumours 199 = .ok (.goto (-20), 3) := by decide +kernel
theorem dX8_rumours_202 : decode cX8_rumours 202 = .ok (.iload 4, 2) := by decide +kernel
theorem dX8_rumours_204 : decode cX8_rumours 204 = .ok (.ifCond .ne 11, 3) := by decide +kernel
theorem dX8_rumours_207 : decode cX8_rumours 207 = .ok (.iload 5, 2) := by decide +kernel
theorem dX8_rumours_209 : decode cX8_rumours 209 = .ok (.iload 7, 2) := by decide +kernel
theorem dX8_rumours_211 : decode cX8_rumours 211 = .ok (.idiv, 1) := by decide +kernel
theorem dX8_rumours_212 : decode cX8_rumours 212 = .ok (.goto 8, 3) := by decide +kernel
theorem dX8_rumours_215 : decode cX8_rumours 215 = .ok (.iload 6, 2) := by decide +kernel
theorem dX8_rumours_217 : decode cX8_rumours 217 = .ok (.iload 7, 2) := by decide +kernel
theorem dX8_rumours_219 : decode cX8_rumours 219 = .ok (.idiv, 1) := by decide +kernel
theorem dX8_rumours_220 : decode cX8_rumours 220 = .ok (.ireturn, 1) := by decide +kernel
theorem dX8_doesBy_0 : decode cX8_doesBy 0 = .ok (.iload_n 1, 1) := by decide +kernel
theorem dX8_doesBy_1 : decode cX8_doesBy 1 = .ok (.bipush 8, 2) := by decide +kernel
theorem dX8_doesBy_3 : decode cX8_doesBy 3 = .ok (.idiv, 1) := by decide +kernel
theorem dX8_doesBy_4 : decode cX8_doesBy 4 = .ok (.aload_n 0, 1) := by decide +kernel
theorem dX8_doesBy_5 : decode cX8_doesBy 5 = .ok (.getfield 67, 3) := by decide +kernel
theorem dX8_doesBy_8 : decode cX8_doesBy 8 = .ok (.irem, 1) := by decide +kernel
theorem dX8_doesBy_9 : decode cX8_doesBy 9 = .ok (.istore_n 2, 1) := by decide +kernel
theorem dX8_doesBy_10 : decode cX8_doesBy 10 = .ok (.aload_n 0, 1) := by decide +kernel
theorem dX8_doesBy_11 : decode cX8_doesBy 11 = .ok (.bipush 66, 2) := by decide +kernel
theorem dX8_doesBy_13 : decode cX8_doesBy 13 = .ok (.iload_n 2, 1) := by decide +kernel
theorem dX8_doesBy_14 : decode cX8_doesBy 14 = .ok (.iconst 1, 1) := by decide +kernel
theorem dX8_doesBy_15 : decode cX8_doesBy 15 = .ok (.invokevirtual 163, 3) := by decide +kernel
theorem dX8_doesBy_18 : decode cX8_doesBy 18 = .ok (.istore_n 3, 1) := by decide +kernel
theorem dX8_doesBy_19 : decode cX8_doesBy 19 = .ok (.iload_n 1, 1) := by decide +kernel
theorem dX8_doesBy_20 : decode cX8_doesBy 20 = .ok (.iconst 5, 1) := by decide +kernel
theorem dX8_doesBy_21 : decode cX8_doesBy 21 = .ok (.irem, 1) := by decide +kernel
theorem dX8_doesBy_22 : decode cX8_doesBy 22 = .ok (.tableswitch 100 0 3 #[30, 50, 64, 79], 30) := by decide +kernel
theorem dX8_doesBy_52 : decode cX8_doesBy 52 = .ok (.aload_n 0, 1) := by decide +kernel
theorem dX8_doesBy_53 : decode cX8_doesBy 53 = .ok (.bipush 66, 2) := by decide +kernel
theorem dX8_doesBy_55 : decode cX8_doesBy 55 = .ok (.iload_n 2, 1) := by decide +kernel
theorem dX8_doesBy_56 : decode cX8_doesBy 56 = .ok (.invokevirtual 184, 3) := by decide +kernel
theorem dX8_doesBy_59 : decode cX8_doesBy 59 = .ok (.ifCond .eq 63, 3) := by decide +kernel
theorem dX8_doesBy_62 : decode cX8_doesBy 62 = .ok (.aload_n 0, 1) := by decide +kernel
theorem dX8_doesBy_63 : decode cX8_doesBy 63 = .ok (.bipush 66, 2) := by decide +kernel
theorem dX8_doesBy_65 : decode cX8_doesBy 65 = .ok (.iload_n 2, 1) := by decide +kernel
theorem dX8_doesBy_66 : decode cX8_doesBy 66 = .ok (.invokevirtual 188, 3) := by decide +kernel
theorem dX8_doesBy_69 : decode cX8_doesBy 69 = .ok (.goto 53, 3) := by decide +kernel
theorem dX8_doesBy_72 : decode cX8_doesBy 72 = .ok (.iload_n 3, 1) := by decide +kernel
theorem dX8_doesBy_73 : decode cX8_doesBy 73 = .ok (.ifCond .eq 49, 3) := by decide +kernel
theorem dX8_doesBy_76 : decode cX8_doesBy 76 = .ok (.aload_n 0, 1) := by decide +kernel
theorem dX8_doesBy_77 : decode cX8_doesBy 77 = .ok (.bipush 66, 2) := by decide +kernel
theorem dX8_doesBy_79 : decode cX8_doesBy 79 = .ok (.iload_n 2, 1) := by decide +kernel
theorem dX8_doesBy_80 : decode cX8_doesBy 80 = .ok (.invokevirtual 148, 3) := by decide +kernel
theorem dX8_doesBy_83 : decode cX8_doesBy 83 = .ok (.goto 39, 3) := by decide +kernel
theorem dX8_doesBy_86 : decode cX8_doesBy 86 = .ok (.iload_n 3, 1) := by decide +kernel
theorem dX8_doesBy_87 : decode cX8_doesBy 87 = .ok (.ifCond .eq 35, 3) := by decide +kernel
theorem dX8_doesBy_90 : decode cX8_doesBy 90 = .ok (.aload_n 0, 1) := by decide +kernel
theorem dX8_doesBy_91 : decode cX8_doesBy 91 = .ok (.bipush 66, 2) := by decide +kernel
theorem dX8_doesBy_93 : decode cX8_doesBy 93 = .ok (.iload_n 2, 1) := by decide +kernel
theorem dX8_doesBy_94 : decode cX8_doesBy 94 = .ok (.iconst 2, 1) := by decide +kernel
theorem dX8_doesBy_95 : decode cX8_doesBy 95 = .ok (.invokevirtual 141, 3) := by decide +kernel
theorem dX8_doesBy_98 : decode cX8_doesBy 98 = .ok (.goto 24, 3) := by decide +kernel
theorem dX8_doesBy_101 : decode cX8_doesBy 101 = .ok (.aload_n 0, 1) := by decide +kernel
theorem dX8_doesBy_102 : decode cX8_doesBy 102 = .ok (.bipush 66, 2) := by decide +kernel
theorem dX8_doesBy_104 : decode cX8_doesBy 104 = .ok (.iload_n 2, 1) := by decide +kernel
theorem dX8_doesBy_105 : decode cX8_doesBy 105 = .ok (.iconst 2, 1) := by decide +kernel
theorem dX8_doesBy_106 : decode cX8_doesBy 106 = .ok (.invokevirtual 163, 3) := by decide +kernel
theorem dX8_doesBy_109 : decode cX8_doesBy 109 = .ok (.ifCond .eq 13, 3) := by decide +kernel
theorem dX8_doesBy_112 : decode cX8_doesBy 112 = .ok (.aload_n 0, 1) := by decide +kernel
theorem dX8_doesBy_113 : decode cX8_doesBy 113 = .ok (.bipush 66, 2) := by decide +kernel
theorem dX8_doesBy_115 : decode cX8_doesBy 115 = .ok (.iload_n 2, 1) := by decide +kernel
theorem dX8_doesBy_116 : decode cX8_doesBy 116 = .ok (.invokevirtual 144, 3) := by decide +kernel
theorem dX8_doesBy_119 : decode cX8_doesBy 119 = .ok (.goto 3, 3) := by decide +kernel
theorem dX8_doesBy_122 : decode cX8_doesBy 122 = .ok (.return_, 1) := by decide +kernel
theorem dX8_day_0 : decode cX8_day 0 = .ok (.iload_n 1, 1) := by decide +kernel
theorem dX8_day_1 : decode cX8_day 1 = .ok (.i2l, 1) := by decide +kernel
theorem dX8_day_2 : decode cX8_day 2 = .ok (.lconst 0, 1) := by decide +kernel
theorem dX8_day_3 : decode cX8_day 3 = .ok (.ldc2_w 229, 3) := by decide +kernel
theorem dX8_day_6 : decode cX8_day 6 = .ok (.invokestatic 70, 3) := by decide +kernel
theorem dX8_day_9 : decode cX8_day 9 = .ok (.ifCond .eq 25, 3) := by decide +kernel
theorem dX8_day_12 : decode cX8_day 12 = .ok (.iload_n 2, 1) := by decide +kernel
theorem dX8_day_13 : decode cX8_day 13 = .ok (.i2l, 1) := by decide +kernel
theorem dX8_day_14 : decode cX8_day 14 = .ok (.lconst 1, 1) := by decide +kernel
theorem dX8_day_15 : decode cX8_day 15 = .ok (.ldc2_w 191, 3) := by decide +kernel
theorem dX8_day_18 : decode cX8_day 18 = .ok (.invokestatic 70, 3) := by decide +kernel
theorem dX8_day_21 : decode cX8_day 21 = .ok (.ifCond .eq 13, 3) := by decide +kernel
theorem dX8_day_24 : decode cX8_day 24 = .ok (.iload_n 3, 1) := by decide +kernel
theorem dX8_day_25 : decode cX8_day 25 = .ok (.i2l, 1) := by decide +kernel
theorem dX8_day_26 : decode cX8_day 26 = .ok (.lconst 0, 1) := by decide +kernel
theorem dX8_day_27 : decode cX8_day 27 = .ok (.lconst 1, 1) := by decide +kernel
theorem dX8_day_28 : decode cX8_day 28 = .ok (.invokestatic 70, 3) := by decide +kernel
theorem dX8_day_31 : decode cX8_day 31 = .ok (.ifCond .ne 5, 3) := by decide +kernel
theorem dX8_day_34 : decode cX8_day 34 = .ok (.iconst (-1), 1) := by decide +kernel
theorem dX8_day_35 : decode cX8_day 35 = .ok (.ireturn, 1) := by decide +kernel
theorem dX8_day_36 : decode cX8_day 36 = .ok (.aload_n 0, 1) := by decide +kernel
theorem dX8_day_37 : decode cX8_day 37 = .ok (.invokevirtual 197, 3) := by decide +kernel
theorem dX8_day_40 : decode cX8_day 40 = .ok (.iconst 0, 1) := by decide +kernel
theorem dX8_day_41 : decode cX8_day 41 = .ok (.istore 4, 2) := by decide +kernel
theorem dX8_day_43 : decode cX8_day 43 = .ok (.iload 4, 2) := by decide +kernel
theorem dX8_day_45 : decode cX8_day 45 = .ok (.iload_n 2, 1) := by decide +kernel
theorem dX8_day_46 : decode cX8_day 46 = .ok (.if_icmp .ge 47, 3) := by decide +kernel
theorem dX8_day_49 : decode cX8_day 49 = .ok (.ldc2_w 231, 3) := by decide +kernel
theorem dX8_day_52 : decode cX8_day 52 = .ok (.iload_n 1, 1) := by decide +kernel
theorem dX8_day_53 : decode cX8_day 53 = .ok (.i2l, 1) := by decide +kernel
theorem dX8_day_54 : decode cX8_day 54 = .ok (.lmul, 1) := by decide +kernel
theorem dX8_day_55 : decode cX8_day 55 = .ok (.ldc2_w 233, 3) := by decide +kernel
theorem dX8_day_58 : decode cX8_day 58 = .ok (.iload 4, 2) := by decide +kernel
theorem dX8_day_60 : decode cX8_day 60 = .ok (.i2l, 1) := by decide +kernel
theorem dX8_day_61 : decode cX8_day 61 = .ok (.lmul, 1) := by decide +kernel
theorem dX8_day_62 : decode cX8_day 62 = .ok (.ladd, 1) := by decide +kernel
theorem dX8_day_63 : decode cX8_day 63 = .ok (.lconst 1, 1) := by decide +kernel
theorem dX8_day_64 : decode cX8_day 64 = .ok (.ladd, 1) := by decide +kernel
theorem dX8_day_65 : decode cX8_day 65 = .ok (.lstore 5, 2) := by decide +kernel
theorem dX8_day_67 : decode cX8_day 67 = .ok (.aload_n 0, 1) := by decide +kernel
theorem dX8_day_68 : decode cX8_day 68 = .ok (.lload 5, 2) := by decide +kernel
theorem dX8_day_70 : decode cX8_day 70 = .ok (.lload 5, 2) := by decide +kernel
theorem dX8_day_72 : decode cX8_day 72 = .ok (.lmul, 1) := by decide +kernel
theorem dX8_day_73 : decode cX8_day 73 = .ok (.ldc2_w 235, 3) := by decide +kernel
theorem dX8_day_76 : decode cX8_day 76 = .ok (.lrem, 1) := by decide +kernel
theorem dX8_day_77 : decode cX8_day 77 = .ok (.l2i, 1) := by decide +kernel
theorem dX8_day_78 : decode cX8_day 78 = .ok (.invokevirtual 237, 3) := by decide +kernel
theorem dX8_day_81 : decode cX8_day 81 = .ok (.aload_n 0, 1) := by decide +kernel
theorem dX8_day_82 : decode cX8_day 82 = .ok (.bipush 66, 2) := by decide +kernel
theorem dX8_day_84 : decode cX8_day 84 = .ok (.invokevirtual 177, 3) := by decide +kernel
theorem dX8_day_87 : decode cX8_day 87 = .ok (.iinc 4 1, 3) := by decide +kernel
theorem dX8_day_90 : decode cX8_day 90 = .ok (.goto (-47), 3) := by decide +kernel
theorem dX8_day_93 : decode cX8_day 93 = .ok (.iconst 0, 1) := by decide +kernel
theorem dX8_day_94 : decode cX8_day 94 = .ok (.istore 4, 2) := by decide +kernel
theorem dX8_day_96 : decode cX8_day 96 = .ok (.iconst 0, 1) := by decide +kernel
theorem dX8_day_97 : decode cX8_day 97 = .ok (.istore 5, 2) := by decide +kernel
theorem dX8_day_99 : decode cX8_day 99 = .ok (.iload 5, 2) := by decide +kernel
theorem dX8_day_101 : decode cX8_day 101 = .ok (.aload_n 0, 1) := by decide +kernel
theorem dX8_day_102 : decode cX8_day 102 = .ok (.getfield 67, 3) := by decide +kernel
theorem dX8_day_105 : decode cX8_day 105 = .ok (.if_icmp .ge 31, 3) := by decide +kernel
theorem dX8_day_108 : decode cX8_day 108 = .ok (.iload 4, 2) := by decide +kernel
theorem dX8_day_110 : decode cX8_day 110 = .ok (.aload_n 0, 1) := by decide +kernel
theorem dX8_day_111 : decode cX8_day 111 = .ok (.bipush 66, 2) := by decide +kernel
theorem dX8_day_113 : decode cX8_day 113 = .ok (.iload 5, 2) := by decide +kernel
theorem dX8_day_115 : decode cX8_day 115 = .ok (.iconst 3, 1) := by decide +kernel
theorem dX8_day_116 : decode cX8_day 116 = .ok (.invokevirtual 163, 3) := by decide +kernel
theorem dX8_day_119 : decode cX8_day 119 = .ok (.ifCond .eq 7, 3) := by decide +kernel
theorem dX8_day_122 : decode cX8_day 122 = .ok (.iconst 1, 1) := by decide +kernel
theorem dX8_day_123 : decode cX8_day 123 = .ok (.goto 4, 3) := by decide +kernel
theorem dX8_day_126 : decode cX8_day 126 = .ok (.iconst 0, 1) := by decide +kernel
theorem dX8_day_127 : decode cX8_day 127 = .ok (.iadd, 1) := by decide +kernel
theorem dX8_day_128 : decode cX8_day 128 = .ok (.istore 4, 2) := by decide +kernel
theorem dX8_day_130 : decode cX8_day 130 = .ok (.iinc 5 1, 3) := by decide +kernel
theorem dX8_day_133 : decode cX8_day 133 = .ok (.goto (-34), 3) := by decide +kernel
theorem dX8_day_136 : decode cX8_day 136 = .ok (.iload_n 3, 1) := by decide +kernel
theorem dX8_day_137 : decode cX8_day 137 = .ok (.ifCond .ne 8, 3) := by decide +kernel
theorem dX8_day_140 : decode cX8_day 140 = .ok (.iload 4, 2) := by decide +kernel
theorem dX8_day_142 : decode cX8_day 142 = .ok (.goto 20, 3) := by decide +kernel
theorem dX8_day_145 : decode cX8_day 145 = .ok (.aload_n 0, 1) := by decide +kernel
theorem dX8_day_146 : decode cX8_day 146 = .ok (.aload_n 0, 1) := by decide +kernel
theorem dX8_day_147 : decode cX8_day 147 = .ok (.getfield 7, 3) := by decide +kernel
theorem dX8_day_150 : decode cX8_day 150 = .ok (.iconst 1, 1) := by decide +kernel
theorem dX8_day_151 : decode cX8_day 151 = .ok (.iaload, 1) := by decide +kernel
theorem dX8_day_152 : decode cX8_day 152 = .ok (.aload_n 0, 1) := by decide +kernel
theorem dX8_day_153 : decode cX8_day 153 = .ok (.getfield 7, 3) := by decide +kernel
theorem dX8_day_156 : decode cX8_day 156 = .ok (.bipush 67, 2) := by decide +kernel
theorem dX8_day_158 : decode cX8_day 158 = .ok (.iaload, 1) := by decide +kernel
theorem dX8_day_159 : decode cX8_day 159 = .ok (.invokevirtual 218, 3) := by decide +kernel
theorem dX8_day_162 : decode cX8_day 162 = .ok (.ireturn, 1) := by decide +kernel
theorem dX8_keep_0 : decode cX8_keep 0 = .ok (.aload_n 0, 1) := by decide +kernel
theorem dX8_keep_1 : decode cX8_keep 1 = .ok (.getfield 86, 3) := by decide +kernel
theorem dX8_keep_4 : decode cX8_keep 4 = .ok (.iconst 2, 1) := by decide +kernel
theorem dX8_keep_5 : decode cX8_keep 5 = .ok (.if_icmp .ne 6, 3) := by decide +kernel
theorem dX8_keep_8 : decode cX8_keep 8 = .ok (.bipush (-3), 2) := by decide +kernel
theorem dX8_keep_10 : decode cX8_keep 10 = .ok (.ireturn, 1) := by decide +kernel
theorem dX8_keep_11 : decode cX8_keep 11 = .ok (.aload_n 0, 1) := by decide +kernel
theorem dX8_keep_12 : decode cX8_keep 12 = .ok (.iconst 0, 1) := by decide +kernel
theorem dX8_keep_13 : decode cX8_keep 13 = .ok (.sipush 132, 3) := by decide +kernel
theorem dX8_keep_16 : decode cX8_keep 16 = .ok (.bipush 66, 2) := by decide +kernel
theorem dX8_keep_18 : decode cX8_keep 18 = .ok (.aload_n 0, 1) := by decide +kernel
theorem dX8_keep_19 : decode cX8_keep 19 = .ok (.getfield 86, 3) := by decide +kernel
theorem dX8_keep_22 : decode cX8_keep 22 = .ok (.imul, 1) := by decide +kernel
theorem dX8_keep_23 : decode cX8_keep 23 = .ok (.iadd, 1) := by decide +kernel
theorem dX8_keep_24 : decode cX8_keep 24 = .ok (.invokevirtual 169, 3) := by decide +kernel
theorem dX8_keep_27 : decode cX8_keep 27 = .ok (.aload_n 0, 1) := by decide +kernel
theorem dX8_keep_28 : decode cX8_keep 28 = .ok (.dup, 1) := by decide +kernel
theorem dX8_keep_29 : decode cX8_keep 29 = .ok (.getfield 86, 3) := by decide +kernel
theorem dX8_keep_32 : decode cX8_keep 32 = .ok (.iconst 1, 1) := by decide +kernel
theorem dX8_keep_33 : decode cX8_keep 33 = .ok (.iadd, 1) := by decide +kernel
theorem dX8_keep_34 : decode cX8_keep 34 = .ok (.putfield 86, 3) := by decide +kernel
theorem dX8_keep_37 : decode cX8_keep 37 = .ok (.aload_n 0, 1) := by decide +kernel
theorem dX8_keep_38 : decode cX8_keep 38 = .ok (.getfield 86, 3) := by decide +kernel
theorem dX8_keep_41 : decode cX8_keep 41 = .ok (.ireturn, 1) := by decide +kernel
theorem dX8_back_0 : decode cX8_back 0 = .ok (.aload_n 0, 1) := by decide +kernel
theorem dX8_back_1 : decode cX8_back 1 = .ok (.getfield 86, 3) := by decide +kernel
theorem dX8_back_4 : decode cX8_back 4 = .ok (.ifCond .ne 6, 3) := by decide +kernel
theorem dX8_back_7 : decode cX8_back 7 = .ok (.bipush (-2), 2) := by decide +kernel
theorem dX8_back_9 : decode cX8_back 9 = .ok (.ireturn, 1) := by decide +kernel
theorem dX8_back_10 : decode cX8_back 10 = .ok (.aload_n 0, 1) := by decide +kernel
theorem dX8_back_11 : decode cX8_back 11 = .ok (.dup, 1) := by decide +kernel
theorem dX8_back_12 : decode cX8_back 12 = .ok (.getfield 86, 3) := by decide +kernel
theorem dX8_back_15 : decode cX8_back 15 = .ok (.iconst 1, 1) := by decide +kernel
theorem dX8_back_16 : decode cX8_back 16 = .ok (.isub, 1) := by decide +kernel
theorem dX8_back_17 : decode cX8_back 17 = .ok (.putfield 86, 3) := by decide +kernel
theorem dX8_back_20 : decode cX8_back 20 = .ok (.aload_n 0, 1) := by decide +kernel
theorem dX8_back_21 : decode cX8_back 21 = .ok (.sipush 132, 3) := by decide +kernel
theorem dX8_back_24 : decode cX8_back 24 = .ok (.bipush 66, 2) := by decide +kernel
theorem dX8_back_26 : decode cX8_back 26 = .ok (.aload_n 0, 1) := by decide +kernel
theorem dX8_back_27 : decode cX8_back 27 = .ok (.getfield 86, 3) := by decide +kernel
theorem dX8_back_30 : decode cX8_back 30 = .ok (.imul, 1) := by decide +kernel
theorem dX8_back_31 : decode cX8_back 31 = .ok (.iadd, 1) := by decide +kernel
theorem dX8_back_32 : decode cX8_back 32 = .ok (.iconst 0, 1) := by decide +kernel
theorem dX8_back_33 : decode cX8_back 33 = .ok (.invokevirtual 169, 3) := by decide +kernel
theorem dX8_back_36 : decode cX8_back 36 = .ok (.aload_n 0, 1) := by decide +kernel
theorem dX8_back_37 : decode cX8_back 37 = .ok (.iconst 0, 1) := by decide +kernel
theorem dX8_back_38 : decode cX8_back 38 = .ok (.putfield 83, 3) := by decide +kernel
theorem dX8_back_41 : decode cX8_back 41 = .ok (.aload_n 0, 1) := by decide +kernel
theorem dX8_back_42 : decode cX8_back 42 = .ok (.getfield 86, 3) := by decide +kernel
theorem dX8_back_45 : decode cX8_back 45 = .ok (.ireturn, 1) := by decide +kernel
theorem dX8_count_0 : decode cX8_count 0 = .ok (.iload_n 1, 1) := by decide +kernel
theorem dX8_count_1 : decode cX8_count 1 = .ok (.tableswitch 113 0 9 #[55, 60, 67, 74, 80, 86, 93, 98, 103, 108], 55) := by decide +kernel
theorem dX8_count_56 : decode cX8_count 56 = .ok (.aload_n 0, 1) := by decide +kernel
theorem dX8_count_57 : decode cX8_count 57 = .ok (.getfield 67, 3) := by decide +kernel
theorem dX8_count_60 : decode cX8_count 60 = .ok (.ireturn, 1) := by decide +kernel
theorem dX8_count_61 : decode cX8_count 61 = .ok (.aload_n 0, 1) := by decide +kernel
theorem dX8_count_62 : decode cX8_count 62 = .ok (.getfield 7, 3) := by decide +kernel
theorem dX8_count_65 : decode cX8_count 65 = .ok (.iconst 0, 1) := by decide +kernel
theorem dX8_count_66 : decode cX8_count 66 = .ok (.iaload, 1) := by decide +kernel
theorem dX8_count_67 : decode cX8_count 67 = .ok (.ireturn, 1) := by decide +kernel
theorem dX8_count_68 : decode cX8_count 68 = .ok (.aload_n 0, 1) := by decide +kernel
theorem dX8_count_69 : decode cX8_count 69 = .ok (.getfield 7, 3) := by decide +kernel
theorem dX8_count_72 : decode cX8_count 72 = .ok (.iconst 2, 1) := by decide +kernel
theorem dX8_count_73 : decode cX8_count 73 = .ok (.iaload, 1) := by decide +kernel
theorem dX8_count_74 : decode cX8_count 74 = .ok (.ireturn, 1) := by decide +kernel
theorem dX8_count_75 : decode cX8_count 75 = .ok (.aload_n 0, 1) := by decide +kernel
theorem dX8_count_76 : decode cX8_count 76 = .ok (.iconst 2, 1) := by decide +kernel
theorem dX8_count_77 : decode cX8_count 77 = .ok (.invokevirtual 181, 3) := by decide +kernel
theorem dX8_count_80 : decode cX8_count 80 = .ok (.ireturn, 1) := by decide +kernel
theorem dX8_count_81 : decode cX8_count 81 = .ok (.aload_n 0, 1) := by decide +kernel
theorem dX8_count_82 : decode cX8_count 82 = .ok (.iconst 3, 1) := by decide +kernel
theorem dX8_count_83 : decode cX8_count 83 = .ok (.invokevirtual 181, 3) := by decide +kernel
theorem dX8_count_86 : decode cX8_count 86 = .ok (.ireturn, 1) := by decide +kernel
theorem dX8_count_87 : decode cX8_count 87 = .ok (.aload_n 0, 1) := by decide +kernel
theorem dX8_count_88 : decode cX8_count 88 = .ok (.getfield 7, 3) := by decide +kernel
theorem dX8_count_91 : decode cX8_count 91 = .ok (.iconst 1, 1) := by decide +kernel
theorem dX8_count_92 : decode cX8_count 92 = .ok (.iaload, 1) := by decide +kernel
theorem dX8_count_93 : decode cX8_count 93 = .ok (.ireturn, 1) := by decide +kernel
theorem dX8_count_94 : decode cX8_count 94 = .ok (.aload_n 0, 1) := by decide +kernel
theorem dX8_count_95 : decode cX8_count 95 = .ok (.getfield 89, 3) := by decide +kernel
theorem dX8_count_98 : decode cX8_count 98 = .ok (.ireturn, 1) := by decide +kernel
theorem dX8_count_99 : decode cX8_count 99 = .ok (.aload_n 0, 1) := by decide +kernel
theorem dX8_count_100 : decode cX8_count 100 = .ok (.getfield 83, 3) := by decide +kernel
theorem dX8_count_103 : decode cX8_count 103 = .ok (.ireturn, 1) := by decide +kernel
theorem dX8_count_104 : decode cX8_count 104 = .ok (.aload_n 0, 1) := by decide +kernel
theorem dX8_count_105 : decode cX8_count 105 = .ok (.getfield 86, 3) := by decide +kernel
theorem dX8_count_108 : decode cX8_count 108 = .ok (.ireturn, 1) := by decide +kernel
theorem dX8_count_109 : decode cX8_count 109 = .ok (.aload_n 0, 1) := by decide +kernel
theorem dX8_count_110 : decode cX8_count 110 = .ok (.getfield 96, 3) := by decide +kernel
theorem dX8_count_113 : decode cX8_count 113 = .ok (.ireturn, 1) := by decide +kernel
theorem dX8_count_114 : decode cX8_count 114 = .ok (.iconst (-1), 1) := by decide +kernel
theorem dX8_count_115 : decode cX8_count 115 = .ok (.ireturn, 1) := by decide +kernel
theorem dJ6_bitCount_0f7a4_0 : decode cJ6_bitCount_0f7a4 0 = .ok (.iload_n 0, 1) := by decide +kernel
theorem dJ6_bitCount_0f7a4_1 : decode cJ6_bitCount_0f7a4 1 = .ok (.iload_n 0, 1) := by decide +kernel
theorem dJ6_bitCount_0f7a4_2 : decode cJ6_bitCount_0f7a4 2 = .ok (.iconst 1, 1) := by decide +kernel
theorem dJ6_bitCount_0f7a4_3 : decode cJ6_bitCount_0f7a4 3 = .ok (.iushr, 1) := by decide +kernel
theorem dJ6_bitCount_0f7a4_4 : decode cJ6_bitCount_0f7a4 4 = .ok (.ldc_w 265, 3) := by decide +kernel
theorem dJ6_bitCount_0f7a4_7 : decode cJ6_bitCount_0f7a4 7 = .ok (.iand, 1) := by decide +kernel
theorem dJ6_bitCount_0f7a4_8 : decode cJ6_bitCount_0f7a4 8 = .ok (.isub, 1) := by decide +kernel
theorem dJ6_bitCount_0f7a4_9 : decode cJ6_bitCount_0f7a4 9 = .ok (.istore_n 0, 1) := by decide +kernel
theorem dJ6_bitCount_0f7a4_10 : decode cJ6_bitCount_0f7a4 10 = .ok (.iload_n 0, 1) := by decide +kernel
theorem dJ6_bitCount_0f7a4_11 : decode cJ6_bitCount_0f7a4 11 = .ok (.ldc_w 266, 3) := by decide +kernel
theorem dJ6_bitCount_0f7a4_14 : decode cJ6_bitCount_0f7a4 14 = .ok (.iand, 1) := by decide +kernel
theorem dJ6_bitCount_0f7a4_15 : decode cJ6_bitCount_0f7a4 15 = .ok (.iload_n 0, 1) := by decide +kernel
theorem dJ6_bitCount_0f7a4_16 : decode cJ6_bitCount_0f7a4 16 = .ok (.iconst 2, 1) := by decide +kernel
theorem dJ6_bitCount_0f7a4_17 : decode cJ6_bitCount_0f7a4 17 = .ok (.iushr, 1) := by decide +kernel
theorem dJ6_bitCount_0f7a4_18 : decode cJ6_bitCount_0f7a4 18 = .ok (.ldc_w 266, 3) := by decide +kernel
theorem dJ6_bitCount_0f7a4_21 : decode cJ6_bitCount_0f7a4 21 = .ok (.iand, 1) := by decide +kernel
theorem dJ6_bitCount_0f7a4_22 : decode cJ6_bitCount_0f7a4 22 = .ok (.iadd, 1) := by decide +kernel
theorem dJ6_bitCount_0f7a4_23 : decode cJ6_bitCount_0f7a4 23 = .ok (.istore_n 0, 1) := by decide +kernel
theorem dJ6_bitCount_0f7a4_24 : decode cJ6_bitCount_0f7a4 24 = .ok (.iload_n 0, 1) := by decide +kernel
theorem dJ6_bitCount_0f7a4_25 : decode cJ6_bitCount_0f7a4 25 = .ok (.iload_n 0, 1) := by decide +kernel
theorem dJ6_bitCount_0f7a4_26 : decode cJ6_bitCount_0f7a4 26 = .ok (.iconst 4, 1) := by decide +kernel
theorem dJ6_bitCount_0f7a4_27 : decode cJ6_bitCount_0f7a4 27 = .ok (.iushr, 1) := by decide +kernel
theorem dJ6_bitCount_0f7a4_28 : decode cJ6_bitCount_0f7a4 28 = .ok (.iadd, 1) := by decide +kernel
theorem dJ6_bitCount_0f7a4_29 : decode cJ6_bitCount_0f7a4 29 = .ok (.ldc_w 267, 3) := by decide +kernel
theorem dJ6_bitCount_0f7a4_32 : decode cJ6_bitCount_0f7a4 32 = .ok (.iand, 1) := by decide +kernel
theorem dJ6_bitCount_0f7a4_33 : decode cJ6_bitCount_0f7a4 33 = .ok (.istore_n 0, 1) := by decide +kernel
theorem dJ6_bitCount_0f7a4_34 : decode cJ6_bitCount_0f7a4 34 = .ok (.iload_n 0, 1) := by decide +kernel
theorem dJ6_bitCount_0f7a4_35 : decode cJ6_bitCount_0f7a4 35 = .ok (.iload_n 0, 1) := by decide +kernel
theorem dJ6_bitCount_0f7a4_36 : decode cJ6_bitCount_0f7a4 36 = .ok (.bipush 8, 2) := by decide +kernel
theorem dJ6_bitCount_0f7a4_38 : decode cJ6_bitCount_0f7a4 38 = .ok (.iushr, 1) := by decide +kernel
theorem dJ6_bitCount_0f7a4_39 : decode cJ6_bitCount_0f7a4 39 = .ok (.iadd, 1) := by decide +kernel
theorem dJ6_bitCount_0f7a4_40 : decode cJ6_bitCount_0f7a4 40 = .ok (.istore_n 0, 1) := by decide +kernel
theorem dJ6_bitCount_0f7a4_41 : decode cJ6_bitCount_0f7a4 41 = .ok (.iload_n 0, 1) := by decide +kernel
theorem dJ6_bitCount_0f7a4_42 : decode cJ6_bitCount_0f7a4 42 = .ok (.iload_n 0, 1) := by decide +kernel
theorem dJ6_bitCount_0f7a4_43 : decode cJ6_bitCount_0f7a4 43 = .ok (.bipush 16, 2) := by decide +kernel
theorem dJ6_bitCount_0f7a4_45 : decode cJ6_bitCount_0f7a4 45 = .ok (.iushr, 1) := by decide +kernel
theorem dJ6_bitCount_0f7a4_46 : decode cJ6_bitCount_0f7a4 46 = .ok (.iadd, 1) := by decide +kernel
theorem dJ6_bitCount_0f7a4_47 : decode cJ6_bitCount_0f7a4 47 = .ok (.istore_n 0, 1) := by decide +kernel
theorem dJ6_bitCount_0f7a4_48 : decode cJ6_bitCount_0f7a4 48 = .ok (.iload_n 0, 1) := by decide +kernel
theorem dJ6_bitCount_0f7a4_49 : decode cJ6_bitCount_0f7a4 49 = .ok (.bipush 63, 2) := by decide +kernel
theorem dJ6_bitCount_0f7a4_51 : decode cJ6_bitCount_0f7a4 51 = .ok (.iand, 1) := by decide +kernel
theorem dJ6_bitCount_0f7a4_52 : decode cJ6_bitCount_0f7a4 52 = .ok (.ireturn, 1) := by decide +kernel
theorem dJ9_max_7cf53_0 : decode cJ9_max_7cf53 0 = .ok (.iload_n 0, 1) := by decide +kernel
theorem dJ9_max_7cf53_1 : decode cJ9_max_7cf53 1 = .ok (.iload_n 1, 1) := by decide +kernel
theorem dJ9_max_7cf53_2 : decode cJ9_max_7cf53 2 = .ok (.if_icmp .lt 7, 3) := by decide +kernel
theorem dJ9_max_7cf53_5 : decode cJ9_max_7cf53 5 = .ok (.iload_n 0, 1) := by decide +kernel
theorem dJ9_max_7cf53_6 : decode cJ9_max_7cf53 6 = .ok (.goto 4, 3) := by decide +kernel
theorem dJ9_max_7cf53_9 : decode cJ9_max_7cf53 9 = .ok (.iload_n 1, 1) := by decide +kernel
theorem dJ9_max_7cf53_10 : decode cJ9_max_7cf53 10 = .ok (.ireturn, 1) := by decide +kernel
theorem dJ9_min_7cf53_0 : decode cJ9_min_7cf53 0 = .ok (.iload_n 0, 1) := by decide +kernel
theorem dJ9_min_7cf53_1 : decode cJ9_min_7cf53 1 = .ok (.iload_n 1, 1) := by decide +kernel
theorem dJ9_min_7cf53_2 : decode cJ9_min_7cf53 2 = .ok (.if_icmp .gt 7, 3) := by decide +kernel
theorem dJ9_min_7cf53_5 : decode cJ9_min_7cf53 5 = .ok (.iload_n 0, 1) := by decide +kernel
theorem dJ9_min_7cf53_6 : decode cJ9_min_7cf53 6 = .ok (.goto 4, 3) := by decide +kernel
theorem dJ9_min_7cf53_9 : decode cJ9_min_7cf53 9 = .ok (.iload_n 1, 1) := by decide +kernel
theorem dJ9_min_7cf53_10 : decode cJ9_min_7cf53 10 = .ok (.ireturn, 1) := by decide +kernel
theorem dJ0_length_8abf5_0 : decode cJ0_length_8abf5 0 = .ok (.aload_n 0, 1) := by decide +kernel
theorem dJ0_length_8abf5_1 : decode cJ0_length_8abf5 1 = .ok (.getfield 9, 3) := by decide +kernel
theorem dJ0_length_8abf5_4 : decode cJ0_length_8abf5 4 = .ok (.arraylength, 1) := by decide +kernel
theorem dJ0_length_8abf5_5 : decode cJ0_length_8abf5 5 = .ok (.aload_n 0, 1) := by decide +kernel
theorem dJ0_length_8abf5_6 : decode cJ0_length_8abf5 6 = .ok (.invokevirtual 335, 3) := by decide +kernel
theorem dJ0_length_8abf5_9 : decode cJ0_length_8abf5 9 = .ok (.ishr, 1) := by decide +kernel
theorem dJ0_length_8abf5_10 : decode cJ0_length_8abf5 10 = .ok (.ireturn, 1) := by decide +kernel
theorem dJ0_charAt_5068e_0 : decode cJ0_charAt_5068e 0 = .ok (.aload_n 0, 1) := by decide +kernel
theorem dJ0_charAt_5068e_1 : decode cJ0_charAt_5068e 1 = .ok (.invokevirtual 492, 3) := by decide +kernel
theorem dJ0_charAt_5068e_4 : decode cJ0_charAt_5068e 4 = .ok (.ifCond .eq 12, 3) := by decide +kernel
theorem dJ0_charAt_5068e_7 : decode cJ0_charAt_5068e 7 = .ok (.aload_n 0, 1) := by decide +kernel
theorem dJ0_charAt_5068e_8 : decode cJ0_charAt_5068e 8 = .ok (.getfield 9, 3) := by decide +kernel
theorem dJ0_charAt_5068e_11 : decode cJ0_charAt_5068e 11 = .ok (.iload_n 1, 1) := by decide +kernel
theorem dJ0_charAt_5068e_12 : decode cJ0_charAt_5068e 12 = .ok (.invokestatic 495, 3) := by decide +kernel
theorem dJ0_charAt_5068e_15 : decode cJ0_charAt_5068e 15 = .ok (.ireturn, 1) := by decide +kernel
theorem dJ0_charAt_5068e_16 : decode cJ0_charAt_5068e 16 = .ok (.aload_n 0, 1) := by decide +kernel
theorem dJ0_charAt_5068e_17 : decode cJ0_charAt_5068e 17 = .ok (.getfield 9, 3) := by decide +kernel
theorem dJ0_charAt_5068e_20 : decode cJ0_charAt_5068e 20 = .ok (.iload_n 1, 1) := by decide +kernel
theorem dJ0_charAt_5068e_21 : decode cJ0_charAt_5068e 21 = .ok (.invokestatic 498, 3) := by decide +kernel
theorem dJ0_charAt_5068e_24 : decode cJ0_charAt_5068e 24 = .ok (.ireturn, 1) := by decide +kernel
theorem dJ0_coder_7d493_0 : decode cJ0_coder_7d493 0 = .ok (.getstatic 38, 3) := by decide +kernel
theorem dJ0_coder_7d493_3 : decode cJ0_coder_7d493 3 = .ok (.ifCond .eq 10, 3) := by decide +kernel
theorem dJ0_coder_7d493_6 : decode cJ0_coder_7d493 6 = .ok (.aload_n 0, 1) := by decide +kernel
theorem dJ0_coder_7d493_7 : decode cJ0_coder_7d493 7 = .ok (.getfield 15, 3) := by decide +kernel
theorem dJ0_coder_7d493_10 : decode cJ0_coder_7d493 10 = .ok (.goto 4, 3) := by decide +kernel
theorem dJ0_coder_7d493_13 : decode cJ0_coder_7d493 13 = .ok (.iconst 1, 1) := by decide +kernel
theorem dJ0_coder_7d493_14 : decode cJ0_coder_7d493 14 = .ok (.ireturn, 1) := by decide +kernel
theorem dJ0_isLatin1_aae02_0 : decode cJ0_isLatin1_aae02 0 = .ok (.getstatic 38, 3) := by decide +kernel
theorem dJ0_isLatin1_aae02_3 : decode cJ0_isLatin1_aae02 3 = .ok (.ifCond .eq 14, 3) := by decide +kernel
theorem dJ0_isLatin1_aae02_6 : decode cJ0_isLatin1_aae02 6 = .ok (.aload_n 0, 1) := by decide +kernel
theorem dJ0_isLatin1_aae02_7 : decode cJ0_isLatin1_aae02 7 = .ok (.getfield 15, 3) := by decide +kernel
theorem dJ0_isLatin1_aae02_10 : decode cJ0_isLatin1_aae02 10 = .ok (.ifCond .ne 7, 3) := by decide +kernel
theorem dJ0_isLatin1_aae02_13 : decode cJ0_isLatin1_aae02 13 = .ok (.iconst 1, 1) := by decide +kernel
theorem dJ0_isLatin1_aae02_14 : decode cJ0_isLatin1_aae02 14 = .ok (.goto 4, 3) := by decide +kernel
theorem dJ0_isLatin1_aae02_17 : decode cJ0_isLatin1_aae02 17 = .ok (.iconst 0, 1) := by decide +kernel
theorem dJ0_isLatin1_aae02_18 : decode cJ0_isLatin1_aae02 18 = .ok (.ireturn, 1) := by decide +kernel
theorem dJ0_checkIndex_df160_0 : decode cJ0_checkIndex_df160 0 = .ok (.iload_n 0, 1) := by decide +kernel
theorem dJ0_checkIndex_df160_1 : decode cJ0_checkIndex_df160 1 = .ok (.iload_n 1, 1) := by decide +kernel
theorem dJ0_checkIndex_df160_2 : decode cJ0_checkIndex_df160 2 = .ok (.getstatic 1053, 3) := by decide +kernel
theorem dJ0_checkIndex_df160_5 : decode cJ0_checkIndex_df160 5 = .ok (.invokestatic 1059, 3) := by decide +kernel
theorem dJ0_checkIndex_df160_8 : decode cJ0_checkIndex_df160 8 = .ok (.pop, 1) := by decide +kernel
theorem dJ0_checkIndex_df160_9 : decode cJ0_checkIndex_df160 9 = .ok (.return_, 1) := by decide +kernel
theorem dJ1_charAt_3b067_0 : decode cJ1_charAt_3b067 0 = .ok (.iload_n 1, 1) := by decide +kernel
theorem dJ1_charAt_3b067_1 : decode cJ1_charAt_3b067 1 = .ok (.aload_n 0, 1) := by decide +kernel
theorem dJ1_charAt_3b067_2 : decode cJ1_charAt_3b067 2 = .ok (.arraylength, 1) := by decide +kernel
theorem dJ1_charAt_3b067_3 : decode cJ1_charAt_3b067 3 = .ok (.invokestatic 9, 3) := by decide +kernel
theorem dJ1_charAt_3b067_6 : decode cJ1_charAt_3b067 6 = .ok (.aload_n 0, 1) := by decide +kernel
theorem dJ1_charAt_3b067_7 : decode cJ1_charAt_3b067 7 = .ok (.iload_n 1, 1) := by decide +kernel
theorem dJ1_charAt_3b067_8 : decode cJ1_charAt_3b067 8 = .ok (.baload, 1) := by decide +kernel
theorem dJ1_charAt_3b067_9 : decode cJ1_charAt_3b067 9 = .ok (.sipush 255, 3) := by decide +kernel
theorem dJ1_charAt_3b067_12 : decode cJ1_charAt_3b067 12 = .ok (.iand, 1) := by decide +kernel
theorem dJ1_charAt_3b067_13 : decode cJ1_charAt_3b067 13 = .ok (.i2c, 1) := by decide +kernel
theorem dJ1_charAt_3b067_14 : decode cJ1_charAt_3b067 14 = .ok (.ireturn, 1) := by decide +kernel
theorem dJ2_getChar_3b067_0 : decode cJ2_getChar_3b067 0 = .ok (.getstatic 44, 3) := by decide +kernel
theorem dJ2_getChar_3b067_3 : decode cJ2_getChar_3b067 3 = .ok (.ifCond .ne 25, 3) := by decide +kernel
theorem dJ2_getChar_3b067_6 : decode cJ2_getChar_3b067 6 = .ok (.iload_n 1, 1) := by decide +kernel
theorem dJ2_getChar_3b067_7 : decode cJ2_getChar_3b067 7 = .ok (.ifCond .lt 11, 3) := by decide +kernel
theorem dJ2_getChar_3b067_10 : decode cJ2_getChar_3b067 10 = .ok (.iload_n 1, 1) := by decide +kernel
theorem dJ2_getChar_3b067_11 : decode cJ2_getChar_3b067 11 = .ok (.aload_n 0, 1) := by decide +kernel
theorem dJ2_getChar_3b067_12 : decode cJ2_getChar_3b067 12 = .ok (.invokestatic 48, 3) := by decide +kernel
theorem dJ2_getChar_3b067_15 : decode cJ2_getChar_3b067 15 = .ok (.if_icmp .lt 13, 3) := by decide +kernel
theorem dJ2_getChar_3b067_18 : decode cJ2_getChar_3b067 18 = .ok (.new 52, 3) := by decide +kernel
theorem dJ2_getChar_3b067_21 : decode cJ2_getChar_3b067 21 = .ok (.dup, 1) := by decide +kernel
theorem dJ2_getChar_3b067_22 : decode cJ2_getChar_3b067 22 = .ok (.ldc 54, 2) := by decide +kernel
theorem dJ2_getChar_3b067_24 : decode cJ2_getChar_3b067 24 = .ok (.invokespecial 56, 3) := by decide +kernel
theorem dJ2_getChar_3b067_27 : decode cJ2_getChar_3b067 27 = .ok (.athrow, 1) := by decide +kernel
theorem dJ2_getChar_3b067_28 : decode cJ2_getChar_3b067 28 = .ok (.iload_n 1, 1) := by decide +kernel
theorem dJ2_getChar_3b067_29 : decode cJ2_getChar_3b067 29 = .ok (.iconst 1, 1) := by decide +kernel
theorem dJ2_getChar_3b067_30 : decode cJ2_getChar_3b067 30 = .ok (.ishl, 1) := by decide +kernel
theorem dJ2_getChar_3b067_31 : decode cJ2_getChar_3b067 31 = .ok (.istore_n 1, 1) := by decide +kernel
theorem dJ2_getChar_3b067_32 : decode cJ2_getChar_3b067 32 = .ok (.aload_n 0, 1) := by decide +kernel
theorem dJ2_getChar_3b067_33 : decode cJ2_getChar_3b067 33 = .ok (.iload_n 1, 1) := by decide +kernel
theorem dJ2_getChar_3b067_34 : decode cJ2_getChar_3b067 34 = .ok (.iinc 1 1, 3) := by decide +kernel
theorem dJ2_getChar_3b067_37 : decode cJ2_getChar_3b067 37 = .ok (.baload, 1) := by decide +kernel
theorem dJ2_getChar_3b067_38 : decode cJ2_getChar_3b067 38 = .ok (.sipush 255, 3) := by decide +kernel
theorem dJ2_getChar_3b067_41 : decode cJ2_getChar_3b067 41 = .ok (.iand, 1) := by decide +kernel
theorem dJ2_getChar_3b067_42 : decode cJ2_getChar_3b067 42 = .ok (.getstatic 59, 3) := by decide +kernel
theorem dJ2_getChar_3b067_45 : decode cJ2_getChar_3b067 45 = .ok (.ishl, 1) := by decide +kernel
theorem dJ2_getChar_3b067_46 : decode cJ2_getChar_3b067 46 = .ok (.aload_n 0, 1) := by decide +kernel
theorem dJ2_getChar_3b067_47 : decode cJ2_getChar_3b067 47 = .ok (.iload_n 1, 1) := by decide +kernel
theorem dJ2_getChar_3b067_48 : decode cJ2_getChar_3b067 48 = .ok (.baload, 1) := by decide +kernel
theorem dJ2_getChar_3b067_49 : decode cJ2_getChar_3b067 49 = .ok (.sipush 255, 3) := by decide +kernel
theorem dJ2_getChar_3b067_52 : decode cJ2_getChar_3b067 52 = .ok (.iand, 1) := by decide +kernel
theorem dJ2_getChar_3b067_53 : decode cJ2_getChar_3b067 53 = .ok (.getstatic 63, 3) := by decide +kernel
theorem dJ2_getChar_3b067_56 : decode cJ2_getChar_3b067 56 = .ok (.ishl, 1) := by decide +kernel
theorem dJ2_getChar_3b067_57 : decode cJ2_getChar_3b067 57 = .ok (.ior, 1) := by decide +kernel
theorem dJ2_getChar_3b067_58 : decode cJ2_getChar_3b067 58 = .ok (.i2c, 1) := by decide +kernel
theorem dJ2_getChar_3b067_59 : decode cJ2_getChar_3b067 59 = .ok (.ireturn, 1) := by decide +kernel
theorem dJ2_length_9d52b_0 : decode cJ2_length_9d52b 0 = .ok (.aload_n 0, 1) := by decide +kernel
theorem dJ2_length_9d52b_1 : decode cJ2_length_9d52b 1 = .ok (.arraylength, 1) := by decide +kernel
theorem dJ2_length_9d52b_2 : decode cJ2_length_9d52b 2 = .ok (.iconst 1, 1) := by decide +kernel
theorem dJ2_length_9d52b_3 : decode cJ2_length_9d52b 3 = .ok (.ishr, 1) := by decide +kernel
theorem dJ2_length_9d52b_4 : decode cJ2_length_9d52b 4 = .ok (.ireturn, 1) := by decide +kernel
theorem dJ2_charAt_3b067_0 : decode cJ2_charAt_3b067 0 = .ok (.iload_n 1, 1) := by decide +kernel
theorem dJ2_charAt_3b067_1 : decode cJ2_charAt_3b067 1 = .ok (.aload_n 0, 1) := by decide +kernel
theorem dJ2_charAt_3b067_2 : decode cJ2_charAt_3b067 2 = .ok (.invokestatic 67, 3) := by decide +kernel
theorem dJ2_charAt_3b067_5 : decode cJ2_charAt_3b067 5 = .ok (.aload_n 0, 1) := by decide +kernel
theorem dJ2_charAt_3b067_6 : decode cJ2_charAt_3b067 6 = .ok (.iload_n 1, 1) := by decide +kernel
theorem dJ2_charAt_3b067_7 : decode cJ2_charAt_3b067 7 = .ok (.invokestatic 71, 3) := by decide +kernel
theorem dJ2_charAt_3b067_10 : decode cJ2_charAt_3b067 10 = .ok (.ireturn, 1) := by decide +kernel
theorem dJ2_checkIndex_2214a_0 : decode cJ2_checkIndex_2214a 0 = .ok (.iload_n 0, 1) := by decide +kernel
theorem dJ2_checkIndex_2214a_1 : decode cJ2_checkIndex_2214a 1 = .ok (.aload_n 1, 1) := by decide +kernel
theorem dJ2_checkIndex_2214a_2 : decode cJ2_checkIndex_2214a 2 = .ok (.invokestatic 48, 3) := by decide +kernel
theorem dJ2_checkIndex_2214a_5 : decode cJ2_checkIndex_2214a 5 = .ok (.invokestatic 414, 3) := by decide +kernel
theorem dJ2_checkIndex_2214a_8 : decode cJ2_checkIndex_2214a 8 = .ok (.return_, 1) := by decide +kernel
theorem dJ3_checkIndex_8e157_0 : decode cJ3_checkIndex_8e157 0 = .ok (.iload_n 0, 1) := by decide +kernel
theorem dJ3_checkIndex_8e157_1 : decode cJ3_checkIndex_8e157 1 = .ok (.ifCond .lt 8, 3) := by decide +kernel
theorem dJ3_checkIndex_8e157_4 : decode cJ3_checkIndex_8e157 4 = .ok (.iload_n 0, 1) := by decide +kernel
theorem dJ3_checkIndex_8e157_5 : decode cJ3_checkIndex_8e157 5 = .ok (.iload_n 1, 1) := by decide +kernel
theorem dJ3_checkIndex_8e157_6 : decode cJ3_checkIndex_8e157 6 = .ok (.if_icmp .lt 10, 3) := by decide +kernel
theorem dJ3_checkIndex_8e157_9 : decode cJ3_checkIndex_8e157 9 = .ok (.aload_n 2, 1) := by decide +kernel
theorem dJ3_checkIndex_8e157_10 : decode cJ3_checkIndex_8e157 10 = .ok (.iload_n 0, 1) := by decide +kernel
theorem dJ3_checkIndex_8e157_11 : decode cJ3_checkIndex_8e157 11 = .ok (.iload_n 1, 1) := by decide +kernel
theorem dJ3_checkIndex_8e157_12 : decode cJ3_checkIndex_8e157 12 = .ok (.invokestatic 95, 3) := by decide +kernel
theorem dJ3_checkIndex_8e157_15 : decode cJ3_checkIndex_8e157 15 = .ok (.athrow, 1) := by decide +kernel
theorem dJ3_checkIndex_8e157_16 : decode cJ3_checkIndex_8e157 16 = .ok (.iload_n 0, 1) := by decide +kernel
theorem dJ3_checkIndex_8e157_17 : decode cJ3_checkIndex_8e157 17 = .ok (.ireturn, 1) := by decide +kernel
theorem dL_law_0 : decode cL_law 0 = .ok (.new 7, 3) := by decide +kernel
theorem dL_law_3 : decode cL_law 3 = .ok (.dup, 1) := by decide +kernel
theorem dL_law_4 : decode cL_law 4 = .ok (.invokespecial 9, 3) := by decide +kernel
theorem dL_law_7 : decode cL_law 7 = .ok (.astore_n 1, 1) := by decide +kernel
theorem dL_law_8 : decode cL_law 8 = .ok (.new 10, 3) := by decide +kernel
theorem dL_law_11 : decode cL_law 11 = .ok (.dup, 1) := by decide +kernel
theorem dL_law_12 : decode cL_law 12 = .ok (.invokespecial 12, 3) := by decide +kernel
theorem dL_law_15 : decode cL_law 15 = .ok (.astore_n 2, 1) := by decide +kernel
theorem dL_law_16 : decode cL_law 16 = .ok (.iconst 0, 1) := by decide +kernel
theorem dL_law_17 : decode cL_law 17 = .ok (.istore_n 3, 1) := by decide +kernel
theorem dL_law_18 : decode cL_law 18 = .ok (.iload_n 3, 1) := by decide +kernel
theorem dL_law_19 : decode cL_law 19 = .ok (.aload_n 0, 1) := by decide +kernel
theorem dL_law_20 : decode cL_law 20 = .ok (.arraylength, 1) := by decide +kernel
theorem dL_law_21 : decode cL_law 21 = .ok (.iconst 5, 1) := by decide +kernel
theorem dL_law_22 : decode cL_law 22 = .ok (.isub, 1) := by decide +kernel
theorem dL_law_23 : decode cL_law 23 = .ok (.if_icmp .gt 803, 3) := by decide +kernel
theorem dL_law_26 : decode cL_law 26 = .ok (.aload_n 0, 1) := by decide +kernel
theorem dL_law_27 : decode cL_law 27 = .ok (.iload_n 3, 1) := by decide +kernel
theorem dL_law_28 : decode cL_law 28 = .ok (.iaload, 1) := by decide +kernel
theorem dL_law_29 : decode cL_law 29 = .ok (.bipush 31, 2) := by decide +kernel
theorem dL_law_31 : decode cL_law 31 = .ok (.iand, 1) := by decide +kernel
theorem dL_law_32 : decode cL_law 32 = .ok (.tableswitch 788 0 27 #[128, 151, 164, 177, 190, 223, 246, 269, 292, 315, 338, 361, 374, 407, 430, 443, 456, 479, 512, 535, 594, 607, 620, 643, 696, 739, 752, 765], 128) := by decide +kernel
theorem dL_law_160 : decode cL_law 160 = .ok (.aload_n 1, 1) := by decide +kernel
theorem dL_law_161 : decode cL_law 161 = .ok (.aload_n 0, 1) := by decide +kernel
theorem dL_law_162 : decode cL_law 162 = .ok (.iload_n 3, 1) := by decide +kernel
theorem dL_law_163 : decode cL_law 163 = .ok (.iconst 1, 1) := by decide +kernel
theorem dL_law_164 : decode cL_law 164 = .ok (.iadd, 1) := by decide +kernel
theorem dL_law_165 : decode cL_law 165 = .ok (.iaload, 1) := by decide +kernel
theorem dL_law_166 : decode cL_law 166 = .ok (.invokevirtual 13, 3) := by decide +kernel
theorem dL_law_169 : decode cL_law 169 = .ok (.aload_n 2, 1) := by decide +kernel
theorem dL_law_170 : decode cL_law 170 = .ok (.aload_n 0, 1) := by decide +kernel
theorem dL_law_171 : decode cL_law 171 = .ok (.iload_n 3, 1) := by decide +kernel
theorem dL_law_172 : decode cL_law 172 = .ok (.iconst 1, 1) := by decide +kernel
theorem dL_law_173 : decode cL_law 173 = .ok (.iadd, 1) := by decide +kernel
theorem dL_law_174 : decode cL_law 174 = .ok (.iaload, 1) := by decide +kernel
theorem dL_law_175 : decode cL_law 175 = .ok (.invokevirtual 17, 3) := by decide +kernel
theorem dL_law_178 : decode cL_law 178 = .ok (.if_icmp .eq 642, 3) := by decide +kernel
theorem dL_law_181 : decode cL_law 181 = .ok (.iconst 0, 1) := by decide +kernel
theorem dL_law_182 : decode cL_law 182 = .ok (.ireturn, 1) := by decide +kernel
theorem dL_law_183 : decode cL_law 183 = .ok (.aload_n 1, 1) := by decide +kernel
theorem dL_law_184 : decode cL_law 184 = .ok (.invokevirtual 18, 3) := by decide +kernel
theorem dL_law_187 : decode cL_law 187 = .ok (.aload_n 2, 1) := by decide +kernel
theorem dL_law_188 : decode cL_law 188 = .ok (.invokevirtual 22, 3) := by decide +kernel
theorem dL_law_191 : decode cL_law 191 = .ok (.if_icmp .eq 629, 3) := by decide +kernel
theorem dL_law_194 : decode cL_law 194 = .ok (.iconst 0, 1) := by decide +kernel
theorem dL_law_195 : decode cL_law 195 = .ok (.ireturn, 1) := by decide +kernel
theorem dL_law_196 : decode cL_law 196 = .ok (.aload_n 1, 1) := by decide +kernel
theorem dL_law_197 : decode cL_law 197 = .ok (.invokevirtual 23, 3) := by decide +kernel
theorem dL_law_200 : decode cL_law 200 = .ok (.aload_n 2, 1) := by decide +kernel
theorem dL_law_201 : decode cL_law 201 = .ok (.invokevirtual 26, 3) := by decide +kernel
theorem dL_law_204 : decode cL_law 204 = .ok (.if_icmp .eq 616, 3) := by decide +kernel
theorem dL_law_207 : decode cL_law 207 = .ok (.iconst 0, 1) := by decide +kernel
theorem dL_law_208 : decode cL_law 208 = .ok (.ireturn, 1) := by decide +kernel
theorem dL_law_209 : decode cL_law 209 = .ok (.aload_n 1, 1) := by decide +kernel
theorem dL_law_210 : decode cL_law 210 = .ok (.invokevirtual 27, 3) := by decide +kernel
theorem dL_law_213 : decode cL_law 213 = .ok (.aload_n 2, 1) := by decide +kernel
theorem dL_law_214 : decode cL_law 214 = .ok (.invokevirtual 30, 3) := by decide +kernel
theorem dL_law_217 : decode cL_law 217 = .ok (.if_icmp .eq 603, 3) := by decide +kernel
theorem dL_law_220 : decode cL_law 220 = .ok (.iconst 0, 1) := by decide +kernel
theorem dL_law_221 : decode cL_law 221 = .ok (.ireturn, 1) := by decide +kernel
theorem dL_law_222 : decode cL_law 222 = .ok (.aload_n 1, 1) := by decide +kernel
theorem dL_law_223 : decode cL_law 223 = .ok (.aload_n 0, 1) := by decide +kernel
theorem dL_law_224 : decode cL_law 224 = .ok (.iload_n 3, 1) := by decide +kernel
theorem dL_law_225 : decode cL_law 225 = .ok (.iconst 1, 1) := by decide +kernel
theorem dL_law_226 : decode cL_law 226 = .ok (.iadd, 1) := by decide +kernel
theorem dL_law_227 : decode cL_law 227 = .ok (.iaload, 1) := by decide +kernel
theorem dL_law_228 : decode cL_law 228 = .ok (.aload_n 0, 1) := by decide +kernel
theorem dL_law_229 : decode cL_law 229 = .ok (.iload_n 3, 1) := by decide +kernel
theorem dL_law_230 : decode cL_law 230 = .ok (.iconst 2, 1) := by decide +kernel
theorem dL_law_231 : decode cL_law 231 = .ok (.iadd, 1) := by decide +kernel
theorem dL_law_232 : decode cL_law 232 = .ok (.iaload, 1) := by decide +kernel
theorem dL_law_233 : decode cL_law 233 = .ok (.invokevirtual 31, 3) := by decide +kernel
theorem dL_law_236 : decode cL_law 236 = .ok (.aload_n 2, 1) := by decide +kernel
theorem dL_law_237 : decode cL_law 237 = .ok (.aload_n 0, 1) := by decide +kernel
theorem dL_law_238 : decode cL_law 238 = .ok (.iload_n 3, 1) := by decide +kernel
theorem dL_law_239 : decode cL_law 239 = .ok (.iconst 1, 1) := by decide +kernel
theorem dL_law_240 : decode cL_law 240 = .ok (.iadd, 1) := by decide +kernel
theorem dL_law_241 : decode cL_law 241 = .ok (.iaload, 1) := by decide +kernel
theorem dL_law_242 : decode cL_law 242 = .ok (.aload_n 0, 1) := by decide +kernel
theorem dL_law_243 : decode cL_law 243 = .ok (.iload_n 3, 1) := by decide +kernel
theorem dL_law_244 : decode cL_law 244 = .ok (.iconst 2, 1) := by decide +kernel
theorem dL_law_245 : decode cL_law 245 = .ok (.iadd, 1) := by decide +kernel
theorem dL_law_246 : decode cL_law 246 = .ok (.iaload, 1) := by decide +kernel
theorem dL_law_247 : decode cL_law 247 = .ok (.invokevirtual 35, 3) := by decide +kernel
theorem dL_law_250 : decode cL_law 250 = .ok (.if_icmp .eq 570, 3) := by decide +kernel
theorem dL_law_253 : decode cL_law 253 = .ok (.iconst 0, 1) := by decide +kernel
theorem dL_law_254 : decode cL_law 254 = .ok (.ireturn, 1) := by decide +kernel
theorem dL_law_255 : decode cL_law 255 = .ok (.aload_n 1, 1) := by decide +kernel
theorem dL_law_256 : decode cL_law 256 = .ok (.aload_n 0, 1) := by decide +kernel
theorem dL_law_257 : decode cL_law 257 = .ok (.iload_n 3, 1) := by decide +kernel
theorem dL_law_258 : decode cL_law 258 = .ok (.iconst 1, 1) := by decide +kernel
theorem dL_law_259 : decode cL_law 259 = .ok (.iadd, 1) := by decide +kernel
theorem dL_law_260 : decode cL_law 260 = .ok (.iaload, 1) := by decide +kernel
theorem dL_law_261 : decode cL_law 261 = .ok (.invokevirtual 36, 3) := by decide +kernel
theorem dL_law_264 : decode cL_law 264 = .ok (.aload_n 2, 1) := by decide +kernel
theorem dL_law_265 : decode cL_law 265 = .ok (.aload_n 0, 1) := by decide +kernel
theorem dL_law_266 : decode cL_law 266 = .ok (.iload_n 3, 1) := by decide +kernel
theorem dL_law_267 : decode cL_law 267 = .ok (.iconst 1, 1) := by decide +kernel
theorem dL_law_268 : decode cL_law 268 = .ok (.iadd, 1) := by decide +kernel
theorem dL_law_269 : decode cL_law 269 = .ok (.iaload, 1) := by decide +kernel
theorem dL_law_270 : decode cL_law 270 = .ok (.invokevirtual 39, 3) := by decide +kernel
theorem dL_law_273 : decode cL_law 273 = .ok (.if_icmp .eq 547, 3) := by decide +kernel
theorem dL_law_276 : decode cL_law 276 = .ok (.iconst 0, 1) := by decide +kernel
theorem dL_law_277 : decode cL_law 277 = .ok (.ireturn, 1) := by decide +kernel
theorem dL_law_278 : decode cL_law 278 = .ok (.aload_n 1, 1) := by decide +kernel
theorem dL_law_279 : decode cL_law 279 = .ok (.aload_n 0, 1) := by decide +kernel
theorem dL_law_280 : decode cL_law 280 = .ok (.iload_n 3, 1) := by decide +kernel
theorem dL_law_281 : decode cL_law 281 = .ok (.iconst 1, 1) := by decide +kernel
theorem dL_law_282 : decode cL_law 282 = .ok (.iadd, 1) := by decide +kernel
theorem dL_law_283 : decode cL_law 283 = .ok (.iaload, 1) := by decide +kernel
theorem dL_law_284 : decode cL_law 284 = .ok (.invokevirtual 40, 3) := by decide +kernel
theorem dL_law_287 : decode cL_law 287 = .ok (.aload_n 2, 1) := by decide +kernel
theorem dL_law_288 : decode cL_law 288 = .ok (.aload_n 0, 1) := by decide +kernel
theorem dL_law_289 : decode cL_law 289 = .ok (.iload_n 3, 1) := by decide +kernel
theorem dL_law_290 : decode cL_law 290 = .ok (.iconst 1, 1) := by decide +kernel
theorem dL_law_291 : decode cL_law 291 = .ok (.iadd, 1) := by decide +kernel
theorem dL_law_292 : decode cL_law 292 = .ok (.iaload, 1) := by decide +kernel
theorem dL_law_293 : decode cL_law 293 = .ok (.invokevirtual 43, 3) := by decide +kernel
theorem dL_law_296 : decode cL_law 296 = .ok (.if_icmp .eq 524, 3) := by decide +kernel
theorem dL_law_299 : decode cL_law 299 = .ok (.iconst 0, 1) := by decide +kernel
theorem dL_law_300 : decode cL_law 300 = .ok (.ireturn, 1) := by decide +kernel
theorem dL_law_301 : decode cL_law 301 = .ok (.aload_n 1, 1) := by decide +kernel
theorem dL_law_302 : decode cL_law 302 = .ok (.aload_n 0, 1) := by decide +kernel
theorem dL_law_303 : decode cL_law 303 = .ok (.iload_n 3, 1) := by decide +kernel
theorem dL_law_304 : decode cL_law 304 = .ok (.iconst 1, 1) := by decide +kernel
theorem dL_law_305 : decode cL_law 305 = .ok (.iadd, 1) := by decide +kernel
theorem dL_law_306 : decode cL_law 306 = .ok (.iaload, 1) := by decide +kernel
theorem dL_law_307 : decode cL_law 307 = .ok (.invokevirtual 44, 3) := by decide +kernel
theorem dL_law_310 : decode cL_law 310 = .ok (.aload_n 2, 1) := by decide +kernel
theorem dL_law_311 : decode cL_law 311 = .ok (.aload_n 0, 1) := by decide +kernel
theorem dL_law_312 : decode cL_law 312 = .ok (.iload_n 3, 1) := by decide +kernel
theorem dL_law_313 : decode cL_law 313 = .ok (.iconst 1, 1) := by decide +kernel
theorem dL_law_314 : decode cL_law 314 = .ok (.iadd, 1) := by decide +kernel
theorem dL_law_315 : decode cL_law 315 = .ok (.iaload, 1) := by decide +kernel
theorem dL_law_316 : decode cL_law 316 = .ok (.invokevirtual 47, 3) := by decide +kernel
theorem dL_law_319 : decode cL_law 319 = .ok (.if_icmp .eq 501, 3) := by decide +kernel
theorem dL_law_322 : decode cL_law 322 = .ok (.iconst 0, 1) := by decide +kernel
theorem dL_law_323 : decode cL_law 323 = .ok (.ireturn, 1) := by decide +kernel
theorem dL_law_324 : decode cL_law 324 = .ok (.aload_n 1, 1) := by decide +kernel
theorem dL_law_325 : decode cL_law 325 = .ok (.aload_n 0, 1) := by decide +kernel
theorem dL_law_326 : decode cL_law 326 = .ok (.iload_n 3, 1) := by decide +kernel
theorem dL_law_327 : decode cL_law 327 = .ok (.iconst 1, 1) := by decide +kernel
theorem dL_law_328 : decode cL_law 328 = .ok (.iadd, 1) := by decide +kernel
theorem dL_law_329 : decode cL_law 329 = .ok (.iaload, 1) := by decide +kernel
theorem dL_law_330 : decode cL_law 330 = .ok (.invokevirtual 48, 3) := by decide +kernel
theorem dL_law_333 : decode cL_law 333 = .ok (.aload_n 2, 1) := by decide +kernel
theorem dL_law_334 : decode cL_law 334 = .ok (.aload_n 0, 1) := by decide +kernel
theorem dL_law_335 : decode cL_law 335 = .ok (.iload_n 3, 1) := by decide +kernel
theorem dL_law_336 : decode cL_law 336 = .ok (.iconst 1, 1) := by decide +kernel
theorem dL_law_337 : decode cL_law 337 = .ok (.iadd, 1) := by decide +kernel
theorem dL_law_338 : decode cL_law 338 = .ok (.iaload, 1) := by decide +kernel
theorem dL_law_339 : decode cL_law 339 = .ok (.invokevirtual 51, 3) := by decide +kernel
theorem dL_law_342 : decode cL_law 342 = .ok (.if_icmp .eq 478, 3) := by decide +kernel
theorem dL_law_345 : decode cL_law 345 = .ok (.iconst 0, 1) := by decide +kernel
theorem dL_law_346 : decode cL_law 346 = .ok (.ireturn, 1) := by decide +kernel
theorem dL_law_347 : decode cL_law 347 = .ok (.aload_n 1, 1) := by decide +kernel
theorem dL_law_348 : decode cL_law 348 = .ok (.aload_n 0, 1) := by decide +kernel
theorem dL_law_349 : decode cL_law 349 = .ok (.iload_n 3, 1) := by decide +kernel
theorem dL_law_350 : decode cL_law 350 = .ok (.iconst 1, 1) := by decide +kernel
theorem dL_law_351 : decode cL_law 351 = .ok (.iadd, 1) := by decide +kernel
theorem dL_law_352 : decode cL_law 352 = .ok (.iaload, 1) := by decide +kernel
theorem dL_law_353 : decode cL_law 353 = .ok (.invokevirtual 52, 3) := by decide +kernel
theorem dL_law_356 : decode cL_law 356 = .ok (.aload_n 2, 1) := by decide +kernel
theorem dL_law_357 : decode cL_law 357 = .ok (.aload_n 0, 1) := by decide +kernel
theorem dL_law_358 : decode cL_law 358 = .ok (.iload_n 3, 1) := by decide +kernel
theorem dL_law_359 : decode cL_law 359 = .ok (.iconst 1, 1) := by decide +kernel
theorem dL_law_360 : decode cL_law 360 = .ok (.iadd, 1) := by decide +kernel
theorem dL_law_361 : decode cL_law 361 = .ok (.iaload, 1) := by decide +kernel
theorem dL_law_362 : decode cL_law 362 = .ok (.invokevirtual 55, 3) := by decide +kernel
theorem dL_law_365 : decode cL_law 365 = .ok (.if_icmp .eq 455, 3) := by decide +kernel
theorem dL_law_368 : decode cL_law 368 = .ok (.iconst 0, 1) := by decide +kernel
theorem dL_law_369 : decode cL_law 369 = .ok (.ireturn, 1) := by decide +kernel
theorem dL_law_370 : decode cL_law 370 = .ok (.aload_n 1, 1) := by decide +kernel
theorem dL_law_371 : decode cL_law 371 = .ok (.aload_n 0, 1) := by decide +kernel
theorem dL_law_372 : decode cL_law 372 = .ok (.iload_n 3, 1) := by decide +kernel
theorem dL_law_373 : decode cL_law 373 = .ok (.iconst 1, 1) := by decide +kernel
theorem dL_law_374 : decode cL_law 374 = .ok (.iadd, 1) := by decide +kernel
theorem dL_law_375 : decode cL_law 375 = .ok (.iaload, 1) := by decide +kernel
theorem dL_law_376 : decode cL_law 376 = .ok (.invokevirtual 56, 3) := by decide +kernel
theorem dL_law_379 : decode cL_law 379 = .ok (.aload_n 2, 1) := by decide +kernel
theorem dL_law_380 : decode cL_law 380 = .ok (.aload_n 0, 1) := by decide +kernel
theorem dL_law_381 : decode cL_law 381 = .ok (.iload_n 3, 1) := by decide +kernel
theorem dL_law_382 : decode cL_law 382 = .ok (.iconst 1, 1) := by decide +kernel
theorem dL_law_383 : decode cL_law 383 = .ok (.iadd, 1) := by decide +kernel
theorem dL_law_384 : decode cL_law 384 = .ok (.iaload, 1) := by decide +kernel
theorem dL_law_385 : decode cL_law 385 = .ok (.invokevirtual 59, 3) := by decide +kernel
theorem dL_law_388 : decode cL_law 388 = .ok (.if_icmp .eq 432, 3) := by decide +kernel
theorem dL_law_391 : decode cL_law 391 = .ok (.iconst 0, 1) := by decide +kernel
theorem dL_law_392 : decode cL_law 392 = .ok (.ireturn, 1) := by decide +kernel
theorem dL_law_393 : decode cL_law 393 = .ok (.aload_n 1, 1) := by decide +kernel
theorem dL_law_394 : decode cL_law 394 = .ok (.invokevirtual 60, 3) := by decide +kernel
theorem dL_law_397 : decode cL_law 397 = .ok (.aload_n 2, 1) := by decide +kernel
theorem dL_law_398 : decode cL_law 398 = .ok (.invokevirtual 63, 3) := by decide +kernel
theorem dL_law_401 : decode cL_law 401 = .ok (.if_icmp .eq 419, 3) := by decide +kernel
theorem dL_law_404 : decode cL_law 404 = .ok (.iconst 0, 1) := by decide +kernel
theorem dL_law_405 : decode cL_law 405 = .ok (.ireturn, 1) := by decide +kernel
theorem dL_law_406 : decode cL_law 406 = .ok (.aload_n 1, 1) := by decide +kernel
theorem dL_law_407 : decode cL_law 407 = .ok (.aload_n 0, 1) := by decide +kernel
theorem dL_law_408 : decode cL_law 408 = .ok (.iload_n 3, 1) := by decide +kernel
theorem dL_law_409 : decode cL_law 409 = .ok (.iconst 1, 1) := by decide +kernel
theorem dL_law_410 : decode cL_law 410 = .ok (.iadd, 1) := by decide +kernel
theorem dL_law_411 : decode cL_law 411 = .ok (.iaload, 1) := by decide +kernel
theorem dL_law_412 : decode cL_law 412 = .ok (.aload_n 0, 1) := by decide +kernel
theorem dL_law_413 : decode cL_law 413 = .ok (.iload_n 3, 1) := by decide +kernel
theorem dL_law_414 : decode cL_law 414 = .ok (.iconst 2, 1) := by decide +kernel
theorem dL_law_415 : decode cL_law 415 = .ok (.iadd, 1) := by decide +kernel
theorem dL_law_416 : decode cL_law 416 = .ok (.iaload, 1) := by decide +kernel
theorem dL_law_417 : decode cL_law 417 = .ok (.invokevirtual 64, 3) := by decide +kernel
theorem dL_law_420 : decode cL_law 420 = .ok (.aload_n 2, 1) := by decide +kernel
theorem dL_law_421 : decode cL_law 421 = .ok (.aload_n 0, 1) := by decide +kernel
theorem dL_law_422 : decode cL_law 422 = .ok (.iload_n 3, 1) := by decide +kernel
theorem dL_law_423 : decode cL_law 423 = .ok (.iconst 1, 1) := by decide +kernel
theorem dL_law_424 : decode cL_law 424 = .ok (.iadd, 1) := by decide +kernel
theorem dL_law_425 : decode cL_law 425 = .ok (.iaload, 1) := by decide +kernel
theorem dL_law_426 : decode cL_law 426 = .ok (.aload_n 0, 1) := by decide +kernel
theorem dL_law_427 : decode cL_law 427 = .ok (.iload_n 3, 1) := by decide +kernel
theorem dL_law_428 : decode cL_law 428 = .ok (.iconst 2, 1) := by decide +kernel
theorem dL_law_429 : decode cL_law 429 = .ok (.iadd, 1) := by decide +kernel
theorem dL_law_430 : decode cL_law 430 = .ok (.iaload, 1) := by decide +kernel
theorem dL_law_431 : decode cL_law 431 = .ok (.invokevirtual 67, 3) := by decide +kernel
theorem dL_law_434 : decode cL_law 434 = .ok (.if_icmp .eq 386, 3) := by decide +kernel
theorem dL_law_437 : decode cL_law 437 = .ok (.iconst 0, 1) := by decide +kernel
theorem dL_law_438 : decode cL_law 438 = .ok (.ireturn, 1) := by decide +kernel
theorem dL_law_439 : decode cL_law 439 = .ok (.aload_n 1, 1) := by decide +kernel
theorem dL_law_440 : decode cL_law 440 = .ok (.aload_n 0, 1) := by decide +kernel
theorem dL_law_441 : decode cL_law 441 = .ok (.iload_n 3, 1) := by decide +kernel
theorem dL_law_442 : decode cL_law 442 = .ok (.iconst 1, 1) := by decide +kernel
theorem dL_law_443 : decode cL_law 443 = .ok (.iadd, 1) := by decide +kernel
theorem dL_law_444 : decode cL_law 444 = .ok (.iaload, 1) := by decide +kernel
theorem dL_law_445 : decode cL_law 445 = .ok (.invokevirtual 68, 3) := by decide +kernel
theorem dL_law_448 : decode cL_law 448 = .ok (.aload_n 2, 1) := by decide +kernel
theorem dL_law_449 : decode cL_law 449 = .ok (.aload_n 0, 1) := by decide +kernel
theorem dL_law_450 : decode cL_law 450 = .ok (.iload_n 3, 1) := by decide +kernel
theorem dL_law_451 : decode cL_law 451 = .ok (.iconst 1, 1) := by decide +kernel
theorem dL_law_452 : decode cL_law 452 = .ok (.iadd, 1) := by decide +kernel
theorem dL_law_453 : decode cL_law 453 = .ok (.iaload, 1) := by decide +kernel
theorem dL_law_454 : decode cL_law 454 = .ok (.invokevirtual 71, 3) := by decide +kernel
theorem dL_law_457 : decode cL_law 457 = .ok (.if_icmp .eq 363, 3) := by decide +kernel
theorem dL_law_460 : decode cL_law 460 = .ok (.iconst 0, 1) := by decide +kernel
theorem dL_law_461 : decode cL_law 461 = .ok (.ireturn, 1) := by decide +kernel
theorem dL_law_462 : decode cL_law 462 = .ok (.aload_n 1, 1) := by decide +kernel
theorem dL_law_463 : decode cL_law 463 = .ok (.invokevirtual 72, 3) := by decide +kernel
theorem dL_law_466 : decode cL_law 466 = .ok (.aload_n 2, 1) := by decide +kernel
theorem dL_law_467 : decode cL_law 467 = .ok (.invokevirtual 75, 3) := by decide +kernel
theorem dL_law_470 : decode cL_law 470 = .ok (.if_icmp .eq 350, 3) := by decide +kernel
theorem dL_law_473 : decode cL_law 473 = .ok (.iconst 0, 1) := by decide +kernel
theorem dL_law_474 : decode cL_law 474 = .ok (.ireturn, 1) := by decide +kernel
theorem dL_law_475 : decode cL_law 475 = .ok (.aload_n 1, 1) := by decide +kernel
theorem dL_law_476 : decode cL_law 476 = .ok (.invokevirtual 76, 3) := by decide +kernel
theorem dL_law_479 : decode cL_law 479 = .ok (.aload_n 2, 1) := by decide +kernel
theorem dL_law_480 : decode cL_law 480 = .ok (.invokevirtual 79, 3) := by decide +kernel
theorem dL_law_483 : decode cL_law 483 = .ok (.if_icmp .eq 337, 3) := by decide +kernel
theorem dL_law_486 : decode cL_law 486 = .ok (.iconst 0, 1) := by decide +kernel
theorem dL_law_487 : decode cL_law 487 = .ok (.ireturn, 1) := by decide +kernel
theorem dL_law_488 : decode cL_law 488 = .ok (.aload_n 1, 1) := by decide +kernel
theorem dL_law_489 : decode cL_law 489 = .ok (.aload_n 0, 1) := by decide +kernel
theorem dL_law_490 : decode cL_law 490 = .ok (.iload_n 3, 1) := by decide +kernel
theorem dL_law_491 : decode cL_law 491 = .ok (.iconst 1, 1) := by decide +kernel
theorem dL_law_492 : decode cL_law 492 = .ok (.iadd, 1) := by decide +kernel
theorem dL_law_493 : decode cL_law 493 = .ok (.iaload, 1) := by decide +kernel
theorem dL_law_494 : decode cL_law 494 = .ok (.invokevirtual 80, 3) := by decide +kernel
theorem dL_law_497 : decode cL_law 497 = .ok (.aload_n 2, 1) := by decide +kernel
theorem dL_law_498 : decode cL_law 498 = .ok (.aload_n 0, 1) := by decide +kernel
theorem dL_law_499 : decode cL_law 499 = .ok (.iload_n 3, 1) := by decide +kernel
theorem dL_law_500 : decode cL_law 500 = .ok (.iconst 1, 1) := by decide +kernel
theorem dL_law_501 : decode cL_law 501 = .ok (.iadd, 1) := by decide +kernel
theorem dL_law_502 : decode cL_law 502 = .ok (.iaload, 1) := by decide +kernel
theorem dL_law_503 : decode cL_law 503 = .ok (.invokevirtual 83, 3) := by decide +kernel
theorem dL_law_506 : decode cL_law 506 = .ok (.if_icmp .eq 314, 3) := by decide +kernel
theorem dL_law_509 : decode cL_law 509 = .ok (.iconst 0, 1) := by decide +kernel
theorem dL_law_510 : decode cL_law 510 = .ok (.ireturn, 1) := by decide +kernel
theorem dL_law_511 : decode cL_law 511 = .ok (.aload_n 1, 1) := by decide +kernel
theorem dL_law_512 : decode cL_law 512 = .ok (.aload_n 0, 1) := by decide +kernel
theorem dL_law_513 : decode cL_law 513 = .ok (.iload_n 3, 1) := by decide +kernel
theorem dL_law_514 : decode cL_law 514 = .ok (.iconst 1, 1) := by decide +kernel
theorem dL_law_515 : decode cL_law 515 = .ok (.iadd, 1) := by decide +kernel
theorem dL_law_516 : decode cL_law 516 = .ok (.iaload, 1) := by decide +kernel
theorem dL_law_517 : decode cL_law 517 = .ok (.aload_n 0, 1) := by decide +kernel
theorem dL_law_518 : decode cL_law 518 = .ok (.iload_n 3, 1) := by decide +kernel
theorem dL_law_519 : decode cL_law 519 = .ok (.iconst 2, 1) := by decide +kernel
theorem dL_law_520 : decode cL_law 520 = .ok (.iadd, 1) := by decide +kernel
theorem dL_law_521 : decode cL_law 521 = .ok (.iaload, 1) := by decide +kernel
theorem dL_law_522 : decode cL_law 522 = .ok (.invokevirtual 84, 3) := by decide +kernel
theorem dL_law_525 : decode cL_law 525 = .ok (.aload_n 2, 1) := by decide +kernel
theorem dL_law_526 : decode cL_law 526 = .ok (.aload_n 0, 1) := by decide +kernel
theorem dL_law_527 : decode cL_law 527 = .ok (.iload_n 3, 1) := by decide +kernel
theorem dL_law_528 : decode cL_law 528 = .ok (.iconst 1, 1) := by decide +kernel
theorem dL_law_529 : decode cL_law 529 = .ok (.iadd, 1) := by decide +kernel
theorem dL_law_530 : decode cL_law 530 = .ok (.iaload, 1) := by decide +kernel
theorem dL_law_531 : decode cL_law 531 = .ok (.aload_n 0, 1) := by decide +kernel
theorem dL_law_532 : decode cL_law 532 = .ok (.iload_n 3, 1) := by decide +kernel
theorem dL_law_533 : decode cL_law 533 = .ok (.iconst 2, 1) := by decide +kernel
theorem dL_law_534 : decode cL_law 534 = .ok (.iadd, 1) := by decide +kernel
theorem dL_law_535 : decode cL_law 535 = .ok (.iaload, 1) := by decide +kernel
theorem dL_law_536 : decode cL_law 536 = .ok (.invokevirtual 87, 3) := by decide +kernel
theorem dL_law_539 : decode cL_law 539 = .ok (.if_icmp .eq 281, 3) := by decide +kernel
theorem dL_law_542 : decode cL_law 542 = .ok (.iconst 0, 1) := by decide +kernel
theorem dL_law_543 : decode cL_law 543 = .ok (.ireturn, 1) := by decide +kernel
theorem dL_law_544 : decode cL_law 544 = .ok (.aload_n 1, 1) := by decide +kernel
theorem dL_law_545 : decode cL_law 545 = .ok (.aload_n 0, 1) := by decide +kernel
theorem dL_law_546 : decode cL_law 546 = .ok (.iload_n 3, 1) := by decide +kernel
theorem dL_law_547 : decode cL_law 547 = .ok (.iconst 1, 1) := by decide +kernel
theorem dL_law_548 : decode cL_law 548 = .ok (.iadd, 1) := by decide +kernel
theorem dL_law_549 : decode cL_law 549 = .ok (.iaload, 1) := by decide +kernel
theorem dL_law_550 : decode cL_law 550 = .ok (.invokevirtual 88, 3) := by decide +kernel
theorem dL_law_553 : decode cL_law 553 = .ok (.aload_n 2, 1) := by decide +kernel
theorem dL_law_554 : decode cL_law 554 = .ok (.aload_n 0, 1) := by decide +kernel
theorem dL_law_555 : decode cL_law 555 = .ok (.iload_n 3, 1) := by decide +kernel
theorem dL_law_556 : decode cL_law 556 = .ok (.iconst 1, 1) := by decide +kernel
theorem dL_law_557 : decode cL_law 557 = .ok (.iadd, 1) := by decide +kernel
theorem dL_law_558 : decode cL_law 558 = .ok (.iaload, 1) := by decide +kernel
theorem dL_law_559 : decode cL_law 559 = .ok (.invokevirtual 91, 3) := by decide +kernel
theorem dL_law_562 : decode cL_law 562 = .ok (.if_icmp .eq 258, 3) := by decide +kernel
theorem dL_law_565 : decode cL_law 565 = .ok (.iconst 0, 1) := by decide +kernel
theorem dL_law_566 : decode cL_law 566 = .ok (.ireturn, 1) := by decide +kernel
theorem dL_law_567 : decode cL_law 567 = .ok (.aload_n 1, 1) := by decide +kernel
theorem dL_law_568 : decode cL_law 568 = .ok (.aload_n 0, 1) := by decide +kernel
theorem dL_law_569 : decode cL_law 569 = .ok (.iload_n 3, 1) := by decide +kernel
theorem dL_law_570 : decode cL_law 570 = .ok (.iconst 1, 1) := by decide +kernel
theorem dL_law_571 : decode cL_law 571 = .ok (.iadd, 1) := by decide +kernel
theorem dL_law_572 : decode cL_law 572 = .ok (.iaload, 1) := by decide +kernel
theorem dL_law_573 : decode cL_law 573 = .ok (.aload_n 0, 1) := by decide +kernel
theorem dL_law_574 : decode cL_law 574 = .ok (.iload_n 3, 1) := by decide +kernel
theorem dL_law_575 : decode cL_law 575 = .ok (.iconst 2, 1) := by decide +kernel
theorem dL_law_576 : decode cL_law 576 = .ok (.iadd, 1) := by decide +kernel
theorem dL_law_577 : decode cL_law 577 = .ok (.iaload, 1) := by decide +kernel
theorem dL_law_578 : decode cL_law 578 = .ok (.aload_n 0, 1) := by decide +kernel
theorem dL_law_579 : decode cL_law 579 = .ok (.iload_n 3, 1) := by decide +kernel
theorem dL_law_580 : decode cL_law 580 = .ok (.iconst 3, 1) := by decide +kernel
theorem dL_law_581 : decode cL_law 581 = .ok (.iadd, 1) := by decide +kernel
theorem dL_law_582 : decode cL_law 582 = .ok (.iaload, 1) := by decide +kernel
theorem dL_law_583 : decode cL_law 583 = .ok (.ifCond .eq 7, 3) := by decide +kernel
theorem dL_law_586 : decode cL_law 586 = .ok (.iconst 1, 1) := by decide +kernel
theorem dL_law_587 : decode cL_law 587 = .ok (.goto 4, 3) := by decide +kernel
theorem dL_law_590 : decode cL_law 590 = .ok (.iconst 0, 1) := by decide +kernel
theorem dL_law_591 : decode cL_law 591 = .ok (.invokevirtual 92, 3) := by decide +kernel
theorem dL_law_594 : decode cL_law 594 = .ok (.aload_n 2, 1) := by decide +kernel
theorem dL_law_595 : decode cL_law 595 = .ok (.aload_n 0, 1) := by decide +kernel
theorem dL_law_596 : decode cL_law 596 = .ok (.iload_n 3, 1) := by decide +kernel
theorem dL_law_597 : decode cL_law 597 = .ok (.iconst 1, 1) := by decide +kernel
theorem dL_law_598 : decode cL_law 598 = .ok (.iadd, 1) := by decide +kernel
theorem dL_law_599 : decode cL_law 599 = .ok (.iaload, 1) := by decide +kernel
theorem dL_law_600 : decode cL_law 600 = .ok (.aload_n 0, 1) := by decide +kernel
theorem dL_law_601 : decode cL_law 601 = .ok (.iload_n 3, 1) := by decide +kernel
theorem dL_law_602 : decode cL_law 602 = .ok (.iconst 2, 1) := by decide +kernel
theorem dL_law_603 : decode cL_law 603 = .ok (.iadd, 1) := by decide +kernel
theorem dL_law_604 : decode cL_law 604 = .ok (.iaload, 1) := by decide +kernel
theorem dL_law_605 : decode cL_law 605 = .ok (.aload_n 0, 1) := by decide +kernel
theorem dL_law_606 : decode cL_law 606 = .ok (.iload_n 3, 1) := by decide +kernel
theorem dL_law_607 : decode cL_law 607 = .ok (.iconst 3, 1) := by decide +kernel
theorem dL_law_608 : decode cL_law 608 = .ok (.iadd, 1) := by decide +kernel
theorem dL_law_609 : decode cL_law 609 = .ok (.iaload, 1) := by decide +kernel
theorem dL_law_610 : decode cL_law 610 = .ok (.ifCond .eq 7, 3) := by decide +kernel
theorem dL_law_613 : decode cL_law 613 = .ok (.iconst 1, 1) := by decide +kernel
theorem dL_law_614 : decode cL_law 614 = .ok (.goto 4, 3) := by decide +kernel
theorem dL_law_617 : decode cL_law 617 = .ok (.iconst 0, 1) := by decide +kernel
theorem dL_law_618 : decode cL_law 618 = .ok (.invokevirtual 96, 3) := by decide +kernel
theorem dL_law_621 : decode cL_law 621 = .ok (.if_icmp .eq 199, 3) := by decide +kernel
theorem dL_law_624 : decode cL_law 624 = .ok (.iconst 0, 1) := by decide +kernel
theorem dL_law_625 : decode cL_law 625 = .ok (.ireturn, 1) := by decide +kernel
theorem dL_law_626 : decode cL_law 626 = .ok (.aload_n 1, 1) := by decide +kernel
end
section
theorem dL_law_627 : decode cL_law 627 = .ok (.invokevirtual 97, 3) := by decide +kernel
theorem dL_law_630 : decode cL_law 630 = .ok (.aload_n 2, 1) := by decide +kernel
theorem dL_law_631 : decode cL_law 631 = .ok (.invokevirtual 100, 3) := by decide +kernel
theorem dL_law_634 : decode cL_law 634 = .ok (.if_icmp .eq 186, 3) := by decide +kernel
theorem dL_law_637 : decode cL_law 637 = .ok (.iconst 0, 1) := by decide +kernel
theorem dL_law_638 : decode cL_law 638 = .ok (.ireturn, 1) := by decide +kernel
theorem dL_law_639 : decode cL_law 639 = .ok (.aload_n 1, 1) := by decide +kernel
theorem dL_law_640 : decode cL_law 640 = .ok (.invokevirtual 101, 3) := by decide +kernel
theorem dL_law_643 : decode cL_law 643 = .ok (.aload_n 2, 1) := by decide +kernel
theorem dL_law_644 : decode cL_law 644 = .ok (.invokevirtual 104, 3) := by decide +kernel
theorem dL_law_647 : decode cL_law 647 = .ok (.if_icmp .eq 173, 3) := by decide +kernel
theorem dL_law_650 : decode cL_law 650 = .ok (.iconst 0, 1) := by decide +kernel
theorem dL_law_651 : decode cL_law 651 = .ok (.ireturn, 1) := by decide +kernel
theorem dL_law_652 : decode cL_law 652 = .ok (.aload_n 1, 1) := by decide +kernel
theorem dL_law_653 : decode cL_law 653 = .ok (.aload_n 0, 1) := by decide +kernel
theorem dL_law_654 : decode cL_law 654 = .ok (.iload_n 3, 1) := by decide +kernel
theorem dL_law_655 : decode cL_law 655 = .ok (.iconst 1, 1) := by decide +kernel
theorem dL_law_656 : decode cL_law 656 = .ok (.iadd, 1) := by decide +kernel
theorem dL_law_657 : decode cL_law 657 = .ok (.iaload, 1) := by decide +kernel
theorem dL_law_658 : decode cL_law 658 = .ok (.invokevirtual 105, 3) := by decide +kernel
theorem dL_law_661 : decode cL_law 661 = .ok (.aload_n 2, 1) := by decide +kernel
theorem dL_law_662 : decode cL_law 662 = .ok (.aload_n 0, 1) := by decide +kernel
theorem dL_law_663 : decode cL_law 663 = .ok (.iload_n 3, 1) := by decide +kernel
theorem dL_law_664 : decode cL_law 664 = .ok (.iconst 1, 1) := by decide +kernel
theorem dL_law_665 : decode cL_law 665 = .ok (.iadd, 1) := by decide +kernel
theorem dL_law_666 : decode cL_law 666 = .ok (.iaload, 1) := by decide +kernel
theorem dL_law_667 : decode cL_law 667 = .ok (.invokevirtual 108, 3) := by decide +kernel
theorem dL_law_670 : decode cL_law 670 = .ok (.if_icmp .eq 150, 3) := by decide +kernel
theorem dL_law_673 : decode cL_law 673 = .ok (.iconst 0, 1) := by decide +kernel
theorem dL_law_674 : decode cL_law 674 = .ok (.ireturn, 1) := by decide +kernel
theorem dL_law_675 : decode cL_law 675 = .ok (.aload_n 1, 1) := by decide +kernel
theorem dL_law_676 : decode cL_law 676 = .ok (.aload_n 0, 1) := by decide +kernel
theorem dL_law_677 : decode cL_law 677 = .ok (.iload_n 3, 1) := by decide +kernel
theorem dL_law_678 : decode cL_law 678 = .ok (.iconst 1, 1) := by decide +kernel
theorem dL_law_679 : decode cL_law 679 = .ok (.iadd, 1) := by decide +kernel
theorem dL_law_680 : decode cL_law 680 = .ok (.iaload, 1) := by decide +kernel
theorem dL_law_681 : decode cL_law 681 = .ok (.aload_n 0, 1) := by decide +kernel
theorem dL_law_682 : decode cL_law 682 = .ok (.iload_n 3, 1) := by decide +kernel
theorem dL_law_683 : decode cL_law 683 = .ok (.iconst 2, 1) := by decide +kernel
theorem dL_law_684 : decode cL_law 684 = .ok (.iadd, 1) := by decide +kernel
theorem dL_law_685 : decode cL_law 685 = .ok (.iaload, 1) := by decide +kernel
theorem dL_law_686 : decode cL_law 686 = .ok (.aload_n 0, 1) := by decide +kernel
theorem dL_law_687 : decode cL_law 687 = .ok (.iload_n 3, 1) := by decide +kernel
theorem dL_law_688 : decode cL_law 688 = .ok (.iconst 3, 1) := by decide +kernel
theorem dL_law_689 : decode cL_law 689 = .ok (.iadd, 1) := by decide +kernel
theorem dL_law_690 : decode cL_law 690 = .ok (.iaload, 1) := by decide +kernel
theorem dL_law_691 : decode cL_law 691 = .ok (.aload_n 0, 1) := by decide +kernel
theorem dL_law_692 : decode cL_law 692 = .ok (.iload_n 3, 1) := by decide +kernel
theorem dL_law_693 : decode cL_law 693 = .ok (.iconst 4, 1) := by decide +kernel
theorem dL_law_694 : decode cL_law 694 = .ok (.iadd, 1) := by decide +kernel
theorem dL_law_695 : decode cL_law 695 = .ok (.iaload, 1) := by decide +kernel
theorem dL_law_696 : decode cL_law 696 = .ok (.invokevirtual 109, 3) := by decide +kernel
theorem dL_law_699 : decode cL_law 699 = .ok (.aload_n 2, 1) := by decide +kernel
theorem dL_law_700 : decode cL_law 700 = .ok (.aload_n 0, 1) := by decide +kernel
theorem dL_law_701 : decode cL_law 701 = .ok (.iload_n 3, 1) := by decide +kernel
theorem dL_law_702 : decode cL_law 702 = .ok (.iconst 1, 1) := by decide +kernel
theorem dL_law_703 : decode cL_law 703 = .ok (.iadd, 1) := by decide +kernel
theorem dL_law_704 : decode cL_law 704 = .ok (.iaload, 1) := by decide +kernel
theorem dL_law_705 : decode cL_law 705 = .ok (.aload_n 0, 1) := by decide +kernel
theorem dL_law_706 : decode cL_law 706 = .ok (.iload_n 3, 1) := by decide +kernel
theorem dL_law_707 : decode cL_law 707 = .ok (.iconst 2, 1) := by decide +kernel
theorem dL_law_708 : decode cL_law 708 = .ok (.iadd, 1) := by decide +kernel
theorem dL_law_709 : decode cL_law 709 = .ok (.iaload, 1) := by decide +kernel
theorem dL_law_710 : decode cL_law 710 = .ok (.aload_n 0, 1) := by decide +kernel
theorem dL_law_711 : decode cL_law 711 = .ok (.iload_n 3, 1) := by decide +kernel
theorem dL_law_712 : decode cL_law 712 = .ok (.iconst 3, 1) := by decide +kernel
theorem dL_law_713 : decode cL_law 713 = .ok (.iadd, 1) := by decide +kernel
theorem dL_law_714 : decode cL_law 714 = .ok (.iaload, 1) := by decide +kernel
theorem dL_law_715 : decode cL_law 715 = .ok (.aload_n 0, 1) := by decide +kernel
theorem dL_law_716 : decode cL_law 716 = .ok (.iload_n 3, 1) := by decide +kernel
theorem dL_law_717 : decode cL_law 717 = .ok (.iconst 4, 1) := by decide +kernel
theorem dL_law_718 : decode cL_law 718 = .ok (.iadd, 1) := by decide +kernel
theorem dL_law_719 : decode cL_law 719 = .ok (.iaload, 1) := by decide +kernel
theorem dL_law_720 : decode cL_law 720 = .ok (.invokevirtual 113, 3) := by decide +kernel
theorem dL_law_723 : decode cL_law 723 = .ok (.if_icmp .eq 97, 3) := by decide +kernel
theorem dL_law_726 : decode cL_law 726 = .ok (.iconst 0, 1) := by decide +kernel
theorem dL_law_727 : decode cL_law 727 = .ok (.ireturn, 1) := by decide +kernel
theorem dL_law_728 : decode cL_law 728 = .ok (.aload_n 1, 1) := by decide +kernel
theorem dL_law_729 : decode cL_law 729 = .ok (.aload_n 0, 1) := by decide +kernel
theorem dL_law_730 : decode cL_law 730 = .ok (.iload_n 3, 1) := by decide +kernel
theorem dL_law_731 : decode cL_law 731 = .ok (.iconst 1, 1) := by decide +kernel
theorem dL_law_732 : decode cL_law 732 = .ok (.iadd, 1) := by decide +kernel
theorem dL_law_733 : decode cL_law 733 = .ok (.iaload, 1) := by decide +kernel
theorem dL_law_734 : decode cL_law 734 = .ok (.aload_n 0, 1) := by decide +kernel
theorem dL_law_735 : decode cL_law 735 = .ok (.iload_n 3, 1) := by decide +kernel
theorem dL_law_736 : decode cL_law 736 = .ok (.iconst 2, 1) := by decide +kernel
theorem dL_law_737 : decode cL_law 737 = .ok (.iadd, 1) := by decide +kernel
theorem dL_law_738 : decode cL_law 738 = .ok (.iaload, 1) := by decide +kernel
theorem dL_law_739 : decode cL_law 739 = .ok (.aload_n 0, 1) := by decide +kernel
theorem dL_law_740 : decode cL_law 740 = .ok (.iload_n 3, 1) := by decide +kernel
theorem dL_law_741 : decode cL_law 741 = .ok (.iconst 3, 1) := by decide +kernel
theorem dL_law_742 : decode cL_law 742 = .ok (.iadd, 1) := by decide +kernel
theorem dL_law_743 : decode cL_law 743 = .ok (.iaload, 1) := by decide +kernel
theorem dL_law_744 : decode cL_law 744 = .ok (.invokevirtual 114, 3) := by decide +kernel
theorem dL_law_747 : decode cL_law 747 = .ok (.aload_n 2, 1) := by decide +kernel
theorem dL_law_748 : decode cL_law 748 = .ok (.aload_n 0, 1) := by decide +kernel
theorem dL_law_749 : decode cL_law 749 = .ok (.iload_n 3, 1) := by decide +kernel
theorem dL_law_750 : decode cL_law 750 = .ok (.iconst 1, 1) := by decide +kernel
theorem dL_law_751 : decode cL_law 751 = .ok (.iadd, 1) := by decide +kernel
theorem dL_law_752 : decode cL_law 752 = .ok (.iaload, 1) := by decide +kernel
theorem dL_law_753 : decode cL_law 753 = .ok (.aload_n 0, 1) := by decide +kernel
theorem dL_law_754 : decode cL_law 754 = .ok (.iload_n 3, 1) := by decide +kernel
theorem dL_law_755 : decode cL_law 755 = .ok (.iconst 2, 1) := by decide +kernel
theorem dL_law_756 : decode cL_law 756 = .ok (.iadd, 1) := by decide +kernel
theorem dL_law_757 : decode cL_law 757 = .ok (.iaload, 1) := by decide +kernel
theorem dL_law_758 : decode cL_law 758 = .ok (.aload_n 0, 1) := by decide +kernel
theorem dL_law_759 : decode cL_law 759 = .ok (.iload_n 3, 1) := by decide +kernel
theorem dL_law_760 : decode cL_law 760 = .ok (.iconst 3, 1) := by decide +kernel
theorem dL_law_761 : decode cL_law 761 = .ok (.iadd, 1) := by decide +kernel
theorem dL_law_762 : decode cL_law 762 = .ok (.iaload, 1) := by decide +kernel
theorem dL_law_763 : decode cL_law 763 = .ok (.invokevirtual 118, 3) := by decide +kernel
theorem dL_law_766 : decode cL_law 766 = .ok (.if_icmp .eq 54, 3) := by decide +kernel
theorem dL_law_769 : decode cL_law 769 = .ok (.iconst 0, 1) := by decide +kernel
theorem dL_law_770 : decode cL_law 770 = .ok (.ireturn, 1) := by decide +kernel
theorem dL_law_771 : decode cL_law 771 = .ok (.aload_n 1, 1) := by decide +kernel
theorem dL_law_772 : decode cL_law 772 = .ok (.invokevirtual 119, 3) := by decide +kernel
theorem dL_law_775 : decode cL_law 775 = .ok (.aload_n 2, 1) := by decide +kernel
theorem dL_law_776 : decode cL_law 776 = .ok (.invokevirtual 122, 3) := by decide +kernel
theorem dL_law_779 : decode cL_law 779 = .ok (.if_icmp .eq 41, 3) := by decide +kernel
theorem dL_law_782 : decode cL_law 782 = .ok (.iconst 0, 1) := by decide +kernel
theorem dL_law_783 : decode cL_law 783 = .ok (.ireturn, 1) := by decide +kernel
theorem dL_law_784 : decode cL_law 784 = .ok (.aload_n 1, 1) := by decide +kernel
theorem dL_law_785 : decode cL_law 785 = .ok (.invokevirtual 123, 3) := by decide +kernel
theorem dL_law_788 : decode cL_law 788 = .ok (.aload_n 2, 1) := by decide +kernel
theorem dL_law_789 : decode cL_law 789 = .ok (.invokevirtual 126, 3) := by decide +kernel
theorem dL_law_792 : decode cL_law 792 = .ok (.if_icmp .eq 28, 3) := by decide +kernel
theorem dL_law_795 : decode cL_law 795 = .ok (.iconst 0, 1) := by decide +kernel
theorem dL_law_796 : decode cL_law 796 = .ok (.ireturn, 1) := by decide +kernel
theorem dL_law_797 : decode cL_law 797 = .ok (.aload_n 1, 1) := by decide +kernel
theorem dL_law_798 : decode cL_law 798 = .ok (.aload_n 0, 1) := by decide +kernel
theorem dL_law_799 : decode cL_law 799 = .ok (.iload_n 3, 1) := by decide +kernel
theorem dL_law_800 : decode cL_law 800 = .ok (.iconst 1, 1) := by decide +kernel
theorem dL_law_801 : decode cL_law 801 = .ok (.iadd, 1) := by decide +kernel
theorem dL_law_802 : decode cL_law 802 = .ok (.iaload, 1) := by decide +kernel
theorem dL_law_803 : decode cL_law 803 = .ok (.invokevirtual 127, 3) := by decide +kernel
theorem dL_law_806 : decode cL_law 806 = .ok (.aload_n 2, 1) := by decide +kernel
theorem dL_law_807 : decode cL_law 807 = .ok (.aload_n 0, 1) := by decide +kernel
theorem dL_law_808 : decode cL_law 808 = .ok (.iload_n 3, 1) := by decide +kernel
theorem dL_law_809 : decode cL_law 809 = .ok (.iconst 1, 1) := by decide +kernel
theorem dL_law_810 : decode cL_law 810 = .ok (.iadd, 1) := by decide +kernel
theorem dL_law_811 : decode cL_law 811 = .ok (.iaload, 1) := by decide +kernel
theorem dL_law_812 : decode cL_law 812 = .ok (.invokevirtual 130, 3) := by decide +kernel
theorem dL_law_815 : decode cL_law 815 = .ok (.if_icmp .eq 5, 3) := by decide +kernel
theorem dL_law_818 : decode cL_law 818 = .ok (.iconst 0, 1) := by decide +kernel
theorem dL_law_819 : decode cL_law 819 = .ok (.ireturn, 1) := by decide +kernel
theorem dL_law_820 : decode cL_law 820 = .ok (.iinc 3 5, 3) := by decide +kernel
theorem dL_law_823 : decode cL_law 823 = .ok (.goto (-805), 3) := by decide +kernel
theorem dL_law_826 : decode cL_law 826 = .ok (.iconst 1, 1) := by decide +kernel
theorem dL_law_827 : decode cL_law 827 = .ok (.ireturn, 1) := by decide +kernel
end
section
theorem zz_last : True := trivial
end
