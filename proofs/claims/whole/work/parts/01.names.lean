-- ===== PART A: goes FIRST, ahead of the names: the tables' words, and 'selects' of the private methods out of them =====
/-- a private method of a class that the tables say can be made, by its rows of tables_1 -/
def lw_okq (q : MethodName × Nat) : Prop := (q.1.cls ≠ "java/lang/invoke/MethodHandle" ∧ q.1.cls ≠ "java/lang/invoke/VarHandle") ∧ Cond.instantiable q.1.cls q.2 ∈ tables_1 ∧ Cond.privateMethod q.1 ∈ tables_1 ∧ Cond.instanceMethod q.1 ∈ tables_1
theorem lw_p0 : lw_okq (⟨"WheelOnWheel", "refuse", "(I)I"⟩, 12) := ⟨⟨by decide +kernel, by decide +kernel⟩, List.mem_of_getElem? (i := 15) (by decide +kernel), List.mem_of_getElem? (i := 263) (by decide +kernel), List.mem_of_getElem? (i := 264) (by decide +kernel)⟩
theorem lw_p1 : lw_okq (⟨"WheelOnWheel$Letters", "number", "(II)I"⟩, 2) := ⟨⟨by decide +kernel, by decide +kernel⟩, List.mem_of_getElem? (i := 114) (by decide +kernel), List.mem_of_getElem? (i := 305) (by decide +kernel), List.mem_of_getElem? (i := 306) (by decide +kernel)⟩
theorem lw_p2 : lw_okq (⟨"WheelOnWheel$Letters", "wheelComes", "(LWheelOnWheel$Ring;I)Z"⟩, 2) := ⟨⟨by decide +kernel, by decide +kernel⟩, List.mem_of_getElem? (i := 114) (by decide +kernel), List.mem_of_getElem? (i := 324) (by decide +kernel), List.mem_of_getElem? (i := 325) (by decide +kernel)⟩
theorem lw_p3 : lw_okq (⟨"WheelOnWheel$Ring", "slipped", "(LWheelOnWheel$Wheel;I)I"⟩, 5) := ⟨⟨by decide +kernel, by decide +kernel⟩, List.mem_of_getElem? (i := 23) (by decide +kernel), List.mem_of_getElem? (i := 370) (by decide +kernel), List.mem_of_getElem? (i := 371) (by decide +kernel)⟩
theorem lw_p4 : lw_okq (⟨"WheelOnWheel$Ring", "unwornFrom", "(I)I"⟩, 5) := ⟨⟨by decide +kernel, by decide +kernel⟩, List.mem_of_getElem? (i := 23) (by decide +kernel), List.mem_of_getElem? (i := 374) (by decide +kernel), List.mem_of_getElem? (i := 375) (by decide +kernel)⟩
theorem lw_p5 : lw_okq (⟨"WheelOnWheel", "refuseLong", "(I)J"⟩, 12) := ⟨⟨by decide +kernel, by decide +kernel⟩, List.mem_of_getElem? (i := 15) (by decide +kernel), List.mem_of_getElem? (i := 435) (by decide +kernel), List.mem_of_getElem? (i := 436) (by decide +kernel)⟩
theorem lw_p6 : lw_okq (⟨"WheelOnWheel$Drawing", "addLink", "(II)V"⟩, 10) := ⟨⟨by decide +kernel, by decide +kernel⟩, List.mem_of_getElem? (i := 130) (by decide +kernel), List.mem_of_getElem? (i := 484) (by decide +kernel), List.mem_of_getElem? (i := 485) (by decide +kernel)⟩
theorem lw_p7 : lw_okq (⟨"WheelOnWheel$Drawing", "isLink", "(II)Z"⟩, 10) := ⟨⟨by decide +kernel, by decide +kernel⟩, List.mem_of_getElem? (i := 130) (by decide +kernel), List.mem_of_getElem? (i := 488) (by decide +kernel), List.mem_of_getElem? (i := 489) (by decide +kernel)⟩
theorem lw_p8 : lw_okq (⟨"WheelOnWheel", "tracesBoth", "(II)Z"⟩, 12) := ⟨⟨by decide +kernel, by decide +kernel⟩, List.mem_of_getElem? (i := 15) (by decide +kernel), List.mem_of_getElem? (i := 558) (by decide +kernel), List.mem_of_getElem? (i := 559) (by decide +kernel)⟩
theorem lw_p9 : lw_okq (⟨"WheelOnWheel$Drawing", "isShiftOnto", "(LWheelOnWheel$Drawing;II)Z"⟩, 10) := ⟨⟨by decide +kernel, by decide +kernel⟩, List.mem_of_getElem? (i := 130) (by decide +kernel), List.mem_of_getElem? (i := 571) (by decide +kernel), List.mem_of_getElem? (i := 572) (by decide +kernel)⟩
theorem lw_p10 : lw_okq (⟨"WheelOnWheel", "traceTrial", "(I)V"⟩, 12) := ⟨⟨by decide +kernel, by decide +kernel⟩, List.mem_of_getElem? (i := 15) (by decide +kernel), List.mem_of_getElem? (i := 579) (by decide +kernel), List.mem_of_getElem? (i := 580) (by decide +kernel)⟩
theorem lw_p11 : lw_okq (⟨"WheelOnWheel$Thought", "noteTouches", "(I)V"⟩, 7) := ⟨⟨by decide +kernel, by decide +kernel⟩, List.mem_of_getElem? (i := 171) (by decide +kernel), List.mem_of_getElem? (i := 611) (by decide +kernel), List.mem_of_getElem? (i := 612) (by decide +kernel)⟩
theorem lw_p12 : lw_okq (⟨"WheelOnWheel$Thought", "leastToucher", "()I"⟩, 7) := ⟨⟨by decide +kernel, by decide +kernel⟩, List.mem_of_getElem? (i := 171) (by decide +kernel), List.mem_of_getElem? (i := 615) (by decide +kernel), List.mem_of_getElem? (i := 616) (by decide +kernel)⟩
theorem lw_p13 : lw_okq (⟨"WheelOnWheel", "rowAt", "(I)LWheelOnWheel$Row;"⟩, 12) := ⟨⟨by decide +kernel, by decide +kernel⟩, List.mem_of_getElem? (i := 15) (by decide +kernel), List.mem_of_getElem? (i := 679) (by decide +kernel), List.mem_of_getElem? (i := 680) (by decide +kernel)⟩
theorem lw_p14 : lw_okq (⟨"WheelOnWheel", "kindsThatLead", "(LWheelOnWheel$Row;LWheelOnWheel$Wheel;)I"⟩, 12) := ⟨⟨by decide +kernel, by decide +kernel⟩, List.mem_of_getElem? (i := 15) (by decide +kernel), List.mem_of_getElem? (i := 699) (by decide +kernel), List.mem_of_getElem? (i := 700) (by decide +kernel)⟩
theorem lw_p15 : lw_okq (⟨"WheelOnWheel", "figuresThatLead", "(LWheelOnWheel$Row;LWheelOnWheel$Wheel;)I"⟩, 12) := ⟨⟨by decide +kernel, by decide +kernel⟩, List.mem_of_getElem? (i := 15) (by decide +kernel), List.mem_of_getElem? (i := 703) (by decide +kernel), List.mem_of_getElem? (i := 704) (by decide +kernel)⟩
def lw_privs_1 : List (MethodName × Nat) := [(⟨"WheelOnWheel", "refuse", "(I)I"⟩, 12), (⟨"WheelOnWheel$Letters", "number", "(II)I"⟩, 2), (⟨"WheelOnWheel$Letters", "wheelComes", "(LWheelOnWheel$Ring;I)Z"⟩, 2), (⟨"WheelOnWheel$Ring", "slipped", "(LWheelOnWheel$Wheel;I)I"⟩, 5), (⟨"WheelOnWheel$Ring", "unwornFrom", "(I)I"⟩, 5), (⟨"WheelOnWheel", "refuseLong", "(I)J"⟩, 12), (⟨"WheelOnWheel$Drawing", "addLink", "(II)V"⟩, 10), (⟨"WheelOnWheel$Drawing", "isLink", "(II)Z"⟩, 10), (⟨"WheelOnWheel", "tracesBoth", "(II)Z"⟩, 12), (⟨"WheelOnWheel$Drawing", "isShiftOnto", "(LWheelOnWheel$Drawing;II)Z"⟩, 10), (⟨"WheelOnWheel", "traceTrial", "(I)V"⟩, 12), (⟨"WheelOnWheel$Thought", "noteTouches", "(I)V"⟩, 7), (⟨"WheelOnWheel$Thought", "leastToucher", "()I"⟩, 7), (⟨"WheelOnWheel", "rowAt", "(I)LWheelOnWheel$Row;"⟩, 12), (⟨"WheelOnWheel", "kindsThatLead", "(LWheelOnWheel$Row;LWheelOnWheel$Wheel;)I"⟩, 12), (⟨"WheelOnWheel", "figuresThatLead", "(LWheelOnWheel$Row;LWheelOnWheel$Wheel;)I"⟩, 12)]
theorem lw_r1 : ∀ q ∈ lw_privs_1, lw_okq q := List.forall_mem_cons.mpr ⟨lw_p0, List.forall_mem_cons.mpr ⟨lw_p1, List.forall_mem_cons.mpr ⟨lw_p2, List.forall_mem_cons.mpr ⟨lw_p3, List.forall_mem_cons.mpr ⟨lw_p4, List.forall_mem_cons.mpr ⟨lw_p5, List.forall_mem_cons.mpr ⟨lw_p6, List.forall_mem_cons.mpr ⟨lw_p7, List.forall_mem_cons.mpr ⟨lw_p8, List.forall_mem_cons.mpr ⟨lw_p9, List.forall_mem_cons.mpr ⟨lw_p10, List.forall_mem_cons.mpr ⟨lw_p11, List.forall_mem_cons.mpr ⟨lw_p12, List.forall_mem_cons.mpr ⟨lw_p13, List.forall_mem_cons.mpr ⟨lw_p14, List.forall_mem_cons.mpr ⟨lw_p15, fun _ h => absurd h List.not_mem_nil⟩⟩⟩⟩⟩⟩⟩⟩⟩⟩⟩⟩⟩⟩⟩⟩
theorem lw_p16 : lw_okq (⟨"WheelOnWheelModel", "no", "(I)I"⟩, 38) := ⟨⟨by decide +kernel, by decide +kernel⟩, List.mem_of_getElem? (i := 790) (by decide +kernel), List.mem_of_getElem? (i := 915) (by decide +kernel), List.mem_of_getElem? (i := 916) (by decide +kernel)⟩
theorem lw_p17 : lw_okq (⟨"WheelOnWheelModel", "badLetter", "()I"⟩, 38) := ⟨⟨by decide +kernel, by decide +kernel⟩, List.mem_of_getElem? (i := 790) (by decide +kernel), List.mem_of_getElem? (i := 923) (by decide +kernel), List.mem_of_getElem? (i := 924) (by decide +kernel)⟩
theorem lw_p18 : lw_okq (⟨"WheelOnWheelModel", "keep", "([I)V"⟩, 38) := ⟨⟨by decide +kernel, by decide +kernel⟩, List.mem_of_getElem? (i := 790) (by decide +kernel), List.mem_of_getElem? (i := 933) (by decide +kernel), List.mem_of_getElem? (i := 934) (by decide +kernel)⟩
theorem lw_p19 : lw_okq (⟨"WheelOnWheelModel", "does", "(I)Z"⟩, 38) := ⟨⟨by decide +kernel, by decide +kernel⟩, List.mem_of_getElem? (i := 790) (by decide +kernel), List.mem_of_getElem? (i := 937) (by decide +kernel), List.mem_of_getElem? (i := 938) (by decide +kernel)⟩
theorem lw_p20 : lw_okq (⟨"WheelOnWheelModel", "two", "(I)I"⟩, 38) := ⟨⟨by decide +kernel, by decide +kernel⟩, List.mem_of_getElem? (i := 790) (by decide +kernel), List.mem_of_getElem? (i := 941) (by decide +kernel), List.mem_of_getElem? (i := 942) (by decide +kernel)⟩
theorem lw_p21 : lw_okq (⟨"WheelOnWheelModel", "one", "(I)I"⟩, 38) := ⟨⟨by decide +kernel, by decide +kernel⟩, List.mem_of_getElem? (i := 790) (by decide +kernel), List.mem_of_getElem? (i := 945) (by decide +kernel), List.mem_of_getElem? (i := 946) (by decide +kernel)⟩
theorem lw_p22 : lw_okq (⟨"WheelOnWheelModel", "fitsAll", "(I)Z"⟩, 38) := ⟨⟨by decide +kernel, by decide +kernel⟩, List.mem_of_getElem? (i := 790) (by decide +kernel), List.mem_of_getElem? (i := 949) (by decide +kernel), List.mem_of_getElem? (i := 950) (by decide +kernel)⟩
theorem lw_p23 : lw_okq (⟨"WheelOnWheelModel", "becomes", "(I)V"⟩, 38) := ⟨⟨by decide +kernel, by decide +kernel⟩, List.mem_of_getElem? (i := 790) (by decide +kernel), List.mem_of_getElem? (i := 953) (by decide +kernel), List.mem_of_getElem? (i := 954) (by decide +kernel)⟩
theorem lw_p24 : lw_okq (⟨"WheelOnWheelModel", "comes", "(IIIII)V"⟩, 38) := ⟨⟨by decide +kernel, by decide +kernel⟩, List.mem_of_getElem? (i := 790) (by decide +kernel), List.mem_of_getElem? (i := 957) (by decide +kernel), List.mem_of_getElem? (i := 958) (by decide +kernel)⟩
theorem lw_p25 : lw_okq (⟨"WheelOnWheelModel", "goesOn", "(II)V"⟩, 38) := ⟨⟨by decide +kernel, by decide +kernel⟩, List.mem_of_getElem? (i := 790) (by decide +kernel), List.mem_of_getElem? (i := 961) (by decide +kernel), List.mem_of_getElem? (i := 962) (by decide +kernel)⟩
theorem lw_p26 : lw_okq (⟨"WheelOnWheelModel", "nextBy", "(II)I"⟩, 38) := ⟨⟨by decide +kernel, by decide +kernel⟩, List.mem_of_getElem? (i := 790) (by decide +kernel), List.mem_of_getElem? (i := 965) (by decide +kernel), List.mem_of_getElem? (i := 966) (by decide +kernel)⟩
theorem lw_p27 : lw_okq (⟨"WheelOnWheelModel", "nextOf", "(IIII)I"⟩, 38) := ⟨⟨by decide +kernel, by decide +kernel⟩, List.mem_of_getElem? (i := 790) (by decide +kernel), List.mem_of_getElem? (i := 969) (by decide +kernel), List.mem_of_getElem? (i := 970) (by decide +kernel)⟩
theorem lw_p28 : lw_okq (⟨"WheelOnWheelModel", "again", "([I)V"⟩, 38) := ⟨⟨by decide +kernel, by decide +kernel⟩, List.mem_of_getElem? (i := 790) (by decide +kernel), List.mem_of_getElem? (i := 974) (by decide +kernel), List.mem_of_getElem? (i := 975) (by decide +kernel)⟩
theorem lw_p29 : lw_okq (⟨"WheelOnWheelModel", "isTooth", "(I)Z"⟩, 38) := ⟨⟨by decide +kernel, by decide +kernel⟩, List.mem_of_getElem? (i := 790) (by decide +kernel), List.mem_of_getElem? (i := 986) (by decide +kernel), List.mem_of_getElem? (i := 987) (by decide +kernel)⟩
theorem lw_p30 : lw_okq (⟨"WheelOnWheelModel", "isWheel", "(I)Z"⟩, 38) := ⟨⟨by decide +kernel, by decide +kernel⟩, List.mem_of_getElem? (i := 790) (by decide +kernel), List.mem_of_getElem? (i := 994) (by decide +kernel), List.mem_of_getElem? (i := 995) (by decide +kernel)⟩
theorem lw_p31 : lw_okq (⟨"WheelOnWheelModel", "layBy", "()V"⟩, 38) := ⟨⟨by decide +kernel, by decide +kernel⟩, List.mem_of_getElem? (i := 790) (by decide +kernel), List.mem_of_getElem? (i := 1009) (by decide +kernel), List.mem_of_getElem? (i := 1010) (by decide +kernel)⟩
def lw_privs_2 : List (MethodName × Nat) := [(⟨"WheelOnWheelModel", "no", "(I)I"⟩, 38), (⟨"WheelOnWheelModel", "badLetter", "()I"⟩, 38), (⟨"WheelOnWheelModel", "keep", "([I)V"⟩, 38), (⟨"WheelOnWheelModel", "does", "(I)Z"⟩, 38), (⟨"WheelOnWheelModel", "two", "(I)I"⟩, 38), (⟨"WheelOnWheelModel", "one", "(I)I"⟩, 38), (⟨"WheelOnWheelModel", "fitsAll", "(I)Z"⟩, 38), (⟨"WheelOnWheelModel", "becomes", "(I)V"⟩, 38), (⟨"WheelOnWheelModel", "comes", "(IIIII)V"⟩, 38), (⟨"WheelOnWheelModel", "goesOn", "(II)V"⟩, 38), (⟨"WheelOnWheelModel", "nextBy", "(II)I"⟩, 38), (⟨"WheelOnWheelModel", "nextOf", "(IIII)I"⟩, 38), (⟨"WheelOnWheelModel", "again", "([I)V"⟩, 38), (⟨"WheelOnWheelModel", "isTooth", "(I)Z"⟩, 38), (⟨"WheelOnWheelModel", "isWheel", "(I)Z"⟩, 38), (⟨"WheelOnWheelModel", "layBy", "()V"⟩, 38)]
theorem lw_r2 : ∀ q ∈ lw_privs_2, lw_okq q := List.forall_mem_cons.mpr ⟨lw_p16, List.forall_mem_cons.mpr ⟨lw_p17, List.forall_mem_cons.mpr ⟨lw_p18, List.forall_mem_cons.mpr ⟨lw_p19, List.forall_mem_cons.mpr ⟨lw_p20, List.forall_mem_cons.mpr ⟨lw_p21, List.forall_mem_cons.mpr ⟨lw_p22, List.forall_mem_cons.mpr ⟨lw_p23, List.forall_mem_cons.mpr ⟨lw_p24, List.forall_mem_cons.mpr ⟨lw_p25, List.forall_mem_cons.mpr ⟨lw_p26, List.forall_mem_cons.mpr ⟨lw_p27, List.forall_mem_cons.mpr ⟨lw_p28, List.forall_mem_cons.mpr ⟨lw_p29, List.forall_mem_cons.mpr ⟨lw_p30, List.forall_mem_cons.mpr ⟨lw_p31, fun _ h => absurd h List.not_mem_nil⟩⟩⟩⟩⟩⟩⟩⟩⟩⟩⟩⟩⟩⟩⟩⟩
theorem lw_p32 : lw_okq (⟨"WheelOnWheelModel", "noFar", "(I)J"⟩, 38) := ⟨⟨by decide +kernel, by decide +kernel⟩, List.mem_of_getElem? (i := 790) (by decide +kernel), List.mem_of_getElem? (i := 1021) (by decide +kernel), List.mem_of_getElem? (i := 1022) (by decide +kernel)⟩
theorem lw_p33 : lw_okq (⟨"WheelOnWheelModel", "drawsBy", "(I)V"⟩, 38) := ⟨⟨by decide +kernel, by decide +kernel⟩, List.mem_of_getElem? (i := 790) (by decide +kernel), List.mem_of_getElem? (i := 1041) (by decide +kernel), List.mem_of_getElem? (i := 1042) (by decide +kernel)⟩
theorem lw_p34 : lw_okq (⟨"WheelOnWheelModel", "draws", "(IIII)V"⟩, 38) := ⟨⟨by decide +kernel, by decide +kernel⟩, List.mem_of_getElem? (i := 790) (by decide +kernel), List.mem_of_getElem? (i := 1045) (by decide +kernel), List.mem_of_getElem? (i := 1046) (by decide +kernel)⟩
theorem lw_p35 : lw_okq (⟨"WheelOnWheelModel", "rounds", "(I)I"⟩, 38) := ⟨⟨by decide +kernel, by decide +kernel⟩, List.mem_of_getElem? (i := 790) (by decide +kernel), List.mem_of_getElem? (i := 1049) (by decide +kernel), List.mem_of_getElem? (i := 1050) (by decide +kernel)⟩
theorem lw_p36 : lw_okq (⟨"WheelOnWheelModel", "widest", "()I"⟩, 38) := ⟨⟨by decide +kernel, by decide +kernel⟩, List.mem_of_getElem? (i := 790) (by decide +kernel), List.mem_of_getElem? (i := 1053) (by decide +kernel), List.mem_of_getElem? (i := 1054) (by decide +kernel)⟩
theorem lw_p37 : lw_okq (⟨"WheelOnWheelModel", "gapFrom", "(I)I"⟩, 38) := ⟨⟨by decide +kernel, by decide +kernel⟩, List.mem_of_getElem? (i := 790) (by decide +kernel), List.mem_of_getElem? (i := 1057) (by decide +kernel), List.mem_of_getElem? (i := 1058) (by decide +kernel)⟩
theorem lw_p38 : lw_okq (⟨"WheelOnWheelModel", "crossings", "()I"⟩, 38) := ⟨⟨by decide +kernel, by decide +kernel⟩, List.mem_of_getElem? (i := 790) (by decide +kernel), List.mem_of_getElem? (i := 1061) (by decide +kernel), List.mem_of_getElem? (i := 1062) (by decide +kernel)⟩
theorem lw_p39 : lw_okq (⟨"WheelOnWheelModel", "crossesOf", "(I)I"⟩, 38) := ⟨⟨by decide +kernel, by decide +kernel⟩, List.mem_of_getElem? (i := 790) (by decide +kernel), List.mem_of_getElem? (i := 1065) (by decide +kernel), List.mem_of_getElem? (i := 1066) (by decide +kernel)⟩
theorem lw_p40 : lw_okq (⟨"WheelOnWheelModel", "mostCrossed", "()I"⟩, 38) := ⟨⟨by decide +kernel, by decide +kernel⟩, List.mem_of_getElem? (i := 790) (by decide +kernel), List.mem_of_getElem? (i := 1076) (by decide +kernel), List.mem_of_getElem? (i := 1077) (by decide +kernel)⟩
theorem lw_p41 : lw_okq (⟨"WheelOnWheelModel", "lays", "()V"⟩, 38) := ⟨⟨by decide +kernel, by decide +kernel⟩, List.mem_of_getElem? (i := 790) (by decide +kernel), List.mem_of_getElem? (i := 1096) (by decide +kernel), List.mem_of_getElem? (i := 1097) (by decide +kernel)⟩
theorem lw_p42 : lw_okq (⟨"WheelOnWheelModel", "joined", "([J)V"⟩, 38) := ⟨⟨by decide +kernel, by decide +kernel⟩, List.mem_of_getElem? (i := 790) (by decide +kernel), List.mem_of_getElem? (i := 1104) (by decide +kernel), List.mem_of_getElem? (i := 1105) (by decide +kernel)⟩
theorem lw_p43 : lw_okq (⟨"WheelOnWheelModel", "isSuch", "(II)Z"⟩, 38) := ⟨⟨by decide +kernel, by decide +kernel⟩, List.mem_of_getElem? (i := 790) (by decide +kernel), List.mem_of_getElem? (i := 1108) (by decide +kernel), List.mem_of_getElem? (i := 1109) (by decide +kernel)⟩
theorem lw_p44 : lw_okq (⟨"WheelOnWheelModel", "taken", "(III)I"⟩, 38) := ⟨⟨by decide +kernel, by decide +kernel⟩, List.mem_of_getElem? (i := 790) (by decide +kernel), List.mem_of_getElem? (i := 1112) (by decide +kernel), List.mem_of_getElem? (i := 1113) (by decide +kernel)⟩
theorem lw_p45 : lw_okq (⟨"WheelOnWheelModel", "isSet", "(I)Z"⟩, 38) := ⟨⟨by decide +kernel, by decide +kernel⟩, List.mem_of_getElem? (i := 790) (by decide +kernel), List.mem_of_getElem? (i := 1128) (by decide +kernel), List.mem_of_getElem? (i := 1129) (by decide +kernel)⟩
theorem lw_p46 : lw_okq (⟨"WheelOnWheelModel", "touches", "(II)V"⟩, 38) := ⟨⟨by decide +kernel, by decide +kernel⟩, List.mem_of_getElem? (i := 790) (by decide +kernel), List.mem_of_getElem? (i := 1132) (by decide +kernel), List.mem_of_getElem? (i := 1133) (by decide +kernel)⟩
theorem lw_p47 : lw_okq (⟨"WheelOnWheelModel", "starts", "()V"⟩, 38) := ⟨⟨by decide +kernel, by decide +kernel⟩, List.mem_of_getElem? (i := 790) (by decide +kernel), List.mem_of_getElem? (i := 1136) (by decide +kernel), List.mem_of_getElem? (i := 1137) (by decide +kernel)⟩
def lw_privs_3 : List (MethodName × Nat) := [(⟨"WheelOnWheelModel", "noFar", "(I)J"⟩, 38), (⟨"WheelOnWheelModel", "drawsBy", "(I)V"⟩, 38), (⟨"WheelOnWheelModel", "draws", "(IIII)V"⟩, 38), (⟨"WheelOnWheelModel", "rounds", "(I)I"⟩, 38), (⟨"WheelOnWheelModel", "widest", "()I"⟩, 38), (⟨"WheelOnWheelModel", "gapFrom", "(I)I"⟩, 38), (⟨"WheelOnWheelModel", "crossings", "()I"⟩, 38), (⟨"WheelOnWheelModel", "crossesOf", "(I)I"⟩, 38), (⟨"WheelOnWheelModel", "mostCrossed", "()I"⟩, 38), (⟨"WheelOnWheelModel", "lays", "()V"⟩, 38), (⟨"WheelOnWheelModel", "joined", "([J)V"⟩, 38), (⟨"WheelOnWheelModel", "isSuch", "(II)Z"⟩, 38), (⟨"WheelOnWheelModel", "taken", "(III)I"⟩, 38), (⟨"WheelOnWheelModel", "isSet", "(I)Z"⟩, 38), (⟨"WheelOnWheelModel", "touches", "(II)V"⟩, 38), (⟨"WheelOnWheelModel", "starts", "()V"⟩, 38)]
theorem lw_r3 : ∀ q ∈ lw_privs_3, lw_okq q := List.forall_mem_cons.mpr ⟨lw_p32, List.forall_mem_cons.mpr ⟨lw_p33, List.forall_mem_cons.mpr ⟨lw_p34, List.forall_mem_cons.mpr ⟨lw_p35, List.forall_mem_cons.mpr ⟨lw_p36, List.forall_mem_cons.mpr ⟨lw_p37, List.forall_mem_cons.mpr ⟨lw_p38, List.forall_mem_cons.mpr ⟨lw_p39, List.forall_mem_cons.mpr ⟨lw_p40, List.forall_mem_cons.mpr ⟨lw_p41, List.forall_mem_cons.mpr ⟨lw_p42, List.forall_mem_cons.mpr ⟨lw_p43, List.forall_mem_cons.mpr ⟨lw_p44, List.forall_mem_cons.mpr ⟨lw_p45, List.forall_mem_cons.mpr ⟨lw_p46, List.forall_mem_cons.mpr ⟨lw_p47, fun _ h => absurd h List.not_mem_nil⟩⟩⟩⟩⟩⟩⟩⟩⟩⟩⟩⟩⟩⟩⟩⟩
theorem lw_p48 : lw_okq (⟨"WheelOnWheelModel", "ticks", "(II)V"⟩, 38) := ⟨⟨by decide +kernel, by decide +kernel⟩, List.mem_of_getElem? (i := 790) (by decide +kernel), List.mem_of_getElem? (i := 1140) (by decide +kernel), List.mem_of_getElem? (i := 1141) (by decide +kernel)⟩
theorem lw_p49 : lw_okq (⟨"WheelOnWheelModel", "inkedTeeth", "()I"⟩, 38) := ⟨⟨by decide +kernel, by decide +kernel⟩, List.mem_of_getElem? (i := 790) (by decide +kernel), List.mem_of_getElem? (i := 1163) (by decide +kernel), List.mem_of_getElem? (i := 1164) (by decide +kernel)⟩
theorem lw_p50 : lw_okq (⟨"WheelOnWheelModel", "hasOthers", "(I)Z"⟩, 38) := ⟨⟨by decide +kernel, by decide +kernel⟩, List.mem_of_getElem? (i := 790) (by decide +kernel), List.mem_of_getElem? (i := 1179) (by decide +kernel), List.mem_of_getElem? (i := 1180) (by decide +kernel)⟩
theorem lw_p51 : lw_okq (⟨"WheelOnWheelModel", "isDrawn", "(IIII)Z"⟩, 38) := ⟨⟨by decide +kernel, by decide +kernel⟩, List.mem_of_getElem? (i := 790) (by decide +kernel), List.mem_of_getElem? (i := 1183) (by decide +kernel), List.mem_of_getElem? (i := 1184) (by decide +kernel)⟩
theorem lw_p52 : lw_okq (⟨"WheelOnWheelModel", "draw", "(I)I"⟩, 38) := ⟨⟨by decide +kernel, by decide +kernel⟩, List.mem_of_getElem? (i := 790) (by decide +kernel), List.mem_of_getElem? (i := 1203) (by decide +kernel), List.mem_of_getElem? (i := 1204) (by decide +kernel)⟩
def lw_privs_4 : List (MethodName × Nat) := [(⟨"WheelOnWheelModel", "ticks", "(II)V"⟩, 38), (⟨"WheelOnWheelModel", "inkedTeeth", "()I"⟩, 38), (⟨"WheelOnWheelModel", "hasOthers", "(I)Z"⟩, 38), (⟨"WheelOnWheelModel", "isDrawn", "(IIII)Z"⟩, 38), (⟨"WheelOnWheelModel", "draw", "(I)I"⟩, 38)]
theorem lw_r4 : ∀ q ∈ lw_privs_4, lw_okq q := List.forall_mem_cons.mpr ⟨lw_p48, List.forall_mem_cons.mpr ⟨lw_p49, List.forall_mem_cons.mpr ⟨lw_p50, List.forall_mem_cons.mpr ⟨lw_p51, List.forall_mem_cons.mpr ⟨lw_p52, fun _ h => absurd h List.not_mem_nil⟩⟩⟩⟩⟩
def lw_privs : List (MethodName × Nat) := lw_privs_1 ++ (lw_privs_2 ++ (lw_privs_3 ++ (lw_privs_4)))
def lw_tbl : List Cond := k2_sels lw_privs ++ tables_1
theorem lw_privs_ok : ∀ q ∈ lw_privs, lw_okq q := by
  show ∀ q ∈ lw_privs_1 ++ (lw_privs_2 ++ (lw_privs_3 ++ (lw_privs_4))), lw_okq q
  exact List.forall_mem_append.mpr ⟨lw_r1, List.forall_mem_append.mpr ⟨lw_r2, List.forall_mem_append.mpr ⟨lw_r3, lw_r4⟩⟩⟩
/-! ===== BEGIN words of one list among another's, by their places ===== -/
theorem goodIn_r {big : List Cond} (ws : List Cond) (ps : List Nat) (hp : ws = ps.filterMap (fun i => big[i]?)) (h : ws.all goodWord = true) : GoodIn big ws := by
  intro w hw
  have h1 := List.all_eq_true.mp h w hw
  rw [hp] at hw
  obtain ⟨i, -, hi⟩ := List.mem_filterMap.mp hw
  have hm : w ∈ big := by first | exact List.mem_of_getElem? hi | exact List.getElem?_mem hi
  exact ⟨hm, good_of_word h1⟩
theorem goodIn_app {big a b : List Cond} (ha : GoodIn big a) (hb : GoodIn big b) : GoodIn big (a ++ b) := fun w h => (List.mem_append.mp h).elim (ha w) (hb w)
theorem goodIn_ca {big a b : List Cond} {c : Cond} (ha : GoodIn big (c :: a)) (hb : GoodIn big b) : GoodIn big (c :: (a ++ b)) := fun w h => (List.mem_cons.mp h).elim (fun e => ha w (List.mem_cons.mpr (Or.inl e))) (fun h => (List.mem_append.mp h).elim (fun h => ha w (List.mem_cons.mpr (Or.inr h))) (hb w))
theorem goodIn_sub {big ws : List Cond} (hm : ∀ w ∈ ws, w ∈ big) (h : ws.all goodWord = true) : GoodIn big ws := fun w hw => ⟨hm w hw, good_of_word (List.all_eq_true.mp h w hw)⟩
/-! ===== END ===== -/

/-! ===== BEGIN printed: names, fields, word lists, decode rows ===== -/
def RX0 : String := "WheelOnWheel$Drawing"
def TX0 : u_T := fun k => match k with
  | 0 => ("WheelOnWheel$Drawing", "teeth", "I", false)
  | 1 => ("WheelOnWheel$Drawing", "side", "I", false)
  | 2 => ("WheelOnWheel$Drawing", "arcs", "I", false)
  | 3 => ("WheelOnWheel$Drawing", "tail", "I", false)
  | 4 => ("WheelOnWheel$Drawing", "linkCount", "I", false)
  | 5 => ("WheelOnWheel$Drawing", "begins", "[I", true)
  | 6 => ("WheelOnWheel$Drawing", "ends", "[I", true)
  | 7 => ("WheelOnWheel$Drawing", "lengths", "[I", true)
  | 8 => ("WheelOnWheel$Drawing", "arcFrom", "[I", true)
  | _ => ("WheelOnWheel$Drawing", "links", "[J", true)
def tyX0 : Nat → FieldType := fun k => match k with
  | 0 => .int
  | 1 => .int
  | 2 => .int
  | 3 => .int
  | 4 => .int
  | 5 => .array .int
  | 6 => .array .int
  | 7 => .array .int
  | 8 => .array .int
  | _ => .array .long
abbrev wsX00 : List Cond := u_ws RX0 TX0 10
theorem nmX0 : ∀ a, a < 10 → ∀ b, b < 10 → a ≠ b → (TX0 a).2.1 ≠ (TX0 b).2.1 := by decide +kernel
theorem tyX0_ok : ∀ k, k < 10 → parseFieldDescriptor (TX0 k).2.2.1 = some (tyX0 k) := by decide +kernel
abbrev cX0_init : ByteArray := prog_2_method_1_code
def yX0_init : MethodName := ⟨RX0, "<init>", "()V"⟩
abbrev cX0_trace : ByteArray := prog_2_method_2_code
def yX0_trace : MethodName := ⟨RX0, "trace", "(LWheelOnWheel$Ring;LWheelOnWheel$Wheel;)V"⟩
abbrev cX0_addLink : ByteArray := prog_2_method_3_code
def yX0_addLink : MethodName := ⟨RX0, "addLink", "(II)V"⟩
abbrev cX0_isLink : ByteArray := prog_2_method_4_code
def yX0_isLink : MethodName := ⟨RX0, "isLink", "(II)Z"⟩
abbrev cX0_hasArc : ByteArray := prog_2_method_5_code
def yX0_hasArc : MethodName := ⟨RX0, "hasArc", "(I)Z"⟩
abbrev cX0_rounds : ByteArray := prog_2_method_6_code
def yX0_rounds : MethodName := ⟨RX0, "rounds", "()I"⟩
abbrev cX0_cuspFrom : ByteArray := prog_2_method_7_code
def yX0_cuspFrom : MethodName := ⟨RX0, "cuspFrom", "(I)I"⟩
abbrev cX0_gapAbove : ByteArray := prog_2_method_8_code
def yX0_gapAbove : MethodName := ⟨RX0, "gapAbove", "(I)I"⟩
abbrev cX0_cuspOfGap : ByteArray := prog_2_method_9_code
def yX0_cuspOfGap : MethodName := ⟨RX0, "cuspOfGap", "()I"⟩
abbrev cX0_crossedBy : ByteArray := prog_2_method_10_code
def yX0_crossedBy : MethodName := ⟨RX0, "crossedBy", "(LWheelOnWheel$Drawing;I)I"⟩
abbrev cX0_crossingsWith : ByteArray := prog_2_method_11_code
def yX0_crossingsWith : MethodName := ⟨RX0, "crossingsWith", "(LWheelOnWheel$Drawing;)I"⟩
abbrev cX0_crossings : ByteArray := prog_2_method_12_code
def yX0_crossings : MethodName := ⟨RX0, "crossings", "()I"⟩
abbrev cX0_crossingsOfInner : ByteArray := prog_2_method_13_code
def yX0_crossingsOfInner : MethodName := ⟨RX0, "crossingsOfInner", "()I"⟩
abbrev cX0_mostCrossing : ByteArray := prog_2_method_14_code
def yX0_mostCrossing : MethodName := ⟨RX0, "mostCrossing", "()I"⟩
abbrev cX0_shiftOnto : ByteArray := prog_2_method_15_code
def yX0_shiftOnto : MethodName := ⟨RX0, "shiftOnto", "(LWheelOnWheel$Drawing;I)I"⟩
abbrev cX0_isShiftOnto : ByteArray := prog_2_method_16_code
def yX0_isShiftOnto : MethodName := ⟨RX0, "isShiftOnto", "(LWheelOnWheel$Drawing;II)Z"⟩
def RX1 : String := "WheelOnWheel$Letters"
def TX1 : u_T := fun k => match k with
  | 0 => ("WheelOnWheel$Letters", "signs", "[I", true)
  | _ => ("WheelOnWheel$Letters", "size", "I", false)
def tyX1 : Nat → FieldType := fun k => match k with
  | 0 => .array .int
  | _ => .int
abbrev wsX10 : List Cond := u_ws RX1 TX1 2
theorem nmX1 : ∀ a, a < 2 → ∀ b, b < 2 → a ≠ b → (TX1 a).2.1 ≠ (TX1 b).2.1 := by decide +kernel
theorem tyX1_ok : ∀ k, k < 2 → parseFieldDescriptor (TX1 k).2.2.1 = some (tyX1 k) := by decide +kernel
abbrev cX1_init : ByteArray := prog_3_method_1_code
def yX1_init : MethodName := ⟨RX1, "<init>", "()V"⟩
abbrev cX1_append : ByteArray := prog_3_method_2_code
def yX1_append : MethodName := ⟨RX1, "append", "(I)V"⟩
abbrev cX1_digitsBehind : ByteArray := prog_3_method_3_code
def yX1_digitsBehind : MethodName := ⟨RX1, "digitsBehind", "(I)I"⟩
abbrev cX1_firstMisplaced : ByteArray := prog_3_method_4_code
def yX1_firstMisplaced : MethodName := ⟨RX1, "firstMisplaced", "()I"⟩
abbrev cX1_beginsStatement : ByteArray := prog_3_method_5_code
def yX1_beginsStatement : MethodName := ⟨RX1, "beginsStatement", "(I)Z"⟩
abbrev cX1_number : ByteArray := prog_3_method_6_code
def yX1_number : MethodName := ⟨RX1, "number", "(II)I"⟩
abbrev cX1_comesTrue : ByteArray := prog_3_method_7_code
def yX1_comesTrue : MethodName := ⟨RX1, "comesTrue", "(ILWheelOnWheel$Ring;)Z"⟩
abbrev cX1_ringComes : ByteArray := prog_3_method_8_code
def yX1_ringComes : MethodName := ⟨RX1, "ringComes", "(LWheelOnWheel$Ring;I)Z"⟩
abbrev cX1_wheelComes : ByteArray := prog_3_method_9_code
def yX1_wheelComes : MethodName := ⟨RX1, "wheelComes", "(LWheelOnWheel$Ring;I)Z"⟩
abbrev cX1_wearComes : ByteArray := prog_3_method_10_code
def yX1_wearComes : MethodName := ⟨RX1, "wearComes", "(LWheelOnWheel$Ring;I)Z"⟩
abbrev cX1_placeComes : ByteArray := prog_3_method_11_code
def yX1_placeComes : MethodName := ⟨RX1, "placeComes", "(LWheelOnWheel$Ring;II)Z"⟩
abbrev cX1_rollComes : ByteArray := prog_3_method_12_code
def yX1_rollComes : MethodName := ⟨RX1, "rollComes", "(LWheelOnWheel$Ring;II)Z"⟩
def RX2 : String := "WheelOnWheel$Numbers"
def TX2 : u_T := fun k => match k with
  | _ => ("", "", "", false)
def tyX2 : Nat → FieldType := fun k => match k with
  | _ => .int
abbrev wsX20 : List Cond := u_ws RX2 TX2 0
theorem nmX2 : ∀ a, a < 0 → ∀ b, b < 0 → a ≠ b → (TX2 a).2.1 ≠ (TX2 b).2.1 := by decide +kernel
theorem tyX2_ok : ∀ k, k < 0 → parseFieldDescriptor (TX2 k).2.2.1 = some (tyX2 k) := by decide +kernel
abbrev cX2_modulo : ByteArray := prog_4_method_2_code
def yX2_modulo : MethodName := ⟨RX2, "modulo", "(II)I"⟩
abbrev cX2_greatestDivisor : ByteArray := prog_4_method_3_code
def yX2_greatestDivisor : MethodName := ⟨RX2, "greatestDivisor", "(II)I"⟩
abbrev cX2_partOf : ByteArray := prog_4_method_4_code
def yX2_partOf : MethodName := ⟨RX2, "partOf", "(III)I"⟩
abbrev cX2_placeOfMost : ByteArray := prog_4_method_5_code
def yX2_placeOfMost : MethodName := ⟨RX2, "placeOfMost", "([II)I"⟩
abbrev cX2_placesOf : ByteArray := prog_4_method_6_code
def yX2_placesOf : MethodName := ⟨RX2, "placesOf", "(I[II)I"⟩
abbrev cX2_seedBehind : ByteArray := prog_4_method_7_code
def yX2_seedBehind : MethodName := ⟨RX2, "seedBehind", "(I)I"⟩
abbrev cX2_drawn : ByteArray := prog_4_method_8_code
def yX2_drawn : MethodName := ⟨RX2, "drawn", "(II)I"⟩
abbrev cX2_cross : ByteArray := prog_4_method_9_code
def yX2_cross : MethodName := ⟨RX2, "cross", "(IIII)Z"⟩
def RX3 : String := "WheelOnWheel$Past"
def TX3 : u_T := fun k => match k with
  | 0 => ("WheelOnWheel$Past", "rings", "[LWheelOnWheel$Ring;", true)
  | 1 => ("WheelOnWheel$Past", "kept", "I", false)
  | _ => ("WheelOnWheel$Past", "place", "I", false)
def tyX3 : Nat → FieldType := fun k => match k with
  | 0 => .array (.object "WheelOnWheel$Ring")
  | 1 => .int
  | _ => .int
abbrev wsX30 : List Cond := u_ws RX3 TX3 3
theorem nmX3 : ∀ a, a < 3 → ∀ b, b < 3 → a ≠ b → (TX3 a).2.1 ≠ (TX3 b).2.1 := by decide +kernel
theorem tyX3_ok : ∀ k, k < 3 → parseFieldDescriptor (TX3 k).2.2.1 = some (tyX3 k) := by decide +kernel
abbrev cX3_init : ByteArray := prog_5_method_1_code
def yX3_init : MethodName := ⟨RX3, "<init>", "()V"⟩
abbrev cX3_keep : ByteArray := prog_5_method_2_code
def yX3_keep : MethodName := ⟨RX3, "keep", "(LWheelOnWheel$Ring;)V"⟩
abbrev cX3_giveBack : ByteArray := prog_5_method_3_code
def yX3_giveBack : MethodName := ⟨RX3, "giveBack", "(LWheelOnWheel$Ring;)V"⟩
abbrev cX3_forget : ByteArray := prog_5_method_4_code
def yX3_forget : MethodName := ⟨RX3, "forget", "()V"⟩
def RX4 : String := "WheelOnWheel$Ring"
def TX4 : u_T := fun k => match k with
  | 0 => ("WheelOnWheel$Ring", "teeth", "I", false)
  | 1 => ("WheelOnWheel$Ring", "wheelCount", "I", false)
  | 2 => ("WheelOnWheel$Ring", "ink", "[I", true)
  | 3 => ("WheelOnWheel$Ring", "worn", "[I", true)
  | _ => ("WheelOnWheel$Ring", "wheels", "[LWheelOnWheel$Wheel;", true)
def tyX4 : Nat → FieldType := fun k => match k with
  | 0 => .int
  | 1 => .int
  | 2 => .array .int
  | 3 => .array .int
  | _ => .array (.object "WheelOnWheel$Wheel")
abbrev wsX40 : List Cond := u_ws RX4 TX4 5
theorem nmX4 : ∀ a, a < 5 → ∀ b, b < 5 → a ≠ b → (TX4 a).2.1 ≠ (TX4 b).2.1 := by decide +kernel
theorem tyX4_ok : ∀ k, k < 5 → parseFieldDescriptor (TX4 k).2.2.1 = some (tyX4 k) := by decide +kernel
abbrev cX4_init : ByteArray := prog_6_method_1_code
def yX4_init : MethodName := ⟨RX4, "<init>", "()V"⟩
abbrev cX4_become : ByteArray := prog_6_method_2_code
def yX4_become : MethodName := ⟨RX4, "become", "(LWheelOnWheel$Ring;)V"⟩
abbrev cX4_isTooth : ByteArray := prog_6_method_3_code
def yX4_isTooth : MethodName := ⟨RX4, "isTooth", "(I)Z"⟩
abbrev cX4_isSet : ByteArray := prog_6_method_4_code
def yX4_isSet : MethodName := ⟨RX4, "isSet", "(I)Z"⟩
abbrev cX4_wheelAt : ByteArray := prog_6_method_5_code
def yX4_wheelAt : MethodName := ⟨RX4, "wheelAt", "(I)LWheelOnWheel$Wheel;"⟩
abbrev cX4_canHave : ByteArray := prog_6_method_6_code
def yX4_canHave : MethodName := ⟨RX4, "canHave", "(I)Z"⟩
abbrev cX4_renew : ByteArray := prog_6_method_7_code
def yX4_renew : MethodName := ⟨RX4, "renew", "(I)V"⟩
abbrev cX4_refusalOfWheel : ByteArray := prog_6_method_8_code
def yX4_refusalOfWheel : MethodName := ⟨RX4, "refusalOfWheel", "(IIIII)I"⟩
abbrev cX4_addWheel : ByteArray := prog_6_method_9_code
def yX4_addWheel : MethodName := ⟨RX4, "addWheel", "(IIIII)V"⟩
abbrev cX4_nextBy : ByteArray := prog_6_method_10_code
def yX4_nextBy : MethodName := ⟨RX4, "nextBy", "(LWheelOnWheel$Wheel;I)I"⟩
abbrev cX4_slipped : ByteArray := prog_6_method_11_code
def yX4_slipped : MethodName := ⟨RX4, "slipped", "(LWheelOnWheel$Wheel;I)I"⟩
abbrev cX4_unwornFrom : ByteArray := prog_6_method_12_code
def yX4_unwornFrom : MethodName := ⟨RX4, "unwornFrom", "(I)I"⟩
abbrev cX4_wearOrMend : ByteArray := prog_6_method_13_code
def yX4_wearOrMend : MethodName := ⟨RX4, "wearOrMend", "(I)V"⟩
abbrev cX4_rollTruly : ByteArray := prog_6_method_14_code
def yX4_rollTruly : MethodName := ⟨RX4, "rollTruly", "(LWheelOnWheel$Wheel;I)V"⟩
abbrev cX4_inkedTeeth : ByteArray := prog_6_method_15_code
def yX4_inkedTeeth : MethodName := ⟨RX4, "inkedTeeth", "()I"⟩
abbrev cX4_inkedFrom : ByteArray := prog_6_method_16_code
def yX4_inkedFrom : MethodName := ⟨RX4, "inkedFrom", "(I)I"⟩
abbrev cX4_lastInked : ByteArray := prog_6_method_17_code
def yX4_lastInked : MethodName := ⟨RX4, "lastInked", "()I"⟩
abbrev cX4_blot : ByteArray := prog_6_method_18_code
def yX4_blot : MethodName := ⟨RX4, "blot", "()I"⟩
abbrev cX4_allInk : ByteArray := prog_6_method_19_code
def yX4_allInk : MethodName := ⟨RX4, "allInk", "()I"⟩
abbrev cX4_tellsTeeth : ByteArray := prog_6_method_20_code
def yX4_tellsTeeth : MethodName := ⟨RX4, "tellsTeeth", "(LWheelOnWheel$Row;)Z"⟩
abbrev cX4_leads : ByteArray := prog_6_method_21_code
def yX4_leads : MethodName := ⟨RX4, "leads", "(LWheelOnWheel$Row;LWheelOnWheel$Wheel;)Z"⟩
def RX5 : String := "WheelOnWheel$Row"
def TX5 : u_T := fun k => match k with
  | 0 => ("WheelOnWheel$Row", "size", "I", false)
  | _ => ("WheelOnWheel$Row", "numbers", "[I", true)
def tyX5 : Nat → FieldType := fun k => match k with
  | 0 => .int
  | _ => .array .int
abbrev wsX50 : List Cond := u_ws RX5 TX5 2
theorem nmX5 : ∀ a, a < 2 → ∀ b, b < 2 → a ≠ b → (TX5 a).2.1 ≠ (TX5 b).2.1 := by decide +kernel
theorem tyX5_ok : ∀ k, k < 2 → parseFieldDescriptor (TX5 k).2.2.1 = some (tyX5 k) := by decide +kernel
abbrev cX5_init : ByteArray := prog_7_method_1_code
def yX5_init : MethodName := ⟨RX5, "<init>", "()V"⟩
abbrev cX5_isMissing : ByteArray := prog_7_method_2_code
def yX5_isMissing : MethodName := ⟨RX5, "isMissing", "()Z"⟩
abbrev cX5_hasPlace : ByteArray := prog_7_method_3_code
def yX5_hasPlace : MethodName := ⟨RX5, "hasPlace", "(I)Z"⟩
abbrev cX5_renew : ByteArray := prog_7_method_4_code
def yX5_renew : MethodName := ⟨RX5, "renew", "(I)V"⟩
def RX6 : String := "WheelOnWheel$Thought"
def TX6 : u_T := fun k => match k with
  | 0 => ("WheelOnWheel$Thought", "at", "[I", true)
  | 1 => ("WheelOnWheel$Thought", "touches", "[Z", true)
  | 2 => ("WheelOnWheel$Thought", "ticks", "[I", true)
  | 3 => ("WheelOnWheel$Thought", "touched", "[I", true)
  | 4 => ("WheelOnWheel$Thought", "touchers", "[I", true)
  | 5 => ("WheelOnWheel$Thought", "tally", "[I", true)
  | _ => ("WheelOnWheel$Thought", "found", "I", false)
def tyX6 : Nat → FieldType := fun k => match k with
  | 0 => .array .int
  | 1 => .array .boolean
  | 2 => .array .int
  | 3 => .array .int
  | 4 => .array .int
  | 5 => .array .int
  | _ => .int
abbrev wsX60 : List Cond := u_ws RX6 TX6 7
theorem nmX6 : ∀ a, a < 7 → ∀ b, b < 7 → a ≠ b → (TX6 a).2.1 ≠ (TX6 b).2.1 := by decide +kernel
theorem tyX6_ok : ∀ k, k < 7 → parseFieldDescriptor (TX6 k).2.2.1 = some (tyX6 k) := by decide +kernel
abbrev cX6_init : ByteArray := prog_8_method_1_code
def yX6_init : MethodName := ⟨RX6, "<init>", "()V"⟩
abbrev cX6_begin : ByteArray := prog_8_method_2_code
def yX6_begin : MethodName := ⟨RX6, "begin", "(LWheelOnWheel$Ring;)V"⟩
abbrev cX6_passTick : ByteArray := prog_8_method_3_code
def yX6_passTick : MethodName := ⟨RX6, "passTick", "(LWheelOnWheel$Ring;II)V"⟩
abbrev cX6_meetingTooth : ByteArray := prog_8_method_4_code
def yX6_meetingTooth : MethodName := ⟨RX6, "meetingTooth", "()I"⟩
abbrev cX6_follow : ByteArray := prog_8_method_5_code
def yX6_follow : MethodName := ⟨RX6, "follow", "(LWheelOnWheel$Ring;II)V"⟩
abbrev cX6_noteTouches : ByteArray := prog_8_method_6_code
def yX6_noteTouches : MethodName := ⟨RX6, "noteTouches", "(I)V"⟩
abbrev cX6_leastToucher : ByteArray := prog_8_method_7_code
def yX6_leastToucher : MethodName := ⟨RX6, "leastToucher", "()I"⟩
abbrev cX6_tallyFirst : ByteArray := prog_8_method_8_code
def yX6_tallyFirst : MethodName := ⟨RX6, "tallyFirst", "(I)V"⟩
abbrev cX6_castLots : ByteArray := prog_8_method_9_code
def yX6_castLots : MethodName := ⟨RX6, "castLots", "(LWheelOnWheel$Ring;II)V"⟩
def RX7 : String := "WheelOnWheel$Wheel"
def TX7 : u_T := fun k => match k with
  | 0 => ("WheelOnWheel$Wheel", "kind", "I", false)
  | 1 => ("WheelOnWheel$Wheel", "size", "I", false)
  | 2 => ("WheelOnWheel$Wheel", "figure", "I", false)
  | 3 => ("WheelOnWheel$Wheel", "pace", "I", false)
  | 4 => ("WheelOnWheel$Wheel", "at", "I", false)
  | _ => ("WheelOnWheel$Wheel", "rolled", "I", false)
def tyX7 : Nat → FieldType := fun k => match k with
  | 0 => .int
  | 1 => .int
  | 2 => .int
  | 3 => .int
  | 4 => .int
  | _ => .int
abbrev wsX70 : List Cond := u_ws RX7 TX7 6
theorem nmX7 : ∀ a, a < 6 → ∀ b, b < 6 → a ≠ b → (TX7 a).2.1 ≠ (TX7 b).2.1 := by decide +kernel
theorem tyX7_ok : ∀ k, k < 6 → parseFieldDescriptor (TX7 k).2.2.1 = some (tyX7 k) := by decide +kernel
abbrev cX7_init : ByteArray := prog_9_method_1_code
def yX7_init : MethodName := ⟨RX7, "<init>", "()V"⟩
abbrev cX7_set : ByteArray := prog_9_method_2_code
def yX7_set : MethodName := ⟨RX7, "set", "(IIIII)V"⟩
abbrev cX7_become : ByteArray := prog_9_method_3_code
def yX7_become : MethodName := ⟨RX7, "become", "(LWheelOnWheel$Wheel;)V"⟩
abbrev cX7_exchange : ByteArray := prog_9_method_4_code
def yX7_exchange : MethodName := ⟨RX7, "exchange", "(II)I"⟩
abbrev cX7_side : ByteArray := prog_9_method_5_code
def yX7_side : MethodName := ⟨RX7, "side", "()I"⟩
abbrev cX7_goes : ByteArray := prog_9_method_6_code
def yX7_goes : MethodName := ⟨RX7, "goes", "(III)I"⟩
abbrev cX7_turnsTimesSize : ByteArray := prog_9_method_7_code
def yX7_turnsTimesSize : MethodName := ⟨RX7, "turnsTimesSize", "(I)I"⟩
def RX8 : String := "WheelOnWheel"
def TX8 : u_T := fun k => match k with
  | 0 => ("WheelOnWheel", "now", "LWheelOnWheel$Ring;", true)
  | 1 => ("WheelOnWheel", "saved", "LWheelOnWheel$Ring;", true)
  | 2 => ("WheelOnWheel", "imaged", "LWheelOnWheel$Ring;", true)
  | 3 => ("WheelOnWheel", "hasImage", "Z", false)
  | 4 => ("WheelOnWheel", "past", "LWheelOnWheel$Past;", true)
  | 5 => ("WheelOnWheel", "letters", "LWheelOnWheel$Letters;", true)
  | 6 => ("WheelOnWheel", "rows", "[LWheelOnWheel$Row;", true)
  | 7 => ("WheelOnWheel", "first", "LWheelOnWheel$Drawing;", true)
  | 8 => ("WheelOnWheel", "second", "LWheelOnWheel$Drawing;", true)
  | 9 => ("WheelOnWheel", "thought", "LWheelOnWheel$Thought;", true)
  | 10 => ("WheelOnWheel", "trial", "LWheelOnWheel$Wheel;", true)
  | _ => ("WheelOnWheel", "refused", "[I", true)
def tyX8 : Nat → FieldType := fun k => match k with
  | 0 => .object "WheelOnWheel$Ring"
  | 1 => .object "WheelOnWheel$Ring"
  | 2 => .object "WheelOnWheel$Ring"
  | 3 => .boolean
  | 4 => .object "WheelOnWheel$Past"
  | 5 => .object "WheelOnWheel$Letters"
  | 6 => .array (.object "WheelOnWheel$Row")
  | 7 => .object "WheelOnWheel$Drawing"
  | 8 => .object "WheelOnWheel$Drawing"
  | 9 => .object "WheelOnWheel$Thought"
  | 10 => .object "WheelOnWheel$Wheel"
  | _ => .array .int
abbrev wsX80 : List Cond := u_ws RX8 TX8 12
theorem nmX8 : ∀ a, a < 12 → ∀ b, b < 12 → a ≠ b → (TX8 a).2.1 ≠ (TX8 b).2.1 := by decide +kernel
theorem tyX8_ok : ∀ k, k < 12 → parseFieldDescriptor (TX8 k).2.2.1 = some (tyX8 k) := by decide +kernel
abbrev cX8_init : ByteArray := prog_1_method_1_code
def yX8_init : MethodName := ⟨RX8, "<init>", "()V"⟩
abbrev cX8_letter : ByteArray := prog_1_method_2_code
def yX8_letter : MethodName := ⟨RX8, "letter", "(I)I"⟩
abbrev cX8_sheet : ByteArray := prog_1_method_3_code
def yX8_sheet : MethodName := ⟨RX8, "sheet", "()I"⟩
abbrev cX8_ring : ByteArray := prog_1_method_4_code
def yX8_ring : MethodName := ⟨RX8, "ring", "(I)I"⟩
abbrev cX8_wheel : ByteArray := prog_1_method_5_code
def yX8_wheel : MethodName := ⟨RX8, "wheel", "(IIIII)I"⟩
abbrev cX8_of : ByteArray := prog_1_method_6_code
def yX8_of : MethodName := ⟨RX8, "of", "(II)I"⟩
abbrev cX8_change : ByteArray := prog_1_method_7_code
def yX8_change : MethodName := ⟨RX8, "change", "(III)I"⟩
abbrev cX8_puts : ByteArray := prog_1_method_8_code
def yX8_puts : MethodName := ⟨RX8, "puts", "(II)I"⟩
abbrev cX8_next : ByteArray := prog_1_method_9_code
def yX8_next : MethodName := ⟨RX8, "next", "(II)I"⟩
abbrev cX8_ratio : ByteArray := prog_1_method_10_code
def yX8_ratio : MethodName := ⟨RX8, "ratio", "(II)J"⟩
abbrev cX8_wears : ByteArray := prog_1_method_11_code
def yX8_wears : MethodName := ⟨RX8, "wears", "(I)I"⟩
abbrev cX8_tooth : ByteArray := prog_1_method_12_code
def yX8_tooth : MethodName := ⟨RX8, "tooth", "(II)I"⟩
abbrev cX8_drawing : ByteArray := prog_1_method_13_code
def yX8_drawing : MethodName := ⟨RX8, "drawing", "(II)I"⟩
abbrev cX8_arc : ByteArray := prog_1_method_14_code
def yX8_arc : MethodName := ⟨RX8, "arc", "(II)I"⟩
abbrev cX8_crosses : ByteArray := prog_1_method_15_code
def yX8_crosses : MethodName := ⟨RX8, "crosses", "(II)I"⟩
abbrev cX8_behind : ByteArray := prog_1_method_16_code
def yX8_behind : MethodName := ⟨RX8, "behind", "(II)I"⟩
abbrev cX8_between : ByteArray := prog_1_method_17_code
def yX8_between : MethodName := ⟨RX8, "between", "(II)I"⟩
abbrev cX8_mirror : ByteArray := prog_1_method_18_code
def yX8_mirror : MethodName := ⟨RX8, "mirror", "(III)I"⟩
abbrev cX8_full : ByteArray := prog_1_method_19_code
def yX8_full : MethodName := ⟨RX8, "full", "()I"⟩
abbrev cX8_odds : ByteArray := prog_1_method_20_code
def yX8_odds : MethodName := ⟨RX8, "odds", "(II)J"⟩
abbrev cX8_touch : ByteArray := prog_1_method_21_code
def yX8_touch : MethodName := ⟨RX8, "touch", "(III)I"⟩
abbrev cX8_meet : ByteArray := prog_1_method_22_code
def yX8_meet : MethodName := ⟨RX8, "meet", "(II)I"⟩
abbrev cX8_crowd : ByteArray := prog_1_method_23_code
def yX8_crowd : MethodName := ⟨RX8, "crowd", "(III)I"⟩
abbrev cX8_roll : ByteArray := prog_1_method_24_code
def yX8_roll : MethodName := ⟨RX8, "roll", "(II)I"⟩
abbrev cX8_inked : ByteArray := prog_1_method_25_code
def yX8_inked : MethodName := ⟨RX8, "inked", "(I)I"⟩
abbrev cX8_ahead : ByteArray := prog_1_method_26_code
def yX8_ahead : MethodName := ⟨RX8, "ahead", "(I)I"⟩
abbrev cX8_fits : ByteArray := prog_1_method_27_code
def yX8_fits : MethodName := ⟨RX8, "fits", "(III)J"⟩
abbrev cX8_kinds : ByteArray := prog_1_method_28_code
def yX8_kinds : MethodName := ⟨RX8, "kinds", "(III)I"⟩
abbrev cX8_drawnBy : ByteArray := prog_1_method_29_code
def yX8_drawnBy : MethodName := ⟨RX8, "drawnBy", "(II)I"⟩
abbrev cX8_judge : ByteArray := prog_1_method_30_code
def yX8_judge : MethodName := ⟨RX8, "judge", "(II)I"⟩
abbrev cX8_lots : ByteArray := prog_1_method_31_code
def yX8_lots : MethodName := ⟨RX8, "lots", "(III)I"⟩
abbrev cX8_list : ByteArray := prog_1_method_32_code
def yX8_list : MethodName := ⟨RX8, "list", "(II)I"⟩
abbrev cX8_put : ByteArray := prog_1_method_33_code
def yX8_put : MethodName := ⟨RX8, "put", "(III)I"⟩
abbrev cX8_look : ByteArray := prog_1_method_34_code
def yX8_look : MethodName := ⟨RX8, "look", "(II)J"⟩
abbrev cX8_lays : ByteArray := prog_1_method_35_code
def yX8_lays : MethodName := ⟨RX8, "lays", "(III)I"⟩
abbrev cX8_undo : ByteArray := prog_1_method_36_code
def yX8_undo : MethodName := ⟨RX8, "undo", "()I"⟩
abbrev cX8_image : ByteArray := prog_1_method_37_code
def yX8_image : MethodName := ⟨RX8, "image", "()I"⟩
abbrev cX8_on : ByteArray := prog_1_method_38_code
def yX8_on : MethodName := ⟨RX8, "on", "()I"⟩
abbrev cX8_count : ByteArray := prog_1_method_39_code
def yX8_count : MethodName := ⟨RX8, "count", "(I)I"⟩
abbrev cX8_refuse : ByteArray := prog_1_method_40_code
def yX8_refuse : MethodName := ⟨RX8, "refuse", "(I)I"⟩
abbrev cX8_refuseLong : ByteArray := prog_1_method_41_code
def yX8_refuseLong : MethodName := ⟨RX8, "refuseLong", "(I)J"⟩
abbrev cX8_isOneOfTwo : ByteArray := prog_1_method_42_code
def yX8_isOneOfTwo : MethodName := ⟨RX8, "isOneOfTwo", "(I)Z"⟩
abbrev cX8_rowAt : ByteArray := prog_1_method_43_code
def yX8_rowAt : MethodName := ⟨RX8, "rowAt", "(I)LWheelOnWheel$Row;"⟩
abbrev cX8_refusalOfPlace : ByteArray := prog_1_method_44_code
def yX8_refusalOfPlace : MethodName := ⟨RX8, "refusalOfPlace", "(LWheelOnWheel$Row;I)I"⟩
abbrev cX8_tracesBoth : ByteArray := prog_1_method_45_code
def yX8_tracesBoth : MethodName := ⟨RX8, "tracesBoth", "(II)Z"⟩
abbrev cX8_traceTrial : ByteArray := prog_1_method_46_code
def yX8_traceTrial : MethodName := ⟨RX8, "traceTrial", "(I)V"⟩
abbrev cX8_kindsThatLead : ByteArray := prog_1_method_47_code
def yX8_kindsThatLead : MethodName := ⟨RX8, "kindsThatLead", "(LWheelOnWheel$Row;LWheelOnWheel$Wheel;)I"⟩
abbrev cX8_figuresThatLead : ByteArray := prog_1_method_48_code
def yX8_figuresThatLead : MethodName := ⟨RX8, "figuresThatLead", "(LWheelOnWheel$Row;LWheelOnWheel$Wheel;)I"⟩
def RX9 : String := "WheelOnWheelModel"
def TX9 : u_T := fun k => match k with
  | 0 => ("WheelOnWheelModel", "teeth", "I", false)
  | 1 => ("WheelOnWheelModel", "worn", "[I", true)
  | 2 => ("WheelOnWheelModel", "ink", "[I", true)
  | 3 => ("WheelOnWheelModel", "wheels", "I", false)
  | 4 => ("WheelOnWheelModel", "kind", "[I", true)
  | 5 => ("WheelOnWheelModel", "size", "[I", true)
  | 6 => ("WheelOnWheelModel", "figure", "[I", true)
  | 7 => ("WheelOnWheelModel", "pace", "[I", true)
  | 8 => ("WheelOnWheelModel", "at", "[I", true)
  | 9 => ("WheelOnWheelModel", "rolled", "[I", true)
  | 10 => ("WheelOnWheelModel", "letters", "[I", true)
  | 11 => ("WheelOnWheelModel", "written", "I", false)
  | 12 => ("WheelOnWheelModel", "lists", "[I", true)
  | 13 => ("WheelOnWheelModel", "listSize", "[I", true)
  | 14 => ("WheelOnWheelModel", "backs", "[I", true)
  | 15 => ("WheelOnWheelModel", "undos", "I", false)
  | 16 => ("WheelOnWheelModel", "image", "[I", true)
  | 17 => ("WheelOnWheelModel", "ahead", "[I", true)
  | 18 => ("WheelOnWheelModel", "imaged", "Z", false)
  | 19 => ("WheelOnWheelModel", "refusals", "[I", true)
  | 20 => ("WheelOnWheelModel", "begins", "[I", true)
  | 21 => ("WheelOnWheelModel", "ends", "[I", true)
  | 22 => ("WheelOnWheelModel", "met", "[I", true)
  | 23 => ("WheelOnWheelModel", "arcs", "I", false)
  | 24 => ("WheelOnWheelModel", "tail", "I", false)
  | 25 => ("WheelOnWheelModel", "otherBegins", "[I", true)
  | 26 => ("WheelOnWheelModel", "otherEnds", "[I", true)
  | 27 => ("WheelOnWheelModel", "otherArcs", "I", false)
  | 28 => ("WheelOnWheelModel", "joins", "[J", true)
  | 29 => ("WheelOnWheelModel", "otherJoins", "[J", true)
  | 30 => ("WheelOnWheelModel", "mapped", "[J", true)
  | 31 => ("WheelOnWheelModel", "touchTick", "[I", true)
  | 32 => ("WheelOnWheelModel", "touchTooth", "[I", true)
  | 33 => ("WheelOnWheelModel", "touchWheel", "[I", true)
  | 34 => ("WheelOnWheelModel", "goes", "[I", true)
  | 35 => ("WheelOnWheelModel", "now", "[I", true)
  | 36 => ("WheelOnWheelModel", "count", "[I", true)
  | _ => ("WheelOnWheelModel", "drawn", "I", false)
def tyX9 : Nat → FieldType := fun k => match k with
  | 0 => .int
  | 1 => .array .int
  | 2 => .array .int
  | 3 => .int
  | 4 => .array .int
  | 5 => .array .int
  | 6 => .array .int
  | 7 => .array .int
  | 8 => .array .int
  | 9 => .array .int
  | 10 => .array .int
  | 11 => .int
  | 12 => .array .int
  | 13 => .array .int
  | 14 => .array .int
  | 15 => .int
  | 16 => .array .int
  | 17 => .array .int
  | 18 => .boolean
  | 19 => .array .int
  | 20 => .array .int
  | 21 => .array .int
  | 22 => .array .int
  | 23 => .int
  | 24 => .int
  | 25 => .array .int
  | 26 => .array .int
  | 27 => .int
  | 28 => .array .long
  | 29 => .array .long
  | 30 => .array .long
  | 31 => .array .int
  | 32 => .array .int
  | 33 => .array .int
  | 34 => .array .int
  | 35 => .array .int
  | 36 => .array .int
  | _ => .int
abbrev wsX90 : List Cond := u_ws RX9 TX9 38
theorem nmX9 : ∀ a, a < 38 → ∀ b, b < 38 → a ≠ b → (TX9 a).2.1 ≠ (TX9 b).2.1 := by decide +kernel
theorem tyX9_ok : ∀ k, k < 38 → parseFieldDescriptor (TX9 k).2.2.1 = some (tyX9 k) := by decide +kernel
abbrev cX9_init : ByteArray := prog_11_method_1_code
def yX9_init : MethodName := ⟨RX9, "<init>", "()V"⟩
abbrev cX9_within : ByteArray := prog_11_method_2_code
def yX9_within : MethodName := ⟨RX9, "within", "(III)Z"⟩
abbrev cX9_no : ByteArray := prog_11_method_3_code
def yX9_no : MethodName := ⟨RX9, "no", "(I)I"⟩
abbrev cX9_noFar : ByteArray := prog_11_method_4_code
def yX9_noFar : MethodName := ⟨RX9, "noFar", "(I)J"⟩
abbrev cX9_isWheel : ByteArray := prog_11_method_5_code
def yX9_isWheel : MethodName := ⟨RX9, "isWheel", "(I)Z"⟩
abbrev cX9_isTooth : ByteArray := prog_11_method_6_code
def yX9_isTooth : MethodName := ⟨RX9, "isTooth", "(I)Z"⟩
abbrev cX9_isList : ByteArray := prog_11_method_7_code
def yX9_isList : MethodName := ⟨RX9, "isList", "(I)Z"⟩
abbrev cX9_isSet : ByteArray := prog_11_method_8_code
def yX9_isSet : MethodName := ⟨RX9, "isSet", "(I)Z"⟩
abbrev cX9_has : ByteArray := prog_11_method_9_code
def yX9_has : MethodName := ⟨RX9, "has", "(II)Z"⟩
abbrev cX9_letter : ByteArray := prog_11_method_10_code
def yX9_letter : MethodName := ⟨RX9, "letter", "(I)I"⟩
abbrev cX9_digitsOf : ByteArray := prog_11_method_11_code
def yX9_digitsOf : MethodName := ⟨RX9, "digitsOf", "(I)I"⟩
abbrev cX9_badLetter : ByteArray := prog_11_method_12_code
def yX9_badLetter : MethodName := ⟨RX9, "badLetter", "()I"⟩
abbrev cX9_one : ByteArray := prog_11_method_13_code
def yX9_one : MethodName := ⟨RX9, "one", "(I)I"⟩
abbrev cX9_two : ByteArray := prog_11_method_14_code
def yX9_two : MethodName := ⟨RX9, "two", "(I)I"⟩
abbrev cX9_fitsAll : ByteArray := prog_11_method_15_code
def yX9_fitsAll : MethodName := ⟨RX9, "fitsAll", "(I)Z"⟩
abbrev cX9_becomes : ByteArray := prog_11_method_16_code
def yX9_becomes : MethodName := ⟨RX9, "becomes", "(I)V"⟩
abbrev cX9_comes : ByteArray := prog_11_method_17_code
def yX9_comes : MethodName := ⟨RX9, "comes", "(IIIII)V"⟩
abbrev cX9_goesOn : ByteArray := prog_11_method_18_code
def yX9_goesOn : MethodName := ⟨RX9, "goesOn", "(II)V"⟩
abbrev cX9_does : ByteArray := prog_11_method_19_code
def yX9_does : MethodName := ⟨RX9, "does", "(I)Z"⟩
abbrev cX9_sheet : ByteArray := prog_11_method_20_code
def yX9_sheet : MethodName := ⟨RX9, "sheet", "()I"⟩
abbrev cX9_ring : ByteArray := prog_11_method_21_code
def yX9_ring : MethodName := ⟨RX9, "ring", "(I)I"⟩
abbrev cX9_wheel : ByteArray := prog_11_method_22_code
def yX9_wheel : MethodName := ⟨RX9, "wheel", "(IIIII)I"⟩
abbrev cX9_sideOf : ByteArray := prog_11_method_23_code
def yX9_sideOf : MethodName := ⟨RX9, "sideOf", "(I)I"⟩
abbrev cX9_nextOf : ByteArray := prog_11_method_24_code
def yX9_nextOf : MethodName := ⟨RX9, "nextOf", "(IIII)I"⟩
abbrev cX9_nextBy : ByteArray := prog_11_method_25_code
def yX9_nextBy : MethodName := ⟨RX9, "nextBy", "(II)I"⟩
abbrev cX9_of : ByteArray := prog_11_method_26_code
def yX9_of : MethodName := ⟨RX9, "of", "(II)I"⟩
abbrev cX9_change : ByteArray := prog_11_method_27_code
def yX9_change : MethodName := ⟨RX9, "change", "(III)I"⟩
abbrev cX9_layBy : ByteArray := prog_11_method_28_code
def yX9_layBy : MethodName := ⟨RX9, "layBy", "()V"⟩
abbrev cX9_puts : ByteArray := prog_11_method_29_code
def yX9_puts : MethodName := ⟨RX9, "puts", "(II)I"⟩
abbrev cX9_next : ByteArray := prog_11_method_30_code
def yX9_next : MethodName := ⟨RX9, "next", "(II)I"⟩
abbrev cX9_lowest : ByteArray := prog_11_method_31_code
def yX9_lowest : MethodName := ⟨RX9, "lowest", "(III)J"⟩
abbrev cX9_ratio : ByteArray := prog_11_method_32_code
def yX9_ratio : MethodName := ⟨RX9, "ratio", "(II)J"⟩
abbrev cX9_wears : ByteArray := prog_11_method_33_code
def yX9_wears : MethodName := ⟨RX9, "wears", "(I)I"⟩
abbrev cX9_tooth : ByteArray := prog_11_method_34_code
def yX9_tooth : MethodName := ⟨RX9, "tooth", "(II)I"⟩
abbrev cX9_draws : ByteArray := prog_11_method_35_code
def yX9_draws : MethodName := ⟨RX9, "draws", "(IIII)V"⟩
abbrev cX9_drawsBy : ByteArray := prog_11_method_36_code
def yX9_drawsBy : MethodName := ⟨RX9, "drawsBy", "(I)V"⟩
abbrev cX9_isBetween : ByteArray := prog_11_method_37_code
def yX9_isBetween : MethodName := ⟨RX9, "isBetween", "(III)Z"⟩
abbrev cX9_cross : ByteArray := prog_11_method_38_code
def yX9_cross : MethodName := ⟨RX9, "cross", "(IIII)Z"⟩
abbrev cX9_crossesOf : ByteArray := prog_11_method_39_code
def yX9_crossesOf : MethodName := ⟨RX9, "crossesOf", "(I)I"⟩
abbrev cX9_crossings : ByteArray := prog_11_method_40_code
def yX9_crossings : MethodName := ⟨RX9, "crossings", "()I"⟩
abbrev cX9_mostCrossed : ByteArray := prog_11_method_41_code
def yX9_mostCrossed : MethodName := ⟨RX9, "mostCrossed", "()I"⟩
abbrev cX9_rounds : ByteArray := prog_11_method_42_code
def yX9_rounds : MethodName := ⟨RX9, "rounds", "(I)I"⟩
abbrev cX9_gapFrom : ByteArray := prog_11_method_43_code
def yX9_gapFrom : MethodName := ⟨RX9, "gapFrom", "(I)I"⟩
abbrev cX9_widest : ByteArray := prog_11_method_44_code
def yX9_widest : MethodName := ⟨RX9, "widest", "()I"⟩
abbrev cX9_drawing : ByteArray := prog_11_method_45_code
def yX9_drawing : MethodName := ⟨RX9, "drawing", "(II)I"⟩
abbrev cX9_arc : ByteArray := prog_11_method_46_code
def yX9_arc : MethodName := ⟨RX9, "arc", "(II)I"⟩
abbrev cX9_crosses : ByteArray := prog_11_method_47_code
def yX9_crosses : MethodName := ⟨RX9, "crosses", "(II)I"⟩
abbrev cX9_behind : ByteArray := prog_11_method_48_code
def yX9_behind : MethodName := ⟨RX9, "behind", "(II)I"⟩
abbrev cX9_lays : ByteArray := prog_11_method_49_code
def yX9_lays : MethodName := ⟨RX9, "lays", "()V"⟩
abbrev cX9_between : ByteArray := prog_11_method_50_code
def yX9_between : MethodName := ⟨RX9, "between", "(II)I"⟩
abbrev cX9_joined : ByteArray := prog_11_method_51_code
def yX9_joined : MethodName := ⟨RX9, "joined", "([J)V"⟩
abbrev cX9_taken : ByteArray := prog_11_method_52_code
def yX9_taken : MethodName := ⟨RX9, "taken", "(III)I"⟩
abbrev cX9_isSuch : ByteArray := prog_11_method_53_code
def yX9_isSuch : MethodName := ⟨RX9, "isSuch", "(II)Z"⟩
abbrev cX9_mirror : ByteArray := prog_11_method_54_code
def yX9_mirror : MethodName := ⟨RX9, "mirror", "(III)I"⟩
abbrev cX9_full : ByteArray := prog_11_method_55_code
def yX9_full : MethodName := ⟨RX9, "full", "()I"⟩
abbrev cX9_odds : ByteArray := prog_11_method_56_code
def yX9_odds : MethodName := ⟨RX9, "odds", "(II)J"⟩
abbrev cX9_starts : ByteArray := prog_11_method_57_code
def yX9_starts : MethodName := ⟨RX9, "starts", "()V"⟩
abbrev cX9_ticks : ByteArray := prog_11_method_58_code
def yX9_ticks : MethodName := ⟨RX9, "ticks", "(II)V"⟩
abbrev cX9_touches : ByteArray := prog_11_method_59_code
def yX9_touches : MethodName := ⟨RX9, "touches", "(II)V"⟩
abbrev cX9_touch : ByteArray := prog_11_method_60_code
def yX9_touch : MethodName := ⟨RX9, "touch", "(III)I"⟩
abbrev cX9_meet : ByteArray := prog_11_method_61_code
def yX9_meet : MethodName := ⟨RX9, "meet", "(II)I"⟩
abbrev cX9_crowd : ByteArray := prog_11_method_62_code
def yX9_crowd : MethodName := ⟨RX9, "crowd", "(III)I"⟩
abbrev cX9_roll : ByteArray := prog_11_method_63_code
def yX9_roll : MethodName := ⟨RX9, "roll", "(II)I"⟩
abbrev cX9_inkedTeeth : ByteArray := prog_11_method_64_code
def yX9_inkedTeeth : MethodName := ⟨RX9, "inkedTeeth", "()I"⟩
abbrev cX9_inked : ByteArray := prog_11_method_65_code
def yX9_inked : MethodName := ⟨RX9, "inked", "(I)I"⟩
abbrev cX9_ahead : ByteArray := prog_11_method_66_code
def yX9_ahead : MethodName := ⟨RX9, "ahead", "(I)I"⟩
abbrev cX9_hasOthers : ByteArray := prog_11_method_67_code
def yX9_hasOthers : MethodName := ⟨RX9, "hasOthers", "(I)Z"⟩
abbrev cX9_isDrawn : ByteArray := prog_11_method_68_code
def yX9_isDrawn : MethodName := ⟨RX9, "isDrawn", "(IIII)Z"⟩
abbrev cX9_fits : ByteArray := prog_11_method_69_code
def yX9_fits : MethodName := ⟨RX9, "fits", "(III)J"⟩
abbrev cX9_kinds : ByteArray := prog_11_method_70_code
def yX9_kinds : MethodName := ⟨RX9, "kinds", "(III)I"⟩
abbrev cX9_drawnBy : ByteArray := prog_11_method_71_code
def yX9_drawnBy : MethodName := ⟨RX9, "drawnBy", "(II)I"⟩
abbrev cX9_judge : ByteArray := prog_11_method_72_code
def yX9_judge : MethodName := ⟨RX9, "judge", "(II)I"⟩
abbrev cX9_draw : ByteArray := prog_11_method_73_code
def yX9_draw : MethodName := ⟨RX9, "draw", "(I)I"⟩
abbrev cX9_lots : ByteArray := prog_11_method_74_code
def yX9_lots : MethodName := ⟨RX9, "lots", "(III)I"⟩
abbrev cX9_list : ByteArray := prog_11_method_75_code
def yX9_list : MethodName := ⟨RX9, "list", "(II)I"⟩
abbrev cX9_put : ByteArray := prog_11_method_76_code
def yX9_put : MethodName := ⟨RX9, "put", "(III)I"⟩
abbrev cX9_look : ByteArray := prog_11_method_77_code
def yX9_look : MethodName := ⟨RX9, "look", "(II)J"⟩
abbrev cX9_lays_ : ByteArray := prog_11_method_78_code
def yX9_lays_ : MethodName := ⟨RX9, "lays", "(III)I"⟩
abbrev cX9_undo : ByteArray := prog_11_method_79_code
def yX9_undo : MethodName := ⟨RX9, "undo", "()I"⟩
abbrev cX9_keep : ByteArray := prog_11_method_80_code
def yX9_keep : MethodName := ⟨RX9, "keep", "([I)V"⟩
abbrev cX9_again : ByteArray := prog_11_method_81_code
def yX9_again : MethodName := ⟨RX9, "again", "([I)V"⟩
abbrev cX9_image : ByteArray := prog_11_method_82_code
def yX9_image : MethodName := ⟨RX9, "image", "()I"⟩
abbrev cX9_on : ByteArray := prog_11_method_83_code
def yX9_on : MethodName := ⟨RX9, "on", "()I"⟩
abbrev cX9_count : ByteArray := prog_11_method_84_code
def yX9_count : MethodName := ⟨RX9, "count", "(I)I"⟩
def RJ9 : String := "java/lang/Math"
def TJ9 : u_T := fun k => match k with
  | _ => ("", "", "", false)
def tyJ9 : Nat → FieldType := fun k => match k with
  | _ => .int
abbrev wsJ90 : List Cond := u_ws RJ9 TJ9 0
theorem nmJ9 : ∀ a, a < 0 → ∀ b, b < 0 → a ≠ b → (TJ9 a).2.1 ≠ (TJ9 b).2.1 := by decide +kernel
theorem tyJ9_ok : ∀ k, k < 0 → parseFieldDescriptor (TJ9 k).2.2.1 = some (tyJ9 k) := by decide +kernel
abbrev cJ9_abs_0f7a4 : ByteArray := prog_12_method_59_code
def yJ9_abs_0f7a4 : MethodName := ⟨RJ9, "abs", "(I)I"⟩
abbrev cJ9_max_7cf53 : ByteArray := prog_12_method_65_code
def yJ9_max_7cf53 : MethodName := ⟨RJ9, "max", "(II)I"⟩
abbrev cJ9_min_7cf53 : ByteArray := prog_12_method_69_code
def yJ9_min_7cf53 : MethodName := ⟨RJ9, "min", "(II)I"⟩
def RJ10 : String := "java/lang/System"
def TJ10 : u_T := fun k => match k with
  | _ => ("", "", "", false)
def tyJ10 : Nat → FieldType := fun k => match k with
  | _ => .int
abbrev wsJ100 : List Cond := u_ws RJ10 TJ10 0
theorem nmJ10 : ∀ a, a < 0 → ∀ b, b < 0 → a ≠ b → (TJ10 a).2.1 ≠ (TJ10 b).2.1 := by decide +kernel
theorem tyJ10_ok : ∀ k, k < 0 → parseFieldDescriptor (TJ10 k).2.2.1 = some (tyJ10 k) := by decide +kernel
def RJ7 : String := "java/util/Arrays"
def TJ7 : u_T := fun k => match k with
  | _ => ("", "", "", false)
def tyJ7 : Nat → FieldType := fun k => match k with
  | _ => .int
abbrev wsJ70 : List Cond := u_ws RJ7 TJ7 0
theorem nmJ7 : ∀ a, a < 0 → ∀ b, b < 0 → a ≠ b → (TJ7 a).2.1 ≠ (TJ7 b).2.1 := by decide +kernel
theorem tyJ7_ok : ∀ k, k < 0 → parseFieldDescriptor (TJ7 k).2.2.1 = some (tyJ7 k) := by decide +kernel
abbrev cJ7_fill_d0a16 : ByteArray := prog_14_method_101_code
def yJ7_fill_d0a16 : MethodName := ⟨RJ7, "fill", "([JJ)V"⟩
abbrev cJ7_fill_53178 : ByteArray := prog_14_method_103_code
def yJ7_fill_53178 : MethodName := ⟨RJ7, "fill", "([II)V"⟩
def RL : String := "WheelOnWheelLaw"
abbrev cL_law : ByteArray := code
def yL_law : MethodName := ⟨RL, "law", "([I)Z"⟩
theorem inJ9 : ∀ w ∈ wsJ90, w ∈ lw_tbl := by decide +kernel
theorem inJ10 : ∀ w ∈ wsJ100, w ∈ lw_tbl := by decide +kernel
theorem inJ7 : ∀ w ∈ wsJ70, w ∈ lw_tbl := by decide +kernel
abbrev vwCl : List vw_C := [(RX0, TX0, 10), (RX1, TX1, 2), (RX3, TX3, 3), (RX4, TX4, 5), (RX5, TX5, 2), (RX6, TX6, 7), (RX7, TX7, 6), (RX8, TX8, 12), (RX9, TX9, 38)]

theorem in_ps {ws : List Cond} (ps : List Nat) (h : ws = ps.filterMap (fun i => lw_tbl[i]?)) : ∀ w ∈ ws, w ∈ lw_tbl := by
  intro w hw
  rw [h] at hw
  obtain ⟨i, -, hi⟩ := List.mem_filterMap.mp hw
  exact List.mem_of_getElem? hi
theorem inX0 : ∀ w ∈ wsX00, w ∈ lw_tbl := in_ps [201, 203, 205, 207, 209, 211, 213, 215, 217, 219] (by decide +kernel)
theorem inX1 : ∀ w ∈ wsX10, w ∈ lw_tbl := in_ps [175, 177] (by decide +kernel)
theorem inX3 : ∀ w ∈ wsX30, w ∈ lw_tbl := in_ps [159, 161, 163] (by decide +kernel)
theorem inX4 : ∀ w ∈ wsX40, w ∈ lw_tbl := in_ps [135, 137, 139, 141, 143] (by decide +kernel)
theorem inX5 : ∀ w ∈ wsX50, w ∈ lw_tbl := in_ps [269, 271] (by decide +kernel)
theorem inX6 : ∀ w ∈ wsX60, w ∈ lw_tbl := in_ps [240, 242, 244, 246, 248, 250, 252] (by decide +kernel)
theorem inX7 : ∀ w ∈ wsX70, w ∈ lw_tbl := in_ps [109, 111, 113, 115, 117, 119] (by decide +kernel)
theorem inX8 : ∀ w ∈ wsX80, w ∈ lw_tbl := in_ps [286, 288, 290, 292, 294, 296, 298, 300, 302, 304, 306, 308] (by decide +kernel)
theorem inX9 : ∀ w ∈ wsX90, w ∈ lw_tbl := in_ps [886, 888, 890, 892, 894, 896, 898, 900, 902, 904, 906, 908, 910, 912, 914, 916, 918, 920, 922, 924, 926, 928, 930, 932, 934, 936, 938, 940, 942, 944, 946, 948, 950, 952, 954, 956, 958, 960] (by decide +kernel)
