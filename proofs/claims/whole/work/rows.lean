section
-- ===== PART A: goes FIRST, ahead of the names: the tables' words, and 'selects' of the private methods out of them =====
/-- a private method of a class that the tables say can be made, by its rows of tables_1 -/
def lw_okq (q : MethodName × Nat) : Prop := (q.1.cls ≠ "java/lang/invoke/MethodHandle" ∧ q.1.cls ≠ "java/lang/invoke/VarHandle") ∧ Cond.instantiable q.1.cls q.2 ∈ tables_1 ∧ Cond.privateMethod q.1 ∈ tables_1 ∧ Cond.instanceMethod q.1 ∈ tables_1
theorem lw_p0 : lw_okq (⟨"WheelOnWheel", "refuse", "(I)I"⟩, 12) := ⟨⟨by decide +kernel, by decide +kernel⟩, List.mem_of_getElem? (i := 15) (by decide +kernel), List.mem_of_getElem? (i := 263) (by decide +kernel), List.mem_of_getElem? (i := 264) (by decide +kernel)⟩
theorem lw_p1 : lw_okq (⟨"WheelOnWheel$Letters", "number", "(II)I"⟩, 2) := ⟨⟨by decide +kernel, by decide +kernel⟩, List.mem_of_getElem? (i := 114) (by decide +kernel), List.mem_of_getElem? (i := 305) (by decide +kernel), List.mem_of_getElem? (i := 306) (by decide +kernel)⟩
theorem lw_p2 : lw_okq (⟨"WheelOnWheel$Letters", "wheelComes", "(LWheelOnWheel$Ring;I)Z"⟩, 2) := ⟨⟨by decide +kernel, by decide +kernel⟩, List.mem_of_getElem? (i := 114) (by decide +kernel), List.mem_of_getElem? (i := 324) (by decide +kernel), List.mem_of_getElem? (i := 325) (by decide +kernel)⟩
theorem lw_p3 : lw_okq (⟨"WheelOnWheel$Ring", "slipped", "(LWheelOnWheel$Wheel;I)I"⟩, 5) := ⟨⟨by decide +kernel, by decide +kernel⟩, List.mem_of_getElem? (i := 23) (by decide +kernel), List.mem_of_getElem? (i := 370) (by decide +kernel), List.mem_of_getElem? (i := 371) (by decide +kernel)⟩
theorem lw_p4 : lw_okq (⟨"WheelOnWheel$Ring", "unwornFrom", "(I)I"⟩, 5) := ⟨⟨by decide +kernel, by decide +kernel⟩, List.mem_of_getElem? (i := 23) (by decide +kernel), List.mem_of_getElem? (i := 374) (by decide +kernel), List.mem_of_getElem? (i := 375) (by decide +kernel)⟩
theorem lw_p5 : lw_okq (⟨"WheelOnWheel", "refuseLong", "(I)J"⟩, 12) := ⟨⟨by decide +kernel, by decide +kernel⟩, List.mem_of_getElem? (i := 15) (by decide +kernel), List.mem_of_getElem? (i := 435) (by decide +kernel), List.mem_of_getElem? (i := 436) (by decide +kernel)⟩
theorem lw_p6 : lw_okq (⟨"WheelOnWheel$Drawing", "addLink", "(II)V"⟩, 10) := ⟨⟨by decide +kernel, by decide +kernel⟩, List.mem_of_getElem? (i := 130) (by decide +kernel), List.mem_of_getElem? (i := 484) (by decide +kernel), List.mem_of_getElem? (i := 485) (by decide +kernel)⟩
theorem lw_p7 : lw_okq (⟨"WheelOnWheel$Drawing", "isLink", "(II)Z"⟩, 10) := ⟨⟨by decide +kernel, by decide +kernel⟩, List.mem_of_getElem? (i := 130) (by decide +kernel), List.mem_of_getElem? (i := 488) (by decide +kernel), List.mem_of_getElem? (i := 489) (by decide +kernel)⟩
theorem lw_p8 : lw_okq (⟨"WheelOnWheel", "tracesBoth", "(II)Z"⟩, 12) := ⟨⟨by decide +kernel, by decide +kernel⟩, List.mem_of_getElem? (i := 15) (by decide +kernel), List.mem_of_getElem? (i := 558) (by decide +kernel), List.mem_of_getElem? (i := 559) (by decide +kernel)⟩
theorem lw_p9 : lw_okq (⟨"WheelOnWheel$Drawing", "isShiftOnto", "(LWheelOnWheel$Drawing;II)Z"⟩, 10) := ⟨⟨by decide +kernel, by decide +kernel⟩, List.mem_of_getElem? (i := 130) (by decide +kernel), List.mem_of_getElem? (i := 571) (by decide +kernel), List.mem_of_getElem? (i := 572) (by decide +kernel)⟩
theorem lw_p10 : lw_okq (⟨"WheelOnWheel", "traceTrial", "(I)V"⟩, 12) := ⟨⟨by decide +kernel, by decide +kernel⟩, List.mem_of_getElem? (i := 15) (by decide +kernel), List.mem_of_getElem? (i := 579) (by decide +kernel), List.mem_of_getElem? (i := 580) (by decide +kernel)⟩
theorem lw_p11 : lw_okq (⟨"WheelOnWheel$Thought", "noteTouches", "(I)V"⟩, 7) := ⟨⟨by decide +kernel, by decide +kernel⟩, List.mem_of_getElem? (i := 171) (by decide +kernel), List.mem_of_getElem? (i := 611) (by decide +kernel), List.mem_of_getElem? (i := 612) (by decide +kernel)⟩
theorem lw_p12 : lw_okq (⟨"WheelOnWheel$Thought", "leastToucher", "()I"⟩, 7) := ⟨⟨by decide +kernel, by decide +kernel⟩, List.mem_of_getElem? (i := 171) (by decide +kernel), List.mem_of_getElem? (i := 615) (by decide +kernel), List.mem_of_getElem? (i := 616) (by decide +kernel)⟩
theorem lw_p13 : lw_okq (⟨"WheelOnWheel", "rowAt", "(I)LWheelOnWheel$Row;"⟩, 12) := ⟨⟨by decide +kernel, by decide +kernel⟩, List.mem_of_getElem? (i := 15) (by decide +kernel), List.mem_of_getElem? (i := 679) (by decide +kernel), List.mem_of_getElem? (i := 680) (by decide +kernel)⟩
theorem lw_p14 : lw_okq (⟨"WheelOnWheel", "kindsThatLead", "(LWheelOnWheel$Row;LWheelOnWheel$Wheel;)I"⟩, 12) := ⟨⟨by decide +kernel, by decide +kernel⟩, List.mem_of_getElem? (i := 15) (by decide +kernel), List.mem_of_getElem? (i := 699) (by decide +kernel), List.mem_of_getElem? (i := 700) (by decide +kernel)⟩
theorem lw_p15 : lw_okq (⟨"WheelOnWheel", "figuresThatLead", "(LWheelOnWheel$Row;LWheelOnWheel$Wheel;)I"⟩, 12) := ⟨⟨by decide +kernel, by decide +kernel⟩, List.mem_of_getElem? (i := 15) (by decide +kernel), List.mem_of_getElem? (i := 703) (by decide +kernel), List.mem_of_getElem? (i := 704) (by decide +kernel)⟩
def lw_privs_1 : List (MethodName × Nat) := [(⟨"WheelOnWheel", "refuse", "(I)I"⟩, 12), (⟨"WheelOnWheel$Letters", "number", "(II)I"⟩, 2), (⟨"WheelOnWheel$Letters", "wheelComes", "(LWheelOnWheel$Ring;I)Z"⟩, 2), (⟨"WheelOnWheel$Ring", "slipped", "(LWheelOnWheel$Wheel;I)I"⟩, 5), (⟨"WheelOnWheel$Ring", "unwornFrom", "(I)I"⟩, 5), (⟨"WheelOnWheel", "refuseLong", "(I)J"⟩, 12), (⟨"WheelOnWheel$Drawing", "addLink", "(II)V"⟩, 10), (⟨"WheelOnWheel$Drawing", "isLink", "(II)Z"⟩, 10), (⟨"WheelOnWheel", "tracesBoth", "(II)Z"⟩, 12), (⟨"WheelOnWheel$Drawing", "isShiftOnto", "(LWheelOnWheel$Drawing;II)Z"⟩, 10), (⟨"WheelOnWheel", "traceTrial", "(I)V"⟩, 12), (⟨"WheelOnWheel$Thought", "noteTouches", "(I)V"⟩, 7), (⟨"WheelOnWheel$Thought", "leastToucher", "()I"⟩, 7), (⟨"WheelOnWheel", "rowAt", "(I)LWheelOnWheel$Row;"⟩, 12), (⟨"WheelOnWheel", "kindsThatLead", "(LWheelOnWheel$Row;LWheelOnWheel$Wheel;)I"⟩, 12), (⟨"WheelOnWheel", "figuresThatLead", "(LWheelOnWheel$Row;LWheelOnWheel$Wheel;)I"⟩, 12)]
theorem lw_r1 : ∀ q ∈ lw_privs_1, lw_okq q := List.forall_mem_cons.mpr ⟨lw_p0, List.forall_mem_cons.mpr ⟨lw_p1, List.forall_mem_cons.mpr ⟨lw_p2, List.forall_mem_cons.mpr ⟨lw_p3, List.forall_mem_cons.mpr ⟨lw_p4, List.forall_mem_cons.mpr ⟨lw_p5, List.forall_mem_cons.mpr ⟨lw_p6, List.forall_mem_cons.mpr ⟨lw_p7, List.forall_mem_cons.mpr ⟨lw_p8, List.forall_mem_cons.mpr ⟨lw_p9, List.forall_mem_cons.mpr ⟨lw_p10, List.forall_mem_cons.mpr ⟨lw_p11, List.forall_mem_cons.mpr ⟨lw_p12, List.forall_mem_cons.mpr ⟨lw_p13, List.forall_mem_cons.mpr ⟨lw_p14, List.forall_mem_cons.mpr ⟨lw_p15, fun _ h => absurd h List.not_mem_nil⟩⟩⟩⟩⟩⟩⟩⟩⟩⟩⟩⟩⟩⟩⟩⟩
theorem lw_p16 : lw_okq (⟨"WheelOnWheelModel", "no", "(I)I"⟩, 38) := ⟨⟨by decide +kernel, by decide +kernel⟩, List.mem_of_getElem? (i := 790) (by decide +kernel), List.mem_of_getElem? (i := 915) (by decide +kernel), List.mem_of_getElem? (i := 916) (by decide +kernel)⟩
theorem lw_p17 : lw_okq (⟨"WheelOnWheelModel", "badLetter", "()I"⟩, 38) := ⟨⟨by decide +kernel, by decide +kernel⟩, List.mem_of_getElem? (i := 790) (by decide +kernel), List.mem_of_getElem? (i := 923) (by decide +kernel), List.mem_of_getElem? (i := 924) (by decide +kernel)⟩
theorem lw_p18 : lw_okq (⟨"WheelOnWheelModel", "keep", "([I)V"⟩, 38) := ⟨⟨by decide +kernel, by decide +kernel⟩, List.mem_of_getElem? (i := 790) (by decide +kernel), List.mem_of_getElem? (i := 933) (by decide +kernel), List.mem_of_getElem? (i := 934) (by decide +kernel)⟩
theorem lw_p19 : lw_okq (⟨"WheelOnWheelModel", "does", "(I)Z"⟩, 38) := ⟨⟨by decide +kernel, by decide +kernel⟩, List.mem_of_getElem? (i := 790) (by decide +kernel), List.mem_of_getElem? (i := 937) (by decide +kernel), List.mem_of_getElem? (i := 938) (by decide +kernel)⟩
theorem lw_p20 : lw_okq (⟨"WheelOnWheelModel", "two", "(I)I"⟩, 38) := ⟨⟨by decide +kernel, by decide +kernel⟩, List.mem_of_getElem? (i := 790) (by decide +kernel), List.mem_of_getElem? (i := 941) (by decide +kernel), List.mem_of_getElem? (i := 942) (by decide +kernel)⟩
theorem lw_p21 : lw_okq (⟨"WheelOnWheelModel", "one", "(I)I"⟩, 38) := ⟨⟨by decide +kernel, by decide +kernel⟩, List.mem_of_getElem? (i := 790) (by decide +kernel), List.mem_of_getElem? (i := 945) (by decide +kernel), List.mem_of_getElem? (i := 946) (by decide +kernel)⟩
theorem lw_p22 : lw_okq (⟨"WheelOnWheelModel", "fitsAll", "(I)Z"⟩, 38) := ⟨⟨by decide +kernel, by decide +kernel⟩, List.mem_of_getElem? (i := 790) (by decide +kernel), List.mem_of_getElem? (i := 949) (by decide +kernel), List.mem_of_getElem? (i := 950) (by decide +kernel)⟩
theorem lw_p23 : lw_okq (⟨"WheelOnWheelModel", "becomes", "(I)V"⟩, 38) := ⟨⟨by decide +kernel, by decide +kernel⟩, List.mem_of_getElem? (i := 790) (by decide +kernel), List.mem_of_getElem? (i := 953) (by decide +kernel), List.mem_of_getElem? (i := 954) (by decide +kernel)⟩
theorem lw_p24 : lw_okq (⟨"WheelOnWheelModel", "comes", "(IIIII)V"⟩, 38) := ⟨⟨by decide +kernel, by decide +kernel⟩, List.mem_of_getElem? (i := 790) (by decide +kernel), List.mem_of_getElem? (i := 957) (by decide +kernel), List.mem_of_getElem? (i := 958) (by decide +kernel)⟩
theorem lw_p25 : lw_okq (⟨"WheelOnWheelModel", "goesOn", "(II)V"⟩, 38) := ⟨⟨by decide +kernel, by decide +kernel⟩, List.mem_of_getElem? (i := 790) (by decide +kernel), List.mem_of_getElem? (i := 961) (by decide +kernel), List.mem_of_getElem? (i := 962) (by decide +kernel)⟩
theorem lw_p26 : lw_okq (⟨"WheelOnWheelModel", "nextBy", "(II)I"⟩, 38) := ⟨⟨by decide +kernel, by decide +kernel⟩, List.mem_of_getElem? (i := 790) (by decide +kernel), List.mem_of_getElem? (i := 965) (by decide +kernel), List.mem_of_getElem? (i := 966) (by decide +kernel)⟩
theorem lw_p27 : lw_okq (⟨"WheelOnWheelModel", "nextOf", "(IIII)I"⟩, 38) := ⟨⟨by decide +kernel, by decide +kernel⟩, List.mem_of_getElem? (i := 790) (by decide +kernel), List.mem_of_getElem? (i := 969) (by decide +kernel), List.mem_of_getElem? (i := 970) (by decide +kernel)⟩
theorem lw_p28 : lw_okq (⟨"WheelOnWheelModel", "again", "([I)V"⟩, 38) := ⟨⟨by decide +kernel, by decide +kernel⟩, List.mem_of_getElem? (i := 790) (by decide +kernel), List.mem_of_getElem? (i := 974) (by decide +kernel), List.mem_of_getElem? (i := 975) (by decide +kernel)⟩
theorem lw_p29 : lw_okq (⟨"WheelOnWheelModel", "isTooth", "(I)Z"⟩, 38) := ⟨⟨by decide +kernel, by decide +kernel⟩, List.mem_of_getElem? (i := 790) (by decide +kernel), List.mem_of_getElem? (i := 986) (by decide +kernel), List.mem_of_getElem? (i := 987) (by decide +kernel)⟩
theorem lw_p30 : lw_okq (⟨"WheelOnWheelModel", "isWheel", "(I)Z"⟩, 38) := ⟨⟨by decide +kernel, by decide +kernel⟩, List.mem_of_getElem? (i := 790) (by decide +kernel), List.mem_of_getElem? (i := 994) (by decide +kernel), List.mem_of_getElem? (i := 995) (by decide +kernel)⟩
theorem lw_p31 : lw_okq (⟨"WheelOnWheelModel", "layBy", "()V"⟩, 38) := ⟨⟨by decide +kernel, by decide +kernel⟩, List.mem_of_getElem? (i := 790) (by decide +kernel), List.mem_of_getElem? (i := 1009) (by decide +kernel), List.mem_of_getElem? (i := 1010) (by decide +kernel)⟩
def lw_privs_2 : List (MethodName × Nat) := [(⟨"WheelOnWheelModel", "no", "(I)I"⟩, 38), (⟨"WheelOnWheelModel", "badLetter", "()I"⟩, 38), (⟨"WheelOnWheelModel", "keep", "([I)V"⟩, 38), (⟨"WheelOnWheelModel", "does", "(I)Z"⟩, 38), (⟨"WheelOnWheelModel", "two", "(I)I"⟩, 38), (⟨"WheelOnWheelModel", "one", "(I)I"⟩, 38), (⟨"WheelOnWheelModel", "fitsAll", "(I)Z"⟩, 38), (⟨"WheelOnWheelModel", "becomes", "(I)V"⟩, 38), (⟨"WheelOnWheelModel", "comes", "(IIIII)V"⟩, 38), (⟨"WheelOnWheelModel", "goesOn", "(II)V"⟩, 38), (⟨"WheelOnWheelModel", "nextBy", "(II)I"⟩, 38), (⟨"WheelOnWheelModel", "nextOf", "(IIII)I"⟩, 38), (⟨"WheelOnWheelModel", "again", "([I)V"⟩, 38), (⟨"WheelOnWheelModel", "isTooth", "(I)Z"⟩, 38), (⟨"WheelOnWheelModel", "isWheel", "(I)Z"⟩, 38), (⟨"WheelOnWheelModel", "layBy", "()V"⟩, 38)]
theorem lw_r2 : ∀ q ∈ lw_privs_2, lw_okq q := List.forall_mem_cons.mpr ⟨lw_p16, List.forall_mem_cons.mpr ⟨lw_p17, List.forall_mem_cons.mpr ⟨lw_p18, List.forall_mem_cons.mpr ⟨lw_p19, List.forall_mem_cons.mpr ⟨lw_p20, List.forall_mem_cons.mpr ⟨lw_p21, List.forall_mem_cons.mpr ⟨lw_p22, List.forall_mem_cons.mpr ⟨lw_p23, List.forall_mem_cons.mpr ⟨lw_p24, List.forall_mem_cons.mpr ⟨lw_p25, List.forall_mem_cons.mpr ⟨lw_p26, List.forall_mem_cons.mpr ⟨lw_p27, List.forall_mem_cons.mpr ⟨lw_p28, List.forall_mem_cons.mpr ⟨lw_p29, List.forall_mem_cons.mpr ⟨lw_p30, List.forall_mem_cons.mpr ⟨lw_p31, fun _ h => absurd h List.not_mem_nil⟩⟩⟩⟩⟩⟩⟩⟩⟩⟩⟩⟩⟩⟩⟩⟩
theorem lw_p32 : lw_okq (⟨"WheelOnWheelModel", "noFar", "(I)J"⟩, 38) := ⟨⟨by decide +kernel, by decide +kernel⟩, List.mem_of_getElem? (i := 790) (by decide +kernel), List.mem_of_getElem? (i := 1021) (by decide +kernel), List.mem_of_getElem? (i := 1022) (by decide +kernel)⟩
theorem lw_p33 : lw_okq (⟨"WheelOnWheelModel", "drawsBy", "(I)V"⟩, 38) := ⟨⟨by decide +kernel, by decide +kernel⟩, List.mem_of_getElem? (i := 790) (by decide +kernel), List.mem_of_getElem? (i := 1041) (by decide +kernel), List.mem_of_getElem? (i := 1042) (by decide +kernel)⟩
theorem lw_p34 : lw_okq (⟨"WheelOnWheelModel", "draws", "(IIII)V"⟩, 38) := ⟨⟨by decide +kernel, by decide +kernel⟩, List.mem_of_getElem? (i := 790) (by decide +kernel), List.mem_of_getElem? (i := 1045) (by decide +kernel), List.mem_of_getElem? (i := 1046) (by decide +kernel)⟩
theorem lw_p35 : lw_okq (⟨"WheelOnWheelModel", "rounds", "(I)I"⟩, 38) := ⟨⟨by decide +kernel, by decide +kernel⟩, List.mem_of_getElem? (i := 790) (by decide +kernel), List.mem_of_getElem? (i := 1049) (by decide +kernel), List.mem_of_getElem? (i := 1050) (by decide +kernel)⟩
theorem lw_p36 : lw_okq (⟨"WheelOnWheelModel", "widest", "()I"⟩, 38) := ⟨⟨by decide +kernel, by decide +kernel⟩, List.mem_of_getElem? (i := 790) (by decide +kernel), List.mem_of_getElem? (i := 1053) (by decide +kernel), List.mem_of_getElem? (i := 1054) (by decide +kernel)⟩
theorem lw_p37 : lw_okq (⟨"WheelOnWheelModel", "gapFrom", "(I)I"⟩, 38) := ⟨⟨by decide +kernel, by decide +kernel⟩, List.mem_of_getElem? (i := 790) (by decide +kernel), List.mem_of_getElem? (i := 1057) (by decide +kernel), List.mem_of_getElem? (i := 1058) (by decide +kernel)⟩
theorem lw_p38 : lw_okq (⟨"WheelOnWheelModel", "crossings", "()I"⟩, 38) := ⟨⟨by decide +kernel, by decide +kernel⟩, List.mem_of_getElem? (i := 790) (by decide +kernel), List.mem_of_getElem? (i := 1061) (by decide +kernel), List.mem_of_getElem? (i := 1062) (by decide +kernel)⟩
theorem lw_p39 : lw_okq (⟨"WheelOnWheelModel", "crossesOf", "(I)I"⟩, 38) := ⟨⟨by decide +kernel, by decide +kernel⟩, List.mem_of_getElem? (i := 790) (by decide +kernel), List.mem_of_getElem? (i := 1065) (by decide +kernel), List.mem_of_getElem? (i := 1066) (by decide +kernel)⟩
theorem lw_p40 : lw_okq (⟨"WheelOnWheelModel", "mostCrossed", "()I"⟩, 38) := ⟨⟨by decide +kernel, by decide +kernel⟩, List.mem_of_getElem? (i := 790) (by decide +kernel), List.mem_of_getElem? (i := 1076) (by decide +kernel), List.mem_of_getElem? (i := 1077) (by decide +kernel)⟩
theorem lw_p41 : lw_okq (⟨"WheelOnWheelModel", "lays", "()V"⟩, 38) := ⟨⟨by decide +kernel, by decide +kernel⟩, List.mem_of_getElem? (i := 790) (by decide +kernel), List.mem_of_getElem? (i := 1096) (by decide +kernel), List.mem_of_getElem? (i := 1097) (by decide +kernel)⟩
theorem lw_p42 : lw_okq (⟨"WheelOnWheelModel", "joined", "([J)V"⟩, 38) := ⟨⟨by decide +kernel, by decide +kernel⟩, List.mem_of_getElem? (i := 790) (by decide +kernel), List.mem_of_getElem? (i := 1104) (by decide +kernel), List.mem_of_getElem? (i := 1105) (by decide +kernel)⟩
theorem lw_p43 : lw_okq (⟨"WheelOnWheelModel", "isSuch", "(II)Z"⟩, 38) := ⟨⟨by decide +kernel, by decide +kernel⟩, List.mem_of_getElem? (i := 790) (by decide +kernel), List.mem_of_getElem? (i := 1108) (by decide +kernel), List.mem_of_getElem? (i := 1109) (by decide +kernel)⟩
theorem lw_p44 : lw_okq (⟨"WheelOnWheelModel", "taken", "(III)I"⟩, 38) := ⟨⟨by decide +kernel, by decide +kernel⟩, List.mem_of_getElem? (i := 790) (by decide +kernel), List.mem_of_getElem? (i := 1112) (by decide +kernel), List.mem_of_getElem? (i := 1113) (by decide +kernel)⟩
theorem lw_p45 : lw_okq (⟨"WheelOnWheelModel", "isSet", "(I)Z"⟩, 38) := ⟨⟨by decide +kernel, by decide +kernel⟩, List.mem_of_getElem? (i := 790) (by decide +kernel), List.mem_of_getElem? (i := 1128) (by decide +kernel), List.mem_of_getElem? (i := 1129) (by decide +kernel)⟩
theorem lw_p46 : lw_okq (⟨"WheelOnWheelModel", "touches", "(II)V"⟩, 38) := ⟨⟨by decide +kernel, by decide +kernel⟩, List.mem_of_getElem? (i := 790) (by decide +kernel), List.mem_of_getElem? (i := 1132) (by decide +kernel), List.mem_of_getElem? (i := 1133) (by decide +kernel)⟩
theorem lw_p47 : lw_okq (⟨"WheelOnWheelModel", "starts", "()V"⟩, 38) := ⟨⟨by decide +kernel, by decide +kernel⟩, List.mem_of_getElem? (i := 790) (by decide +kernel), List.mem_of_getElem? (i := 1136) (by decide +kernel), List.mem_of_getElem? (i := 1137) (by decide +kernel)⟩
def lw_privs_3 : List (MethodName × Nat) := [(⟨"WheelOnWheelModel", "noFar", "(I)J"⟩, 38), (⟨"WheelOnWheelModel", "drawsBy", "(I)V"⟩, 38), (⟨"WheelOnWheelModel", "draws", "(IIII)V"⟩, 38), (⟨"WheelOnWheelModel", "rounds", "(I)I"⟩, 38), (⟨"WheelOnWheelModel", "widest", "()I"⟩, 38), (⟨"WheelOnWheelModel", "gapFrom", "(I)I"⟩, 38), (⟨"WheelOnWheelModel", "crossings", "()I"⟩, 38), (⟨"WheelOnWheelModel", "crossesOf", "(I)I"⟩, 38), (⟨"WheelOnWheelModel", "mostCrossed", "()I"⟩, 38), (⟨"WheelOnWheelModel", "lays", "()V"⟩, 38), (⟨"WheelOnWheelModel", "joined", "([J)V"⟩, 38), (⟨"WheelOnWheelModel", "isSuch", "(II)Z"⟩, 38), (⟨"WheelOnWheelModel", "taken", "(III)I"⟩, 38), (⟨"WheelOnWheelModel", "isSet", "(I)Z"⟩, 38), (⟨"WheelOnWheelModel", "touches", "(II)V"⟩, 38), (⟨"WheelOnWheelModel", "starts", "()V"⟩, 38)]
theorem lw_r3 : ∀ q ∈ lw_privs_3, lw_okq q := List.forall_mem_cons.mpr ⟨lw_p32, List.forall_mem_cons.mpr ⟨lw_p33, List.forall_mem_cons.mpr ⟨lw_p34, List.forall_mem_cons.mpr ⟨lw_p35, List.forall_mem_cons.mpr ⟨lw_p36, List.forall_mem_cons.mpr ⟨lw_p37, List.forall_mem_cons.mpr ⟨lw_p38, List.forall_mem_cons.mpr ⟨lw_p39, List.forall_mem_cons.mpr ⟨lw_p40, List.forall_mem_cons.mpr ⟨lw_p41, List.forall_mem_cons.mpr ⟨lw_p42, List.forall_mem_cons.mpr ⟨lw_p43, List.forall_mem_cons.mpr ⟨lw_p44, List.forall_mem_cons.mpr ⟨lw_p45, List.forall_mem_cons.mpr ⟨lw_p46, List.forall_mem_cons.mpr ⟨lw_p47, fun _ h => absurd h List.not_mem_nil⟩⟩⟩⟩⟩⟩⟩⟩⟩⟩⟩⟩⟩⟩⟩⟩
theorem lw_p48 : lw_okq (⟨"WheelOnWheelModel", "ticks", "(II)V"⟩, 38) := ⟨⟨by decide +kernel, by decide +kernel⟩, List.mem_of_getElem? (i := 790) (by decide +kernel), List.mem_of_getElem? (i := 1140) (by decide +kernel), List.mem_of_getElem? (i := 1141) (by decide +kernel)⟩
theorem lw_p49 : lw_okq (⟨"WheelOnWheelModel", "inkedTeeth", "()I"⟩, 38) := ⟨⟨by decide +kernel, by decide +kernel⟩, List.mem_of_getElem? (i := 790) (by decide +kernel), List.mem_of_getElem? (i := 1163) (by decide +kernel), List.mem_of_getElem? (i := 1164) (by decide +kernel)⟩
theorem lw_p50 : lw_okq (⟨"WheelOnWheelModel", "hasOthers", "(I)Z"⟩, 38) := ⟨⟨by decide +kernel, by decide +kernel⟩, List.mem_of_getElem? (i := 790) (by decide +kernel), List.mem_of_getElem? (i := 1179) (by decide +kernel), List.mem_of_getElem? (i := 1180) (by decide +kernel)⟩
theorem lw_p51 : lw_okq (⟨"WheelOnWheelModel", "isDrawn", "(IIII)Z"⟩, 38) := ⟨⟨by decide +kernel, by decide +kernel⟩, List.mem_of_getElem? (i := 790) (by decide +kernel), List.mem_of_getElem? (i := 1183) (by decide +kernel), List.mem_of_getElem? (i := 1184) (by decide +kernel)⟩
theorem lw_p52 : lw_okq (⟨"WheelOnWheelModel", "draw", "(I)I"⟩, 38) := ⟨⟨by decide +kernel, by decide +kernel⟩, List.mem_of_getElem? (i := 790) (by decide +kernel), List.mem_of_getElem? (i := 1203) (by decide +kernel), List.mem_of_getElem? (i := 1204) (by decide +kernel)⟩
def lw_privs_4 : List (MethodName × Nat) := [(⟨"WheelOnWheelModel", "ticks", "(II)V"⟩, 38), (⟨"WheelOnWheelModel", "inkedTeeth", "()I"⟩, 38), (⟨"WheelOnWheelModel", "hasOthers", "(I)Z"⟩, 38), (⟨"WheelOnWheelModel", "isDrawn", "(IIII)Z"⟩, 38), (⟨"WheelOnWheelModel", "draw", "(I)I"⟩, 38)]
theorem lw_r4 : ∀ q ∈ lw_privs_4, lw_okq q := List.forall_mem_cons.mpr ⟨lw_p48, List.forall_mem_cons.mpr ⟨lw_p49, List.forall_mem_cons.mpr ⟨lw_p50, List.forall_mem_cons.mpr ⟨lw_p51, List.forall_mem_cons.mpr ⟨lw_p52, fun _ h => absurd h List.not_mem_nil⟩⟩⟩⟩⟩
def lw_privs : List (MethodName × Nat) := lw_privs_1 ++ (lw_privs_2 ++ (lw_privs_3 ++ (lw_privs_4)))
def lw_tbl : List Cond := k2_sels lw_privs ++ tables_1
theorem lw_privs_ok : ∀ q ∈ lw_privs, lw_okq q := by
  show ∀ q ∈ lw_privs_1 ++ (lw_privs_2 ++ (lw_privs_3 ++ (lw_privs_4))), lw_okq q
  exact List.forall_mem_append.mpr ⟨lw_r1, List.forall_mem_append.mpr ⟨lw_r2, List.forall_mem_append.mpr ⟨lw_r3, lw_r4⟩⟩⟩
/-! ===== BEGIN words of one list among another's, by their places ===== -/
theorem goodIn_r {big : List Cond} (ws : List Cond) (ps : List Nat) (hp : ws = ps.filterMap (fun i => big[i]?)) (h : ws.all goodWord = true) : GoodIn big ws := by
  intro w hw
  have h1 := List.all_eq_true.mp h w hw
  rw [hp] at hw
  obtain ⟨i, -, hi⟩ := List.mem_filterMap.mp hw
  have hm : w ∈ big := by first | exact List.mem_of_getElem? hi | exact List.getElem?_mem hi
  exact ⟨hm, good_of_word h1⟩
theorem goodIn_app {big a b : List Cond} (ha : GoodIn big a) (hb : GoodIn big b) : GoodIn big (a ++ b) := fun w h => (List.mem_append.mp h).elim (ha w) (hb w)
theorem goodIn_ca {big a b : List Cond} {c : Cond} (ha : GoodIn big (c :: a)) (hb : GoodIn big b) : GoodIn big (c :: (a ++ b)) := fun w h => (List.mem_cons.mp h).elim (fun e => ha w (List.mem_cons.mpr (Or.inl e))) (fun h => (List.mem_append.mp h).elim (fun h => ha w (List.mem_cons.mpr (Or.inr h))) (hb w))
theorem goodIn_sub {big ws : List Cond} (hm : ∀ w ∈ ws, w ∈ big) (h : ws.all goodWord = true) : GoodIn big ws := fun w hw => ⟨hm w hw, good_of_word (List.all_eq_true.mp h w hw)⟩
/-! ===== END ===== -/

/-! ===== BEGIN printed: names, fields, word lists, decode rows ===== -/
def RX0 : String := "WheelOnWheel$Drawing"
def TX0 : u_T := fun k => match k with
  | 0 => ("WheelOnWheel$Drawing", "teeth", "I", false)
  | 1 => ("WheelOnWheel$Drawing", "side", "I", false)
  | 2 => ("WheelOnWheel$Drawing", "arcs", "I", false)
  | 3 => ("WheelOnWheel$Drawing", "tail", "I", false)
  | 4 => ("WheelOnWheel$Drawing", "linkCount", "I", false)
  | 5 => ("WheelOnWheel$Drawing", "begins", "[I", true)
  | 6 => ("WheelOnWheel$Drawing", "ends", "[I", true)
  | 7 => ("WheelOnWheel$Drawing", "lengths", "[I", true)
  | 8 => ("WheelOnWheel$Drawing", "arcFrom", "[I", true)
  | _ => ("WheelOnWheel$Drawing", "links", "[J", true)
def tyX0 : Nat → FieldType := fun k => match k with
  | 0 => .int
  | 1 => .int
  | 2 => .int
  | 3 => .int
  | 4 => .int
  | 5 => .array .int
  | 6 => .array .int
  | 7 => .array .int
  | 8 => .array .int
  | _ => .array .long
abbrev wsX00 : List Cond := u_ws RX0 TX0 10
theorem nmX0 : ∀ a, a < 10 → ∀ b, b < 10 → a ≠ b → (TX0 a).2.1 ≠ (TX0 b).2.1 := by decide +kernel
theorem tyX0_ok : ∀ k, k < 10 → parseFieldDescriptor (TX0 k).2.2.1 = some (tyX0 k) := by decide +kernel
abbrev cX0_init : ByteArray := prog_2_method_1_code
def yX0_init : MethodName := ⟨RX0, "<init>", "()V"⟩
abbrev cX0_trace : ByteArray := prog_2_method_2_code
def yX0_trace : MethodName := ⟨RX0, "trace", "(LWheelOnWheel$Ring;LWheelOnWheel$Wheel;)V"⟩
abbrev cX0_addLink : ByteArray := prog_2_method_3_code
def yX0_addLink : MethodName := ⟨RX0, "addLink", "(II)V"⟩
abbrev cX0_isLink : ByteArray := prog_2_method_4_code
def yX0_isLink : MethodName := ⟨RX0, "isLink", "(II)Z"⟩
abbrev cX0_hasArc : ByteArray := prog_2_method_5_code
def yX0_hasArc : MethodName := ⟨RX0, "hasArc", "(I)Z"⟩
abbrev cX0_rounds : ByteArray := prog_2_method_6_code
def yX0_rounds : MethodName := ⟨RX0, "rounds", "()I"⟩
abbrev cX0_cuspFrom : ByteArray := prog_2_method_7_code
def yX0_cuspFrom : MethodName := ⟨RX0, "cuspFrom", "(I)I"⟩
abbrev cX0_gapAbove : ByteArray := prog_2_method_8_code
def yX0_gapAbove : MethodName := ⟨RX0, "gapAbove", "(I)I"⟩
abbrev cX0_cuspOfGap : ByteArray := prog_2_method_9_code
def yX0_cuspOfGap : MethodName := ⟨RX0, "cuspOfGap", "()I"⟩
abbrev cX0_crossedBy : ByteArray := prog_2_method_10_code
def yX0_crossedBy : MethodName := ⟨RX0, "crossedBy", "(LWheelOnWheel$Drawing;I)I"⟩
abbrev cX0_crossingsWith : ByteArray := prog_2_method_11_code
def yX0_crossingsWith : MethodName := ⟨RX0, "crossingsWith", "(LWheelOnWheel$Drawing;)I"⟩
abbrev cX0_crossings : ByteArray := prog_2_method_12_code
def yX0_crossings : MethodName := ⟨RX0, "crossings", "()I"⟩
abbrev cX0_crossingsOfInner : ByteArray := prog_2_method_13_code
def yX0_crossingsOfInner : MethodName := ⟨RX0, "crossingsOfInner", "()I"⟩
abbrev cX0_mostCrossing : ByteArray := prog_2_method_14_code
def yX0_mostCrossing : MethodName := ⟨RX0, "mostCrossing", "()I"⟩
abbrev cX0_shiftOnto : ByteArray := prog_2_method_15_code
def yX0_shiftOnto : MethodName := ⟨RX0, "shiftOnto", "(LWheelOnWheel$Drawing;I)I"⟩
abbrev cX0_isShiftOnto : ByteArray := prog_2_method_16_code
def yX0_isShiftOnto : MethodName := ⟨RX0, "isShiftOnto", "(LWheelOnWheel$Drawing;II)Z"⟩
def RX1 : String := "WheelOnWheel$Letters"
def TX1 : u_T := fun k => match k with
  | 0 => ("WheelOnWheel$Letters", "signs", "[I", true)
  | _ => ("WheelOnWheel$Letters", "size", "I", false)
def tyX1 : Nat → FieldType := fun k => match k with
  | 0 => .array .int
  | _ => .int
abbrev wsX10 : List Cond := u_ws RX1 TX1 2
theorem nmX1 : ∀ a, a < 2 → ∀ b, b < 2 → a ≠ b → (TX1 a).2.1 ≠ (TX1 b).2.1 := by decide +kernel
theorem tyX1_ok : ∀ k, k < 2 → parseFieldDescriptor (TX1 k).2.2.1 = some (tyX1 k) := by decide +kernel
abbrev cX1_init : ByteArray := prog_3_method_1_code
def yX1_init : MethodName := ⟨RX1, "<init>", "()V"⟩
abbrev cX1_append : ByteArray := prog_3_method_2_code
def yX1_append : MethodName := ⟨RX1, "append", "(I)V"⟩
abbrev cX1_digitsBehind : ByteArray := prog_3_method_3_code
def yX1_digitsBehind : MethodName := ⟨RX1, "digitsBehind", "(I)I"⟩
abbrev cX1_firstMisplaced : ByteArray := prog_3_method_4_code
def yX1_firstMisplaced : MethodName := ⟨RX1, "firstMisplaced", "()I"⟩
abbrev cX1_beginsStatement : ByteArray := prog_3_method_5_code
def yX1_beginsStatement : MethodName := ⟨RX1, "beginsStatement", "(I)Z"⟩
abbrev cX1_number : ByteArray := prog_3_method_6_code
def yX1_number : MethodName := ⟨RX1, "number", "(II)I"⟩
abbrev cX1_comesTrue : ByteArray := prog_3_method_7_code
def yX1_comesTrue : MethodName := ⟨RX1, "comesTrue", "(ILWheelOnWheel$Ring;)Z"⟩
abbrev cX1_ringComes : ByteArray := prog_3_method_8_code
def yX1_ringComes : MethodName := ⟨RX1, "ringComes", "(LWheelOnWheel$Ring;I)Z"⟩
abbrev cX1_wheelComes : ByteArray := prog_3_method_9_code
def yX1_wheelComes : MethodName := ⟨RX1, "wheelComes", "(LWheelOnWheel$Ring;I)Z"⟩
abbrev cX1_wearComes : ByteArray := prog_3_method_10_code
def yX1_wearComes : MethodName := ⟨RX1, "wearComes", "(LWheelOnWheel$Ring;I)Z"⟩
abbrev cX1_placeComes : ByteArray := prog_3_method_11_code
def yX1_placeComes : MethodName := ⟨RX1, "placeComes", "(LWheelOnWheel$Ring;II)Z"⟩
abbrev cX1_rollComes : ByteArray := prog_3_method_12_code
def yX1_rollComes : MethodName := ⟨RX1, "rollComes", "(LWheelOnWheel$Ring;II)Z"⟩
def RX2 : String := "WheelOnWheel$Numbers"
def TX2 : u_T := fun k => match k with
  | _ => ("", "", "", false)
def tyX2 : Nat → FieldType := fun k => match k with
  | _ => .int
abbrev wsX20 : List Cond := u_ws RX2 TX2 0
theorem nmX2 : ∀ a, a < 0 → ∀ b, b < 0 → a ≠ b → (TX2 a).2.1 ≠ (TX2 b).2.1 := by decide +kernel
theorem tyX2_ok : ∀ k, k < 0 → parseFieldDescriptor (TX2 k).2.2.1 = some (tyX2 k) := by decide +kernel
abbrev cX2_modulo : ByteArray := prog_4_method_2_code
def yX2_modulo : MethodName := ⟨RX2, "modulo", "(II)I"⟩
abbrev cX2_greatestDivisor : ByteArray := prog_4_method_3_code
def yX2_greatestDivisor : MethodName := ⟨RX2, "greatestDivisor", "(II)I"⟩
abbrev cX2_partOf : ByteArray := prog_4_method_4_code
def yX2_partOf : MethodName := ⟨RX2, "partOf", "(III)I"⟩
abbrev cX2_placeOfMost : ByteArray := prog_4_method_5_code
def yX2_placeOfMost : MethodName := ⟨RX2, "placeOfMost", "([II)I"⟩
abbrev cX2_placesOf : ByteArray := prog_4_method_6_code
def yX2_placesOf : MethodName := ⟨RX2, "placesOf", "(I[II)I"⟩
abbrev cX2_seedBehind : ByteArray := prog_4_method_7_code
def yX2_seedBehind : MethodName := ⟨RX2, "seedBehind", "(I)I"⟩
abbrev cX2_drawn : ByteArray := prog_4_method_8_code
def yX2_drawn : MethodName := ⟨RX2, "drawn", "(II)I"⟩
abbrev cX2_cross : ByteArray := prog_4_method_9_code
def yX2_cross : MethodName := ⟨RX2, "cross", "(IIII)Z"⟩
def RX3 : String := "WheelOnWheel$Past"
def TX3 : u_T := fun k => match k with
  | 0 => ("WheelOnWheel$Past", "rings", "[LWheelOnWheel$Ring;", true)
  | 1 => ("WheelOnWheel$Past", "kept", "I", false)
  | _ => ("WheelOnWheel$Past", "place", "I", false)
def tyX3 : Nat → FieldType := fun k => match k with
  | 0 => .array (.object "WheelOnWheel$Ring")
  | 1 => .int
  | _ => .int
abbrev wsX30 : List Cond := u_ws RX3 TX3 3
theorem nmX3 : ∀ a, a < 3 → ∀ b, b < 3 → a ≠ b → (TX3 a).2.1 ≠ (TX3 b).2.1 := by decide +kernel
theorem tyX3_ok : ∀ k, k < 3 → parseFieldDescriptor (TX3 k).2.2.1 = some (tyX3 k) := by decide +kernel
abbrev cX3_init : ByteArray := prog_5_method_1_code
def yX3_init : MethodName := ⟨RX3, "<init>", "()V"⟩
abbrev cX3_keep : ByteArray := prog_5_method_2_code
def yX3_keep : MethodName := ⟨RX3, "keep", "(LWheelOnWheel$Ring;)V"⟩
abbrev cX3_giveBack : ByteArray := prog_5_method_3_code
def yX3_giveBack : MethodName := ⟨RX3, "giveBack", "(LWheelOnWheel$Ring;)V"⟩
abbrev cX3_forget : ByteArray := prog_5_method_4_code
def yX3_forget : MethodName := ⟨RX3, "forget", "()V"⟩
def RX4 : String := "WheelOnWheel$Ring"
def TX4 : u_T := fun k => match k with
  | 0 => ("WheelOnWheel$Ring", "teeth", "I", false)
  | 1 => ("WheelOnWheel$Ring", "wheelCount", "I", false)
  | 2 => ("WheelOnWheel$Ring", "ink", "[I", true)
  | 3 => ("WheelOnWheel$Ring", "worn", "[I", true)
  | _ => ("WheelOnWheel$Ring", "wheels", "[LWheelOnWheel$Wheel;", true)
def tyX4 : Nat → FieldType := fun k => match k with
  | 0 => .int
  | 1 => .int
  | 2 => .array .int
  | 3 => .array .int
  | _ => .array (.object "WheelOnWheel$Wheel")
abbrev wsX40 : List Cond := u_ws RX4 TX4 5
theorem nmX4 : ∀ a, a < 5 → ∀ b, b < 5 → a ≠ b → (TX4 a).2.1 ≠ (TX4 b).2.1 := by decide +kernel
theorem tyX4_ok : ∀ k, k < 5 → parseFieldDescriptor (TX4 k).2.2.1 = some (tyX4 k) := by decide +kernel
abbrev cX4_init : ByteArray := prog_6_method_1_code
def yX4_init : MethodName := ⟨RX4, "<init>", "()V"⟩
abbrev cX4_become : ByteArray := prog_6_method_2_code
def yX4_become : MethodName := ⟨RX4, "become", "(LWheelOnWheel$Ring;)V"⟩
abbrev cX4_isTooth : ByteArray := prog_6_method_3_code
def yX4_isTooth : MethodName := ⟨RX4, "isTooth", "(I)Z"⟩
abbrev cX4_isSet : ByteArray := prog_6_method_4_code
def yX4_isSet : MethodName := ⟨RX4, "isSet", "(I)Z"⟩
abbrev cX4_wheelAt : ByteArray := prog_6_method_5_code
def yX4_wheelAt : MethodName := ⟨RX4, "wheelAt", "(I)LWheelOnWheel$Wheel;"⟩
abbrev cX4_canHave : ByteArray := prog_6_method_6_code
def yX4_canHave : MethodName := ⟨RX4, "canHave", "(I)Z"⟩
abbrev cX4_renew : ByteArray := prog_6_method_7_code
def yX4_renew : MethodName := ⟨RX4, "renew", "(I)V"⟩
abbrev cX4_refusalOfWheel : ByteArray := prog_6_method_8_code
def yX4_refusalOfWheel : MethodName := ⟨RX4, "refusalOfWheel", "(IIIII)I"⟩
abbrev cX4_addWheel : ByteArray := prog_6_method_9_code
def yX4_addWheel : MethodName := ⟨RX4, "addWheel", "(IIIII)V"⟩
abbrev cX4_nextBy : ByteArray := prog_6_method_10_code
def yX4_nextBy : MethodName := ⟨RX4, "nextBy", "(LWheelOnWheel$Wheel;I)I"⟩
abbrev cX4_slipped : ByteArray := prog_6_method_11_code
def yX4_slipped : MethodName := ⟨RX4, "slipped", "(LWheelOnWheel$Wheel;I)I"⟩
abbrev cX4_unwornFrom : ByteArray := prog_6_method_12_code
def yX4_unwornFrom : MethodName := ⟨RX4, "unwornFrom", "(I)I"⟩
abbrev cX4_wearOrMend : ByteArray := prog_6_method_13_code
def yX4_wearOrMend : MethodName := ⟨RX4, "wearOrMend", "(I)V"⟩
abbrev cX4_rollTruly : ByteArray := prog_6_method_14_code
def yX4_rollTruly : MethodName := ⟨RX4, "rollTruly", "(LWheelOnWheel$Wheel;I)V"⟩
abbrev cX4_inkedTeeth : ByteArray := prog_6_method_15_code
def yX4_inkedTeeth : MethodName := ⟨RX4, "inkedTeeth", "()I"⟩
abbrev cX4_inkedFrom : ByteArray := prog_6_method_16_code
def yX4_inkedFrom : MethodName := ⟨RX4, "inkedFrom", "(I)I"⟩
abbrev cX4_lastInked : ByteArray := prog_6_method_17_code
def yX4_lastInked : MethodName := ⟨RX4, "lastInked", "()I"⟩
abbrev cX4_blot : ByteArray := prog_6_method_18_code
def yX4_blot : MethodName := ⟨RX4, "blot", "()I"⟩
abbrev cX4_allInk : ByteArray := prog_6_method_19_code
def yX4_allInk : MethodName := ⟨RX4, "allInk", "()I"⟩
abbrev cX4_tellsTeeth : ByteArray := prog_6_method_20_code
def yX4_tellsTeeth : MethodName := ⟨RX4, "tellsTeeth", "(LWheelOnWheel$Row;)Z"⟩
abbrev cX4_leads : ByteArray := prog_6_method_21_code
def yX4_leads : MethodName := ⟨RX4, "leads", "(LWheelOnWheel$Row;LWheelOnWheel$Wheel;)Z"⟩
def RX5 : String := "WheelOnWheel$Row"
def TX5 : u_T := fun k => match k with
  | 0 => ("WheelOnWheel$Row", "size", "I", false)
  | _ => ("WheelOnWheel$Row", "numbers", "[I", true)
def tyX5 : Nat → FieldType := fun k => match k with
  | 0 => .int
  | _ => .array .int
abbrev wsX50 : List Cond := u_ws RX5 TX5 2
theorem nmX5 : ∀ a, a < 2 → ∀ b, b < 2 → a ≠ b → (TX5 a).2.1 ≠ (TX5 b).2.1 := by decide +kernel
theorem tyX5_ok : ∀ k, k < 2 → parseFieldDescriptor (TX5 k).2.2.1 = some (tyX5 k) := by decide +kernel
abbrev cX5_init : ByteArray := prog_7_method_1_code
def yX5_init : MethodName := ⟨RX5, "<init>", "()V"⟩
abbrev cX5_isMissing : ByteArray := prog_7_method_2_code
def yX5_isMissing : MethodName := ⟨RX5, "isMissing", "()Z"⟩
abbrev cX5_hasPlace : ByteArray := prog_7_method_3_code
def yX5_hasPlace : MethodName := ⟨RX5, "hasPlace", "(I)Z"⟩
abbrev cX5_renew : ByteArray := prog_7_method_4_code
def yX5_renew : MethodName := ⟨RX5, "renew", "(I)V"⟩
def RX6 : String := "WheelOnWheel$Thought"
def TX6 : u_T := fun k => match k with
  | 0 => ("WheelOnWheel$Thought", "at", "[I", true)
  | 1 => ("WheelOnWheel$Thought", "touches", "[Z", true)
  | 2 => ("WheelOnWheel$Thought", "ticks", "[I", true)
  | 3 => ("WheelOnWheel$Thought", "touched", "[I", true)
  | 4 => ("WheelOnWheel$Thought", "touchers", "[I", true)
  | 5 => ("WheelOnWheel$Thought", "tally", "[I", true)
  | _ => ("WheelOnWheel$Thought", "found", "I", false)
def tyX6 : Nat → FieldType := fun k => match k with
  | 0 => .array .int
  | 1 => .array .boolean
  | 2 => .array .int
  | 3 => .array .int
  | 4 => .array .int
  | 5 => .array .int
  | _ => .int
abbrev wsX60 : List Cond := u_ws RX6 TX6 7
theorem nmX6 : ∀ a, a < 7 → ∀ b, b < 7 → a ≠ b → (TX6 a).2.1 ≠ (TX6 b).2.1 := by decide +kernel
theorem tyX6_ok : ∀ k, k < 7 → parseFieldDescriptor (TX6 k).2.2.1 = some (tyX6 k) := by decide +kernel
abbrev cX6_init : ByteArray := prog_8_method_1_code
def yX6_init : MethodName := ⟨RX6, "<init>", "()V"⟩
abbrev cX6_begin : ByteArray := prog_8_method_2_code
def yX6_begin : MethodName := ⟨RX6, "begin", "(LWheelOnWheel$Ring;)V"⟩
abbrev cX6_passTick : ByteArray := prog_8_method_3_code
def yX6_passTick : MethodName := ⟨RX6, "passTick", "(LWheelOnWheel$Ring;II)V"⟩
abbrev cX6_meetingTooth : ByteArray := prog_8_method_4_code
def yX6_meetingTooth : MethodName := ⟨RX6, "meetingTooth", "()I"⟩
abbrev cX6_follow : ByteArray := prog_8_method_5_code
def yX6_follow : MethodName := ⟨RX6, "follow", "(LWheelOnWheel$Ring;II)V"⟩
abbrev cX6_noteTouches : ByteArray := prog_8_method_6_code
def yX6_noteTouches : MethodName := ⟨RX6, "noteTouches", "(I)V"⟩
abbrev cX6_leastToucher : ByteArray := prog_8_method_7_code
def yX6_leastToucher : MethodName := ⟨RX6, "leastToucher", "()I"⟩
abbrev cX6_tallyFirst : ByteArray := prog_8_method_8_code
def yX6_tallyFirst : MethodName := ⟨RX6, "tallyFirst", "(I)V"⟩
abbrev cX6_castLots : ByteArray := prog_8_method_9_code
def yX6_castLots : MethodName := ⟨RX6, "castLots", "(LWheelOnWheel$Ring;II)V"⟩
def RX7 : String := "WheelOnWheel$Wheel"
def TX7 : u_T := fun k => match k with
  | 0 => ("WheelOnWheel$Wheel", "kind", "I", false)
  | 1 => ("WheelOnWheel$Wheel", "size", "I", false)
  | 2 => ("WheelOnWheel$Wheel", "figure", "I", false)
  | 3 => ("WheelOnWheel$Wheel", "pace", "I", false)
  | 4 => ("WheelOnWheel$Wheel", "at", "I", false)
  | _ => ("WheelOnWheel$Wheel", "rolled", "I", false)
def tyX7 : Nat → FieldType := fun k => match k with
  | 0 => .int
  | 1 => .int
  | 2 => .int
  | 3 => .int
  | 4 => .int
  | _ => .int
abbrev wsX70 : List Cond := u_ws RX7 TX7 6
theorem nmX7 : ∀ a, a < 6 → ∀ b, b < 6 → a ≠ b → (TX7 a).2.1 ≠ (TX7 b).2.1 := by decide +kernel
theorem tyX7_ok : ∀ k, k < 6 → parseFieldDescriptor (TX7 k).2.2.1 = some (tyX7 k) := by decide +kernel
abbrev cX7_init : ByteArray := prog_9_method_1_code
def yX7_init : MethodName := ⟨RX7, "<init>", "()V"⟩
abbrev cX7_set : ByteArray := prog_9_method_2_code
def yX7_set : MethodName := ⟨RX7, "set", "(IIIII)V"⟩
abbrev cX7_become : ByteArray := prog_9_method_3_code
def yX7_become : MethodName := ⟨RX7, "become", "(LWheelOnWheel$Wheel;)V"⟩
abbrev cX7_exchange : ByteArray := prog_9_method_4_code
def yX7_exchange : MethodName := ⟨RX7, "exchange", "(II)I"⟩
abbrev cX7_side : ByteArray := prog_9_method_5_code
def yX7_side : MethodName := ⟨RX7, "side", "()I"⟩
abbrev cX7_goes : ByteArray := prog_9_method_6_code
def yX7_goes : MethodName := ⟨RX7, "goes", "(III)I"⟩
abbrev cX7_turnsTimesSize : ByteArray := prog_9_method_7_code
def yX7_turnsTimesSize : MethodName := ⟨RX7, "turnsTimesSize", "(I)I"⟩
def RX8 : String := "WheelOnWheel"
def TX8 : u_T := fun k => match k with
  | 0 => ("WheelOnWheel", "now", "LWheelOnWheel$Ring;", true)
  | 1 => ("WheelOnWheel", "saved", "LWheelOnWheel$Ring;", true)
  | 2 => ("WheelOnWheel", "imaged", "LWheelOnWheel$Ring;", true)
  | 3 => ("WheelOnWheel", "hasImage", "Z", false)
  | 4 => ("WheelOnWheel", "past", "LWheelOnWheel$Past;", true)
  | 5 => ("WheelOnWheel", "letters", "LWheelOnWheel$Letters;", true)
  | 6 => ("WheelOnWheel", "rows", "[LWheelOnWheel$Row;", true)
  | 7 => ("WheelOnWheel", "first", "LWheelOnWheel$Drawing;", true)
  | 8 => ("WheelOnWheel", "second", "LWheelOnWheel$Drawing;", true)
  | 9 => ("WheelOnWheel", "thought", "LWheelOnWheel$Thought;", true)
  | 10 => ("WheelOnWheel", "trial", "LWheelOnWheel$Wheel;", true)
  | _ => ("WheelOnWheel", "refused", "[I", true)
def tyX8 : Nat → FieldType := fun k => match k with
  | 0 => .object "WheelOnWheel$Ring"
  | 1 => .object "WheelOnWheel$Ring"
  | 2 => .object "WheelOnWheel$Ring"
  | 3 => .boolean
  | 4 => .object "WheelOnWheel$Past"
  | 5 => .object "WheelOnWheel$Letters"
  | 6 => .array (.object "WheelOnWheel$Row")
  | 7 => .object "WheelOnWheel$Drawing"
  | 8 => .object "WheelOnWheel$Drawing"
  | 9 => .object "WheelOnWheel$Thought"
  | 10 => .object "WheelOnWheel$Wheel"
  | _ => .array .int
abbrev wsX80 : List Cond := u_ws RX8 TX8 12
theorem nmX8 : ∀ a, a < 12 → ∀ b, b < 12 → a ≠ b → (TX8 a).2.1 ≠ (TX8 b).2.1 := by decide +kernel
theorem tyX8_ok : ∀ k, k < 12 → parseFieldDescriptor (TX8 k).2.2.1 = some (tyX8 k) := by decide +kernel
abbrev cX8_init : ByteArray := prog_1_method_1_code
def yX8_init : MethodName := ⟨RX8, "<init>", "()V"⟩
abbrev cX8_letter : ByteArray := prog_1_method_2_code
def yX8_letter : MethodName := ⟨RX8, "letter", "(I)I"⟩
abbrev cX8_sheet : ByteArray := prog_1_method_3_code
def yX8_sheet : MethodName := ⟨RX8, "sheet", "()I"⟩
abbrev cX8_ring : ByteArray := prog_1_method_4_code
def yX8_ring : MethodName := ⟨RX8, "ring", "(I)I"⟩
abbrev cX8_wheel : ByteArray := prog_1_method_5_code
def yX8_wheel : MethodName := ⟨RX8, "wheel", "(IIIII)I"⟩
abbrev cX8_of : ByteArray := prog_1_method_6_code
def yX8_of : MethodName := ⟨RX8, "of", "(II)I"⟩
abbrev cX8_change : ByteArray := prog_1_method_7_code
def yX8_change : MethodName := ⟨RX8, "change", "(III)I"⟩
abbrev cX8_puts : ByteArray := prog_1_method_8_code
def yX8_puts : MethodName := ⟨RX8, "puts", "(II)I"⟩
abbrev cX8_next : ByteArray := prog_1_method_9_code
def yX8_next : MethodName := ⟨RX8, "next", "(II)I"⟩
abbrev cX8_ratio : ByteArray := prog_1_method_10_code
def yX8_ratio : MethodName := ⟨RX8, "ratio", "(II)J"⟩
abbrev cX8_wears : ByteArray := prog_1_method_11_code
def yX8_wears : MethodName := ⟨RX8, "wears", "(I)I"⟩
abbrev cX8_tooth : ByteArray := prog_1_method_12_code
def yX8_tooth : MethodName := ⟨RX8, "tooth", "(II)I"⟩
abbrev cX8_drawing : ByteArray := prog_1_method_13_code
def yX8_drawing : MethodName := ⟨RX8, "drawing", "(II)I"⟩
abbrev cX8_arc : ByteArray := prog_1_method_14_code
def yX8_arc : MethodName := ⟨RX8, "arc", "(II)I"⟩
abbrev cX8_crosses : ByteArray := prog_1_method_15_code
def yX8_crosses : MethodName := ⟨RX8, "crosses", "(II)I"⟩
abbrev cX8_behind : ByteArray := prog_1_method_16_code
def yX8_behind : MethodName := ⟨RX8, "behind", "(II)I"⟩
abbrev cX8_between : ByteArray := prog_1_method_17_code
def yX8_between : MethodName := ⟨RX8, "between", "(II)I"⟩
abbrev cX8_mirror : ByteArray := prog_1_method_18_code
def yX8_mirror : MethodName := ⟨RX8, "mirror", "(III)I"⟩
abbrev cX8_full : ByteArray := prog_1_method_19_code
def yX8_full : MethodName := ⟨RX8, "full", "()I"⟩
abbrev cX8_odds : ByteArray := prog_1_method_20_code
def yX8_odds : MethodName := ⟨RX8, "odds", "(II)J"⟩
abbrev cX8_touch : ByteArray := prog_1_method_21_code
def yX8_touch : MethodName := ⟨RX8, "touch", "(III)I"⟩
abbrev cX8_meet : ByteArray := prog_1_method_22_code
def yX8_meet : MethodName := ⟨RX8, "meet", "(II)I"⟩
abbrev cX8_crowd : ByteArray := prog_1_method_23_code
def yX8_crowd : MethodName := ⟨RX8, "crowd", "(III)I"⟩
abbrev cX8_roll : ByteArray := prog_1_method_24_code
def yX8_roll : MethodName := ⟨RX8, "roll", "(II)I"⟩
abbrev cX8_inked : ByteArray := prog_1_method_25_code
def yX8_inked : MethodName := ⟨RX8, "inked", "(I)I"⟩
abbrev cX8_ahead : ByteArray := prog_1_method_26_code
def yX8_ahead : MethodName := ⟨RX8, "ahead", "(I)I"⟩
abbrev cX8_fits : ByteArray := prog_1_method_27_code
def yX8_fits : MethodName := ⟨RX8, "fits", "(III)J"⟩
abbrev cX8_kinds : ByteArray := prog_1_method_28_code
def yX8_kinds : MethodName := ⟨RX8, "kinds", "(III)I"⟩
abbrev cX8_drawnBy : ByteArray := prog_1_method_29_code
def yX8_drawnBy : MethodName := ⟨RX8, "drawnBy", "(II)I"⟩
abbrev cX8_judge : ByteArray := prog_1_method_30_code
def yX8_judge : MethodName := ⟨RX8, "judge", "(II)I"⟩
abbrev cX8_lots : ByteArray := prog_1_method_31_code
def yX8_lots : MethodName := ⟨RX8, "lots", "(III)I"⟩
abbrev cX8_list : ByteArray := prog_1_method_32_code
def yX8_list : MethodName := ⟨RX8, "list", "(II)I"⟩
abbrev cX8_put : ByteArray := prog_1_method_33_code
def yX8_put : MethodName := ⟨RX8, "put", "(III)I"⟩
abbrev cX8_look : ByteArray := prog_1_method_34_code
def yX8_look : MethodName := ⟨RX8, "look", "(II)J"⟩
abbrev cX8_lays : ByteArray := prog_1_method_35_code
def yX8_lays : MethodName := ⟨RX8, "lays", "(III)I"⟩
abbrev cX8_undo : ByteArray := prog_1_method_36_code
def yX8_undo : MethodName := ⟨RX8, "undo", "()I"⟩
abbrev cX8_image : ByteArray := prog_1_method_37_code
def yX8_image : MethodName := ⟨RX8, "image", "()I"⟩
abbrev cX8_on : ByteArray := prog_1_method_38_code
def yX8_on : MethodName := ⟨RX8, "on", "()I"⟩
abbrev cX8_count : ByteArray := prog_1_method_39_code
def yX8_count : MethodName := ⟨RX8, "count", "(I)I"⟩
abbrev cX8_refuse : ByteArray := prog_1_method_40_code
def yX8_refuse : MethodName := ⟨RX8, "refuse", "(I)I"⟩
abbrev cX8_refuseLong : ByteArray := prog_1_method_41_code
def yX8_refuseLong : MethodName := ⟨RX8, "refuseLong", "(I)J"⟩
abbrev cX8_isOneOfTwo : ByteArray := prog_1_method_42_code
def yX8_isOneOfTwo : MethodName := ⟨RX8, "isOneOfTwo", "(I)Z"⟩
abbrev cX8_rowAt : ByteArray := prog_1_method_43_code
def yX8_rowAt : MethodName := ⟨RX8, "rowAt", "(I)LWheelOnWheel$Row;"⟩
abbrev cX8_refusalOfPlace : ByteArray := prog_1_method_44_code
def yX8_refusalOfPlace : MethodName := ⟨RX8, "refusalOfPlace", "(LWheelOnWheel$Row;I)I"⟩
abbrev cX8_tracesBoth : ByteArray := prog_1_method_45_code
def yX8_tracesBoth : MethodName := ⟨RX8, "tracesBoth", "(II)Z"⟩
abbrev cX8_traceTrial : ByteArray := prog_1_method_46_code
def yX8_traceTrial : MethodName := ⟨RX8, "traceTrial", "(I)V"⟩
abbrev cX8_kindsThatLead : ByteArray := prog_1_method_47_code
def yX8_kindsThatLead : MethodName := ⟨RX8, "kindsThatLead", "(LWheelOnWheel$Row;LWheelOnWheel$Wheel;)I"⟩
abbrev cX8_figuresThatLead : ByteArray := prog_1_method_48_code
def yX8_figuresThatLead : MethodName := ⟨RX8, "figuresThatLead", "(LWheelOnWheel$Row;LWheelOnWheel$Wheel;)I"⟩
def RX9 : String := "WheelOnWheelModel"
def TX9 : u_T := fun k => match k with
  | 0 => ("WheelOnWheelModel", "teeth", "I", false)
  | 1 => ("WheelOnWheelModel", "worn", "[I", true)
  | 2 => ("WheelOnWheelModel", "ink", "[I", true)
  | 3 => ("WheelOnWheelModel", "wheels", "I", false)
  | 4 => ("WheelOnWheelModel", "kind", "[I", true)
  | 5 => ("WheelOnWheelModel", "size", "[I", true)
  | 6 => ("WheelOnWheelModel", "figure", "[I", true)
  | 7 => ("WheelOnWheelModel", "pace", "[I", true)
  | 8 => ("WheelOnWheelModel", "at", "[I", true)
  | 9 => ("WheelOnWheelModel", "rolled", "[I", true)
  | 10 => ("WheelOnWheelModel", "letters", "[I", true)
  | 11 => ("WheelOnWheelModel", "written", "I", false)
  | 12 => ("WheelOnWheelModel", "lists", "[I", true)
  | 13 => ("WheelOnWheelModel", "listSize", "[I", true)
  | 14 => ("WheelOnWheelModel", "backs", "[I", true)
  | 15 => ("WheelOnWheelModel", "undos", "I", false)
  | 16 => ("WheelOnWheelModel", "image", "[I", true)
  | 17 => ("WheelOnWheelModel", "ahead", "[I", true)
  | 18 => ("WheelOnWheelModel", "imaged", "Z", false)
  | 19 => ("WheelOnWheelModel", "refusals", "[I", true)
  | 20 => ("WheelOnWheelModel", "begins", "[I", true)
  | 21 => ("WheelOnWheelModel", "ends", "[I", true)
  | 22 => ("WheelOnWheelModel", "met", "[I", true)
  | 23 => ("WheelOnWheelModel", "arcs", "I", false)
  | 24 => ("WheelOnWheelModel", "tail", "I", false)
  | 25 => ("WheelOnWheelModel", "otherBegins", "[I", true)
  | 26 => ("WheelOnWheelModel", "otherEnds", "[I", true)
  | 27 => ("WheelOnWheelModel", "otherArcs", "I", false)
  | 28 => ("WheelOnWheelModel", "joins", "[J", true)
  | 29 => ("WheelOnWheelModel", "otherJoins", "[J", true)
  | 30 => ("WheelOnWheelModel", "mapped", "[J", true)
  | 31 => ("WheelOnWheelModel", "touchTick", "[I", true)
  | 32 => ("WheelOnWheelModel", "touchTooth", "[I", true)
  | 33 => ("WheelOnWheelModel", "touchWheel", "[I", true)
  | 34 => ("WheelOnWheelModel", "goes", "[I", true)
  | 35 => ("WheelOnWheelModel", "now", "[I", true)
  | 36 => ("WheelOnWheelModel", "count", "[I", true)
  | _ => ("WheelOnWheelModel", "drawn", "I", false)
def tyX9 : Nat → FieldType := fun k => match k with
  | 0 => .int
  | 1 => .array .int
  | 2 => .array .int
  | 3 => .int
  | 4 => .array .int
  | 5 => .array .int
  | 6 => .array .int
  | 7 => .array .int
  | 8 => .array .int
  | 9 => .array .int
  | 10 => .array .int
  | 11 => .int
  | 12 => .array .int
  | 13 => .array .int
  | 14 => .array .int
  | 15 => .int
  | 16 => .array .int
  | 17 => .array .int
  | 18 => .boolean
  | 19 => .array .int
  | 20 => .array .int
  | 21 => .array .int
  | 22 => .array .int
  | 23 => .int
  | 24 => .int
  | 25 => .array .int
  | 26 => .array .int
  | 27 => .int
  | 28 => .array .long
  | 29 => .array .long
  | 30 => .array .long
  | 31 => .array .int
  | 32 => .array .int
  | 33 => .array .int
  | 34 => .array .int
  | 35 => .array .int
  | 36 => .array .int
  | _ => .int
abbrev wsX90 : List Cond := u_ws RX9 TX9 38
theorem nmX9 : ∀ a, a < 38 → ∀ b, b < 38 → a ≠ b → (TX9 a).2.1 ≠ (TX9 b).2.1 := by decide +kernel
theorem tyX9_ok : ∀ k, k < 38 → parseFieldDescriptor (TX9 k).2.2.1 = some (tyX9 k) := by decide +kernel
abbrev cX9_init : ByteArray := prog_11_method_1_code
def yX9_init : MethodName := ⟨RX9, "<init>", "()V"⟩
abbrev cX9_within : ByteArray := prog_11_method_2_code
def yX9_within : MethodName := ⟨RX9, "within", "(III)Z"⟩
abbrev cX9_no : ByteArray := prog_11_method_3_code
def yX9_no : MethodName := ⟨RX9, "no", "(I)I"⟩
abbrev cX9_noFar : ByteArray := prog_11_method_4_code
def yX9_noFar : MethodName := ⟨RX9, "noFar", "(I)J"⟩
abbrev cX9_isWheel : ByteArray := prog_11_method_5_code
def yX9_isWheel : MethodName := ⟨RX9, "isWheel", "(I)Z"⟩
abbrev cX9_isTooth : ByteArray := prog_11_method_6_code
def yX9_isTooth : MethodName := ⟨RX9, "isTooth", "(I)Z"⟩
abbrev cX9_isList : ByteArray := prog_11_method_7_code
def yX9_isList : MethodName := ⟨RX9, "isList", "(I)Z"⟩
abbrev cX9_isSet : ByteArray := prog_11_method_8_code
def yX9_isSet : MethodName := ⟨RX9, "isSet", "(I)Z"⟩
abbrev cX9_has : ByteArray := prog_11_method_9_code
def yX9_has : MethodName := ⟨RX9, "has", "(II)Z"⟩
abbrev cX9_letter : ByteArray := prog_11_method_10_code
def yX9_letter : MethodName := ⟨RX9, "letter", "(I)I"⟩
abbrev cX9_digitsOf : ByteArray := prog_11_method_11_code
def yX9_digitsOf : MethodName := ⟨RX9, "digitsOf", "(I)I"⟩
abbrev cX9_badLetter : ByteArray := prog_11_method_12_code
def yX9_badLetter : MethodName := ⟨RX9, "badLetter", "()I"⟩
abbrev cX9_one : ByteArray := prog_11_method_13_code
def yX9_one : MethodName := ⟨RX9, "one", "(I)I"⟩
abbrev cX9_two : ByteArray := prog_11_method_14_code
def yX9_two : MethodName := ⟨RX9, "two", "(I)I"⟩
abbrev cX9_fitsAll : ByteArray := prog_11_method_15_code
def yX9_fitsAll : MethodName := ⟨RX9, "fitsAll", "(I)Z"⟩
abbrev cX9_becomes : ByteArray := prog_11_method_16_code
def yX9_becomes : MethodName := ⟨RX9, "becomes", "(I)V"⟩
abbrev cX9_comes : ByteArray := prog_11_method_17_code
def yX9_comes : MethodName := ⟨RX9, "comes", "(IIIII)V"⟩
abbrev cX9_goesOn : ByteArray := prog_11_method_18_code
def yX9_goesOn : MethodName := ⟨RX9, "goesOn", "(II)V"⟩
abbrev cX9_does : ByteArray := prog_11_method_19_code
def yX9_does : MethodName := ⟨RX9, "does", "(I)Z"⟩
abbrev cX9_sheet : ByteArray := prog_11_method_20_code
def yX9_sheet : MethodName := ⟨RX9, "sheet", "()I"⟩
abbrev cX9_ring : ByteArray := prog_11_method_21_code
def yX9_ring : MethodName := ⟨RX9, "ring", "(I)I"⟩
abbrev cX9_wheel : ByteArray := prog_11_method_22_code
def yX9_wheel : MethodName := ⟨RX9, "wheel", "(IIIII)I"⟩
abbrev cX9_sideOf : ByteArray := prog_11_method_23_code
def yX9_sideOf : MethodName := ⟨RX9, "sideOf", "(I)I"⟩
abbrev cX9_nextOf : ByteArray := prog_11_method_24_code
def yX9_nextOf : MethodName := ⟨RX9, "nextOf", "(IIII)I"⟩
abbrev cX9_nextBy : ByteArray := prog_11_method_25_code
def yX9_nextBy : MethodName := ⟨RX9, "nextBy", "(II)I"⟩
abbrev cX9_of : ByteArray := prog_11_method_26_code
def yX9_of : MethodName := ⟨RX9, "of", "(II)I"⟩
abbrev cX9_change : ByteArray := prog_11_method_27_code
def yX9_change : MethodName := ⟨RX9, "change", "(III)I"⟩
abbrev cX9_layBy : ByteArray := prog_11_method_28_code
def yX9_layBy : MethodName := ⟨RX9, "layBy", "()V"⟩
abbrev cX9_puts : ByteArray := prog_11_method_29_code
def yX9_puts : MethodName := ⟨RX9, "puts", "(II)I"⟩
abbrev cX9_next : ByteArray := prog_11_method_30_code
def yX9_next : MethodName := ⟨RX9, "next", "(II)I"⟩
abbrev cX9_lowest : ByteArray := prog_11_method_31_code
def yX9_lowest : MethodName := ⟨RX9, "lowest", "(III)J"⟩
abbrev cX9_ratio : ByteArray := prog_11_method_32_code
def yX9_ratio : MethodName := ⟨RX9, "ratio", "(II)J"⟩
abbrev cX9_wears : ByteArray := prog_11_method_33_code
def yX9_wears : MethodName := ⟨RX9, "wears", "(I)I"⟩
abbrev cX9_tooth : ByteArray := prog_11_method_34_code
def yX9_tooth : MethodName := ⟨RX9, "tooth", "(II)I"⟩
abbrev cX9_draws : ByteArray := prog_11_method_35_code
def yX9_draws : MethodName := ⟨RX9, "draws", "(IIII)V"⟩
abbrev cX9_drawsBy : ByteArray := prog_11_method_36_code
def yX9_drawsBy : MethodName := ⟨RX9, "drawsBy", "(I)V"⟩
abbrev cX9_isBetween : ByteArray := prog_11_method_37_code
def yX9_isBetween : MethodName := ⟨RX9, "isBetween", "(III)Z"⟩
abbrev cX9_cross : ByteArray := prog_11_method_38_code
def yX9_cross : MethodName := ⟨RX9, "cross", "(IIII)Z"⟩
abbrev cX9_crossesOf : ByteArray := prog_11_method_39_code
def yX9_crossesOf : MethodName := ⟨RX9, "crossesOf", "(I)I"⟩
abbrev cX9_crossings : ByteArray := prog_11_method_40_code
def yX9_crossings : MethodName := ⟨RX9, "crossings", "()I"⟩
abbrev cX9_mostCrossed : ByteArray := prog_11_method_41_code
def yX9_mostCrossed : MethodName := ⟨RX9, "mostCrossed", "()I"⟩
abbrev cX9_rounds : ByteArray := prog_11_method_42_code
def yX9_rounds : MethodName := ⟨RX9, "rounds", "(I)I"⟩
abbrev cX9_gapFrom : ByteArray := prog_11_method_43_code
def yX9_gapFrom : MethodName := ⟨RX9, "gapFrom", "(I)I"⟩
abbrev cX9_widest : ByteArray := prog_11_method_44_code
def yX9_widest : MethodName := ⟨RX9, "widest", "()I"⟩
abbrev cX9_drawing : ByteArray := prog_11_method_45_code
def yX9_drawing : MethodName := ⟨RX9, "drawing", "(II)I"⟩
abbrev cX9_arc : ByteArray := prog_11_method_46_code
def yX9_arc : MethodName := ⟨RX9, "arc", "(II)I"⟩
abbrev cX9_crosses : ByteArray := prog_11_method_47_code
def yX9_crosses : MethodName := ⟨RX9, "crosses", "(II)I"⟩
abbrev cX9_behind : ByteArray := prog_11_method_48_code
def yX9_behind : MethodName := ⟨RX9, "behind", "(II)I"⟩
abbrev cX9_lays : ByteArray := prog_11_method_49_code
def yX9_lays : MethodName := ⟨RX9, "lays", "()V"⟩
abbrev cX9_between : ByteArray := prog_11_method_50_code
def yX9_between : MethodName := ⟨RX9, "between", "(II)I"⟩
abbrev cX9_joined : ByteArray := prog_11_method_51_code
def yX9_joined : MethodName := ⟨RX9, "joined", "([J)V"⟩
abbrev cX9_taken : ByteArray := prog_11_method_52_code
def yX9_taken : MethodName := ⟨RX9, "taken", "(III)I"⟩
abbrev cX9_isSuch : ByteArray := prog_11_method_53_code
def yX9_isSuch : MethodName := ⟨RX9, "isSuch", "(II)Z"⟩
abbrev cX9_mirror : ByteArray := prog_11_method_54_code
def yX9_mirror : MethodName := ⟨RX9, "mirror", "(III)I"⟩
abbrev cX9_full : ByteArray := prog_11_method_55_code
def yX9_full : MethodName := ⟨RX9, "full", "()I"⟩
abbrev cX9_odds : ByteArray := prog_11_method_56_code
def yX9_odds : MethodName := ⟨RX9, "odds", "(II)J"⟩
abbrev cX9_starts : ByteArray := prog_11_method_57_code
def yX9_starts : MethodName := ⟨RX9, "starts", "()V"⟩
abbrev cX9_ticks : ByteArray := prog_11_method_58_code
def yX9_ticks : MethodName := ⟨RX9, "ticks", "(II)V"⟩
abbrev cX9_touches : ByteArray := prog_11_method_59_code
def yX9_touches : MethodName := ⟨RX9, "touches", "(II)V"⟩
abbrev cX9_touch : ByteArray := prog_11_method_60_code
def yX9_touch : MethodName := ⟨RX9, "touch", "(III)I"⟩
abbrev cX9_meet : ByteArray := prog_11_method_61_code
def yX9_meet : MethodName := ⟨RX9, "meet", "(II)I"⟩
abbrev cX9_crowd : ByteArray := prog_11_method_62_code
def yX9_crowd : MethodName := ⟨RX9, "crowd", "(III)I"⟩
abbrev cX9_roll : ByteArray := prog_11_method_63_code
def yX9_roll : MethodName := ⟨RX9, "roll", "(II)I"⟩
abbrev cX9_inkedTeeth : ByteArray := prog_11_method_64_code
def yX9_inkedTeeth : MethodName := ⟨RX9, "inkedTeeth", "()I"⟩
abbrev cX9_inked : ByteArray := prog_11_method_65_code
def yX9_inked : MethodName := ⟨RX9, "inked", "(I)I"⟩
abbrev cX9_ahead : ByteArray := prog_11_method_66_code
def yX9_ahead : MethodName := ⟨RX9, "ahead", "(I)I"⟩
abbrev cX9_hasOthers : ByteArray := prog_11_method_67_code
def yX9_hasOthers : MethodName := ⟨RX9, "hasOthers", "(I)Z"⟩
abbrev cX9_isDrawn : ByteArray := prog_11_method_68_code
def yX9_isDrawn : MethodName := ⟨RX9, "isDrawn", "(IIII)Z"⟩
abbrev cX9_fits : ByteArray := prog_11_method_69_code
def yX9_fits : MethodName := ⟨RX9, "fits", "(III)J"⟩
abbrev cX9_kinds : ByteArray := prog_11_method_70_code
def yX9_kinds : MethodName := ⟨RX9, "kinds", "(III)I"⟩
abbrev cX9_drawnBy : ByteArray := prog_11_method_71_code
def yX9_drawnBy : MethodName := ⟨RX9, "drawnBy", "(II)I"⟩
abbrev cX9_judge : ByteArray := prog_11_method_72_code
def yX9_judge : MethodName := ⟨RX9, "judge", "(II)I"⟩
abbrev cX9_draw : ByteArray := prog_11_method_73_code
def yX9_draw : MethodName := ⟨RX9, "draw", "(I)I"⟩
abbrev cX9_lots : ByteArray := prog_11_method_74_code
def yX9_lots : MethodName := ⟨RX9, "lots", "(III)I"⟩
abbrev cX9_list : ByteArray := prog_11_method_75_code
def yX9_list : MethodName := ⟨RX9, "list", "(II)I"⟩
abbrev cX9_put : ByteArray := prog_11_method_76_code
def yX9_put : MethodName := ⟨RX9, "put", "(III)I"⟩
abbrev cX9_look : ByteArray := prog_11_method_77_code
def yX9_look : MethodName := ⟨RX9, "look", "(II)J"⟩
abbrev cX9_lays_ : ByteArray := prog_11_method_78_code
def yX9_lays_ : MethodName := ⟨RX9, "lays", "(III)I"⟩
abbrev cX9_undo : ByteArray := prog_11_method_79_code
def yX9_undo : MethodName := ⟨RX9, "undo", "()I"⟩
abbrev cX9_keep : ByteArray := prog_11_method_80_code
def yX9_keep : MethodName := ⟨RX9, "keep", "([I)V"⟩
abbrev cX9_again : ByteArray := prog_11_method_81_code
def yX9_again : MethodName := ⟨RX9, "again", "([I)V"⟩
abbrev cX9_image : ByteArray := prog_11_method_82_code
def yX9_image : MethodName := ⟨RX9, "image", "()I"⟩
abbrev cX9_on : ByteArray := prog_11_method_83_code
def yX9_on : MethodName := ⟨RX9, "on", "()I"⟩
abbrev cX9_count : ByteArray := prog_11_method_84_code
def yX9_count : MethodName := ⟨RX9, "count", "(I)I"⟩
def RJ9 : String := "java/lang/Math"
def TJ9 : u_T := fun k => match k with
  | _ => ("", "", "", false)
def tyJ9 : Nat → FieldType := fun k => match k with
  | _ => .int
abbrev wsJ90 : List Cond := u_ws RJ9 TJ9 0
theorem nmJ9 : ∀ a, a < 0 → ∀ b, b < 0 → a ≠ b → (TJ9 a).2.1 ≠ (TJ9 b).2.1 := by decide +kernel
theorem tyJ9_ok : ∀ k, k < 0 → parseFieldDescriptor (TJ9 k).2.2.1 = some (tyJ9 k) := by decide +kernel
abbrev cJ9_abs_0f7a4 : ByteArray := prog_12_method_59_code
def yJ9_abs_0f7a4 : MethodName := ⟨RJ9, "abs", "(I)I"⟩
abbrev cJ9_max_7cf53 : ByteArray := prog_12_method_65_code
def yJ9_max_7cf53 : MethodName := ⟨RJ9, "max", "(II)I"⟩
abbrev cJ9_min_7cf53 : ByteArray := prog_12_method_69_code
def yJ9_min_7cf53 : MethodName := ⟨RJ9, "min", "(II)I"⟩
def RJ10 : String := "java/lang/System"
def TJ10 : u_T := fun k => match k with
  | _ => ("", "", "", false)
def tyJ10 : Nat → FieldType := fun k => match k with
  | _ => .int
abbrev wsJ100 : List Cond := u_ws RJ10 TJ10 0
theorem nmJ10 : ∀ a, a < 0 → ∀ b, b < 0 → a ≠ b → (TJ10 a).2.1 ≠ (TJ10 b).2.1 := by decide +kernel
theorem tyJ10_ok : ∀ k, k < 0 → parseFieldDescriptor (TJ10 k).2.2.1 = some (tyJ10 k) := by decide +kernel
def RJ7 : String := "java/util/Arrays"
def TJ7 : u_T := fun k => match k with
  | _ => ("", "", "", false)
def tyJ7 : Nat → FieldType := fun k => match k with
  | _ => .int
abbrev wsJ70 : List Cond := u_ws RJ7 TJ7 0
theorem nmJ7 : ∀ a, a < 0 → ∀ b, b < 0 → a ≠ b → (TJ7 a).2.1 ≠ (TJ7 b).2.1 := by decide +kernel
theorem tyJ7_ok : ∀ k, k < 0 → parseFieldDescriptor (TJ7 k).2.2.1 = some (tyJ7 k) := by decide +kernel
abbrev cJ7_fill_d0a16 : ByteArray := prog_14_method_101_code
def yJ7_fill_d0a16 : MethodName := ⟨RJ7, "fill", "([JJ)V"⟩
abbrev cJ7_fill_53178 : ByteArray := prog_14_method_103_code
def yJ7_fill_53178 : MethodName := ⟨RJ7, "fill", "([II)V"⟩
def RL : String := "WheelOnWheelLaw"
abbrev cL_law : ByteArray := code
def yL_law : MethodName := ⟨RL, "law", "([I)Z"⟩
theorem inJ9 : ∀ w ∈ wsJ90, w ∈ lw_tbl := by decide +kernel
theorem inJ10 : ∀ w ∈ wsJ100, w ∈ lw_tbl := by decide +kernel
theorem inJ7 : ∀ w ∈ wsJ70, w ∈ lw_tbl := by decide +kernel
abbrev vwCl : List vw_C := [(RX0, TX0, 10), (RX1, TX1, 2), (RX3, TX3, 3), (RX4, TX4, 5), (RX5, TX5, 2), (RX6, TX6, 7), (RX7, TX7, 6), (RX8, TX8, 12), (RX9, TX9, 38)]

theorem in_ps {ws : List Cond} (ps : List Nat) (h : ws = ps.filterMap (fun i => lw_tbl[i]?)) : ∀ w ∈ ws, w ∈ lw_tbl := by
  intro w hw
  rw [h] at hw
  obtain ⟨i, -, hi⟩ := List.mem_filterMap.mp hw
  exact List.mem_of_getElem? hi
theorem inX0 : ∀ w ∈ wsX00, w ∈ lw_tbl := in_ps [201, 203, 205, 207, 209, 211, 213, 215, 217, 219] (by decide +kernel)
theorem inX1 : ∀ w ∈ wsX10, w ∈ lw_tbl := in_ps [175, 177] (by decide +kernel)
theorem inX3 : ∀ w ∈ wsX30, w ∈ lw_tbl := in_ps [159, 161, 163] (by decide +kernel)
theorem inX4 : ∀ w ∈ wsX40, w ∈ lw_tbl := in_ps [135, 137, 139, 141, 143] (by decide +kernel)
theorem inX5 : ∀ w ∈ wsX50, w ∈ lw_tbl := in_ps [269, 271] (by decide +kernel)
theorem inX6 : ∀ w ∈ wsX60, w ∈ lw_tbl := in_ps [240, 242, 244, 246, 248, 250, 252] (by decide +kernel)
theorem inX7 : ∀ w ∈ wsX70, w ∈ lw_tbl := in_ps [109, 111, 113, 115, 117, 119] (by decide +kernel)
theorem inX8 : ∀ w ∈ wsX80, w ∈ lw_tbl := in_ps [286, 288, 290, 292, 294, 296, 298, 300, 302, 304, 306, 308] (by decide +kernel)
theorem inX9 : ∀ w ∈ wsX90, w ∈ lw_tbl := in_ps [886, 888, 890, 892, 894, 896, 898, 900, 902, 904, 906, 908, 910, 912, 914, 916, 918, 920, 922, 924, 926, 928, 930, 932, 934, 936, 938, 940, 942, 944, 946, 948, 950, 952, 954, 956, 958, 960] (by decide +kernel)
end
section
/-! THE FRAME: one flat world of cells with fixed shapes, contracts over it (by wip/whole/gen_frame.py) -/
abbrev SS : Type := (Nat → Nat → Int32) × (Nat → Nat → Int64)
abbrev GG : Type := (Nat → Nat) × va_G × (Nat → ClassId)
def tabL : List (Nat × Nat × List (Option Nat)) := [
  (7, 12, [some 1, some 11, some 21, none, some 31, some 113, some 115, some 116, some 122, some 128, some 135, some 136]),
  (3, 5, [none, none, some 2, some 3, some 4]),
  (9, 60, []),
  (9, 60, []),
  (13, 6, [some 5, some 6, some 7, some 8, some 9, some 10]),
  (6, 6, [none, none, none, none, none, none]),
  (6, 6, [none, none, none, none, none, none]),
  (6, 6, [none, none, none, none, none, none]),
  (6, 6, [none, none, none, none, none, none]),
  (6, 6, [none, none, none, none, none, none]),
  (6, 6, [none, none, none, none, none, none]),
  (3, 5, [none, none, some 12, some 13, some 14]),
  (9, 60, []),
  (9, 60, []),
  (13, 6, [some 15, some 16, some 17, some 18, some 19, some 20]),
  (6, 6, [none, none, none, none, none, none]),
  (6, 6, [none, none, none, none, none, none]),
  (6, 6, [none, none, none, none, none, none]),
  (6, 6, [none, none, none, none, none, none]),
  (6, 6, [none, none, none, none, none, none]),
  (6, 6, [none, none, none, none, none, none]),
  (3, 5, [none, none, some 22, some 23, some 24]),
  (9, 60, []),
  (9, 60, []),
  (13, 6, [some 25, some 26, some 27, some 28, some 29, some 30]),
  (6, 6, [none, none, none, none, none, none]),
  (6, 6, [none, none, none, none, none, none]),
  (6, 6, [none, none, none, none, none, none]),
  (6, 6, [none, none, none, none, none, none]),
  (6, 6, [none, none, none, none, none, none]),
  (6, 6, [none, none, none, none, none, none]),
  (2, 3, [some 32, none, none]),
  (12, 8, [some 33, some 43, some 53, some 63, some 73, some 83, some 93, some 103]),
  (3, 5, [none, none, some 34, some 35, some 36]),
  (9, 60, []),
  (9, 60, []),
  (13, 6, [some 37, some 38, some 39, some 40, some 41, some 42]),
  (6, 6, [none, none, none, none, none, none]),
  (6, 6, [none, none, none, none, none, none]),
  (6, 6, [none, none, none, none, none, none]),
  (6, 6, [none, none, none, none, none, none]),
  (6, 6, [none, none, none, none, none, none]),
  (6, 6, [none, none, none, none, none, none]),
  (3, 5, [none, none, some 44, some 45, some 46]),
  (9, 60, []),
  (9, 60, []),
  (13, 6, [some 47, some 48, some 49, some 50, some 51, some 52]),
  (6, 6, [none, none, none, none, none, none]),
  (6, 6, [none, none, none, none, none, none]),
  (6, 6, [none, none, none, none, none, none]),
  (6, 6, [none, none, none, none, none, none]),
  (6, 6, [none, none, none, none, none, none]),
  (6, 6, [none, none, none, none, none, none]),
  (3, 5, [none, none, some 54, some 55, some 56]),
  (9, 60, []),
  (9, 60, []),
  (13, 6, [some 57, some 58, some 59, some 60, some 61, some 62]),
  (6, 6, [none, none, none, none, none, none]),
  (6, 6, [none, none, none, none, none, none]),
  (6, 6, [none, none, none, none, none, none]),
  (6, 6, [none, none, none, none, none, none]),
  (6, 6, [none, none, none, none, none, none]),
  (6, 6, [none, none, none, none, none, none]),
  (3, 5, [none, none, some 64, some 65, some 66]),
  (9, 60, []),
  (9, 60, []),
  (13, 6, [some 67, some 68, some 69, some 70, some 71, some 72]),
  (6, 6, [none, none, none, none, none, none]),
  (6, 6, [none, none, none, none, none, none]),
  (6, 6, [none, none, none, none, none, none]),
  (6, 6, [none, none, none, none, none, none]),
  (6, 6, [none, none, none, none, none, none]),
  (6, 6, [none, none, none, none, none, none]),
  (3, 5, [none, none, some 74, some 75, some 76]),
  (9, 60, []),
  (9, 60, []),
  (13, 6, [some 77, some 78, some 79, some 80, some 81, some 82]),
  (6, 6, [none, none, none, none, none, none]),
  (6, 6, [none, none, none, none, none, none]),
  (6, 6, [none, none, none, none, none, none]),
  (6, 6, [none, none, none, none, none, none]),
  (6, 6, [none, none, none, none, none, none]),
  (6, 6, [none, none, none, none, none, none]),
  (3, 5, [none, none, some 84, some 85, some 86]),
  (9, 60, []),
  (9, 60, []),
  (13, 6, [some 87, some 88, some 89, some 90, some 91, some 92]),
  (6, 6, [none, none, none, none, none, none]),
  (6, 6, [none, none, none, none, none, none]),
  (6, 6, [none, none, none, none, none, none]),
  (6, 6, [none, none, none, none, none, none]),
  (6, 6, [none, none, none, none, none, none]),
  (6, 6, [none, none, none, none, none, none]),
  (3, 5, [none, none, some 94, some 95, some 96]),
  (9, 60, []),
  (9, 60, []),
  (13, 6, [some 97, some 98, some 99, some 100, some 101, some 102]),
  (6, 6, [none, none, none, none, none, none]),
  (6, 6, [none, none, none, none, none, none]),
  (6, 6, [none, none, none, none, none, none]),
  (6, 6, [none, none, none, none, none, none]),
  (6, 6, [none, none, none, none, none, none]),
  (6, 6, [none, none, none, none, none, none]),
  (3, 5, [none, none, some 104, some 105, some 106]),
  (9, 60, []),
  (9, 60, []),
  (13, 6, [some 107, some 108, some 109, some 110, some 111, some 112]),
  (6, 6, [none, none, none, none, none, none]),
  (6, 6, [none, none, none, none, none, none]),
  (6, 6, [none, none, none, none, none, none]),
  (6, 6, [none, none, none, none, none, none]),
  (6, 6, [none, none, none, none, none, none]),
  (6, 6, [none, none, none, none, none, none]),
  (1, 2, [some 114, none]),
  (9, 72, []),
  (14, 3, [some 137, some 139, some 141]),
  (0, 10, [none, none, none, none, none, some 117, some 118, some 119, some 120, some 121]),
  (9, 60, []),
  (9, 60, []),
  (9, 60, []),
  (9, 60, []),
  (11, 60, []),
  (0, 10, [none, none, none, none, none, some 123, some 124, some 125, some 126, some 127]),
  (9, 60, []),
  (9, 60, []),
  (9, 60, []),
  (9, 60, []),
  (11, 60, []),
  (5, 7, [some 129, some 130, some 131, some 132, some 133, some 134, none]),
  (9, 6, []),
  (10, 6, []),
  (9, 100, []),
  (9, 100, []),
  (9, 100, []),
  (9, 60, []),
  (6, 6, [none, none, none, none, none, none]),
  (9, 7, []),
  (4, 2, [none, some 138]),
  (9, 40, []),
  (4, 2, [none, some 140]),
  (9, 40, []),
  (4, 2, [none, some 142]),
  (9, 40, []),
  (8, 38, [none, some 144, some 145, none, some 146, some 147, some 148, some 149, some 150, some 151, some 152, none, some 153, some 154, some 155, none, some 156, some 157, none, some 158, some 159, some 160, some 161, none, none, some 162, some 163, none, some 164, some 165, some 166, some 167, some 168, some 169, some 170, some 171, some 172, none]),
  (9, 60, []),
  (9, 60, []),
  (9, 6, []),
  (9, 6, []),
  (9, 6, []),
  (9, 6, []),
  (9, 6, []),
  (9, 6, []),
  (9, 72, []),
  (9, 120, []),
  (9, 3, []),
  (9, 1056, []),
  (9, 158, []),
  (9, 158, []),
  (9, 7, []),
  (9, 60, []),
  (9, 60, []),
  (9, 60, []),
  (9, 60, []),
  (9, 60, []),
  (11, 60, []),
  (11, 60, []),
  (11, 60, []),
  (9, 100, []),
  (9, 100, []),
  (9, 100, []),
  (9, 6, []),
  (9, 6, []),
  (9, 60, [])]
def NC : Nat := 173
def kd (q : Nat) : Nat := match tabL[q]? with | some t => t.1 | none => 99
def ln (q : Nat) : Nat := match tabL[q]? with | some t => t.2.1 | none => 0
def rf (q j : Nat) : Option Nat := match tabL[q]? with | some t => t.2.2.getD j none | none => none
def rid (q j : Nat) : Nat := (rf q j).getD 0
theorem kd_lt {q k : Nat} (h : kd q = k) (hk : k < 99) : q < NC := by
  rcases Nat.lt_or_ge q NC with h1 | h1
  · exact h1
  · have e : tabL[q]? = none := List.getElem?_eq_none (by rw [show tabL.length = NC from by decide +kernel]; exact h1)
    rw [kd, e] at h
    dsimp only at h
    omega
def cellV (g : GG) (σ : SS) (q j : Nat) : Value := match rf q j with | some i => .ref (g.1 i) | none => .int (σ.1 q j)
def cellE (g : GG) (σ : SS) (q : Nat) : va_E := if kd q < 9 then .inr (kd q, (List.range (ln q)).map (cellV g σ q))
  else .inl (g.2.2 (kd q), ln q, if kd q = 11 then .inr (.inl (σ.2 q)) else if kd q < 11 then .inl (σ.1 q) else .inr (.inr (.inr (.inr (fun j => (rf q j).map g.1)))))
def wsG (g : GG) (σ : SS) : va_W := (List.range NC).map (fun q => (g.1 q, cellE g σ q))
def tysG (g : GG) : List (ClassId × FieldType) := [(g.2.2 9, .int), (g.2.2 10, .boolean), (g.2.2 11, .long), (g.2.2 12, .object "WheelOnWheel$Ring"), (g.2.2 13, .object "WheelOnWheel$Wheel"), (g.2.2 14, .object "WheelOnWheel$Row")]
def Gok (g : GG) : Prop := ∀ i j, i < NC → j < NC → g.1 i = g.1 j → i = j
def Aw (g : GG) : Nat → Prop := fun a => ∃ q, q < NC ∧ a = g.1 q
theorem ws_at (g : GG) (σ : SS) {q : Nat} (h : q < NC) : (wsG g σ)[q]? = some (g.1 q, cellE g σ q) := by
  unfold wsG
  rw [List.getElem?_map, List.getElem?_range h]
  rfl
theorem ws_lt {g : GG} {σ : SS} {q : Nat} {x : Nat × va_E} (h : (wsG g σ)[q]? = some x) : q < NC ∧ x = (g.1 q, cellE g σ q) := by
  rcases Nat.lt_or_ge q NC with h1 | h1
  · rw [ws_at g σ h1] at h
    exact ⟨h1, (Option.some.inj h).symm⟩
  · rw [List.getElem?_eq_none (by simp [wsG]; exact h1)] at h
    cases h
theorem ws_D {g : GG} (σ : SS) (hG : Gok g) : va_D (Aw g) (wsG g σ) := by
  refine ⟨fun i j p q hi hj e => ?_, fun k q hk => ?_⟩
  · obtain ⟨h1, rfl⟩ := ws_lt hi
    obtain ⟨h2, rfl⟩ := ws_lt hj
    exact hG i j h1 h2 e
  · obtain ⟨h1, rfl⟩ := ws_lt hk
    exact ⟨k, h1, rfl⟩
def sI (σ : SS) (q j : Nat) (v : Int32) : SS := (fun a b => if a = q then (if b = j then v else σ.1 a b) else σ.1 a b, σ.2)
def sL (σ : SS) (q j : Nat) (v : Int64) : SS := (σ.1, fun a b => if a = q then (if b = j then v else σ.2 a b) else σ.2 a b)
def sC (σ : SS) (q : Nat) (f : Nat → Int32) : SS := (fun a b => if a = q then f b else σ.1 a b, σ.2)
theorem sI_eq (σ : SS) (q j : Nat) (v : Int32) : sI σ q j v = sC σ q (upd (σ.1 q) j v) := by
  refine Prod.ext ?_ rfl
  funext a b
  simp only [sI, sC, upd]
  by_cases h : a = q
  · subst h; simp
  · simp [h]
theorem cellE_other {g : GG} {σ σ' : SS} {q : Nat} (h1 : σ'.1 q = σ.1 q) (h2 : σ'.2 q = σ.2 q) : cellE g σ' q = cellE g σ q := by
  unfold cellE
  have e : cellV g σ' q = cellV g σ q := by funext j; unfold cellV; rw [h1]
  rw [e, h1, h2]
theorem ws_set {g : GG} {σ σ' : SS} {q : Nat} {e : va_E} (hq : q < NC) (he : cellE g σ' q = e) (h1 : ∀ a, a ≠ q → σ'.1 a = σ.1 a) (h2 : ∀ a, a ≠ q → σ'.2 a = σ.2 a) : (wsG g σ).set q (g.1 q, e) = wsG g σ' := by
  apply List.ext_getElem?
  intro k
  rw [List.getElem?_set]
  by_cases h : q = k
  · subst h
    rw [if_pos rfl, if_pos (by simp [wsG]; exact hq), ws_at g σ' hq, he]
  · rw [if_neg h]
    rcases Nat.lt_or_ge k NC with hk | hk
    · rw [ws_at g σ hk, ws_at g σ' hk, cellE_other (h1 k (Ne.symm h)) (h2 k (Ne.symm h))]
    · rw [List.getElem?_eq_none (by simp [wsG]; exact hk), List.getElem?_eq_none (by simp [wsG]; exact hk)]
theorem ce_obj {g : GG} {σ : SS} {q ci : Nat} (hk : kd q = ci) (hc : ci < 9) : cellE g σ q = .inr (ci, (List.range (ln q)).map (cellV g σ q)) := by
  unfold cellE
  rw [if_pos (by omega), hk]
theorem ce_int {g : GG} {σ : SS} {q c : Nat} (hk : kd q = c) (hc : c = 9 ∨ c = 10) : cellE g σ q = .inl (g.2.2 c, ln q, .inl (σ.1 q)) := by
  unfold cellE
  rw [if_neg (by omega), if_neg (by omega), if_pos (by omega), hk]
theorem ce_long {g : GG} {σ : SS} {q : Nat} (hk : kd q = 11) : cellE g σ q = .inl (g.2.2 11, ln q, .inr (.inl (σ.2 q))) := by
  unfold cellE
  rw [if_neg (by omega), if_pos (by omega), hk]
theorem ce_ref {g : GG} {σ : SS} {q c : Nat} (hk : kd q = c) (hc : 11 < c) : cellE g σ q = .inl (g.2.2 c, ln q, .inr (.inr (.inr (.inr (fun j => (rf q j).map g.1))))) := by
  unfold cellE
  rw [if_neg (by omega), if_neg (by omega), if_neg (by omega), hk]
theorem set_sI {g : GG} {σ : SS} {q j ci : Nat} {v : Int32} (hk : kd q = ci) (hc : ci < 9) (hj : j < ln q) (hr : rf q j = none) : (wsG g σ).set q (g.1 q, .inr (ci, ((List.range (ln q)).map (cellV g σ q)).set j (.int v))) = wsG g (sI σ q j v) := by
  refine ws_set (kd_lt hk (by omega)) ?_ (fun a h => ?_) (fun a h => rfl)
  · rw [ce_obj hk hc]
    congr 2
    apply List.ext_getElem?
    intro k
    rw [List.getElem?_set]
    by_cases h : j = k
    · subst h
      rw [if_pos rfl, if_pos (by simp; exact hj), List.getElem?_map, List.getElem?_range hj]
      simp [cellV, hr, sI]
    · rw [if_neg h]
      rcases Nat.lt_or_ge k (ln q) with hk | hk
      · rw [List.getElem?_map, List.getElem?_map, List.getElem?_range hk]
        simp [cellV, sI, Ne.symm h]
      · rw [List.getElem?_eq_none (by simp; exact hk), List.getElem?_eq_none (by simp; exact hk)]
  · funext b; simp [sI, h]
theorem set_sC {g : GG} {σ : SS} {q c : Nat} {f : Nat → Int32} (hk : kd q = c) (hc : c = 9 ∨ c = 10) : (wsG g σ).set q (g.1 q, .inl (g.2.2 c, ln q, .inl f)) = wsG g (sC σ q f) := by
  refine ws_set (kd_lt hk (by omega)) ?_ (fun a h => ?_) (fun a h => rfl)
  · rw [ce_int hk hc]
    congr 4
    funext b; simp [sC]
  · funext b; simp [sC, h]
theorem set_sL {g : GG} {σ : SS} {q j : Nat} {v : Int64} (hk : kd q = 11) : (wsG g σ).set q (g.1 q, .inl (g.2.2 11, ln q, .inr (.inl (vp_updL (σ.2 q) j v)))) = wsG g (sL σ q j v) := by
  refine ws_set (kd_lt hk (by omega)) ?_ (fun a h => rfl) (fun a h => ?_)
  · rw [ce_long hk]
    congr 5
    funext b; simp [sL, vp_updL]
  · funext b; simp [sL, h]
/-- the tables' words that a callee keeps -/
def lw_g : List Cond := lw_tbl.filter goodWord
theorem lw_good : lw_g.all goodWord = true := List.all_eq_true.mpr fun _ h => (List.mem_filter.mp h).2
theorem lw_in {w : Cond} (i : Nat) (h : lw_tbl[i]? = some w) (hg : goodWord w = true) : w ∈ lw_g := List.mem_filter.mpr ⟨List.mem_of_getElem? h, hg⟩
theorem lw_ins {ws : List Cond} (h : ∀ w ∈ ws, w ∈ lw_tbl) (hg : ws.all goodWord = true) : ∀ w ∈ ws, w ∈ lw_g := fun w hw => List.mem_filter.mpr ⟨h w hw, List.all_eq_true.mp hg w hw⟩
def rmD (d : Nat) : Room := { frames := d, cells := 0, slots := 0, locals := 48 * d }
def QcG (g : GG) (ρ : Option Value × SS) : Array Value → State → Outcome → State → Prop := fun _ st oc t => (oc = .returned ρ.1 ∧ va_P g.2.1 vwCl (wsG g ρ.2) t.heap ∧ va_K g.2.1 vwCl (tysG g) t) ∧ va_F (Aw g) st t
def PcG (g : GG) (As : List Value) (σ : SS) : Array Value → State → Prop := va_Pc As (fun U => Gok g ∧ va_P g.2.1 vwCl (wsG g σ) U.heap ∧ va_K g.2.1 vwCl (tysG g) U)
/-- a method's contract: with arguments As in the world σ it returns ρ.1, and leaves the world ρ.2 -/
def CT (l : Launch) (g : GG) (d : Nat) (y : MethodName) (cc : ByteArray) (nL : Nat) (ret : Option FieldType) (As : List Value) (σ : SS) (ρ : Option Value × SS) : Prop :=
  Met l y (Cond.code y cc nL ret :: lw_g) (rmD d) (PcG g As σ) (QcG g ρ) 0 0 (Aw g)
def VV (l : Launch) (g : GG) (d : Nat) (own : String) (cc : ByteArray) (nL : Nat) (ret : Option FieldType) (ρ : Option Value × SS) (pc : Nat) (lv : List (Nat × Value)) (st : List Value) (σ : SS) : Prop :=
  ∀ (p : Program) (e : Env) (s : State) (m : MethodId) (args : Array Value) (below : List Frame) (meth : Method) (c : Code) (H : Heap) (locs : List Loc) (ls : Array Slot),
    p.tables.exec = Jvm.exec → c.code = cc → c.maxLocals = nL → meth.sig.returnType = ret → meth.locks = false → s.vm.findClass own = some m.cls → (∀ w ∈ lw_g, w.before args s = true) →
    va_K g.2.1 vwCl (tysG g) s → Gok g → va_P g.2.1 vwCl (wsG g σ) H → va_S (Aw g) s.heap H locs → lv_has ls nL lv →
    W p l e (rmD d) s m args below meth c H locs 0 0 (MQ below (QcG g ρ) args s 0 0 (Aw g)) (F0 m pc ls st)
theorem CT.of {l : Launch} {g : GG} {d : Nat} {y : MethodName} {cc : ByteArray} {nL : Nat} {ret : Option FieldType} {As : List Value} {σ : SS} {ρ : Option Value × SS} {lv : List (Nat × Value)} (own : String) (hy : plainName y.cls = true) (hown : y.cls = own) (hn : (lg_sl As).length ≤ nL) (hl : lv_args 0 As = lv)
    (h : VV l g d own cc nL ret ρ 0 lv [] σ) : CT l g d y cc nL ret As σ ρ := by
  refine Met.ofW (cc := cc) (maxL := nL) (ret := ret) hy rfl ?_
  intro p e s m args below meth c s₁ B hml hv
  obtain ⟨rfl, hG, hP, hK⟩ := hv
  have hts0 := atoms_spec (ws := Cond.code y cc nL ret :: lw_g) B.pre
  rw [lg_entry_eq]
  subst hown
  exact h p e s m _ below meth c s.heap [] _ B.exec B.bytes hml B.returns B.notSynchronized (findClass_of_methodNamed B.named) (fun w hw => hts0 w (List.mem_cons_of_mem _ hw)) hK hG hP va_S.rf (hl ▸ lv_entry As hn)
theorem CT.blind {g : GG} {As : List Value} {σ : SS} : FrameBlind (PcG g As σ) := by
  intro a U f mk q
  obtain ⟨q0, q1, q2, q3⟩ := q
  exact ⟨q0, q1, q2, va_K.moved (u := U) (U := U.calling f mk a) (Vm.Alike.refl U.vm) q3⟩
def ck {α : Type} (c : Prop) [Decidable c] (x : Option α) : Option α := if c then x else none
theorem ck_some {α : Type} {c : Prop} [Decidable c] {x : Option α} {r : α} (h : ck c x = some r) : c ∧ x = some r := by
  unfold ck at h
  by_cases hc : c
  · rw [if_pos hc] at h; exact ⟨hc, h⟩
  · rw [if_neg hc] at h; cases h
theorem ck_pos {α : Type} {c : Prop} [Decidable c] {x : Option α} (h : c) : ck c x = x := if_pos h
def rvO (g : GG) (o : Option Nat) : Value := match o with | none => .null | some q => .ref (g.1 q)
section RULES
variable {l : Launch} {g : GG} {d : Nat} {own : String} {cc : ByteArray} {nL : Nat} {ret : Option FieldType} {ρ : Option Value × SS} {pc : Nat} {lv : List (Nat × Value)} {st : List Value} {σ : SS}

theorem vr_iadd {x y : Int32} (hd : decode cc pc = .ok (.iadd, 1)) (k : VV l g d own cc nL ret ρ (pc + 1) lv (.int (x + y) :: st) σ) : VV l g d own cc nL ret ρ pc lv (.int y :: .int x :: st) σ := by
  intro p e s m args below meth c H locs ls hx hb hml hr hlocks hown hts hK hG hP hS hl
  exact lv_iadd hx hb hd (k p e s m args below meth c H locs ls hx hb hml hr hlocks hown hts hK hG hP hS hl)
theorem vr_isub {x y : Int32} (hd : decode cc pc = .ok (.isub, 1)) (k : VV l g d own cc nL ret ρ (pc + 1) lv (.int (x - y) :: st) σ) : VV l g d own cc nL ret ρ pc lv (.int y :: .int x :: st) σ := by
  intro p e s m args below meth c H locs ls hx hb hml hr hlocks hown hts hK hG hP hS hl
  exact lv_isub hx hb hd (k p e s m args below meth c H locs ls hx hb hml hr hlocks hown hts hK hG hP hS hl)
theorem vr_imul {x y : Int32} (hd : decode cc pc = .ok (.imul, 1)) (k : VV l g d own cc nL ret ρ (pc + 1) lv (.int (x * y) :: st) σ) : VV l g d own cc nL ret ρ pc lv (.int y :: .int x :: st) σ := by
  intro p e s m args below meth c H locs ls hx hb hml hr hlocks hown hts hK hG hP hS hl
  exact lv_imul hx hb hd (k p e s m args below meth c H locs ls hx hb hml hr hlocks hown hts hK hG hP hS hl)
theorem vr_iand {x y : Int32} (hd : decode cc pc = .ok (.iand, 1)) (k : VV l g d own cc nL ret ρ (pc + 1) lv (.int (x &&& y) :: st) σ) : VV l g d own cc nL ret ρ pc lv (.int y :: .int x :: st) σ := by
  intro p e s m args below meth c H locs ls hx hb hml hr hlocks hown hts hK hG hP hS hl
  exact lv_iand hx hb hd (k p e s m args below meth c H locs ls hx hb hml hr hlocks hown hts hK hG hP hS hl)
theorem vr_ior {x y : Int32} (hd : decode cc pc = .ok (.ior, 1)) (k : VV l g d own cc nL ret ρ (pc + 1) lv (.int (x ||| y) :: st) σ) : VV l g d own cc nL ret ρ pc lv (.int y :: .int x :: st) σ := by
  intro p e s m args below meth c H locs ls hx hb hml hr hlocks hown hts hK hG hP hS hl
  exact lv_ior hx hb hd (k p e s m args below meth c H locs ls hx hb hml hr hlocks hown hts hK hG hP hS hl)
theorem vr_ishl {x y : Int32} (hd : decode cc pc = .ok (.ishl, 1)) (k : VV l g d own cc nL ret ρ (pc + 1) lv (.int (x <<< (y &&& 31)) :: st) σ) : VV l g d own cc nL ret ρ pc lv (.int y :: .int x :: st) σ := by
  intro p e s m args below meth c H locs ls hx hb hml hr hlocks hown hts hK hG hP hS hl
  exact lv_ishl hx hb hd (k p e s m args below meth c H locs ls hx hb hml hr hlocks hown hts hK hG hP hS hl)
theorem vr_ishr {x y : Int32} (hd : decode cc pc = .ok (.ishr, 1)) (k : VV l g d own cc nL ret ρ (pc + 1) lv (.int (x >>> (y &&& 31)) :: st) σ) : VV l g d own cc nL ret ρ pc lv (.int y :: .int x :: st) σ := by
  intro p e s m args below meth c H locs ls hx hb hml hr hlocks hown hts hK hG hP hS hl
  exact lv_ishr hx hb hd (k p e s m args below meth c H locs ls hx hb hml hr hlocks hown hts hK hG hP hS hl)
theorem vr_ladd {x y : Int64} (hd : decode cc pc = .ok (.ladd, 1)) (k : VV l g d own cc nL ret ρ (pc + 1) lv (.long (x + y) :: st) σ) : VV l g d own cc nL ret ρ pc lv (.long y :: .long x :: st) σ := by
  intro p e s m args below meth c H locs ls hx hb hml hr hlocks hown hts hK hG hP hS hl
  exact lv_ladd hx hb hd (k p e s m args below meth c H locs ls hx hb hml hr hlocks hown hts hK hG hP hS hl)
theorem vr_lsub {x y : Int64} (hd : decode cc pc = .ok (.lsub, 1)) (k : VV l g d own cc nL ret ρ (pc + 1) lv (.long (x - y) :: st) σ) : VV l g d own cc nL ret ρ pc lv (.long y :: .long x :: st) σ := by
  intro p e s m args below meth c H locs ls hx hb hml hr hlocks hown hts hK hG hP hS hl
  exact lv_lsub hx hb hd (k p e s m args below meth c H locs ls hx hb hml hr hlocks hown hts hK hG hP hS hl)
theorem vr_land {x y : Int64} (hd : decode cc pc = .ok (.land, 1)) (k : VV l g d own cc nL ret ρ (pc + 1) lv (.long (x &&& y) :: st) σ) : VV l g d own cc nL ret ρ pc lv (.long y :: .long x :: st) σ := by
  intro p e s m args below meth c H locs ls hx hb hml hr hlocks hown hts hK hG hP hS hl
  exact lv_land hx hb hd (k p e s m args below meth c H locs ls hx hb hml hr hlocks hown hts hK hG hP hS hl)
theorem vr_lor {x y : Int64} (hd : decode cc pc = .ok (.lor, 1)) (k : VV l g d own cc nL ret ρ (pc + 1) lv (.long (x ||| y) :: st) σ) : VV l g d own cc nL ret ρ pc lv (.long y :: .long x :: st) σ := by
  intro p e s m args below meth c H locs ls hx hb hml hr hlocks hown hts hK hG hP hS hl
  exact lv_lor hx hb hd (k p e s m args below meth c H locs ls hx hb hml hr hlocks hown hts hK hG hP hS hl)
theorem vr_ineg {x : Int32} (hd : decode cc pc = .ok (.ineg, 1)) (k : VV l g d own cc nL ret ρ (pc + 1) lv (.int (-x) :: st) σ) : VV l g d own cc nL ret ρ pc lv (.int x :: st) σ := by
  intro p e s m args below meth c H locs ls hx hb hml hr hlocks hown hts hK hG hP hS hl
  exact lv_ineg hx hb hd (k p e s m args below meth c H locs ls hx hb hml hr hlocks hown hts hK hG hP hS hl)
theorem vr_i2l {x : Int32} (hd : decode cc pc = .ok (.i2l, 1)) (k : VV l g d own cc nL ret ρ (pc + 1) lv (.long x.toInt64 :: st) σ) : VV l g d own cc nL ret ρ pc lv (.int x :: st) σ := by
  intro p e s m args below meth c H locs ls hx hb hml hr hlocks hown hts hK hG hP hS hl
  exact lv_i2l hx hb hd rfl (k p e s m args below meth c H locs ls hx hb hml hr hlocks hown hts hK hG hP hS hl)
theorem vr_lshl {x : Int64} {y : Int32} (hd : decode cc pc = .ok (.lshl, 1)) (k : VV l g d own cc nL ret ρ (pc + 1) lv (.long (x <<< (y.toInt64 &&& 63)) :: st) σ) : VV l g d own cc nL ret ρ pc lv (.int y :: .long x :: st) σ := by
  intro p e s m args below meth c H locs ls hx hb hml hr hlocks hown hts hK hG hP hS hl
  exact lv_lshl hx hb hd rfl (k p e s m args below meth c H locs ls hx hb hml hr hlocks hown hts hK hG hP hS hl)
theorem vr_lshr {x : Int64} {y : Int32} (hd : decode cc pc = .ok (.lshr, 1)) (k : VV l g d own cc nL ret ρ (pc + 1) lv (.long (x >>> (y.toInt64 &&& 63)) :: st) σ) : VV l g d own cc nL ret ρ pc lv (.int y :: .long x :: st) σ := by
  intro p e s m args below meth c H locs ls hx hb hml hr hlocks hown hts hK hG hP hS hl
  exact lv_lshr hx hb hd rfl (k p e s m args below meth c H locs ls hx hb hml hr hlocks hown hts hK hG hP hS hl)
theorem vr_lushr {x : Int64} {y : Int32} (hd : decode cc pc = .ok (.lushr, 1)) (k : VV l g d own cc nL ret ρ (pc + 1) lv (.long ((x.toUInt64 >>> (y.toInt64.toUInt64 &&& Int64.toUInt64 63)).toInt64) :: st) σ) : VV l g d own cc nL ret ρ pc lv (.int y :: .long x :: st) σ := by
  intro p e s m args below meth c H locs ls hx hb hml hr hlocks hown hts hK hG hP hS hl
  exact lv_lushr hx hb hd rfl (k p e s m args below meth c H locs ls hx hb hml hr hlocks hown hts hK hG hP hS hl)
theorem vr_lcmp {x y : Int64} (hd : decode cc pc = .ok (.lcmp, 1)) (k : VV l g d own cc nL ret ρ (pc + 1) lv (.int (lg_cmp x y) :: st) σ) : VV l g d own cc nL ret ρ pc lv (.long y :: .long x :: st) σ := by
  intro p e s m args below meth c H locs ls hx hb hml hr hlocks hown hts hK hG hP hS hl
  exact W.lcmp hx hb hd (k p e s m args below meth c H locs ls hx hb hml hr hlocks hown hts hK hG hP hS hl)
theorem vr_null  (hd : decode cc pc = .ok (.aconst_null, 1)) (k : VV l g d own cc nL ret ρ (pc + 1) lv (.null :: st) σ) : VV l g d own cc nL ret ρ pc lv (st) σ := by
  intro p e s m args below meth c H locs ls hx hb hml hr hlocks hown hts hK hG hP hS hl
  exact lv_null hx hb hd (k p e s m args below meth c H locs ls hx hb hml hr hlocks hown hts hK hG hP hS hl)
theorem vr_idiv {x y : Int32} (hd : decode cc pc = .ok (.idiv, 1)) (hne : ¬ y = 0) (k : VV l g d own cc nL ret ρ (pc + 1) lv (.int (x / y) :: st) σ) : VV l g d own cc nL ret ρ pc lv (.int y :: .int x :: st) σ := by
  intro p e s m args below meth c H locs ls hx hb hml hr hlocks hown hts hK hG hP hS hl
  exact lv_idiv hx hb hd hne (k p e s m args below meth c H locs ls hx hb hml hr hlocks hown hts hK hG hP hS hl)
theorem vr_irem {x y : Int32} (hd : decode cc pc = .ok (.irem, 1)) (hne : ¬ y = 0) (k : VV l g d own cc nL ret ρ (pc + 1) lv (.int (x - x / y * y) :: st) σ) : VV l g d own cc nL ret ρ pc lv (.int y :: .int x :: st) σ := by
  intro p e s m args below meth c H locs ls hx hb hml hr hlocks hown hts hK hG hP hS hl
  exact lv_irem hx hb hd hne (k p e s m args below meth c H locs ls hx hb hml hr hlocks hown hts hK hG hP hS hl)
theorem vr_iconst {n : Int} (v : Int32) (hd : decode cc pc = .ok (.iconst n, 1)) (hv : Int32.ofInt n = v) (k : VV l g d own cc nL ret ρ (pc + 1) lv (.int v :: st) σ) : VV l g d own cc nL ret ρ pc lv st σ := by
  intro p e s m args below meth c H locs ls hx hb hml hr hlocks hown hts hK hG hP hS hl
  exact lv_iconst hx hb hd hv (k p e s m args below meth c H locs ls hx hb hml hr hlocks hown hts hK hG hP hS hl)
theorem vr_bipush {n : Int} (v : Int32) (hd : decode cc pc = .ok (.bipush n, 2)) (hv : (Int8.ofInt n).toInt32 = v) (k : VV l g d own cc nL ret ρ (pc + 2) lv (.int v :: st) σ) : VV l g d own cc nL ret ρ pc lv st σ := by
  intro p e s m args below meth c H locs ls hx hb hml hr hlocks hown hts hK hG hP hS hl
  exact lv_bipush hx hb hd hv (k p e s m args below meth c H locs ls hx hb hml hr hlocks hown hts hK hG hP hS hl)
theorem vr_sipush {n : Int} (v : Int32) (hd : decode cc pc = .ok (.sipush n, 3)) (hv : (Int16.ofInt n).toInt32 = v) (k : VV l g d own cc nL ret ρ (pc + 3) lv (.int v :: st) σ) : VV l g d own cc nL ret ρ pc lv st σ := by
  intro p e s m args below meth c H locs ls hx hb hml hr hlocks hown hts hK hG hP hS hl
  exact lv_sipush hx hb hd hv (k p e s m args below meth c H locs ls hx hb hml hr hlocks hown hts hK hG hP hS hl)
theorem vr_lconst {n : Fin 2} (v : Int64) (hd : decode cc pc = .ok (.lconst n, 1)) (hv : Int64.ofNat (n : Nat) = v) (k : VV l g d own cc nL ret ρ (pc + 1) lv (.long v :: st) σ) : VV l g d own cc nL ret ρ pc lv st σ := by
  intro p e s m args below meth c H locs ls hx hb hml hr hlocks hown hts hK hG hP hS hl
  exact lv_lconst hx hb hd hv (k p e s m args below meth c H locs ls hx hb hml hr hlocks hown hts hK hG hP hS hl)
theorem vr_ldc {index : Nat} (v : Int32) (hd : decode cc pc = .ok (.ldc index, 2)) (hc : Cond.constant own index v ∈ lw_g) (k : VV l g d own cc nL ret ρ (pc + 2) lv (.int v :: st) σ) : VV l g d own cc nL ret ρ pc lv st σ := by
  intro p e s m args below meth c H locs ls hx hb hml hr hlocks hown hts hK hG hP hS hl
  exact lv_ldc hx hb hown (hts _ hc) hd (k p e s m args below meth c H locs ls hx hb hml hr hlocks hown hts hK hG hP hS hl)
theorem vr_ldcw {index : Nat} (v : Int32) (hd : decode cc pc = .ok (.ldc_w index, 3)) (hc : Cond.constant own index v ∈ lw_g) (k : VV l g d own cc nL ret ρ (pc + 3) lv (.int v :: st) σ) : VV l g d own cc nL ret ρ pc lv st σ := by
  intro p e s m args below meth c H locs ls hx hb hml hr hlocks hown hts hK hG hP hS hl
  exact lv_ldcw hx hb hown (hts _ hc) hd (k p e s m args below meth c H locs ls hx hb hml hr hlocks hown hts hK hG hP hS hl)
theorem vr_ldc2 {index : Nat} (v : Int64) (hd : decode cc pc = .ok (.ldc2_w index, 3)) (hc : Cond.constantLong own index v ∈ lw_g) (k : VV l g d own cc nL ret ρ (pc + 3) lv (.long v :: st) σ) : VV l g d own cc nL ret ρ pc lv st σ := by
  intro p e s m args below meth c H locs ls hx hb hml hr hlocks hown hts hK hG hP hS hl
  exact lv_ldc2 hx hb hown (hts _ hc) hd (k p e s m args below meth c H locs ls hx hb hml hr hlocks hown hts hK hG hP hS hl)
theorem vr_iload_n {n : Fin 4} {i : Nat} {x : Int32} (j : Nat) (hd : decode cc pc = .ok (.iload_n n, 1)) (hi : (n : Nat) = i) (hj : lv[j]? = some (i, .int x)) (k : VV l g d own cc nL ret ρ (pc + 1) lv (.int x :: st) σ) : VV l g d own cc nL ret ρ pc lv st σ := by
  intro p e s m args below meth c H locs ls hx hb hml hr hlocks hown hts hK hG hP hS hl
  exact lv_iload_n hx hb hd hi (lv_at hl j hj) (k p e s m args below meth c H locs ls hx hb hml hr hlocks hown hts hK hG hP hS hl)
theorem vr_iload {i : Nat} {x : Int32} (j : Nat) (hd : decode cc pc = .ok (.iload i, 2)) (hj : lv[j]? = some (i, .int x)) (k : VV l g d own cc nL ret ρ (pc + 2) lv (.int x :: st) σ) : VV l g d own cc nL ret ρ pc lv st σ := by
  intro p e s m args below meth c H locs ls hx hb hml hr hlocks hown hts hK hG hP hS hl
  exact lv_iload hx hb hd (lv_at hl j hj) (k p e s m args below meth c H locs ls hx hb hml hr hlocks hown hts hK hG hP hS hl)
theorem vr_lload_n {n : Fin 4} {i : Nat} {x : Int64} (j : Nat) (hd : decode cc pc = .ok (.lload_n n, 1)) (hi : (n : Nat) = i) (hj : lv[j]? = some (i, .long x)) (k : VV l g d own cc nL ret ρ (pc + 1) lv (.long x :: st) σ) : VV l g d own cc nL ret ρ pc lv st σ := by
  intro p e s m args below meth c H locs ls hx hb hml hr hlocks hown hts hK hG hP hS hl
  exact lv_lload_n hx hb hd hi (lv_at hl j hj) (k p e s m args below meth c H locs ls hx hb hml hr hlocks hown hts hK hG hP hS hl)
theorem vr_lload {i : Nat} {x : Int64} (j : Nat) (hd : decode cc pc = .ok (.lload i, 2)) (hj : lv[j]? = some (i, .long x)) (k : VV l g d own cc nL ret ρ (pc + 2) lv (.long x :: st) σ) : VV l g d own cc nL ret ρ pc lv st σ := by
  intro p e s m args below meth c H locs ls hx hb hml hr hlocks hown hts hK hG hP hS hl
  exact lv_lload hx hb hd (lv_at hl j hj) (k p e s m args below meth c H locs ls hx hb hml hr hlocks hown hts hK hG hP hS hl)
theorem vr_aload_n {n : Fin 4} {i : Nat} {x : Nat} (j : Nat) (hd : decode cc pc = .ok (.aload_n n, 1)) (hi : (n : Nat) = i) (hj : lv[j]? = some (i, .ref x)) (k : VV l g d own cc nL ret ρ (pc + 1) lv (.ref x :: st) σ) : VV l g d own cc nL ret ρ pc lv st σ := by
  intro p e s m args below meth c H locs ls hx hb hml hr hlocks hown hts hK hG hP hS hl
  exact lv_aload_n hx hb hd hi (lv_at hl j hj) (k p e s m args below meth c H locs ls hx hb hml hr hlocks hown hts hK hG hP hS hl)
theorem vr_aload {i : Nat} {x : Nat} (j : Nat) (hd : decode cc pc = .ok (.aload i, 2)) (hj : lv[j]? = some (i, .ref x)) (k : VV l g d own cc nL ret ρ (pc + 2) lv (.ref x :: st) σ) : VV l g d own cc nL ret ρ pc lv st σ := by
  intro p e s m args below meth c H locs ls hx hb hml hr hlocks hown hts hK hG hP hS hl
  exact lv_aload hx hb hd (lv_at hl j hj) (k p e s m args below meth c H locs ls hx hb hml hr hlocks hown hts hK hG hP hS hl)
theorem vr_aload_nO {n : Fin 4} {i : Nat} {o : Option Nat} (j : Nat) (hd : decode cc pc = .ok (.aload_n n, 1)) (hi : (n : Nat) = i) (hj : lv[j]? = some (i, rvO g o)) (k : VV l g d own cc nL ret ρ (pc + 1) lv (rvO g o :: st) σ) : VV l g d own cc nL ret ρ pc lv st σ := by
  intro p e s m args below meth c H locs ls hx hb hml hr hlocks hown hts hK hG hP hS hl
  cases o with
  | none => exact lv_aload_nN hx hb hd hi (lv_at hl j hj) (k p e s m args below meth c H locs ls hx hb hml hr hlocks hown hts hK hG hP hS hl)
  | some q => exact lv_aload_n hx hb hd hi (lv_at hl j hj) (k p e s m args below meth c H locs ls hx hb hml hr hlocks hown hts hK hG hP hS hl)
theorem vr_aloadO {i : Nat} {o : Option Nat} (j : Nat) (hd : decode cc pc = .ok (.aload i, 2)) (hj : lv[j]? = some (i, rvO g o)) (k : VV l g d own cc nL ret ρ (pc + 2) lv (rvO g o :: st) σ) : VV l g d own cc nL ret ρ pc lv st σ := by
  intro p e s m args below meth c H locs ls hx hb hml hr hlocks hown hts hK hG hP hS hl
  cases o with
  | none => exact lv_aloadN hx hb hd (lv_at hl j hj) (k p e s m args below meth c H locs ls hx hb hml hr hlocks hown hts hK hG hP hS hl)
  | some q => exact lv_aload hx hb hd (lv_at hl j hj) (k p e s m args below meth c H locs ls hx hb hml hr hlocks hown hts hK hG hP hS hl)
theorem vr_istore_n {n : Fin 4} {i : Nat} {x : Int32} (lv' : List (Nat × Value)) (hd : decode cc pc = .ok (.istore_n n, 1)) (hi : (n : Nat) = i) (hn : i < nL) (hv : (i, Value.int x) :: lv.filter (fun q => !(q.1 == i) && !(q.1 + 1 == i && q.2.category == 2)) = lv') (k : VV l g d own cc nL ret ρ (pc + 1) lv' st σ) : VV l g d own cc nL ret ρ pc lv (.int x :: st) σ := by
  intro p e s m args below meth c H locs ls hx hb hml hr hlocks hown hts hK hG hP hS hl
  exact lv_istore_n hx hb hd hi hl hn hv (fun ls hl => k p e s m args below meth c H locs ls hx hb hml hr hlocks hown hts hK hG hP hS hl)
theorem vr_istore {i : Nat} {x : Int32} (lv' : List (Nat × Value)) (hd : decode cc pc = .ok (.istore i, 2)) (hn : i < nL) (hv : (i, Value.int x) :: lv.filter (fun q => !(q.1 == i) && !(q.1 + 1 == i && q.2.category == 2)) = lv') (k : VV l g d own cc nL ret ρ (pc + 2) lv' st σ) : VV l g d own cc nL ret ρ pc lv (.int x :: st) σ := by
  intro p e s m args below meth c H locs ls hx hb hml hr hlocks hown hts hK hG hP hS hl
  exact lv_istore hx hb hd hl hn hv (fun ls hl => k p e s m args below meth c H locs ls hx hb hml hr hlocks hown hts hK hG hP hS hl)
theorem vr_lstore_n {n : Fin 4} {i : Nat} {x : Int64} (lv' : List (Nat × Value)) (hd : decode cc pc = .ok (.lstore_n n, 1)) (hi : (n : Nat) = i) (hn : i + 1 < nL) (hv : (i, Value.long x) :: lv.filter (fun q => !(q.1 == i) && (!(q.1 == i + 1) && !(q.1 + 1 == i && q.2.category == 2))) = lv') (k : VV l g d own cc nL ret ρ (pc + 1) lv' st σ) : VV l g d own cc nL ret ρ pc lv (.long x :: st) σ := by
  intro p e s m args below meth c H locs ls hx hb hml hr hlocks hown hts hK hG hP hS hl
  exact lv_lstore_n hx hb hd hi hl hn hv (fun ls hl => k p e s m args below meth c H locs ls hx hb hml hr hlocks hown hts hK hG hP hS hl)
theorem vr_lstore {i : Nat} {x : Int64} (lv' : List (Nat × Value)) (hd : decode cc pc = .ok (.lstore i, 2)) (hn : i + 1 < nL) (hv : (i, Value.long x) :: lv.filter (fun q => !(q.1 == i) && (!(q.1 == i + 1) && !(q.1 + 1 == i && q.2.category == 2))) = lv') (k : VV l g d own cc nL ret ρ (pc + 2) lv' st σ) : VV l g d own cc nL ret ρ pc lv (.long x :: st) σ := by
  intro p e s m args below meth c H locs ls hx hb hml hr hlocks hown hts hK hG hP hS hl
  exact lv_lstore hx hb hd hl hn hv (fun ls hl => k p e s m args below meth c H locs ls hx hb hml hr hlocks hown hts hK hG hP hS hl)
theorem vr_astore_n {n : Fin 4} {i : Nat} {x : Nat} (lv' : List (Nat × Value)) (hd : decode cc pc = .ok (.astore_n n, 1)) (hi : (n : Nat) = i) (hn : i < nL) (hv : (i, Value.ref x) :: lv.filter (fun q => !(q.1 == i) && !(q.1 + 1 == i && q.2.category == 2)) = lv') (k : VV l g d own cc nL ret ρ (pc + 1) lv' st σ) : VV l g d own cc nL ret ρ pc lv (.ref x :: st) σ := by
  intro p e s m args below meth c H locs ls hx hb hml hr hlocks hown hts hK hG hP hS hl
  exact lv_astore_n hx hb hd hi hl hn hv (fun ls hl => k p e s m args below meth c H locs ls hx hb hml hr hlocks hown hts hK hG hP hS hl)
theorem vr_astore {i : Nat} {x : Nat} (lv' : List (Nat × Value)) (hd : decode cc pc = .ok (.astore i, 2)) (hn : i < nL) (hv : (i, Value.ref x) :: lv.filter (fun q => !(q.1 == i) && !(q.1 + 1 == i && q.2.category == 2)) = lv') (k : VV l g d own cc nL ret ρ (pc + 2) lv' st σ) : VV l g d own cc nL ret ρ pc lv (.ref x :: st) σ := by
  intro p e s m args below meth c H locs ls hx hb hml hr hlocks hown hts hK hG hP hS hl
  exact lv_astore hx hb hd hl hn hv (fun ls hl => k p e s m args below meth c H locs ls hx hb hml hr hlocks hown hts hK hG hP hS hl)
theorem vr_astore_nO {n : Fin 4} {i : Nat} {o : Option Nat} (lv' : List (Nat × Value)) (hd : decode cc pc = .ok (.astore_n n, 1)) (hi : (n : Nat) = i) (hn : i < nL) (hv : (i, rvO g o) :: lv.filter (fun q => !(q.1 == i) && !(q.1 + 1 == i && q.2.category == 2)) = lv') (k : VV l g d own cc nL ret ρ (pc + 1) lv' st σ) : VV l g d own cc nL ret ρ pc lv (rvO g o :: st) σ := by
  intro p e s m args below meth c H locs ls hx hb hml hr hlocks hown hts hK hG hP hS hl
  cases o with
  | none => exact lv_astore_nN hx hb hd hi hl hn hv (fun ls hl => k p e s m args below meth c H locs ls hx hb hml hr hlocks hown hts hK hG hP hS hl)
  | some q => exact lv_astore_n hx hb hd hi hl hn hv (fun ls hl => k p e s m args below meth c H locs ls hx hb hml hr hlocks hown hts hK hG hP hS hl)
theorem vr_astoreO {i : Nat} {o : Option Nat} (lv' : List (Nat × Value)) (hd : decode cc pc = .ok (.astore i, 2)) (hn : i < nL) (hv : (i, rvO g o) :: lv.filter (fun q => !(q.1 == i) && !(q.1 + 1 == i && q.2.category == 2)) = lv') (k : VV l g d own cc nL ret ρ (pc + 2) lv' st σ) : VV l g d own cc nL ret ρ pc lv (rvO g o :: st) σ := by
  intro p e s m args below meth c H locs ls hx hb hml hr hlocks hown hts hK hG hP hS hl
  cases o with
  | none => exact lv_astoreN hx hb hd hl hn hv (fun ls hl => k p e s m args below meth c H locs ls hx hb hml hr hlocks hown hts hK hG hP hS hl)
  | some q => exact lv_astore hx hb hd hl hn hv (fun ls hl => k p e s m args below meth c H locs ls hx hb hml hr hlocks hown hts hK hG hP hS hl)
theorem vr_iinc {i : Nat} {n : Int} {x v : Int32} (lv' : List (Nat × Value)) (j : Nat) (hd : decode cc pc = .ok (.iinc i n, 3)) (hj : lv[j]? = some (i, .int x)) (he : x + Int32.ofInt n = v) (hn : i < nL) (hv : (i, Value.int v) :: lv.filter (fun q => !(q.1 == i) && !(q.1 + 1 == i && q.2.category == 2)) = lv') (k : VV l g d own cc nL ret ρ (pc + 3) lv' st σ) : VV l g d own cc nL ret ρ pc lv st σ := by
  intro p e s m args below meth c H locs ls hx hb hml hr hlocks hown hts hK hG hP hS hl
  exact lv_iinc hx hb hd hl hj he hn hv (fun ls hl => k p e s m args below meth c H locs ls hx hb hml hr hlocks hown hts hK hG hP hS hl)
theorem vr_sub (is : List Nat) (lv' : List (Nat × Value)) (h : lv_pick lv is = lv') (k : VV l g d own cc nL ret ρ pc lv' st σ) : VV l g d own cc nL ret ρ pc lv st σ := by
  intro p e s m args below meth c H locs ls hx hb hml hr hlocks hown hts hK hG hP hS hl0
  have hl := lv_sub hl0 is h
  exact k p e s m args below meth c H locs ls hx hb hml hr hlocks hown hts hK hG hP hS hl
theorem vr_goto {off : Int} (tgt : Nat) (hd : decode cc pc = .ok (.goto off, 3)) (ht : (pc : Int) + off = (tgt : Int)) (k : VV l g d own cc nL ret ρ tgt lv st σ) : VV l g d own cc nL ret ρ pc lv st σ := by
  intro p e s m args below meth c H locs ls hx hb hml hr hlocks hown hts hK hG hP hS hl
  exact lv_goto hx hb hd ht (k p e s m args below meth c H locs ls hx hb hml hr hlocks hown hts hK hG hP hS hl)
theorem vr_dup {v : Value} (hd : decode cc pc = .ok (.dup, 1)) (hc : v.category = 1) (k : VV l g d own cc nL ret ρ (pc + 1) lv (v :: v :: st) σ) : VV l g d own cc nL ret ρ pc lv (v :: st) σ := by
  intro p e s m args below meth c H locs ls hx hb hml hr hlocks hown hts hK hG hP hS hl
  exact lv_dup hx hb hd hc (k p e s m args below meth c H locs ls hx hb hml hr hlocks hown hts hK hG hP hS hl)
theorem vr_pop {v : Value} (hd : decode cc pc = .ok (.pop, 1)) (hc : v.category = 1) (k : VV l g d own cc nL ret ρ (pc + 1) lv st σ) : VV l g d own cc nL ret ρ pc lv (v :: st) σ := by
  intro p e s m args below meth c H locs ls hx hb hml hr hlocks hown hts hK hG hP hS hl
  exact lv_pop hx hb hd hc (k p e s m args below meth c H locs ls hx hb hml hr hlocks hown hts hK hG hP hS hl)
theorem vr_dup_x1 {v w : Value} (hd : decode cc pc = .ok (.dup_x1, 1)) (hc : v.category = 1) (hc2 : w.category = 1) (k : VV l g d own cc nL ret ρ (pc + 1) lv (v :: w :: v :: st) σ) : VV l g d own cc nL ret ρ pc lv (v :: w :: st) σ := by
  intro p e s m args below meth c H locs ls hx hb hml hr hlocks hown hts hK hG hP hS hl
  exact lv_dup_x1 hx hb hd hc hc2 (k p e s m args below meth c H locs ls hx hb hml hr hlocks hown hts hK hG hP hS hl)
theorem vr_dup2 {v w : Value} (hd : decode cc pc = .ok (.dup2, 1)) (hc : v.category = 1) (hc2 : w.category = 1) (k : VV l g d own cc nL ret ρ (pc + 1) lv (v :: w :: v :: w :: st) σ) : VV l g d own cc nL ret ρ pc lv (v :: w :: st) σ := by
  intro p e s m args below meth c H locs ls hx hb hml hr hlocks hown hts hK hG hP hS hl
  exact lv_dup2_11 hx hb hd hc hc2 (k p e s m args below meth c H locs ls hx hb hml hr hlocks hown hts hK hG hP hS hl)
theorem vr_if_eq {x : Int32} {off : Int} (tgt : Nat) (hd : decode cc pc = .ok (.ifCond .eq off, 3)) (ht : (pc : Int) + off = (tgt : Int)) (kt : x = 0 → VV l g d own cc nL ret ρ tgt lv st σ) (kf : ¬ x = 0 → VV l g d own cc nL ret ρ (pc + 3) lv st σ) : VV l g d own cc nL ret ρ pc lv (.int x :: st) σ := by
  intro p e s m args below meth c H locs ls hx hb hml hr hlocks hown hts hK hG hP hS hl
  exact lv_if_eq hx hb hd ht (fun q => kt q p e s m args below meth c H locs ls hx hb hml hr hlocks hown hts hK hG hP hS hl) (fun q => kf q p e s m args below meth c H locs ls hx hb hml hr hlocks hown hts hK hG hP hS hl)
theorem vr_icmp_eq {x y : Int32} {off : Int} (tgt : Nat) (hd : decode cc pc = .ok (.if_icmp .eq off, 3)) (ht : (pc : Int) + off = (tgt : Int)) (kt : x = y → VV l g d own cc nL ret ρ tgt lv st σ) (kf : ¬ x = y → VV l g d own cc nL ret ρ (pc + 3) lv st σ) : VV l g d own cc nL ret ρ pc lv (.int y :: .int x :: st) σ := by
  intro p e s m args below meth c H locs ls hx hb hml hr hlocks hown hts hK hG hP hS hl
  exact lv_icmp_eq hx hb hd ht (fun q => kt q p e s m args below meth c H locs ls hx hb hml hr hlocks hown hts hK hG hP hS hl) (fun q => kf q p e s m args below meth c H locs ls hx hb hml hr hlocks hown hts hK hG hP hS hl)
theorem vr_if_ne {x : Int32} {off : Int} (tgt : Nat) (hd : decode cc pc = .ok (.ifCond .ne off, 3)) (ht : (pc : Int) + off = (tgt : Int)) (kt : ¬ x = 0 → VV l g d own cc nL ret ρ tgt lv st σ) (kf : x = 0 → VV l g d own cc nL ret ρ (pc + 3) lv st σ) : VV l g d own cc nL ret ρ pc lv (.int x :: st) σ := by
  intro p e s m args below meth c H locs ls hx hb hml hr hlocks hown hts hK hG hP hS hl
  exact lv_if_ne hx hb hd ht (fun q => kt q p e s m args below meth c H locs ls hx hb hml hr hlocks hown hts hK hG hP hS hl) (fun q => kf q p e s m args below meth c H locs ls hx hb hml hr hlocks hown hts hK hG hP hS hl)
theorem vr_icmp_ne {x y : Int32} {off : Int} (tgt : Nat) (hd : decode cc pc = .ok (.if_icmp .ne off, 3)) (ht : (pc : Int) + off = (tgt : Int)) (kt : ¬ x = y → VV l g d own cc nL ret ρ tgt lv st σ) (kf : x = y → VV l g d own cc nL ret ρ (pc + 3) lv st σ) : VV l g d own cc nL ret ρ pc lv (.int y :: .int x :: st) σ := by
  intro p e s m args below meth c H locs ls hx hb hml hr hlocks hown hts hK hG hP hS hl
  exact lv_icmp_ne hx hb hd ht (fun q => kt q p e s m args below meth c H locs ls hx hb hml hr hlocks hown hts hK hG hP hS hl) (fun q => kf q p e s m args below meth c H locs ls hx hb hml hr hlocks hown hts hK hG hP hS hl)
theorem vr_if_lt {x : Int32} {off : Int} (tgt : Nat) (hd : decode cc pc = .ok (.ifCond .lt off, 3)) (ht : (pc : Int) + off = (tgt : Int)) (kt : x < 0 → VV l g d own cc nL ret ρ tgt lv st σ) (kf : ¬ x < 0 → VV l g d own cc nL ret ρ (pc + 3) lv st σ) : VV l g d own cc nL ret ρ pc lv (.int x :: st) σ := by
  intro p e s m args below meth c H locs ls hx hb hml hr hlocks hown hts hK hG hP hS hl
  exact lv_if_lt hx hb hd ht (fun q => kt q p e s m args below meth c H locs ls hx hb hml hr hlocks hown hts hK hG hP hS hl) (fun q => kf q p e s m args below meth c H locs ls hx hb hml hr hlocks hown hts hK hG hP hS hl)
theorem vr_icmp_lt {x y : Int32} {off : Int} (tgt : Nat) (hd : decode cc pc = .ok (.if_icmp .lt off, 3)) (ht : (pc : Int) + off = (tgt : Int)) (kt : x < y → VV l g d own cc nL ret ρ tgt lv st σ) (kf : ¬ x < y → VV l g d own cc nL ret ρ (pc + 3) lv st σ) : VV l g d own cc nL ret ρ pc lv (.int y :: .int x :: st) σ := by
  intro p e s m args below meth c H locs ls hx hb hml hr hlocks hown hts hK hG hP hS hl
  exact lv_icmp_lt hx hb hd ht (fun q => kt q p e s m args below meth c H locs ls hx hb hml hr hlocks hown hts hK hG hP hS hl) (fun q => kf q p e s m args below meth c H locs ls hx hb hml hr hlocks hown hts hK hG hP hS hl)
theorem vr_if_ge {x : Int32} {off : Int} (tgt : Nat) (hd : decode cc pc = .ok (.ifCond .ge off, 3)) (ht : (pc : Int) + off = (tgt : Int)) (kt : 0 ≤ x → VV l g d own cc nL ret ρ tgt lv st σ) (kf : ¬ 0 ≤ x → VV l g d own cc nL ret ρ (pc + 3) lv st σ) : VV l g d own cc nL ret ρ pc lv (.int x :: st) σ := by
  intro p e s m args below meth c H locs ls hx hb hml hr hlocks hown hts hK hG hP hS hl
  exact lv_if_ge hx hb hd ht (fun q => kt q p e s m args below meth c H locs ls hx hb hml hr hlocks hown hts hK hG hP hS hl) (fun q => kf q p e s m args below meth c H locs ls hx hb hml hr hlocks hown hts hK hG hP hS hl)
theorem vr_icmp_ge {x y : Int32} {off : Int} (tgt : Nat) (hd : decode cc pc = .ok (.if_icmp .ge off, 3)) (ht : (pc : Int) + off = (tgt : Int)) (kt : y ≤ x → VV l g d own cc nL ret ρ tgt lv st σ) (kf : ¬ y ≤ x → VV l g d own cc nL ret ρ (pc + 3) lv st σ) : VV l g d own cc nL ret ρ pc lv (.int y :: .int x :: st) σ := by
  intro p e s m args below meth c H locs ls hx hb hml hr hlocks hown hts hK hG hP hS hl
  exact lv_icmp_ge hx hb hd ht (fun q => kt q p e s m args below meth c H locs ls hx hb hml hr hlocks hown hts hK hG hP hS hl) (fun q => kf q p e s m args below meth c H locs ls hx hb hml hr hlocks hown hts hK hG hP hS hl)
theorem vr_if_gt {x : Int32} {off : Int} (tgt : Nat) (hd : decode cc pc = .ok (.ifCond .gt off, 3)) (ht : (pc : Int) + off = (tgt : Int)) (kt : 0 < x → VV l g d own cc nL ret ρ tgt lv st σ) (kf : ¬ 0 < x → VV l g d own cc nL ret ρ (pc + 3) lv st σ) : VV l g d own cc nL ret ρ pc lv (.int x :: st) σ := by
  intro p e s m args below meth c H locs ls hx hb hml hr hlocks hown hts hK hG hP hS hl
  exact lv_if_gt hx hb hd ht (fun q => kt q p e s m args below meth c H locs ls hx hb hml hr hlocks hown hts hK hG hP hS hl) (fun q => kf q p e s m args below meth c H locs ls hx hb hml hr hlocks hown hts hK hG hP hS hl)
theorem vr_icmp_gt {x y : Int32} {off : Int} (tgt : Nat) (hd : decode cc pc = .ok (.if_icmp .gt off, 3)) (ht : (pc : Int) + off = (tgt : Int)) (kt : y < x → VV l g d own cc nL ret ρ tgt lv st σ) (kf : ¬ y < x → VV l g d own cc nL ret ρ (pc + 3) lv st σ) : VV l g d own cc nL ret ρ pc lv (.int y :: .int x :: st) σ := by
  intro p e s m args below meth c H locs ls hx hb hml hr hlocks hown hts hK hG hP hS hl
  exact lv_icmp_gt hx hb hd ht (fun q => kt q p e s m args below meth c H locs ls hx hb hml hr hlocks hown hts hK hG hP hS hl) (fun q => kf q p e s m args below meth c H locs ls hx hb hml hr hlocks hown hts hK hG hP hS hl)
theorem vr_if_le {x : Int32} {off : Int} (tgt : Nat) (hd : decode cc pc = .ok (.ifCond .le off, 3)) (ht : (pc : Int) + off = (tgt : Int)) (kt : x ≤ 0 → VV l g d own cc nL ret ρ tgt lv st σ) (kf : ¬ x ≤ 0 → VV l g d own cc nL ret ρ (pc + 3) lv st σ) : VV l g d own cc nL ret ρ pc lv (.int x :: st) σ := by
  intro p e s m args below meth c H locs ls hx hb hml hr hlocks hown hts hK hG hP hS hl
  exact lv_if_le hx hb hd ht (fun q => kt q p e s m args below meth c H locs ls hx hb hml hr hlocks hown hts hK hG hP hS hl) (fun q => kf q p e s m args below meth c H locs ls hx hb hml hr hlocks hown hts hK hG hP hS hl)
theorem vr_icmp_le {x y : Int32} {off : Int} (tgt : Nat) (hd : decode cc pc = .ok (.if_icmp .le off, 3)) (ht : (pc : Int) + off = (tgt : Int)) (kt : x ≤ y → VV l g d own cc nL ret ρ tgt lv st σ) (kf : ¬ x ≤ y → VV l g d own cc nL ret ρ (pc + 3) lv st σ) : VV l g d own cc nL ret ρ pc lv (.int y :: .int x :: st) σ := by
  intro p e s m args below meth c H locs ls hx hb hml hr hlocks hown hts hK hG hP hS hl
  exact lv_icmp_le hx hb hd ht (fun q => kt q p e s m args below meth c H locs ls hx hb hml hr hlocks hown hts hK hG hP hS hl) (fun q => kf q p e s m args below meth c H locs ls hx hb hml hr hlocks hown hts hK hG hP hS hl)
theorem vr_ifnull {o : Option Nat} {off : Int} (tgt : Nat) (hd : decode cc pc = .ok (.ifnull off, 3)) (ht : (pc : Int) + off = (tgt : Int)) (kt : o = none → VV l g d own cc nL ret ρ tgt lv st σ) (kf : ∀ q, o = some q → VV l g d own cc nL ret ρ (pc + 3) lv st σ) : VV l g d own cc nL ret ρ pc lv (rvO g o :: st) σ := by
  intro p e s m args below meth c H locs ls hx hb hml hr hlocks hown hts hK hG hP hS hl
  cases o with
  | none => exact lv_ifnullN hx hb hd ht (kt rfl p e s m args below meth c H locs ls hx hb hml hr hlocks hown hts hK hG hP hS hl)
  | some q => exact lv_ifnull hx hb hd (kf q rfl p e s m args below meth c H locs ls hx hb hml hr hlocks hown hts hK hG hP hS hl)
theorem vr_ifnonnull {o : Option Nat} {off : Int} (tgt : Nat) (hd : decode cc pc = .ok (.ifnonnull off, 3)) (ht : (pc : Int) + off = (tgt : Int)) (kt : ∀ q, o = some q → VV l g d own cc nL ret ρ tgt lv st σ) (kf : o = none → VV l g d own cc nL ret ρ (pc + 3) lv st σ) : VV l g d own cc nL ret ρ pc lv (rvO g o :: st) σ := by
  intro p e s m args below meth c H locs ls hx hb hml hr hlocks hown hts hK hG hP hS hl
  cases o with
  | none => exact lv_ifnonnullN hx hb hd (kf rfl p e s m args below meth c H locs ls hx hb hml hr hlocks hown hts hK hG hP hS hl)
  | some q => exact lv_ifnonnull hx hb hd ht (kt q rfl p e s m args below meth c H locs ls hx hb hml hr hlocks hown hts hK hG hP hS hl)
theorem vr_tableIn {dflt lo hi : Int} {offs : Array Int} {len : Nat} {x : Int32} (off : Int) (tgt : Nat) (hd : decode cc pc = .ok (.tableswitch dflt lo hi offs, len)) (h1 : ¬ x.toInt < lo) (h2 : ¬ hi < x.toInt) (ho : offs[(x.toInt - lo).toNat]? = some off) (ht : (pc : Int) + off = (tgt : Int)) (k : VV l g d own cc nL ret ρ tgt lv st σ) : VV l g d own cc nL ret ρ pc lv (.int x :: st) σ := by
  intro p e s m args below meth c H locs ls hx hb hml hr hlocks hown hts hK hG hP hS hl
  exact lv_tableIn hx hb hd h1 h2 ho ht (k p e s m args below meth c H locs ls hx hb hml hr hlocks hown hts hK hG hP hS hl)
theorem vr_tableOut {dflt lo hi : Int} {offs : Array Int} {len : Nat} {x : Int32} (tgt : Nat) (hd : decode cc pc = .ok (.tableswitch dflt lo hi offs, len)) (h : x.toInt < lo ∨ hi < x.toInt) (ht : (pc : Int) + dflt = (tgt : Int)) (k : VV l g d own cc nL ret ρ tgt lv st σ) : VV l g d own cc nL ret ρ pc lv (.int x :: st) σ := by
  intro p e s m args below meth c H locs ls hx hb hml hr hlocks hown hts hK hG hP hS hl
  exact lv_tableOut hx hb hd h ht (k p e s m args below meth c H locs ls hx hb hml hr hlocks hown hts hK hG hP hS hl)
theorem vr_lookup {dflt : Int} {ps : Array (Int × Int)} {len : Nat} {x : Int32} (off : Int) (tgt : Nat) (hd : decode cc pc = .ok (.lookupswitch dflt ps, len)) (hp : (ps.toList.zip (ps.toList.drop 1)).all (fun (a, next) => a.1 < next.1) = true) (ho : Op.lookupswitch.offset ps.toList dflt x.toInt = off) (ht : (pc : Int) + off = (tgt : Int)) (k : VV l g d own cc nL ret ρ tgt lv st σ) : VV l g d own cc nL ret ρ pc lv (.int x :: st) σ := by
  intro p e s m args below meth c H locs ls hx hb hml hr hlocks hown hts hK hG hP hS hl
  exact lv_lookup hx hb hd hp ho ht (k p e s m args below meth c H locs ls hx hb hml hr hlocks hown hts hK hG hP hS hl)
/-- the link of a field of class number ci, slot j, by an entry of own's pool -/
def FI (own : String) (idx ci j : Nat) : Prop := ∃ (C : String) (T : u_T) (N : Nat) (ty : Nat → FieldType), vwCl[ci]? = some (C, T, N) ∧ (∀ w ∈ u_ws C T N, w ∈ lw_g) ∧ j < N ∧ Cond.fieldLink own idx (T j).1 (T j).2.1 (T j).2.2.1 ∈ lw_g ∧
  (∀ k, k < N → parseFieldDescriptor (T k).2.2.1 = some (ty k)) ∧ (∀ a, a < N → ∀ b, b < N → a ≠ b → (T a).2.1 ≠ (T b).2.1)
/-- and it can be written: not final, of a type that takes v -/
def FW (ci j : Nat) (v : Int32) : Prop := ∃ (C : String) (T : u_T) (N : Nat) (ty : FieldType), vwCl[ci]? = some (C, T, N) ∧ (T j).2.2.2 = false ∧ parseFieldDescriptor (T j).2.2.1 = some ty ∧ narrow ty (.int v) = .int v ∧ fits ty (.int v) = true
theorem vr_getV {idx ci q : Nat} (j : Nat) (v : Value) (hd : decode cc pc = .ok (.getfield idx, 3)) (hf : FI own idx ci j) (hk : kd q = ci) (hj : j < ln q) (hc : ci < 9) (hv : cellV g σ q j = v) (k : VV l g d own cc nL ret ρ (pc + 3) lv (v :: st) σ) : VV l g d own cc nL ret ρ pc lv (.ref (g.1 q) :: st) σ := by
  obtain ⟨C, T, N, ty, h1, h2, h3, h4, h5, h6⟩ := hf
  intro p e s m args below meth c H locs ls hx hb hml hr hlocks hown hts hK hG hP hS hl
  refine va_get (D := g.2.1) (ci := ci) (v := v) (C := C) (T := T) (N := N) hx hb hts h2 hown hK hP q (by rw [ws_at g σ (kd_lt hk (by omega)), ce_obj hk hc]) h1 j h3 (hts _ h4) (fun _ h => h) ?_ hd (k p e s m args below meth c H locs ls hx hb hml hr hlocks hown hts hK hG hP hS hl)
  rw [List.getElem?_map, List.getElem?_range hj]
  exact congrArg some hv
theorem vr_getI {idx ci q : Nat} (j : Nat) (hd : decode cc pc = .ok (.getfield idx, 3)) (hf : FI own idx ci j) (hk : kd q = ci) (hs : rf q j = none ∧ j < ln q ∧ ci < 9) (k : VV l g d own cc nL ret ρ (pc + 3) lv (.int (σ.1 q j) :: st) σ) : VV l g d own cc nL ret ρ pc lv (.ref (g.1 q) :: st) σ :=
  vr_getV j _ hd hf hk hs.2.1 hs.2.2 (by rw [cellV, hs.1]) k
theorem vr_getR {idx ci q : Nat} (j : Nat) (hd : decode cc pc = .ok (.getfield idx, 3)) (hf : FI own idx ci j) (hk : kd q = ci) (hs : rf q j = some (rid q j) ∧ j < ln q ∧ ci < 9) (k : VV l g d own cc nL ret ρ (pc + 3) lv (.ref (g.1 (rid q j)) :: st) σ) : VV l g d own cc nL ret ρ pc lv (.ref (g.1 q) :: st) σ :=
  vr_getV j _ hd hf hk hs.2.1 hs.2.2 (by rw [cellV, hs.1]) k
theorem vr_putI {idx ci q : Nat} {v : Int32} (j : Nat) (hd : decode cc pc = .ok (.putfield idx, 3)) (hf : FI own idx ci j) (hw : FW ci j v) (hk : kd q = ci) (hs : rf q j = none ∧ j < ln q ∧ ci < 9) (k : VV l g d own cc nL ret ρ (pc + 3) lv st (sI σ q j v)) : VV l g d own cc nL ret ρ pc lv (.int v :: .ref (g.1 q) :: st) σ := by
  obtain ⟨C, T, N, ty, h1, h2, h3, h4, h5, h6⟩ := hf
  obtain ⟨C', T', N', t, g1, g2, g3, g4, g5⟩ := hw
  rw [h1] at g1
  cases g1
  intro p e s m args below meth c H locs ls hx hb hml hr hlocks hown hts hK hG hP hS hl
  refine va_put (D := g.2.1) (ci := ci) (v := .int v) (ty := t) (C := C) (T := T) (N := N) hx hb hts h2 ty h5 h6 hown hK hP (ws_D σ hG) hS q (by rw [ws_at g σ (kd_lt hk (by omega)), ce_obj hk hs.2.2]) h1 j h3 (hts _ h4) (fun _ h => h) g2 g3 g4 g5 (by simp; exact hs.2.1) hd (fun H locs hP hD hS => ?_)
  rw [set_sI hk hs.2.2 hs.2.1 hs.1] at hP
  exact k p e s m args below meth c H locs ls hx hb hml hr hlocks hown hts hK hG hP hS hl
theorem vr_iald {q : Nat} {i : Int32} (hd : decode cc pc = .ok (.iaload, 1)) (hk : kd q = 9) (hi : ¬ (i < 0 ∨ ln q ≤ i.toNatClampNeg)) (k : VV l g d own cc nL ret ρ (pc + 1) lv (.int (σ.1 q i.toNatClampNeg) :: st) σ) : VV l g d own cc nL ret ρ pc lv (.int i :: .ref (g.1 q) :: st) σ := by
  intro p e s m args below meth c H locs ls hx hb hml hr hlocks hown hts hK hG hP hS hl
  exact va_iald hx hb hK hP q 0 (by rw [ws_at g σ (kd_lt hk (by omega)), ce_int hk (Or.inl rfl)]) rfl hi hd (k p e s m args below meth c H locs ls hx hb hml hr hlocks hown hts hK hG hP hS hl)
theorem vr_zald {q : Nat} {i : Int32} (hd : decode cc pc = .ok (.baload, 1)) (hk : kd q = 10) (hi : ¬ (i < 0 ∨ ln q ≤ i.toNatClampNeg)) (k : VV l g d own cc nL ret ρ (pc + 1) lv (.int (σ.1 q i.toNatClampNeg) :: st) σ) : VV l g d own cc nL ret ρ pc lv (.int i :: .ref (g.1 q) :: st) σ := by
  intro p e s m args below meth c H locs ls hx hb hml hr hlocks hown hts hK hG hP hS hl
  exact va_zald hx hb hK hP q 1 (by rw [ws_at g σ (kd_lt hk (by omega)), ce_int hk (Or.inr rfl)]) rfl hi hd (k p e s m args below meth c H locs ls hx hb hml hr hlocks hown hts hK hG hP hS hl)
theorem vr_lald {q : Nat} {i : Int32} (hd : decode cc pc = .ok (.laload, 1)) (hk : kd q = 11) (hi : ¬ (i < 0 ∨ ln q ≤ i.toNatClampNeg)) (k : VV l g d own cc nL ret ρ (pc + 1) lv (.long (σ.2 q i.toNatClampNeg) :: st) σ) : VV l g d own cc nL ret ρ pc lv (.int i :: .ref (g.1 q) :: st) σ := by
  intro p e s m args below meth c H locs ls hx hb hml hr hlocks hown hts hK hG hP hS hl
  exact va_lald hx hb hK hP q 2 (by rw [ws_at g σ (kd_lt hk (by omega)), ce_long hk]) rfl hi hd (k p e s m args below meth c H locs ls hx hb hml hr hlocks hown hts hK hG hP hS hl)
theorem vr_iast {q : Nat} {i x : Int32} (hd : decode cc pc = .ok (.iastore, 1)) (hk : kd q = 9) (hi : ¬ (i < 0 ∨ ln q ≤ i.toNatClampNeg)) (k : VV l g d own cc nL ret ρ (pc + 1) lv st (sI σ q i.toNatClampNeg x)) : VV l g d own cc nL ret ρ pc lv (.int x :: .int i :: .ref (g.1 q) :: st) σ := by
  intro p e s m args below meth c H locs ls hx hb hml hr hlocks hown hts hK hG hP hS hl
  refine va_iast hx hb hK hP (ws_D σ hG) hS q 0 (by rw [ws_at g σ (kd_lt hk (by omega)), ce_int hk (Or.inl rfl)]) rfl hi hd (fun H locs hP hD hS => ?_)
  rw [set_sC hk (Or.inl rfl), ← sI_eq] at hP
  exact k p e s m args below meth c H locs ls hx hb hml hr hlocks hown hts hK hG hP hS hl
theorem vr_zast {q : Nat} {i x : Int32} (hd : decode cc pc = .ok (.bastore, 1)) (hk : kd q = 10) (hi : ¬ (i < 0 ∨ ln q ≤ i.toNatClampNeg)) (k : VV l g d own cc nL ret ρ (pc + 1) lv st (sI σ q i.toNatClampNeg (vp_nar .boolean x))) : VV l g d own cc nL ret ρ pc lv (.int x :: .int i :: .ref (g.1 q) :: st) σ := by
  intro p e s m args below meth c H locs ls hx hb hml hr hlocks hown hts hK hG hP hS hl
  refine va_zast hx hb hK hP (ws_D σ hG) hS q 1 (by rw [ws_at g σ (kd_lt hk (by omega)), ce_int hk (Or.inr rfl)]) rfl hi hd (fun H locs hP hD hS => ?_)
  rw [set_sC hk (Or.inr rfl), ← sI_eq] at hP
  exact k p e s m args below meth c H locs ls hx hb hml hr hlocks hown hts hK hG hP hS hl
theorem vr_last {q : Nat} {i : Int32} {x : Int64} (hd : decode cc pc = .ok (.lastore, 1)) (hk : kd q = 11) (hi : ¬ (i < 0 ∨ ln q ≤ i.toNatClampNeg)) (k : VV l g d own cc nL ret ρ (pc + 1) lv st (sL σ q i.toNatClampNeg x)) : VV l g d own cc nL ret ρ pc lv (.long x :: .int i :: .ref (g.1 q) :: st) σ := by
  intro p e s m args below meth c H locs ls hx hb hml hr hlocks hown hts hK hG hP hS hl
  refine va_last hx hb hK hP (ws_D σ hG) hS q 2 (by rw [ws_at g σ (kd_lt hk (by omega)), ce_long hk]) rfl hi hd (fun H locs hP hD hS => ?_)
  rw [set_sL hk] at hP
  exact k p e s m args below meth c H locs ls hx hb hml hr hlocks hown hts hK hG hP hS hl
theorem vr_alen {q c : Nat} (hd : decode cc pc = .ok (.arraylength, 1)) (hk : kd q = c) (hc : c = 9 ∨ c = 10 ∨ c = 11) (k : VV l g d own cc nL ret ρ (pc + 1) lv (.int (Int32.ofNat (ln q)) :: st) σ) : VV l g d own cc nL ret ρ pc lv (.ref (g.1 q) :: st) σ := by
  intro p e s m args below meth c H locs ls hx hb hml hr hlocks hown hts hK hG hP hS hl
  rcases hc with rfl | rfl | rfl
  · exact va_alen hx hb hK hP q 0 (by rw [ws_at g σ (kd_lt hk (by omega)), ce_int hk (Or.inl rfl)]) (ty := .int) rfl rfl hd (k p e s m args below meth c H locs ls hx hb hml hr hlocks hown hts hK hG hP hS hl)
  · exact va_alen hx hb hK hP q 1 (by rw [ws_at g σ (kd_lt hk (by omega)), ce_int hk (Or.inr rfl)]) (ty := .boolean) rfl rfl hd (k p e s m args below meth c H locs ls hx hb hml hr hlocks hown hts hK hG hP hS hl)
  · exact va_alen hx hb hK hP q 2 (by rw [ws_at g σ (kd_lt hk (by omega)), ce_long hk]) (ty := .long) rfl rfl hd (k p e s m args below meth c H locs ls hx hb hml hr hlocks hown hts hK hG hP hS hl)
theorem vr_aald {q c : Nat} {i : Int32} (hd : decode cc pc = .ok (.aaload, 1)) (hk : kd q = c) (hc : c = 12 ∨ c = 13 ∨ c = 14) (hi : ¬ (i < 0 ∨ ln q ≤ i.toNatClampNeg)) (hrr : rf q i.toNatClampNeg = some (rid q i.toNatClampNeg)) (k : VV l g d own cc nL ret ρ (pc + 1) lv (.ref (g.1 (rid q i.toNatClampNeg)) :: st) σ) : VV l g d own cc nL ret ρ pc lv (.int i :: .ref (g.1 q) :: st) σ := by
  intro p e s m args below meth c H locs ls hx hb hml hr hlocks hown hts hK hG hP hS hl
  have k1 := k p e s m args below meth c H locs ls hx hb hml hr hlocks hown hts hK hG hP hS hl
  have e : va_rf ((rf q i.toNatClampNeg).map g.1) = .ref (g.1 (rid q i.toNatClampNeg)) := by rw [hrr]; rfl
  rw [← e] at k1
  rcases hc with rfl | rfl | rfl
  · exact va_aldq hx hb hK hP q 3 (by rw [ws_at g σ (kd_lt hk (by omega)), ce_ref hk (by omega)]) rfl hi hd k1
  · exact va_aldq hx hb hK hP q 4 (by rw [ws_at g σ (kd_lt hk (by omega)), ce_ref hk (by omega)]) rfl hi hd k1
  · exact va_aldq hx hb hK hP q 5 (by rw [ws_at g σ (kd_lt hk (by omega)), ce_ref hk (by omega)]) rfl hi hd k1
theorem vr_copy {q0 q1 : Nat} {sp dp n : Int32} {idx : Nat} (hd : decode cc pc = .ok (.invokestatic idx, 3)) (hl0 : Cond.methodLink own idx arraycopyName ∈ lw_g) (hw : Cond.native arraycopyName ∈ lw_g ∧ Cond.static arraycopyName ∈ lw_g ∧ Cond.initialized "java/lang/System" ∈ lw_g) (hk0 : kd q0 = 9) (hk1 : kd q1 = 9)
    (hn : ¬ sp < 0 ∧ ¬ dp < 0 ∧ ¬ n < 0 ∧ sp.toNatClampNeg + n.toNatClampNeg ≤ ln q0 ∧ dp.toNatClampNeg + n.toNatClampNeg ≤ ln q1) (hdp : 1 ≤ d) (hst : (st.map fun v => v.category).sum ≤ 8)
    (k : VV l g d own cc nL ret ρ (pc + 3) lv st (sC σ q1 (va_cpy (σ.1 q0) (σ.1 q1) sp.toNatClampNeg dp.toNatClampNeg n.toNatClampNeg))) : VV l g d own cc nL ret ρ pc lv (.int n :: .int dp :: .ref (g.1 q1) :: .int sp :: .ref (g.1 q0) :: st) σ := by
  intro p e s m args below meth c H locs ls hx hb hml hr hlocks hown hts hK hG hP hS hl
  obtain ⟨h1, h2, h3, h4, h5⟩ := hn
  refine va_copyi hx hb (hml.trans hl.1.symm) hown (hts _ hl0) (hts _ hw.1) (hts _ hw.2.1) (hts _ hw.2.2) hK hP (ws_D σ hG) hS q0 q1 0 0 (ty := .int) (by rw [ws_at g σ (kd_lt hk0 (by omega)), ce_int hk0 (Or.inl rfl)]) (by rw [ws_at g σ (kd_lt hk1 (by omega)), ce_int hk1 (Or.inl rfl)]) rfl rfl rfl h1 h2 h3 h4 h5 (fun i hi => rfl) hdp ?_ hd (fun H locs hP hD hS => ?_)
  · have : nativeFrameWords "java/lang/System" "arraycopy" 5 + 11 ≤ 40 := by decide +kernel
    show _ ≤ 48 * d
    omega
  · rw [set_sC hk1 (Or.inl rfl)] at hP
    exact k p e s m args below meth c H locs ls hx hb hml hr hlocks hown hts hK hG hP hS hl
theorem vr_iret {x : Int32} (ty : FieldType) (hd : decode cc pc = .ok (.ireturn, 1)) (hrt : ret = some ty) (hn : narrow ty (.int x) = .int x) (hρ : ρ = (some (.int x), σ)) : VV l g d own cc nL ret ρ pc lv [.int x] σ := by
  intro p e s m args below meth c H locs ls hx hb hml hr hlocks hown hts hK hG hP hS hl
  subst hρ; subst hrt
  exact W.zret hx hb hr hn (fun t ht hW => ⟨⟨rfl, by rw [ht]; exact hP, va_K.moved hW.alike hK⟩, hS.F ht⟩) hS.2.2 hd hlocks
theorem vr_lret {x : Int64} (hd : decode cc pc = .ok (.lreturn, 1)) (hrt : ret = some .long) (hρ : ρ = (some (.long x), σ)) : VV l g d own cc nL ret ρ pc lv [.long x] σ := by
  intro p e s m args below meth c H locs ls hx hb hml hr hlocks hown hts hK hG hP hS hl
  subst hρ; subst hrt
  exact W.lret hx hb hr (fun t ht hW => ⟨⟨rfl, by rw [ht]; exact hP, va_K.moved hW.alike hK⟩, hS.F ht⟩) hS.2.2 hd hlocks
theorem vr_vret (hd : decode cc pc = .ok (.return_, 1)) (hrt : ret = none) (hρ : ρ = (none, σ)) : VV l g d own cc nL ret ρ pc lv [] σ := by
  intro p e s m args below meth c H locs ls hx hb hml hr hlocks hown hts hK hG hP hS hl
  subst hρ; subst hrt
  exact W.vret hx hb hr (fun t ht hW => ⟨⟨rfl, by rw [ht]; exact hP, va_K.moved hW.alike hK⟩, hS.F ht⟩) hS.2.2 hd hlocks
theorem vr_aret {o : Option Nat} {C : String} (hd : decode cc pc = .ok (.areturn, 1)) (hrt : ret = some (.object C)) (hρ : ρ = (some (rvO g o), σ)) : VV l g d own cc nL ret ρ pc lv [rvO g o] σ := by
  intro p e s m args below meth c H locs ls hx hb hml hr hlocks hown hts hK hG hP hS hl
  subst hρ; subst hrt
  exact W.aret hx hb hr (Or.inl ⟨_, rfl⟩) (by cases o with | none => exact Or.inl rfl | some q => exact Or.inr ⟨_, rfl⟩) (fun t ht hW => ⟨⟨rfl, by rw [ht]; exact hP, va_K.moved hW.alike hK⟩, hS.F ht⟩) hS.2.2 hd hlocks
/-- what a callee needs of the tables -/
def CW (y : MethodName) (cc : ByteArray) (nL : Nat) (ret : Option FieldType) (n : Nat) : Prop := Cond.code y cc nL ret ∈ lw_g ∧ Cond.initialized y.cls ∈ lw_g ∧ (y.cls ≠ "java/lang/invoke/MethodHandle" ∧ y.cls ≠ "java/lang/invoke/VarHandle" ∧ (parseMethodDescriptor y.desc).map (fun d => d.parameters.length) = some n) ∧ nL ≤ 20
def CWv (y : MethodName) (cc : ByteArray) (nL : Nat) (ret : Option FieldType) (n : Nat) : Prop := CW y cc nL ret n ∧ Cond.instanceMethod y ∈ lw_g ∧ Cond.selects y.cls y y ∈ lw_g
def CWs (y : MethodName) (cc : ByteArray) (nL : Nat) (ret : Option FieldType) (n : Nat) : Prop := CW y cc nL ret n ∧ Cond.static y ∈ lw_g
theorem cwB {y : MethodName} {cy : ByteArray} {ny n index d' : Nat} {ry : Option FieldType} {s : State} {args : Array Value} (hts : ∀ w ∈ lw_g, w.before args s = true) (hw : CW y cy ny ry n) (hl : Cond.methodLink own index y ∈ lw_g) (hdd : d' + 1 ≤ d) : CallB (rmD d) s args own index y cy ny ry (Cond.code y cy ny ry :: lw_g) (rmD d') 0 0 n := by
  obtain ⟨h1, h2, h3, h4⟩ := hw
  refine callB_of n hts (goodIn_sub (fun w hw => ?_) ?_) rfl rfl rfl (hts _ h2) (hts _ hl) h3 ⟨hdd, ?_⟩
  · rcases List.mem_cons.mp hw with rfl | h
    · exact h1
    · exact h
  · rw [List.all_cons, lw_good, Bool.and_true]
    exact List.all_eq_true.mp lw_good _ h1
  · show 8 + (ny + 11) + 48 * d' ≤ 48 * d
    omega
theorem vr_back {ρ1 : Option Value × SS} {rest st0 : List Value} {p : Program} {e : Env} {s : State} {m : MethodId} {args : Array Value} {below : List Frame} {meth : Method} {c : Code} {H : Heap} {locs : List Loc} {ls : Array Slot} {a : Array Value} {Q : State → Prop}
    (hr : va_Run p l e (rmD d) s m args below meth c H locs 0 0 0 0 (F0 m pc ls st0) rest (QcG g ρ1 a) (Aw g)) (hS : va_S (Aw g) s.heap H locs)
    (k : ∀ (H1 : Heap) (locs1 : List Loc), va_K g.2.1 vwCl (tysG g) s → va_P g.2.1 vwCl (wsG g ρ1.2) H1 → va_S (Aw g) s.heap H1 locs1 → W p l e (rmD d) s m args below meth c H1 locs1 0 0 Q (F0 m (pc + 3) ls (ρ1.1.toList ++ rest))) : W p l e (rmD d) s m args below meth c H locs 0 0 Q (F0 m pc ls st0) := by
  intro T hT X
  obtain ⟨v, st₀, t, T', L, h0, X', hL, e1, e2, ⟨⟨hv, hp, hkk⟩, hz, hf⟩, stp⟩ := hr T hT X
  cases hv
  rw [h0] at hz hf
  have hA : s.vm.Alike t.vm := by rw [← e2]; exact X'.warmed.alike
  obtain ⟨t2, a1, b1⟩ := k T'.heap (locs ++ L) (va_K.moved hA.symm hkk) (by rw [e1]; exact hp)
    ⟨Nat.le_trans hS.1 (by rw [e1]; exact hz), fun q h1 h2 => by rw [e1, hf q (Nat.lt_of_lt_of_le h1 hS.1) h2]; exact hS.2.1 q h1 h2, fun q hq => by
      rcases List.mem_append.mp hq with h | h
      · exact hS.2.2 q h
      · exact hL q h⟩ T' rfl X'
  exact ⟨t2, stp t2 a1, b1⟩
theorem vr_callV {y : MethodName} {cy : ByteArray} {ny n index d' ci q : Nat} {ry : Option FieldType} {ρ1 : Option Value × SS} {st0 : List Value} (As : List Value) (hd : decode cc pc = .ok (.invokevirtual index, 3)) (hM : CT l g d' y cy ny ry (.ref (g.1 q) :: As) σ ρ1) (hw : CWv y cy ny ry n) (hl : Cond.methodLink own index y ∈ lw_g) (hk : kd q = ci) (hcl : (vwCl[ci]?).map (fun x => x.1) = some y.cls) (hc : ci < 9) (hdd : d' + 1 ≤ d) (hn : As.length = n)
    (hst0 : st0 = As.reverse ++ .ref (g.1 q) :: st) (hst : (st.map fun v => v.category).sum ≤ 8)
    (k : VV l g d own cc nL ret ρ (pc + 3) lv (ρ1.1.toList ++ st) ρ1.2) : VV l g d own cc nL ret ρ pc lv st0 σ := by
  intro p e s m args below meth c H locs ls hx hb hml hr hlocks hown hts hK hG hP hS hls
  subst hst0
  have hB := cwB (own := own) (index := index) hts hw.1 hl hdd
  obtain ⟨C, hC, hCy⟩ := Option.map_eq_some_iff.mp hcl
  have hrec := va_recv (a := g.1 q) hK hP hC (by rw [ws_at g σ (kd_lt hk (by omega)), ce_obj hk hc])
  rw [hCy] at hrec
  refine vr_back (va_runV (C := y.cls) (As := As) (rest := st) ⟨hx, hb, hml, hown, hts⟩ hM ⟨hB, hts _ hw.2.1, hts _ hw.2.2⟩ ⟨CT.blind, hrec, fun U hU hW => ⟨rfl, hG, by rw [hU]; exact hP, va_K.moved hW.alike hK⟩⟩ rfl hn hls.1 rfl (lv_room hst) hd ⟨Nat.le_refl _, Nat.le_refl _⟩) hS (fun H locs hK hP hS => ?_)
  have hl := hls
  exact k p e s m args below meth c H locs ls hx hb hml hr hlocks hown hts hK hG hP hS hl
theorem vr_callS {y : MethodName} {cy : ByteArray} {ny n index d' : Nat} {ry : Option FieldType} {ρ1 : Option Value × SS} {st0 : List Value} (As : List Value) (hd : decode cc pc = .ok (.invokestatic index, 3)) (hM : CT l g d' y cy ny ry As σ ρ1) (hw : CWs y cy ny ry n) (hl : Cond.methodLink own index y ∈ lw_g) (hdd : d' + 1 ≤ d) (hn : As.length = n)
    (hst0 : st0 = As.reverse ++ st) (hst : (st.map fun v => v.category).sum ≤ 8)
    (k : VV l g d own cc nL ret ρ (pc + 3) lv (ρ1.1.toList ++ st) ρ1.2) : VV l g d own cc nL ret ρ pc lv st0 σ := by
  intro p e s m args below meth c H locs ls hx hb hml hr hlocks hown hts hK hG hP hS hls
  subst hst0
  have hB := cwB (own := own) (index := index) hts hw.1 hl hdd
  refine vr_back (va_runS (As := As) (rest := st) ⟨hx, hb, hml, hown, hts⟩ hM ⟨hB, hts _ hw.2⟩ ⟨CT.blind, fun U hU hW => ⟨rfl, hG, by rw [hU]; exact hP, va_K.moved hW.alike hK⟩⟩ rfl hn hls.1 rfl (lv_room hst) hd ⟨Nat.le_refl _, Nat.le_refl _⟩) hS (fun H locs hK hP hS => ?_)
  have hl := hls
  exact k p e s m args below meth c H locs ls hx hb hml hr hlocks hown hts hK hG hP hS hl
end RULES
end
