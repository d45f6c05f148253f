section
-- ===== PART A: goes FIRST, ahead of the names: the tables' words, and 'selects' of the private methods out of them =====
/-- a private method of a class that the tables say can be made, by its rows of tables_1 -/
def lw_okq (q : MethodName × Nat) : Prop := (q.1.cls ≠ "java/lang/invoke/MethodHandle" ∧ q.1.cls ≠ "java/lang/invoke/VarHandle") ∧ Cond.instantiable q.1.cls q.2 ∈ tables_1 ∧ Cond.privateMethod q.1 ∈ tables_1 ∧ Cond.instanceMethod q.1 ∈ tables_1
theorem lw_p0 : lw_okq (⟨"CamelStraws", "isCamel", "(I)Z"⟩, 11) := ⟨⟨by decide +kernel, by decide +kernel⟩, List.mem_of_getElem? (i := 18) (by decide +kernel), List.mem_of_getElem? (i := 398) (by decide +kernel), List.mem_of_getElem? (i := 399) (by decide +kernel)⟩
theorem lw_p1 : lw_okq (⟨"CamelStraws", "isBale", "(I)Z"⟩, 11) := ⟨⟨by decide +kernel, by decide +kernel⟩, List.mem_of_getElem? (i := 18) (by decide +kernel), List.mem_of_getElem? (i := 409) (by decide +kernel), List.mem_of_getElem? (i := 410) (by decide +kernel)⟩
theorem lw_p2 : lw_okq (⟨"CamelStraws", "finding", "(I)I"⟩, 11) := ⟨⟨by decide +kernel, by decide +kernel⟩, List.mem_of_getElem? (i := 18) (by decide +kernel), List.mem_of_getElem? (i := 442) (by decide +kernel), List.mem_of_getElem? (i := 443) (by decide +kernel)⟩
theorem lw_p3 : lw_okq (⟨"CamelStraws$Caravan", "busyDaysOf", "(I)I"⟩, 6) := ⟨⟨by decide +kernel, by decide +kernel⟩, List.mem_of_getElem? (i := 133) (by decide +kernel), List.mem_of_getElem? (i := 455) (by decide +kernel), List.mem_of_getElem? (i := 456) (by decide +kernel)⟩
theorem lw_p4 : lw_okq (⟨"CamelStraws$Plans", "beginChoice", "()V"⟩, 3) := ⟨⟨by decide +kernel, by decide +kernel⟩, List.mem_of_getElem? (i := 217) (by decide +kernel), List.mem_of_getElem? (i := 566) (by decide +kernel), List.mem_of_getElem? (i := 567) (by decide +kernel)⟩
theorem lw_p5 : lw_okq (⟨"CamelStraws$Plans", "choose", "(II)V"⟩, 3) := ⟨⟨by decide +kernel, by decide +kernel⟩, List.mem_of_getElem? (i := 217) (by decide +kernel), List.mem_of_getElem? (i := 571) (by decide +kernel), List.mem_of_getElem? (i := 572) (by decide +kernel)⟩
theorem lw_p6 : lw_okq (⟨"CamelStraws$Plans", "allStandWithout", "(I)Z"⟩, 3) := ⟨⟨by decide +kernel, by decide +kernel⟩, List.mem_of_getElem? (i := 217) (by decide +kernel), List.mem_of_getElem? (i := 591) (by decide +kernel), List.mem_of_getElem? (i := 592) (by decide +kernel)⟩
theorem lw_p7 : lw_okq (⟨"CamelStraws$Guesses", "allComesOut", "()Z"⟩, 6) := ⟨⟨by decide +kernel, by decide +kernel⟩, List.mem_of_getElem? (i := 235) (by decide +kernel), List.mem_of_getElem? (i := 626) (by decide +kernel), List.mem_of_getElem? (i := 627) (by decide +kernel)⟩
theorem lw_p8 : lw_okq (⟨"CamelStraws$Guesses", "noteLoads", "(II)V"⟩, 6) := ⟨⟨by decide +kernel, by decide +kernel⟩, List.mem_of_getElem? (i := 235) (by decide +kernel), List.mem_of_getElem? (i := 648) (by decide +kernel), List.mem_of_getElem? (i := 649) (by decide +kernel)⟩
theorem lw_p9 : lw_okq (⟨"CamelStraws$Guesses", "mostAlike", "(II)I"⟩, 6) := ⟨⟨by decide +kernel, by decide +kernel⟩, List.mem_of_getElem? (i := 235) (by decide +kernel), List.mem_of_getElem? (i := 652) (by decide +kernel), List.mem_of_getElem? (i := 653) (by decide +kernel)⟩
theorem lw_p10 : lw_okq (⟨"CamelStraws$Odds", "breaksWithout", "(II)Z"⟩, 3) := ⟨⟨by decide +kernel, by decide +kernel⟩, List.mem_of_getElem? (i := 261) (by decide +kernel), List.mem_of_getElem? (i := 672) (by decide +kernel), List.mem_of_getElem? (i := 673) (by decide +kernel)⟩
theorem lw_p11 : lw_okq (⟨"CamelStraws$Odds", "reduce", "()V"⟩, 3) := ⟨⟨by decide +kernel, by decide +kernel⟩, List.mem_of_getElem? (i := 261) (by decide +kernel), List.mem_of_getElem? (i := 681) (by decide +kernel), List.mem_of_getElem? (i := 682) (by decide +kernel)⟩
theorem lw_p12 : lw_okq (⟨"CamelStraws", "mixBale", "(JI)J"⟩, 11) := ⟨⟨by decide +kernel, by decide +kernel⟩, List.mem_of_getElem? (i := 18) (by decide +kernel), List.mem_of_getElem? (i := 766) (by decide +kernel), List.mem_of_getElem? (i := 767) (by decide +kernel)⟩
theorem lw_p13 : lw_okq (⟨"CamelStraws", "mixCamel", "(JI)J"⟩, 11) := ⟨⟨by decide +kernel, by decide +kernel⟩, List.mem_of_getElem? (i := 18) (by decide +kernel), List.mem_of_getElem? (i := 773) (by decide +kernel), List.mem_of_getElem? (i := 774) (by decide +kernel)⟩
theorem lw_p14 : lw_okq (⟨"CamelStraws", "mixDay", "(JII)J"⟩, 11) := ⟨⟨by decide +kernel, by decide +kernel⟩, List.mem_of_getElem? (i := 18) (by decide +kernel), List.mem_of_getElem? (i := 778) (by decide +kernel), List.mem_of_getElem? (i := 779) (by decide +kernel)⟩
theorem lw_p15 : lw_okq (⟨"CamelStrawsModel", "faultOf", "(I)I"⟩, 45) := ⟨⟨by decide +kernel, by decide +kernel⟩, List.mem_of_getElem? (i := 796) (by decide +kernel), List.mem_of_getElem? (i := 961) (by decide +kernel), List.mem_of_getElem? (i := 962) (by decide +kernel)⟩
def lw_privs_1 : List (MethodName × Nat) := [(⟨"CamelStraws", "isCamel", "(I)Z"⟩, 11), (⟨"CamelStraws", "isBale", "(I)Z"⟩, 11), (⟨"CamelStraws", "finding", "(I)I"⟩, 11), (⟨"CamelStraws$Caravan", "busyDaysOf", "(I)I"⟩, 6), (⟨"CamelStraws$Plans", "beginChoice", "()V"⟩, 3), (⟨"CamelStraws$Plans", "choose", "(II)V"⟩, 3), (⟨"CamelStraws$Plans", "allStandWithout", "(I)Z"⟩, 3), (⟨"CamelStraws$Guesses", "allComesOut", "()Z"⟩, 6), (⟨"CamelStraws$Guesses", "noteLoads", "(II)V"⟩, 6), (⟨"CamelStraws$Guesses", "mostAlike", "(II)I"⟩, 6), (⟨"CamelStraws$Odds", "breaksWithout", "(II)Z"⟩, 3), (⟨"CamelStraws$Odds", "reduce", "()V"⟩, 3), (⟨"CamelStraws", "mixBale", "(JI)J"⟩, 11), (⟨"CamelStraws", "mixCamel", "(JI)J"⟩, 11), (⟨"CamelStraws", "mixDay", "(JII)J"⟩, 11), (⟨"CamelStrawsModel", "faultOf", "(I)I"⟩, 45)]
theorem lw_r1 : ∀ q ∈ lw_privs_1, lw_okq q := List.forall_mem_cons.mpr ⟨lw_p0, List.forall_mem_cons.mpr ⟨lw_p1, List.forall_mem_cons.mpr ⟨lw_p2, List.forall_mem_cons.mpr ⟨lw_p3, List.forall_mem_cons.mpr ⟨lw_p4, List.forall_mem_cons.mpr ⟨lw_p5, List.forall_mem_cons.mpr ⟨lw_p6, List.forall_mem_cons.mpr ⟨lw_p7, List.forall_mem_cons.mpr ⟨lw_p8, List.forall_mem_cons.mpr ⟨lw_p9, List.forall_mem_cons.mpr ⟨lw_p10, List.forall_mem_cons.mpr ⟨lw_p11, List.forall_mem_cons.mpr ⟨lw_p12, List.forall_mem_cons.mpr ⟨lw_p13, List.forall_mem_cons.mpr ⟨lw_p14, List.forall_mem_cons.mpr ⟨lw_p15, fun _ h => absurd h List.not_mem_nil⟩⟩⟩⟩⟩⟩⟩⟩⟩⟩⟩⟩⟩⟩⟩⟩
theorem lw_p16 : lw_okq (⟨"CamelStrawsModel", "readsParts", "(I)I"⟩, 45) := ⟨⟨by decide +kernel, by decide +kernel⟩, List.mem_of_getElem? (i := 796) (by decide +kernel), List.mem_of_getElem? (i := 965) (by decide +kernel), List.mem_of_getElem? (i := 966) (by decide +kernel)⟩
theorem lw_p17 : lw_okq (⟨"CamelStrawsModel", "readsCamel", "(II)I"⟩, 45) := ⟨⟨by decide +kernel, by decide +kernel⟩, List.mem_of_getElem? (i := 796) (by decide +kernel), List.mem_of_getElem? (i := 969) (by decide +kernel), List.mem_of_getElem? (i := 970) (by decide +kernel)⟩
theorem lw_p18 : lw_okq (⟨"CamelStrawsModel", "byteAt", "(II)I"⟩, 45) := ⟨⟨by decide +kernel, by decide +kernel⟩, List.mem_of_getElem? (i := 796) (by decide +kernel), List.mem_of_getElem? (i := 973) (by decide +kernel), List.mem_of_getElem? (i := 974) (by decide +kernel)⟩
theorem lw_p19 : lw_okq (⟨"CamelStrawsModel", "readsBale", "(II)I"⟩, 45) := ⟨⟨by decide +kernel, by decide +kernel⟩, List.mem_of_getElem? (i := 796) (by decide +kernel), List.mem_of_getElem? (i := 977) (by decide +kernel), List.mem_of_getElem? (i := 978) (by decide +kernel)⟩
theorem lw_p20 : lw_okq (⟨"CamelStrawsModel", "isCamel", "(I)Z"⟩, 45) := ⟨⟨by decide +kernel, by decide +kernel⟩, List.mem_of_getElem? (i := 796) (by decide +kernel), List.mem_of_getElem? (i := 985) (by decide +kernel), List.mem_of_getElem? (i := 986) (by decide +kernel)⟩
theorem lw_p21 : lw_okq (⟨"CamelStrawsModel", "reads", "()V"⟩, 45) := ⟨⟨by decide +kernel, by decide +kernel⟩, List.mem_of_getElem? (i := 796) (by decide +kernel), List.mem_of_getElem? (i := 989) (by decide +kernel), List.mem_of_getElem? (i := 990) (by decide +kernel)⟩
theorem lw_p22 : lw_okq (⟨"CamelStrawsModel", "camelOf", "(II)I"⟩, 45) := ⟨⟨by decide +kernel, by decide +kernel⟩, List.mem_of_getElem? (i := 796) (by decide +kernel), List.mem_of_getElem? (i := 996) (by decide +kernel), List.mem_of_getElem? (i := 997) (by decide +kernel)⟩
theorem lw_p23 : lw_okq (⟨"CamelStrawsModel", "isBale", "(I)Z"⟩, 45) := ⟨⟨by decide +kernel, by decide +kernel⟩, List.mem_of_getElem? (i := 796) (by decide +kernel), List.mem_of_getElem? (i := 1004) (by decide +kernel), List.mem_of_getElem? (i := 1005) (by decide +kernel)⟩
theorem lw_p24 : lw_okq (⟨"CamelStrawsModel", "baleOf", "(II)I"⟩, 45) := ⟨⟨by decide +kernel, by decide +kernel⟩, List.mem_of_getElem? (i := 796) (by decide +kernel), List.mem_of_getElem? (i := 1008) (by decide +kernel), List.mem_of_getElem? (i := 1009) (by decide +kernel)⟩
theorem lw_p25 : lw_okq (⟨"CamelStrawsModel", "meets", "(I)I"⟩, 45) := ⟨⟨by decide +kernel, by decide +kernel⟩, List.mem_of_getElem? (i := 796) (by decide +kernel), List.mem_of_getElem? (i := 1033) (by decide +kernel), List.mem_of_getElem? (i := 1034) (by decide +kernel)⟩
theorem lw_p26 : lw_okq (⟨"CamelStrawsModel", "atOf", "(III)I"⟩, 45) := ⟨⟨by decide +kernel, by decide +kernel⟩, List.mem_of_getElem? (i := 796) (by decide +kernel), List.mem_of_getElem? (i := 1042) (by decide +kernel), List.mem_of_getElem? (i := 1043) (by decide +kernel)⟩
theorem lw_p27 : lw_okq (⟨"CamelStrawsModel", "runsTold", "()V"⟩, 45) := ⟨⟨by decide +kernel, by decide +kernel⟩, List.mem_of_getElem? (i := 796) (by decide +kernel), List.mem_of_getElem? (i := 1046) (by decide +kernel), List.mem_of_getElem? (i := 1047) (by decide +kernel)⟩
theorem lw_p28 : lw_okq (⟨"CamelStrawsModel", "asTold", "()V"⟩, 45) := ⟨⟨by decide +kernel, by decide +kernel⟩, List.mem_of_getElem? (i := 796) (by decide +kernel), List.mem_of_getElem? (i := 1050) (by decide +kernel), List.mem_of_getElem? (i := 1051) (by decide +kernel)⟩
theorem lw_p29 : lw_okq (⟨"CamelStrawsModel", "runs", "()V"⟩, 45) := ⟨⟨by decide +kernel, by decide +kernel⟩, List.mem_of_getElem? (i := 796) (by decide +kernel), List.mem_of_getElem? (i := 1054) (by decide +kernel), List.mem_of_getElem? (i := 1055) (by decide +kernel)⟩
theorem lw_p30 : lw_okq (⟨"CamelStrawsModel", "goesBy", "(I)V"⟩, 45) := ⟨⟨by decide +kernel, by decide +kernel⟩, List.mem_of_getElem? (i := 796) (by decide +kernel), List.mem_of_getElem? (i := 1058) (by decide +kernel), List.mem_of_getElem? (i := 1059) (by decide +kernel)⟩
theorem lw_p31 : lw_okq (⟨"CamelStrawsModel", "bears", "(I)V"⟩, 45) := ⟨⟨by decide +kernel, by decide +kernel⟩, List.mem_of_getElem? (i := 796) (by decide +kernel), List.mem_of_getElem? (i := 1062) (by decide +kernel), List.mem_of_getElem? (i := 1063) (by decide +kernel)⟩
def lw_privs_2 : List (MethodName × Nat) := [(⟨"CamelStrawsModel", "readsParts", "(I)I"⟩, 45), (⟨"CamelStrawsModel", "readsCamel", "(II)I"⟩, 45), (⟨"CamelStrawsModel", "byteAt", "(II)I"⟩, 45), (⟨"CamelStrawsModel", "readsBale", "(II)I"⟩, 45), (⟨"CamelStrawsModel", "isCamel", "(I)Z"⟩, 45), (⟨"CamelStrawsModel", "reads", "()V"⟩, 45), (⟨"CamelStrawsModel", "camelOf", "(II)I"⟩, 45), (⟨"CamelStrawsModel", "isBale", "(I)Z"⟩, 45), (⟨"CamelStrawsModel", "baleOf", "(II)I"⟩, 45), (⟨"CamelStrawsModel", "meets", "(I)I"⟩, 45), (⟨"CamelStrawsModel", "atOf", "(III)I"⟩, 45), (⟨"CamelStrawsModel", "runsTold", "()V"⟩, 45), (⟨"CamelStrawsModel", "asTold", "()V"⟩, 45), (⟨"CamelStrawsModel", "runs", "()V"⟩, 45), (⟨"CamelStrawsModel", "goesBy", "(I)V"⟩, 45), (⟨"CamelStrawsModel", "bears", "(I)V"⟩, 45)]
theorem lw_r2 : ∀ q ∈ lw_privs_2, lw_okq q := List.forall_mem_cons.mpr ⟨lw_p16, List.forall_mem_cons.mpr ⟨lw_p17, List.forall_mem_cons.mpr ⟨lw_p18, List.forall_mem_cons.mpr ⟨lw_p19, List.forall_mem_cons.mpr ⟨lw_p20, List.forall_mem_cons.mpr ⟨lw_p21, List.forall_mem_cons.mpr ⟨lw_p22, List.forall_mem_cons.mpr ⟨lw_p23, List.forall_mem_cons.mpr ⟨lw_p24, List.forall_mem_cons.mpr ⟨lw_p25, List.forall_mem_cons.mpr ⟨lw_p26, List.forall_mem_cons.mpr ⟨lw_p27, List.forall_mem_cons.mpr ⟨lw_p28, List.forall_mem_cons.mpr ⟨lw_p29, List.forall_mem_cons.mpr ⟨lw_p30, List.forall_mem_cons.mpr ⟨lw_p31, fun _ h => absurd h List.not_mem_nil⟩⟩⟩⟩⟩⟩⟩⟩⟩⟩⟩⟩⟩⟩⟩⟩
theorem lw_p32 : lw_okq (⟨"CamelStrawsModel", "takes", "(I)Z"⟩, 45) := ⟨⟨by decide +kernel, by decide +kernel⟩, List.mem_of_getElem? (i := 796) (by decide +kernel), List.mem_of_getElem? (i := 1066) (by decide +kernel), List.mem_of_getElem? (i := 1067) (by decide +kernel)⟩
theorem lw_p33 : lw_okq (⟨"CamelStrawsModel", "breaks", "(II)V"⟩, 45) := ⟨⟨by decide +kernel, by decide +kernel⟩, List.mem_of_getElem? (i := 796) (by decide +kernel), List.mem_of_getElem? (i := 1070) (by decide +kernel), List.mem_of_getElem? (i := 1071) (by decide +kernel)⟩
theorem lw_p34 : lw_okq (⟨"CamelStrawsModel", "comeStraws", "(I)V"⟩, 45) := ⟨⟨by decide +kernel, by decide +kernel⟩, List.mem_of_getElem? (i := 796) (by decide +kernel), List.mem_of_getElem? (i := 1074) (by decide +kernel), List.mem_of_getElem? (i := 1075) (by decide +kernel)⟩
theorem lw_p35 : lw_okq (⟨"CamelStrawsModel", "comesStraw", "(II)V"⟩, 45) := ⟨⟨by decide +kernel, by decide +kernel⟩, List.mem_of_getElem? (i := 796) (by decide +kernel), List.mem_of_getElem? (i := 1081) (by decide +kernel), List.mem_of_getElem? (i := 1082) (by decide +kernel)⟩
theorem lw_p36 : lw_okq (⟨"CamelStrawsModel", "tires", "(II)V"⟩, 45) := ⟨⟨by decide +kernel, by decide +kernel⟩, List.mem_of_getElem? (i := 796) (by decide +kernel), List.mem_of_getElem? (i := 1085) (by decide +kernel), List.mem_of_getElem? (i := 1086) (by decide +kernel)⟩
theorem lw_p37 : lw_okq (⟨"CamelStrawsModel", "wears", "(II)Z"⟩, 45) := ⟨⟨by decide +kernel, by decide +kernel⟩, List.mem_of_getElem? (i := 796) (by decide +kernel), List.mem_of_getElem? (i := 1089) (by decide +kernel), List.mem_of_getElem? (i := 1090) (by decide +kernel)⟩
theorem lw_p38 : lw_okq (⟨"CamelStrawsModel", "ends", "(II)V"⟩, 45) := ⟨⟨by decide +kernel, by decide +kernel⟩, List.mem_of_getElem? (i := 796) (by decide +kernel), List.mem_of_getElem? (i := 1093) (by decide +kernel), List.mem_of_getElem? (i := 1094) (by decide +kernel)⟩
theorem lw_p39 : lw_okq (⟨"CamelStrawsModel", "throughOf", "()I"⟩, 45) := ⟨⟨by decide +kernel, by decide +kernel⟩, List.mem_of_getElem? (i := 796) (by decide +kernel), List.mem_of_getElem? (i := 1101) (by decide +kernel), List.mem_of_getElem? (i := 1102) (by decide +kernel)⟩
theorem lw_p40 : lw_okq (⟨"CamelStrawsModel", "throughNow", "()I"⟩, 45) := ⟨⟨by decide +kernel, by decide +kernel⟩, List.mem_of_getElem? (i := 796) (by decide +kernel), List.mem_of_getElem? (i := 1105) (by decide +kernel), List.mem_of_getElem? (i := 1106) (by decide +kernel)⟩
theorem lw_p41 : lw_okq (⟨"CamelStrawsModel", "lostOf", "()I"⟩, 45) := ⟨⟨by decide +kernel, by decide +kernel⟩, List.mem_of_getElem? (i := 796) (by decide +kernel), List.mem_of_getElem? (i := 1113) (by decide +kernel), List.mem_of_getElem? (i := 1114) (by decide +kernel)⟩
theorem lw_p42 : lw_okq (⟨"CamelStrawsModel", "firstOf", "(I)I"⟩, 45) := ⟨⟨by decide +kernel, by decide +kernel⟩, List.mem_of_getElem? (i := 796) (by decide +kernel), List.mem_of_getElem? (i := 1121) (by decide +kernel), List.mem_of_getElem? (i := 1122) (by decide +kernel)⟩
theorem lw_p43 : lw_okq (⟨"CamelStrawsModel", "bestOf", "()I"⟩, 45) := ⟨⟨by decide +kernel, by decide +kernel⟩, List.mem_of_getElem? (i := 796) (by decide +kernel), List.mem_of_getElem? (i := 1129) (by decide +kernel), List.mem_of_getElem? (i := 1130) (by decide +kernel)⟩
theorem lw_p44 : lw_okq (⟨"CamelStrawsModel", "wholeOf", "()I"⟩, 45) := ⟨⟨by decide +kernel, by decide +kernel⟩, List.mem_of_getElem? (i := 796) (by decide +kernel), List.mem_of_getElem? (i := 1137) (by decide +kernel), List.mem_of_getElem? (i := 1138) (by decide +kernel)⟩
theorem lw_p45 : lw_okq (⟨"CamelStrawsModel", "tiredOf", "()I"⟩, 45) := ⟨⟨by decide +kernel, by decide +kernel⟩, List.mem_of_getElem? (i := 796) (by decide +kernel), List.mem_of_getElem? (i := 1145) (by decide +kernel), List.mem_of_getElem? (i := 1146) (by decide +kernel)⟩
theorem lw_p46 : lw_okq (⟨"CamelStrawsModel", "strengthOn", "(I)I"⟩, 45) := ⟨⟨by decide +kernel, by decide +kernel⟩, List.mem_of_getElem? (i := 796) (by decide +kernel), List.mem_of_getElem? (i := 1149) (by decide +kernel), List.mem_of_getElem? (i := 1150) (by decide +kernel)⟩
theorem lw_p47 : lw_okq (⟨"CamelStrawsModel", "lastOf", "(II)I"⟩, 45) := ⟨⟨by decide +kernel, by decide +kernel⟩, List.mem_of_getElem? (i := 796) (by decide +kernel), List.mem_of_getElem? (i := 1157) (by decide +kernel), List.mem_of_getElem? (i := 1158) (by decide +kernel)⟩
def lw_privs_3 : List (MethodName × Nat) := [(⟨"CamelStrawsModel", "takes", "(I)Z"⟩, 45), (⟨"CamelStrawsModel", "breaks", "(II)V"⟩, 45), (⟨"CamelStrawsModel", "comeStraws", "(I)V"⟩, 45), (⟨"CamelStrawsModel", "comesStraw", "(II)V"⟩, 45), (⟨"CamelStrawsModel", "tires", "(II)V"⟩, 45), (⟨"CamelStrawsModel", "wears", "(II)Z"⟩, 45), (⟨"CamelStrawsModel", "ends", "(II)V"⟩, 45), (⟨"CamelStrawsModel", "throughOf", "()I"⟩, 45), (⟨"CamelStrawsModel", "throughNow", "()I"⟩, 45), (⟨"CamelStrawsModel", "lostOf", "()I"⟩, 45), (⟨"CamelStrawsModel", "firstOf", "(I)I"⟩, 45), (⟨"CamelStrawsModel", "bestOf", "()I"⟩, 45), (⟨"CamelStrawsModel", "wholeOf", "()I"⟩, 45), (⟨"CamelStrawsModel", "tiredOf", "()I"⟩, 45), (⟨"CamelStrawsModel", "strengthOn", "(I)I"⟩, 45), (⟨"CamelStrawsModel", "lastOf", "(II)I"⟩, 45)]
theorem lw_r3 : ∀ q ∈ lw_privs_3, lw_okq q := List.forall_mem_cons.mpr ⟨lw_p32, List.forall_mem_cons.mpr ⟨lw_p33, List.forall_mem_cons.mpr ⟨lw_p34, List.forall_mem_cons.mpr ⟨lw_p35, List.forall_mem_cons.mpr ⟨lw_p36, List.forall_mem_cons.mpr ⟨lw_p37, List.forall_mem_cons.mpr ⟨lw_p38, List.forall_mem_cons.mpr ⟨lw_p39, List.forall_mem_cons.mpr ⟨lw_p40, List.forall_mem_cons.mpr ⟨lw_p41, List.forall_mem_cons.mpr ⟨lw_p42, List.forall_mem_cons.mpr ⟨lw_p43, List.forall_mem_cons.mpr ⟨lw_p44, List.forall_mem_cons.mpr ⟨lw_p45, List.forall_mem_cons.mpr ⟨lw_p46, List.forall_mem_cons.mpr ⟨lw_p47, fun _ h => absurd h List.not_mem_nil⟩⟩⟩⟩⟩⟩⟩⟩⟩⟩⟩⟩⟩⟩⟩⟩
theorem lw_p48 : lw_okq (⟨"CamelStrawsModel", "bearOf", "(II)I"⟩, 45) := ⟨⟨by decide +kernel, by decide +kernel⟩, List.mem_of_getElem? (i := 796) (by decide +kernel), List.mem_of_getElem? (i := 1165) (by decide +kernel), List.mem_of_getElem? (i := 1166) (by decide +kernel)⟩
theorem lw_p49 : lw_okq (⟨"CamelStrawsModel", "whenOf", "(II)I"⟩, 45) := ⟨⟨by decide +kernel, by decide +kernel⟩, List.mem_of_getElem? (i := 796) (by decide +kernel), List.mem_of_getElem? (i := 1173) (by decide +kernel), List.mem_of_getElem? (i := 1174) (by decide +kernel)⟩
theorem lw_p50 : lw_okq (⟨"CamelStrawsModel", "spareBy", "()I"⟩, 45) := ⟨⟨by decide +kernel, by decide +kernel⟩, List.mem_of_getElem? (i := 796) (by decide +kernel), List.mem_of_getElem? (i := 1181) (by decide +kernel), List.mem_of_getElem? (i := 1182) (by decide +kernel)⟩
theorem lw_p51 : lw_okq (⟨"CamelStrawsModel", "isSpared", "(I)Z"⟩, 45) := ⟨⟨by decide +kernel, by decide +kernel⟩, List.mem_of_getElem? (i := 796) (by decide +kernel), List.mem_of_getElem? (i := 1185) (by decide +kernel), List.mem_of_getElem? (i := 1186) (by decide +kernel)⟩
theorem lw_p52 : lw_okq (⟨"CamelStrawsModel", "brokeAll", "()I"⟩, 45) := ⟨⟨by decide +kernel, by decide +kernel⟩, List.mem_of_getElem? (i := 796) (by decide +kernel), List.mem_of_getElem? (i := 1189) (by decide +kernel), List.mem_of_getElem? (i := 1190) (by decide +kernel)⟩
theorem lw_p53 : lw_okq (⟨"CamelStrawsModel", "ofRow", "(II)I"⟩, 45) := ⟨⟨by decide +kernel, by decide +kernel⟩, List.mem_of_getElem? (i := 796) (by decide +kernel), List.mem_of_getElem? (i := 1193) (by decide +kernel), List.mem_of_getElem? (i := 1194) (by decide +kernel)⟩
theorem lw_p54 : lw_okq (⟨"CamelStrawsModel", "neverNow", "()I"⟩, 45) := ⟨⟨by decide +kernel, by decide +kernel⟩, List.mem_of_getElem? (i := 796) (by decide +kernel), List.mem_of_getElem? (i := 1209) (by decide +kernel), List.mem_of_getElem? (i := 1210) (by decide +kernel)⟩
theorem lw_p55 : lw_okq (⟨"CamelStrawsModel", "isSeen", "()Z"⟩, 45) := ⟨⟨by decide +kernel, by decide +kernel⟩, List.mem_of_getElem? (i := 796) (by decide +kernel), List.mem_of_getElem? (i := 1213) (by decide +kernel), List.mem_of_getElem? (i := 1214) (by decide +kernel)⟩
theorem lw_p56 : lw_okq (⟨"CamelStrawsModel", "sortsBy", "(I)I"⟩, 45) := ⟨⟨by decide +kernel, by decide +kernel⟩, List.mem_of_getElem? (i := 796) (by decide +kernel), List.mem_of_getElem? (i := 1221) (by decide +kernel), List.mem_of_getElem? (i := 1222) (by decide +kernel)⟩
theorem lw_p57 : lw_okq (⟨"CamelStrawsModel", "strongBy", "(I)I"⟩, 45) := ⟨⟨by decide +kernel, by decide +kernel⟩, List.mem_of_getElem? (i := 796) (by decide +kernel), List.mem_of_getElem? (i := 1225) (by decide +kernel), List.mem_of_getElem? (i := 1226) (by decide +kernel)⟩
theorem lw_p58 : lw_okq (⟨"CamelStrawsModel", "askOf", "(I)I"⟩, 45) := ⟨⟨by decide +kernel, by decide +kernel⟩, List.mem_of_getElem? (i := 796) (by decide +kernel), List.mem_of_getElem? (i := 1233) (by decide +kernel), List.mem_of_getElem? (i := 1234) (by decide +kernel)⟩
theorem lw_p59 : lw_okq (⟨"CamelStrawsModel", "chanceOf", "(III)J"⟩, 45) := ⟨⟨by decide +kernel, by decide +kernel⟩, List.mem_of_getElem? (i := 796) (by decide +kernel), List.mem_of_getElem? (i := 1241) (by decide +kernel), List.mem_of_getElem? (i := 1242) (by decide +kernel)⟩
theorem lw_p60 : lw_okq (⟨"CamelStrawsModel", "yearsOf", "(III)I"⟩, 45) := ⟨⟨by decide +kernel, by decide +kernel⟩, List.mem_of_getElem? (i := 796) (by decide +kernel), List.mem_of_getElem? (i := 1256) (by decide +kernel), List.mem_of_getElem? (i := 1257) (by decide +kernel)⟩
theorem lw_p61 : lw_okq (⟨"CamelStrawsModel", "lacks", "(III)I"⟩, 45) := ⟨⟨by decide +kernel, by decide +kernel⟩, List.mem_of_getElem? (i := 796) (by decide +kernel), List.mem_of_getElem? (i := 1273) (by decide +kernel), List.mem_of_getElem? (i := 1274) (by decide +kernel)⟩
theorem lw_p62 : lw_okq (⟨"CamelStrawsModel", "keep", "(III)V"⟩, 45) := ⟨⟨by decide +kernel, by decide +kernel⟩, List.mem_of_getElem? (i := 796) (by decide +kernel), List.mem_of_getElem? (i := 1277) (by decide +kernel), List.mem_of_getElem? (i := 1278) (by decide +kernel)⟩
theorem lw_p63 : lw_okq (⟨"CamelStrawsModel", "sumOf", "(I)I"⟩, 45) := ⟨⟨by decide +kernel, by decide +kernel⟩, List.mem_of_getElem? (i := 796) (by decide +kernel), List.mem_of_getElem? (i := 1298) (by decide +kernel), List.mem_of_getElem? (i := 1299) (by decide +kernel)⟩
def lw_privs_4 : List (MethodName × Nat) := [(⟨"CamelStrawsModel", "bearOf", "(II)I"⟩, 45), (⟨"CamelStrawsModel", "whenOf", "(II)I"⟩, 45), (⟨"CamelStrawsModel", "spareBy", "()I"⟩, 45), (⟨"CamelStrawsModel", "isSpared", "(I)Z"⟩, 45), (⟨"CamelStrawsModel", "brokeAll", "()I"⟩, 45), (⟨"CamelStrawsModel", "ofRow", "(II)I"⟩, 45), (⟨"CamelStrawsModel", "neverNow", "()I"⟩, 45), (⟨"CamelStrawsModel", "isSeen", "()Z"⟩, 45), (⟨"CamelStrawsModel", "sortsBy", "(I)I"⟩, 45), (⟨"CamelStrawsModel", "strongBy", "(I)I"⟩, 45), (⟨"CamelStrawsModel", "askOf", "(I)I"⟩, 45), (⟨"CamelStrawsModel", "chanceOf", "(III)J"⟩, 45), (⟨"CamelStrawsModel", "yearsOf", "(III)I"⟩, 45), (⟨"CamelStrawsModel", "lacks", "(III)I"⟩, 45), (⟨"CamelStrawsModel", "keep", "(III)V"⟩, 45), (⟨"CamelStrawsModel", "sumOf", "(I)I"⟩, 45)]
theorem lw_r4 : ∀ q ∈ lw_privs_4, lw_okq q := List.forall_mem_cons.mpr ⟨lw_p48, List.forall_mem_cons.mpr ⟨lw_p49, List.forall_mem_cons.mpr ⟨lw_p50, List.forall_mem_cons.mpr ⟨lw_p51, List.forall_mem_cons.mpr ⟨lw_p52, List.forall_mem_cons.mpr ⟨lw_p53, List.forall_mem_cons.mpr ⟨lw_p54, List.forall_mem_cons.mpr ⟨lw_p55, List.forall_mem_cons.mpr ⟨lw_p56, List.forall_mem_cons.mpr ⟨lw_p57, List.forall_mem_cons.mpr ⟨lw_p58, List.forall_mem_cons.mpr ⟨lw_p59, List.forall_mem_cons.mpr ⟨lw_p60, List.forall_mem_cons.mpr ⟨lw_p61, List.forall_mem_cons.mpr ⟨lw_p62, List.forall_mem_cons.mpr ⟨lw_p63, fun _ h => absurd h List.not_mem_nil⟩⟩⟩⟩⟩⟩⟩⟩⟩⟩⟩⟩⟩⟩⟩⟩
theorem lw_p64 : lw_okq (⟨"CamelStrawsModel", "feesAll", "()I"⟩, 45) := ⟨⟨by decide +kernel, by decide +kernel⟩, List.mem_of_getElem? (i := 796) (by decide +kernel), List.mem_of_getElem? (i := 1302) (by decide +kernel), List.mem_of_getElem? (i := 1303) (by decide +kernel)⟩
theorem lw_p65 : lw_okq (⟨"CamelStrawsModel", "baleDigest", "(JI)J"⟩, 45) := ⟨⟨by decide +kernel, by decide +kernel⟩, List.mem_of_getElem? (i := 796) (by decide +kernel), List.mem_of_getElem? (i := 1313) (by decide +kernel), List.mem_of_getElem? (i := 1314) (by decide +kernel)⟩
theorem lw_p66 : lw_okq (⟨"CamelStrawsModel", "camelDigest", "(JI)J"⟩, 45) := ⟨⟨by decide +kernel, by decide +kernel⟩, List.mem_of_getElem? (i := 796) (by decide +kernel), List.mem_of_getElem? (i := 1317) (by decide +kernel), List.mem_of_getElem? (i := 1318) (by decide +kernel)⟩
theorem lw_p67 : lw_okq (⟨"CamelStrawsModel", "dayDigest", "(JII)J"⟩, 45) := ⟨⟨by decide +kernel, by decide +kernel⟩, List.mem_of_getElem? (i := 796) (by decide +kernel), List.mem_of_getElem? (i := 1321) (by decide +kernel), List.mem_of_getElem? (i := 1322) (by decide +kernel)⟩
def lw_privs_5 : List (MethodName × Nat) := [(⟨"CamelStrawsModel", "feesAll", "()I"⟩, 45), (⟨"CamelStrawsModel", "baleDigest", "(JI)J"⟩, 45), (⟨"CamelStrawsModel", "camelDigest", "(JI)J"⟩, 45), (⟨"CamelStrawsModel", "dayDigest", "(JII)J"⟩, 45)]
theorem lw_r5 : ∀ q ∈ lw_privs_5, lw_okq q := List.forall_mem_cons.mpr ⟨lw_p64, List.forall_mem_cons.mpr ⟨lw_p65, List.forall_mem_cons.mpr ⟨lw_p66, List.forall_mem_cons.mpr ⟨lw_p67, fun _ h => absurd h List.not_mem_nil⟩⟩⟩⟩
def lw_privs : List (MethodName × Nat) := lw_privs_1 ++ (lw_privs_2 ++ (lw_privs_3 ++ (lw_privs_4 ++ (lw_privs_5))))
def lw_tbl : List Cond := k2_sels lw_privs ++ tables_1
theorem lw_privs_ok : ∀ q ∈ lw_privs, lw_okq q := by
  show ∀ q ∈ lw_privs_1 ++ (lw_privs_2 ++ (lw_privs_3 ++ (lw_privs_4 ++ (lw_privs_5)))), lw_okq q
  exact List.forall_mem_append.mpr ⟨lw_r1, List.forall_mem_append.mpr ⟨lw_r2, List.forall_mem_append.mpr ⟨lw_r3, List.forall_mem_append.mpr ⟨lw_r4, lw_r5⟩⟩⟩⟩
end
section
/-! names of the classes, their fields, the cells that the two constructors make (printed by wip/gen/names.py out of the claim) -/
def K_0 : String := "CamelStraws"
def T_0 : u_T := fun k => match k with
  | 0 => ("CamelStraws", "camels", "LCamelStraws$Camels;", true)
  | 1 => ("CamelStraws", "bales", "LCamelStraws$Bales;", true)
  | 2 => ("CamelStraws", "texts", "[LCamelStraws$Text;", true)
  | 3 => ("CamelStraws", "straws", "LCamelStraws$Straws;", true)
  | 4 => ("CamelStraws", "drawn", "LCamelStraws$Straws;", true)
  | 5 => ("CamelStraws", "caravan", "LCamelStraws$Caravan;", true)
  | 6 => ("CamelStraws", "plans", "LCamelStraws$Plans;", true)
  | 7 => ("CamelStraws", "guesses", "LCamelStraws$Guesses;", true)
  | 8 => ("CamelStraws", "odds", "LCamelStraws$Odds;", true)
  | 9 => ("CamelStraws", "sheets", "[LCamelStraws$Sheet;", true)
  | _ => ("CamelStraws", "latestFinding", "I", false)
def ft_0 : Nat → FieldType := fun k => match k with
  | 0 => .object "CamelStraws$Camels"
  | 1 => .object "CamelStraws$Bales"
  | 2 => .array (.object "CamelStraws$Text")
  | 3 => .object "CamelStraws$Straws"
  | 4 => .object "CamelStraws$Straws"
  | 5 => .object "CamelStraws$Caravan"
  | 6 => .object "CamelStraws$Plans"
  | 7 => .object "CamelStraws$Guesses"
  | 8 => .object "CamelStraws$Odds"
  | 9 => .array (.object "CamelStraws$Sheet")
  | _ => .int
def K_1 : String := "CamelStraws$Bales"
def T_1 : u_T := fun k => match k with
  | 0 => ("CamelStraws$Text", "bytes", "[I", true)
  | 1 => ("CamelStraws$Text", "period", "I", true)
  | 2 => ("CamelStraws$Text", "size", "I", false)
  | 3 => ("CamelStraws$Text", "faultPlace", "I", false)
  | 4 => ("CamelStraws$Text", "items", "I", false)
  | 5 => ("CamelStraws$Bales", "camels", "[I", true)
  | 6 => ("CamelStraws$Bales", "weights", "[I", true)
  | _ => ("CamelStraws$Bales", "days", "[I", true)
def ft_1 : Nat → FieldType := fun k => match k with
  | 0 => .array (.int)
  | 1 => .int
  | 2 => .int
  | 3 => .int
  | 4 => .int
  | 5 => .array (.int)
  | 6 => .array (.int)
  | _ => .array (.int)
def K_2 : String := "CamelStraws$Camels"
def T_2 : u_T := fun k => match k with
  | 0 => ("CamelStraws$Text", "bytes", "[I", true)
  | 1 => ("CamelStraws$Text", "period", "I", true)
  | 2 => ("CamelStraws$Text", "size", "I", false)
  | 3 => ("CamelStraws$Text", "faultPlace", "I", false)
  | 4 => ("CamelStraws$Text", "items", "I", false)
  | 5 => ("CamelStraws$Camels", "sorts", "[I", true)
  | _ => ("CamelStraws$Camels", "figures", "[I", true)
def ft_2 : Nat → FieldType := fun k => match k with
  | 0 => .array (.int)
  | 1 => .int
  | 2 => .int
  | 3 => .int
  | 4 => .int
  | 5 => .array (.int)
  | _ => .array (.int)
def K_3 : String := "CamelStraws$Caravan"
def T_3 : u_T := fun k => match k with
  | 0 => ("CamelStraws$Caravan", "camels", "LCamelStraws$Camels;", true)
  | 1 => ("CamelStraws$Caravan", "bales", "LCamelStraws$Bales;", true)
  | 2 => ("CamelStraws$Caravan", "straws", "LCamelStraws$Straws;", false)
  | 3 => ("CamelStraws$Caravan", "leftOut", "I", false)
  | 4 => ("CamelStraws$Caravan", "walk", "LCamelStraws$Walk;", true)
  | _ => ("CamelStraws$Caravan", "strengths", "[I", true)
def ft_3 : Nat → FieldType := fun k => match k with
  | 0 => .object "CamelStraws$Camels"
  | 1 => .object "CamelStraws$Bales"
  | 2 => .object "CamelStraws$Straws"
  | 3 => .int
  | 4 => .object "CamelStraws$Walk"
  | _ => .array (.int)
def K_4 : String := "CamelStraws$Guesses"
def T_4 : u_T := fun k => match k with
  | 0 => ("CamelStraws$Guesses", "caravan", "LCamelStraws$Caravan;", true)
  | 1 => ("CamelStraws$Guesses", "days", "[I", true)
  | 2 => ("CamelStraws$Guesses", "places", "[I", true)
  | 3 => ("CamelStraws$Guesses", "loads", "[I", true)
  | 4 => ("CamelStraws$Guesses", "number", "I", false)
  | _ => ("CamelStraws$Guesses", "loadsByFigure", "[I", true)
def ft_4 : Nat → FieldType := fun k => match k with
  | 0 => .object "CamelStraws$Caravan"
  | 1 => .array (.int)
  | 2 => .array (.int)
  | 3 => .array (.int)
  | 4 => .int
  | _ => .array (.int)
def K_5 : String := "CamelStraws$Odds"
def T_5 : u_T := fun k => match k with
  | 0 => ("CamelStraws$Odds", "caravan", "LCamelStraws$Caravan;", true)
  | 1 => ("CamelStraws$Odds", "above", "J", false)
  | _ => ("CamelStraws$Odds", "below", "J", false)
def ft_5 : Nat → FieldType := fun k => match k with
  | 0 => .object "CamelStraws$Caravan"
  | 1 => .long
  | _ => .long
def K_6 : String := "CamelStraws$Plans"
def T_6 : u_T := fun k => match k with
  | 0 => ("CamelStraws$Plans", "caravan", "LCamelStraws$Caravan;", true)
  | 1 => ("CamelStraws$Plans", "which", "I", false)
  | _ => ("CamelStraws$Plans", "howMuch", "I", false)
def ft_6 : Nat → FieldType := fun k => match k with
  | 0 => .object "CamelStraws$Caravan"
  | 1 => .int
  | _ => .int
def K_7 : String := "CamelStraws$Sheet"
def T_7 : u_T := fun k => match k with
  | 0 => ("CamelStraws$Sheet", "items", "[I", true)
  | 1 => ("CamelStraws$Sheet", "form", "I", false)
  | _ => ("CamelStraws$Sheet", "size", "I", false)
def ft_7 : Nat → FieldType := fun k => match k with
  | 0 => .array (.int)
  | 1 => .int
  | _ => .int
def K_8 : String := "CamelStraws$Straws"
def T_8 : u_T := fun k => match k with
  | 0 => ("CamelStraws$Straws", "days", "[I", true)
  | 1 => ("CamelStraws$Straws", "camels", "[I", true)
  | _ => ("CamelStraws$Straws", "number", "I", false)
def ft_8 : Nat → FieldType := fun k => match k with
  | 0 => .array (.int)
  | 1 => .array (.int)
  | _ => .int
def K_9 : String := "CamelStraws$Walk"
def T_9 : u_T := fun k => match k with
  | 0 => ("CamelStraws$Walk", "kept", "[I", true)
  | 1 => ("CamelStraws$Walk", "sort", "I", false)
  | 2 => ("CamelStraws$Walk", "strengthAtFirst", "I", false)
  | 3 => ("CamelStraws$Walk", "load", "I", false)
  | 4 => ("CamelStraws$Walk", "strength", "I", false)
  | 5 => ("CamelStraws$Walk", "dayOfFall", "I", false)
  | 6 => ("CamelStraws$Walk", "fees", "I", false)
  | 7 => ("CamelStraws$Walk", "brought", "I", false)
  | 8 => ("CamelStraws$Walk", "spilt", "I", false)
  | 9 => ("CamelStraws$Walk", "room", "I", false)
  | 10 => ("CamelStraws$Walk", "lies", "Z", false)
  | 11 => ("CamelStraws$Walk", "broke", "I", false)
  | _ => ("CamelStraws$Walk", "firstFall", "I", false)
def ft_9 : Nat → FieldType := fun k => match k with
  | 0 => .array (.int)
  | 1 => .int
  | 2 => .int
  | 3 => .int
  | 4 => .int
  | 5 => .int
  | 6 => .int
  | 7 => .int
  | 8 => .int
  | 9 => .int
  | 10 => .boolean
  | 11 => .int
  | _ => .int
def K_10 : String := "CamelStrawsModel"
def T_10 : u_T := fun k => match k with
  | 0 => ("CamelStrawsModel", "typed", "[I", true)
  | 1 => ("CamelStrawsModel", "texts", "[I", true)
  | 2 => ("CamelStrawsModel", "camels", "I", false)
  | 3 => ("CamelStrawsModel", "sorts", "[I", true)
  | 4 => ("CamelStrawsModel", "figures", "[I", true)
  | 5 => ("CamelStrawsModel", "bales", "I", false)
  | 6 => ("CamelStrawsModel", "baleOn", "[I", true)
  | 7 => ("CamelStrawsModel", "baleBy", "[I", true)
  | 8 => ("CamelStrawsModel", "baleDay", "[I", true)
  | 9 => ("CamelStrawsModel", "straws", "I", false)
  | 10 => ("CamelStrawsModel", "strawDay", "[I", true)
  | 11 => ("CamelStrawsModel", "strawOn", "[I", true)
  | 12 => ("CamelStrawsModel", "strawsNow", "I", false)
  | 13 => ("CamelStrawsModel", "dayNow", "[I", true)
  | 14 => ("CamelStrawsModel", "onNow", "[I", true)
  | 15 => ("CamelStrawsModel", "notStraws", "I", false)
  | 16 => ("CamelStrawsModel", "isLast", "Z", false)
  | 17 => ("CamelStrawsModel", "loads", "[I", true)
  | 18 => ("CamelStrawsModel", "strengths", "[I", true)
  | 19 => ("CamelStrawsModel", "lies", "[I", true)
  | 20 => ("CamelStrawsModel", "fees", "[I", true)
  | 21 => ("CamelStrawsModel", "brought", "[I", true)
  | 22 => ("CamelStrawsModel", "broke", "[I", true)
  | 23 => ("CamelStrawsModel", "lostNow", "I", false)
  | 24 => ("CamelStrawsModel", "firstDay", "I", false)
  | 25 => ("CamelStrawsModel", "firstWho", "I", false)
  | 26 => ("CamelStrawsModel", "loadAt", "[I", true)
  | 27 => ("CamelStrawsModel", "strengthAt", "[I", true)
  | 28 => ("CamelStrawsModel", "lieAt", "[I", true)
  | 29 => ("CamelStrawsModel", "feeAt", "[I", true)
  | 30 => ("CamelStrawsModel", "broughtAt", "[I", true)
  | 31 => ("CamelStrawsModel", "brokeAt", "[I", true)
  | 32 => ("CamelStrawsModel", "lastAt", "[I", true)
  | 33 => ("CamelStrawsModel", "planRow", "[I", true)
  | 34 => ("CamelStrawsModel", "seens", "I", false)
  | 35 => ("CamelStrawsModel", "seenDay", "[I", true)
  | 36 => ("CamelStrawsModel", "seenWho", "[I", true)
  | 37 => ("CamelStrawsModel", "seenLoad", "[I", true)
  | 38 => ("CamelStrawsModel", "loadBy", "[I", true)
  | 39 => ("CamelStrawsModel", "isThere", "[Z", true)
  | 40 => ("CamelStrawsModel", "forms", "[I", true)
  | 41 => ("CamelStrawsModel", "sizes", "[I", true)
  | 42 => ("CamelStrawsModel", "items", "[I", true)
  | 43 => ("CamelStrawsModel", "moved", "[I", true)
  | _ => ("CamelStrawsModel", "finding", "I", false)
def ft_10 : Nat → FieldType := fun k => match k with
  | 0 => .array (.int)
  | 1 => .array (.int)
  | 2 => .int
  | 3 => .array (.int)
  | 4 => .array (.int)
  | 5 => .int
  | 6 => .array (.int)
  | 7 => .array (.int)
  | 8 => .array (.int)
  | 9 => .int
  | 10 => .array (.int)
  | 11 => .array (.int)
  | 12 => .int
  | 13 => .array (.int)
  | 14 => .array (.int)
  | 15 => .int
  | 16 => .boolean
  | 17 => .array (.int)
  | 18 => .array (.int)
  | 19 => .array (.int)
  | 20 => .array (.int)
  | 21 => .array (.int)
  | 22 => .array (.int)
  | 23 => .int
  | 24 => .int
  | 25 => .int
  | 26 => .array (.int)
  | 27 => .array (.int)
  | 28 => .array (.int)
  | 29 => .array (.int)
  | 30 => .array (.int)
  | 31 => .array (.int)
  | 32 => .array (.int)
  | 33 => .array (.int)
  | 34 => .int
  | 35 => .array (.int)
  | 36 => .array (.int)
  | 37 => .array (.int)
  | 38 => .array (.int)
  | 39 => .array (.boolean)
  | 40 => .array (.int)
  | 41 => .array (.int)
  | 42 => .array (.int)
  | 43 => .array (.int)
  | _ => .int
def softW : Cond → Bool
  | .methodLinkNest _ _ _ _ => true
  | .declares _ => true
  | .castable _ _ => true
  | .arrayOver (.object _) => true
  | _ => false
def okW (w : Cond) : Bool := goodWord w || softW w
def tb_l : List Cond := lw_tbl.filter okW
def cl_s : List vw_C := [(K_0, T_0, 11), (K_1, T_1, 8), (K_2, T_2, 7), (K_3, T_3, 6), (K_4, T_4, 6), (K_5, T_5, 3), (K_6, T_6, 3), (K_7, T_7, 3), (K_8, T_8, 3), (K_9, T_9, 13), (K_10, T_10, 45)]
def nc_c : Nat := 72
def kd_l : List Nat := [20, 20, 20, 20, 21, 20, 20, 20, 20, 20, 20, 20, 20, 20, 20, 20, 20, 20, 20, 20, 20, 20, 20, 20, 20, 20, 20, 20, 20, 20, 20, 20, 20, 20, 10, 20, 7, 20, 7, 20, 7, 20, 7, 23, 5, 20, 20, 20, 20, 4, 6, 20, 20, 9, 3, 20, 20, 8, 20, 20, 8, 22, 20, 20, 20, 20, 1, 20, 20, 20, 2, 0]
def ln_l : List Nat := [60, 240, 4, 4, 4, 240, 8, 8, 8, 2, 24, 192, 192, 192, 192, 192, 192, 8, 8, 8, 8, 8, 8, 17, 17, 8, 8, 11, 11, 11, 9, 9, 78, 2, 0, 60, 0, 60, 0, 60, 0, 60, 0, 4, 0, 240, 8, 8, 8, 0, 0, 24, 192, 0, 0, 8, 8, 0, 8, 8, 0, 2, 10, 10, 10, 39, 0, 8, 8, 23, 0, 0]
def fd_l : List (List (Nat × Nat)) := [[], [], [], [], [], [], [], [], [], [], [], [], [], [], [], [], [], [], [], [], [], [], [], [], [], [], [], [], [], [], [], [], [], [], [(2, 33), (2, 32), (0, 0), (2, 31), (2, 30), (0, 0), (2, 29), (2, 28), (2, 27), (0, 0), (2, 26), (2, 25), (0, 0), (2, 24), (2, 23), (0, 0), (0, 0), (2, 22), (2, 21), (2, 20), (2, 19), (2, 18), (2, 17), (0, 0), (0, 0), (0, 0), (2, 16), (2, 15), (2, 14), (2, 13), (2, 12), (2, 11), (2, 10), (2, 9), (0, 0), (2, 8), (2, 7), (2, 6), (2, 5), (2, 4), (2, 3), (2, 2), (2, 1), (2, 0), (0, 0)], [], [(2, 35), (0, 0), (0, 0)], [], [(2, 37), (0, 0), (0, 0)], [], [(2, 39), (0, 0), (0, 0)], [], [(2, 41), (0, 0), (0, 0)], [], [(2, 54), (1, 0), (1, 0)], [], [], [], [], [(2, 54), (2, 48), (2, 47), (2, 46), (0, 0), (2, 45)], [(2, 54), (0, 0), (0, 0)], [], [], [(2, 52), (0, 0), (0, 0), (0, 0), (0, 0), (0, 0), (0, 0), (0, 0), (0, 0), (0, 0), (0, 0), (0, 0), (0, 0)], [(2, 70), (2, 66), (3, 0), (0, 0), (2, 53), (2, 51)], [], [], [(2, 56), (2, 55), (0, 0)], [], [], [(2, 59), (2, 58), (0, 0)], [], [], [], [], [], [(2, 65), (0, 0), (0, 0), (0, 0), (0, 0), (2, 64), (2, 63), (2, 62)], [], [], [], [(2, 69), (0, 0), (0, 0), (0, 0), (0, 0), (2, 68), (2, 67)], [(2, 70), (2, 66), (2, 61), (2, 60), (2, 57), (2, 54), (2, 50), (2, 49), (2, 44), (2, 43), (0, 0)]]
def rx_l : List (List Nat) := [[], [], [], [], [], [], [], [], [], [], [], [], [], [], [], [], [], [], [], [], [], [], [], [], [], [], [], [], [], [], [], [], [], [], [], [], [], [], [], [], [], [], [], [42, 40, 38, 36], [], [], [], [], [], [], [], [], [], [], [], [], [], [], [], [], [], [70, 66], [], [], [], [], [], [], [], [], [], []]
def kd (a : Nat) : Nat := kd_l.getD a 99
def ln (a : Nat) : Nat := ln_l.getD a 0
def fdl (a : Nat) : List (Nat × Nat) := fd_l.getD a []
def rfx (a i : Nat) : Nat := (rx_l.getD a []).getD i 0
def cl_ok (ci : Nat) (C : String) (T : u_T) (N : Nat) (ty : Nat → FieldType) : Prop := cl_s[ci]? = some (C, T, N) ∧ (∀ w ∈ u_ws C T N, w ∈ tb_l) ∧ (∀ k, k < N → parseFieldDescriptor (T k).2.2.1 = some (ty k)) ∧ (∀ a, a < N → ∀ b, b < N → a ≠ b → (T a).2.1 ≠ (T b).2.1)
theorem in_0 : ∀ w ∈ u_ws K_0 T_0 11, w ∈ tb_l := by
  have h : u_ws K_0 T_0 11 = [377, 379, 381, 383, 385, 387, 389, 391, 393, 395, 397].filterMap (fun i => lw_tbl[i]?) := by decide +kernel
  have h2 : (u_ws K_0 T_0 11).all okW = true := by decide +kernel
  intro w hw
  have h3 := List.all_eq_true.mp h2 w hw
  rw [h] at hw
  obtain ⟨j, -, hj⟩ := List.mem_filterMap.mp hw
  exact List.mem_filter.mpr ⟨List.mem_of_getElem? hj, h3⟩
theorem cq_0 : cl_ok 0 K_0 T_0 11 ft_0 := ⟨rfl, in_0, by decide +kernel, by decide +kernel⟩
theorem in_1 : ∀ w ∈ u_ws K_1 T_1 8, w ∈ tb_l := by
  have h : u_ws K_1 T_1 8 = [170, 171, 172, 173, 174, 164, 166, 168].filterMap (fun i => lw_tbl[i]?) := by decide +kernel
  have h2 : (u_ws K_1 T_1 8).all okW = true := by decide +kernel
  intro w hw
  have h3 := List.all_eq_true.mp h2 w hw
  rw [h] at hw
  obtain ⟨j, -, hj⟩ := List.mem_filterMap.mp hw
  exact List.mem_filter.mpr ⟨List.mem_of_getElem? hj, h3⟩
theorem cq_1 : cl_ok 1 K_1 T_1 8 ft_1 := ⟨rfl, in_1, by decide +kernel, by decide +kernel⟩
theorem in_2 : ∀ w ∈ u_ws K_2 T_2 7, w ∈ tb_l := by
  have h : u_ws K_2 T_2 7 = [135, 137, 139, 141, 143, 131, 133].filterMap (fun i => lw_tbl[i]?) := by decide +kernel
  have h2 : (u_ws K_2 T_2 7).all okW = true := by decide +kernel
  intro w hw
  have h3 := List.all_eq_true.mp h2 w hw
  rw [h] at hw
  obtain ⟨j, -, hj⟩ := List.mem_filterMap.mp hw
  exact List.mem_filter.mpr ⟨List.mem_of_getElem? hj, h3⟩
theorem cq_2 : cl_ok 2 K_2 T_2 7 ft_2 := ⟨rfl, in_2, by decide +kernel, by decide +kernel⟩
theorem in_3 : ∀ w ∈ u_ws K_3 T_3 6, w ∈ tb_l := by
  have h : u_ws K_3 T_3 6 = [271, 273, 275, 277, 279, 281].filterMap (fun i => lw_tbl[i]?) := by decide +kernel
  have h2 : (u_ws K_3 T_3 6).all okW = true := by decide +kernel
  intro w hw
  have h3 := List.all_eq_true.mp h2 w hw
  rw [h] at hw
  obtain ⟨j, -, hj⟩ := List.mem_filterMap.mp hw
  exact List.mem_filter.mpr ⟨List.mem_of_getElem? hj, h3⟩
theorem cq_3 : cl_ok 3 K_3 T_3 6 ft_3 := ⟨rfl, in_3, by decide +kernel, by decide +kernel⟩
theorem in_4 : ∀ w ∈ u_ws K_4 T_4 6, w ∈ tb_l := by
  have h : u_ws K_4 T_4 6 = [315, 317, 319, 321, 323, 325].filterMap (fun i => lw_tbl[i]?) := by decide +kernel
  have h2 : (u_ws K_4 T_4 6).all okW = true := by decide +kernel
  intro w hw
  have h3 := List.all_eq_true.mp h2 w hw
  rw [h] at hw
  obtain ⟨j, -, hj⟩ := List.mem_filterMap.mp hw
  exact List.mem_filter.mpr ⟨List.mem_of_getElem? hj, h3⟩
theorem cq_4 : cl_ok 4 K_4 T_4 6 ft_4 := ⟨rfl, in_4, by decide +kernel, by decide +kernel⟩
theorem in_5 : ∀ w ∈ u_ws K_5 T_5 3, w ∈ tb_l := by
  have h : u_ws K_5 T_5 3 = [339, 341, 343].filterMap (fun i => lw_tbl[i]?) := by decide +kernel
  have h2 : (u_ws K_5 T_5 3).all okW = true := by decide +kernel
  intro w hw
  have h3 := List.all_eq_true.mp h2 w hw
  rw [h] at hw
  obtain ⟨j, -, hj⟩ := List.mem_filterMap.mp hw
  exact List.mem_filter.mpr ⟨List.mem_of_getElem? hj, h3⟩
theorem cq_5 : cl_ok 5 K_5 T_5 3 ft_5 := ⟨rfl, in_5, by decide +kernel, by decide +kernel⟩
theorem in_6 : ∀ w ∈ u_ws K_6 T_6 3, w ∈ tb_l := by
  have h : u_ws K_6 T_6 3 = [295, 297, 299].filterMap (fun i => lw_tbl[i]?) := by decide +kernel
  have h2 : (u_ws K_6 T_6 3).all okW = true := by decide +kernel
  intro w hw
  have h3 := List.all_eq_true.mp h2 w hw
  rw [h] at hw
  obtain ⟨j, -, hj⟩ := List.mem_filterMap.mp hw
  exact List.mem_filter.mpr ⟨List.mem_of_getElem? hj, h3⟩
theorem cq_6 : cl_ok 6 K_6 T_6 3 ft_6 := ⟨rfl, in_6, by decide +kernel, by decide +kernel⟩
theorem in_7 : ∀ w ∈ u_ws K_7 T_7 3, w ∈ tb_l := by
  have h : u_ws K_7 T_7 3 = [359, 361, 363].filterMap (fun i => lw_tbl[i]?) := by decide +kernel
  have h2 : (u_ws K_7 T_7 3).all okW = true := by decide +kernel
  intro w hw
  have h3 := List.all_eq_true.mp h2 w hw
  rw [h] at hw
  obtain ⟨j, -, hj⟩ := List.mem_filterMap.mp hw
  exact List.mem_filter.mpr ⟨List.mem_of_getElem? hj, h3⟩
theorem cq_7 : cl_ok 7 K_7 T_7 3 ft_7 := ⟨rfl, in_7, by decide +kernel, by decide +kernel⟩
theorem in_8 : ∀ w ∈ u_ws K_8 T_8 3, w ∈ tb_l := by
  have h : u_ws K_8 T_8 3 = [193, 195, 197].filterMap (fun i => lw_tbl[i]?) := by decide +kernel
  have h2 : (u_ws K_8 T_8 3).all okW = true := by decide +kernel
  intro w hw
  have h3 := List.all_eq_true.mp h2 w hw
  rw [h] at hw
  obtain ⟨j, -, hj⟩ := List.mem_filterMap.mp hw
  exact List.mem_filter.mpr ⟨List.mem_of_getElem? hj, h3⟩
theorem cq_8 : cl_ok 8 K_8 T_8 3 ft_8 := ⟨rfl, in_8, by decide +kernel, by decide +kernel⟩
theorem in_9 : ∀ w ∈ u_ws K_9 T_9 13, w ∈ tb_l := by
  have h : u_ws K_9 T_9 13 = [229, 231, 233, 235, 237, 239, 241, 243, 245, 247, 249, 251, 253].filterMap (fun i => lw_tbl[i]?) := by decide +kernel
  have h2 : (u_ws K_9 T_9 13).all okW = true := by decide +kernel
  intro w hw
  have h3 := List.all_eq_true.mp h2 w hw
  rw [h] at hw
  obtain ⟨j, -, hj⟩ := List.mem_filterMap.mp hw
  exact List.mem_filter.mpr ⟨List.mem_of_getElem? hj, h3⟩
theorem cq_9 : cl_ok 9 K_9 T_9 13 ft_9 := ⟨rfl, in_9, by decide +kernel, by decide +kernel⟩
theorem in_10 : ∀ w ∈ u_ws K_10 T_10 45, w ∈ tb_l := by
  have h : u_ws K_10 T_10 45 = [914, 916, 918, 920, 922, 924, 926, 928, 930, 932, 934, 936, 938, 940, 942, 944, 946, 948, 950, 952, 954, 956, 958, 960, 962, 964, 966, 968, 970, 972, 974, 976, 978, 980, 982, 984, 986, 988, 990, 992, 994, 996, 998, 1000, 1002].filterMap (fun i => lw_tbl[i]?) := by decide +kernel
  have h2 : (u_ws K_10 T_10 45).all okW = true := by decide +kernel
  intro w hw
  have h3 := List.all_eq_true.mp h2 w hw
  rw [h] at hw
  obtain ⟨j, -, hj⟩ := List.mem_filterMap.mp hw
  exact List.mem_filter.mpr ⟨List.mem_of_getElem? hj, h3⟩
theorem cq_10 : cl_ok 10 K_10 T_10 45 ft_10 := ⟨rfl, in_10, by decide +kernel, by decide +kernel⟩
theorem tb_ok : ∀ w ∈ tb_l, okW w = true := fun w h => (List.mem_filter.mp h).2
theorem tb_in {w : Cond} (i : Nat) (h : lw_tbl[i]? = some w) (hk : okW w = true) : w ∈ tb_l := List.mem_filter.mpr ⟨List.mem_of_getElem? h, hk⟩
end
section
/-! the judgement over the abstract heap: one world (72 cells), every method's body a walk in it -/
abbrev GG : Type := va_G × (ClassId × ClassId × ClassId × ClassId)
def ty4 (g : GG) : List (ClassId × FieldType) := [(g.2.1, .int), (g.2.2.1, .boolean), (g.2.2.2.1, .object "CamelStraws$Text"), (g.2.2.2.2, .object "CamelStraws$Sheet")]
def XW (U : State) : Prop := ∀ w ∈ tb_l, w.before #[] U = true
theorem okW_tab {w : Cond} (h : okW w = true) : w.onTables = true ∨ (∃ ty, w = .arrayClass ty) ∨ ∃ C, w = .arrayOver (.object C) := by
  unfold okW at h
  rcases Bool.or_eq_true_iff.mp h with h | h
  · rcases good_of_word h with h | ⟨ty, rfl⟩
    · exact Or.inl (Bool.and_eq_true_iff.mp h).1
    · exact Or.inr (Or.inl ⟨ty, rfl⟩)
  · unfold softW at h
    split at h
    · exact Or.inl rfl
    · exact Or.inl rfl
    · exact Or.inl rfl
    · exact Or.inr (Or.inr ⟨_, rfl⟩)
    · cases h
theorem okW_any {w : Cond} (hw : okW w = true) {A A' : Array Value} {u U : State} (h : u.vm = U.vm) (hb : w.before A u = true) : w.before A' U = true := by
  rcases okW_tab hw with ht | ⟨ty, rfl⟩ | ⟨C, rfl⟩
  · exact va_tabs ht h hb
  · have h2 : u.WarmedH U.vm := by rw [← h]; exact State.WarmedH.refl u
    exact word_at h2 (Or.inr ⟨_, rfl⟩) hb
  · exact va_AO.use (va_AO.moved (by rw [h]; exact Vm.Alike.refl _) (va_AO.of hb))
theorem XW.same {u U : State} (h : u.vm = U.vm) (hx : XW u) : XW U := fun w hw => okW_any (tb_ok w hw) h (hx w hw)
theorem XW.hts {s : State} (h : XW s) (args : Array Value) : ∀ w ∈ tb_l, w.before args s = true := fun w hw => okW_any (tb_ok w hw) rfl (h w hw)
theorem XW.warm {s U : State} (hW : s.WarmedH U.vm) (h : XW s) : XW U := by
  intro w hw
  have hb := h w hw
  have hk := tb_ok w hw
  unfold okW at hk
  rcases Bool.or_eq_true_iff.mp hk with hk | hk
  · exact word_at hW (good_of_word hk) hb
  · unfold softW at hk
    split at hk
    · exact va_Nw.warmM hW hb
    · exact va_Nw.warmD hW hb
    · exact va_Nw.warmC hW hb
    · exact va_AO.use (va_AO.moved hW.alike (va_AO.of hb))
    · cases hk
def wk (g : GG) (U : State) : Prop := va_K g.1 cl_s (ty4 g) U ∧ XW U
theorem wk.warm {g : GG} {s U : State} (hW : s.WarmedH U.vm) (h : wk g s) : wk g U := ⟨va_K.moved hW.alike h.1, XW.warm hW h.2⟩
theorem wk.calling {g : GG} {U : State} {f : JFrame} {mk : MethodId} {a : Array Value} (h : wk g U) : wk g (U.calling f mk a) := ⟨va_K.moved (u := U) (U := U.calling f mk a) (Vm.Alike.refl U.vm) h.1, XW.same (u := U) (U := U.calling f mk a) rfl h.2⟩
/-! the abstract heap: ints by cell and place, longs by cell and place, the one reference that changes -/
abbrev HP : Type := (Nat → Nat → Int32) × (Nat → Nat → Int64) × Nat
def fv_ (ad : Nat → Nat) (h : HP) (a j : Nat) (fd : Nat × Nat) : Value := if fd.1 = 0 then .int (h.1 a j) else if fd.1 = 1 then .long (h.2.1 a j) else if fd.1 = 2 then .ref (ad fd.2) else .ref (ad h.2.2)
def ce_ (g : GG) (ad : Nat → Nat) (h : HP) (a : Nat) : va_E :=
  if kd a = 20 then .inl (g.2.1, ln a, .inl (h.1 a))
  else if kd a = 21 then .inl (g.2.2.1, ln a, .inl (h.1 a))
  else if kd a = 22 then .inl (g.2.2.2.1, ln a, .inr (.inr (.inr (.inr (fun i => some (ad (rfx a i)))))))
  else if kd a = 23 then .inl (g.2.2.2.2, ln a, .inr (.inr (.inr (.inr (fun i => some (ad (rfx a i)))))))
  else .inr (kd a, (fdl a).mapIdx (fun j fd => fv_ ad h a j fd))
def pic (g : GG) (ad : Nat → Nat) (h : HP) : va_W := (List.range nc_c).map (fun a => (ad a, ce_ g ad h a))
def sI (h : HP) (a j : Nat) (v : Int32) : HP := (fun b k => if b = a then (if k = j then v else h.1 b k) else h.1 b k, h.2.1, h.2.2)
def sL (h : HP) (a j : Nat) (v : Int64) : HP := (h.1, fun b k => if b = a then (if k = j then v else h.2.1 b k) else h.2.1 b k, h.2.2)
def sR (h : HP) (v : Nat) : HP := (h.1, h.2.1, v)
theorem pic_get {g : GG} {ad : Nat → Nat} {h : HP} {a : Nat} (ha : a < nc_c) : (pic g ad h)[a]? = some (ad a, ce_ g ad h a) := by
  unfold pic
  rw [List.getElem?_map, List.getElem?_range ha]
  rfl
theorem pic_set {g : GG} {ad : Nat → Nat} {h h' : HP} {a : Nat} {e : va_E} (ha : a < nc_c) (he : e = ce_ g ad h' a) (ho : ∀ b, b ≠ a → ce_ g ad h' b = ce_ g ad h b) : (pic g ad h).set a (ad a, e) = pic g ad h' := by
  apply List.ext_getElem?
  intro i
  rw [List.getElem?_set]
  by_cases hi : a = i
  · subst hi
    rw [if_pos rfl, if_pos (by simpa [pic] using ha), pic_get ha, he]
  · rw [if_neg hi]
    unfold pic
    rw [List.getElem?_map, List.getElem?_map]
    cases hr : (List.range nc_c)[i]? with
    | none => rfl
    | some b =>
      have hb : b = i := by
        have := List.getElem?_eq_some_iff.mp hr
        obtain ⟨h1, h2⟩ := this
        simpa using h2.symm
      subst hb
      simp [ho _ (Ne.symm hi)]
theorem fv_sI {ad : Nat → Nat} {h : HP} {a b j i : Nat} {v : Int32} {fd : Nat × Nat} (hn : b ≠ a ∨ i ≠ j) : fv_ ad (sI h a j v) b i fd = fv_ ad h b i fd := by
  unfold fv_ sI
  rcases hn with hn | hn
  · simp [hn]
  · by_cases hb : b = a <;> simp [hn, hb]
theorem fv_sL {ad : Nat → Nat} {h : HP} {a b j i : Nat} {v : Int64} {fd : Nat × Nat} (hn : b ≠ a ∨ i ≠ j) : fv_ ad (sL h a j v) b i fd = fv_ ad h b i fd := by
  unfold fv_ sL
  rcases hn with hn | hn
  · simp [hn]
  · by_cases hb : b = a <;> simp [hn, hb]
theorem ce_sI_ne {g : GG} {ad : Nat → Nat} {h : HP} {a j : Nat} {v : Int32} (b : Nat) (hb : b ≠ a) : ce_ g ad (sI h a j v) b = ce_ g ad h b := by
  have e1 : (sI h a j v).1 b = h.1 b := by funext k; simp [sI, hb]
  have e2 : (fun (i : Nat) (fd : Nat × Nat) => fv_ ad (sI h a j v) b i fd) = fun i fd => fv_ ad h b i fd := by funext i fd; exact fv_sI (Or.inl hb)
  unfold ce_
  rw [e1, e2]
theorem ce_sL_ne {g : GG} {ad : Nat → Nat} {h : HP} {a j : Nat} {v : Int64} (b : Nat) (hb : b ≠ a) : ce_ g ad (sL h a j v) b = ce_ g ad h b := by
  have e1 : (sL h a j v).1 b = h.1 b := rfl
  have e2 : (fun (i : Nat) (fd : Nat × Nat) => fv_ ad (sL h a j v) b i fd) = fun i fd => fv_ ad h b i fd := by funext i fd; exact fv_sL (Or.inl hb)
  unfold ce_
  rw [e1, e2]
theorem ce_obj {g : GG} {ad : Nat → Nat} {h : HP} {a : Nat} (hk : kd a < 20) : ce_ g ad h a = .inr (kd a, (fdl a).mapIdx (fun j fd => fv_ ad h a j fd)) := by
  unfold ce_
  rw [if_neg (by omega), if_neg (by omega), if_neg (by omega), if_neg (by omega)]
theorem ce_int {g : GG} {ad : Nat → Nat} {h : HP} {a : Nat} (hk : kd a = 20) : ce_ g ad h a = .inl (g.2.1, ln a, .inl (h.1 a)) := by
  unfold ce_
  rw [if_pos hk]
theorem ce_bool {g : GG} {ad : Nat → Nat} {h : HP} {a : Nat} (hk : kd a = 21) : ce_ g ad h a = .inl (g.2.2.1, ln a, .inl (h.1 a)) := by
  unfold ce_
  rw [if_neg (by omega), if_pos hk]
theorem ce_txt {g : GG} {ad : Nat → Nat} {h : HP} {a : Nat} (hk : kd a = 22) : ce_ g ad h a = .inl (g.2.2.2.1, ln a, .inr (.inr (.inr (.inr (fun i => some (ad (rfx a i))))))) := by
  unfold ce_
  rw [if_neg (by omega), if_neg (by omega), if_pos hk]
theorem ce_sht {g : GG} {ad : Nat → Nat} {h : HP} {a : Nat} (hk : kd a = 23) : ce_ g ad h a = .inl (g.2.2.2.2, ln a, .inr (.inr (.inr (.inr (fun i => some (ad (rfx a i))))))) := by
  unfold ce_
  rw [if_neg (by omega), if_neg (by omega), if_neg (by omega), if_pos hk]
theorem mapIdx_set {α β : Type} (f f' : Nat → α → β) (l : List α) (j : Nat) (v : β) (h1 : ∀ x, l[j]? = some x → f' j x = v) (h2 : ∀ i x, i ≠ j → f' i x = f i x) : (l.mapIdx f).set j v = l.mapIdx f' := by
  apply List.ext_getElem?
  intro i
  rw [List.getElem?_set, List.getElem?_mapIdx, List.getElem?_mapIdx, List.length_mapIdx]
  by_cases hi : j = i
  · subst hi
    rw [if_pos rfl]
    by_cases hl : j < l.length
    · rw [if_pos hl, List.getElem?_eq_getElem hl]
      exact congrArg some (h1 _ (List.getElem?_eq_getElem hl)).symm
    · rw [if_neg hl, List.getElem?_eq_none (by omega)]
      rfl
  · rw [if_neg hi]
    cases l[i]? with
    | none => rfl
    | some x => exact congrArg some (h2 i x (Ne.symm hi)).symm
theorem pic_sI_f {g : GG} {ad : Nat → Nat} {h : HP} {a j t : Nat} {v : Int32} (ha : a < nc_c) (hk : kd a < 20) (hf : (fdl a)[j]? = some (0, t)) : (pic g ad h).set a (ad a, .inr (kd a, ((fdl a).mapIdx (fun j fd => fv_ ad h a j fd)).set j (.int v))) = pic g ad (sI h a j v) := by
  refine pic_set ha ?_ ce_sI_ne
  rw [ce_obj hk, mapIdx_set _ (fun i fd => fv_ ad (sI h a j v) a i fd)]
  · intro x hx
    rw [hf] at hx
    cases hx
    simp [fv_, sI]
  · intro i x hi
    exact fv_sI (Or.inr hi)
theorem pic_sL_f {g : GG} {ad : Nat → Nat} {h : HP} {a j t : Nat} {v : Int64} (ha : a < nc_c) (hk : kd a < 20) (hf : (fdl a)[j]? = some (1, t)) : (pic g ad h).set a (ad a, .inr (kd a, ((fdl a).mapIdx (fun j fd => fv_ ad h a j fd)).set j (.long v))) = pic g ad (sL h a j v) := by
  refine pic_set ha ?_ ce_sL_ne
  rw [ce_obj hk, mapIdx_set _ (fun i fd => fv_ ad (sL h a j v) a i fd)]
  · intro x hx
    rw [hf] at hx
    cases hx
    simp [fv_, sL]
  · intro i x hi
    exact fv_sL (Or.inr hi)
theorem pic_sI_a {g : GG} {ad : Nat → Nat} {h : HP} {a j : Nat} {v : Int32} (ha : a < nc_c) (hk : kd a = 20) : (pic g ad h).set a (ad a, .inl (g.2.1, ln a, .inl (upd (h.1 a) j v))) = pic g ad (sI h a j v) := by
  refine pic_set ha ?_ ce_sI_ne
  rw [ce_int hk]
  have e : upd (h.1 a) j v = (sI h a j v).1 a := by funext k; simp [upd, sI]
  rw [e]
theorem pic_sI_z {g : GG} {ad : Nat → Nat} {h : HP} {a j : Nat} {v : Int32} (ha : a < nc_c) (hk : kd a = 21) : (pic g ad h).set a (ad a, .inl (g.2.2.1, ln a, .inl (upd (h.1 a) j v))) = pic g ad (sI h a j v) := by
  refine pic_set ha ?_ ce_sI_ne
  rw [ce_bool hk]
  have e : upd (h.1 a) j v = (sI h a j v).1 a := by funext k; simp [upd, sI]
  rw [e]
/-- a whole array anew -/
def sA (h : HP) (a : Nat) (f : Nat → Int32) : HP := (fun b => if b = a then f else h.1 b, h.2.1, h.2.2)
theorem pic_sA {g : GG} {ad : Nat → Nat} {h : HP} {a : Nat} {f : Nat → Int32} (ha : a < nc_c) (hk : kd a = 20) : (pic g ad h).set a (ad a, .inl (g.2.1, ln a, .inl f)) = pic g ad (sA h a f) := by
  refine pic_set ha ?_ (fun b hb => ?_)
  · rw [ce_int hk]
    simp [sA]
  · have e1 : (sA h a f).1 b = h.1 b := by simp [sA, hb]
    have e2 : (fun (i : Nat) (fd : Nat × Nat) => fv_ ad (sA h a f) b i fd) = fun i fd => fv_ ad h b i fd := by funext i fd; simp [fv_, sA, hb]
    unfold ce_
    rw [e1, e2]
theorem pic_sR {g : GG} {ad : Nat → Nat} {h : HP} {a j t v : Nat} (ha : a < nc_c) (hk : kd a < 20) (hf : (fdl a)[j]? = some (3, t)) (ho : ∀ b i x, (b ≠ a ∨ i ≠ j) → (fdl b)[i]? = some x → x.1 ≠ 3) (hz : ∀ b, (fdl b).all (fun x => decide (x.1 ≤ 3)) = true) : (pic g ad h).set a (ad a, .inr (kd a, ((fdl a).mapIdx (fun j fd => fv_ ad h a j fd)).set j (.ref (ad v)))) = pic g ad (sR h v) := by
  have e0 : ∀ b i x, (b ≠ a ∨ i ≠ j) → (fdl b)[i]? = some x → fv_ ad (sR h v) b i x = fv_ ad h b i x := by
    intro b i x hn hx
    have h1 := ho b i x hn hx
    have h2 := List.all_eq_true.mp (hz b) x (List.mem_of_getElem? hx)
    have h2 : x.1 ≤ 3 := of_decide_eq_true h2
    have h3 : x.1 = 0 ∨ x.1 = 1 ∨ x.1 = 2 := by omega
    unfold fv_ sR
    rcases h3 with h3 | h3 | h3 <;> simp [h3]
  refine pic_set ha ?_ (fun b hb => ?_)
  · rw [ce_obj hk]
    congr 2
    apply List.ext_getElem?
    intro i
    rw [List.getElem?_set, List.getElem?_mapIdx, List.getElem?_mapIdx, List.length_mapIdx]
    by_cases hi : j = i
    · subst hi
      have hl : j < (fdl a).length := (List.getElem?_eq_some_iff.mp hf).1
      rw [if_pos rfl, if_pos hl, hf]
      simp [fv_, sR]
    · rw [if_neg hi]
      cases hx : (fdl a)[i]? with
      | none => rfl
      | some x => exact congrArg some (e0 a i x (Or.inr (Ne.symm hi)) hx).symm
  · have e2 : (fdl b).mapIdx (fun i fd => fv_ ad (sR h v) b i fd) = (fdl b).mapIdx (fun i fd => fv_ ad h b i fd) := by
      apply List.ext_getElem?
      intro i
      rw [List.getElem?_mapIdx, List.getElem?_mapIdx]
      cases hx : (fdl b)[i]? with
      | none => rfl
      | some x => exact congrArg some (e0 b i x (Or.inl hb) hx)
    unfold ce_
    rw [e2]
    rfl
theorem pic_D {g : GG} {ad : Nat → Nat} {h h' : HP} {A : Nat → Prop} (hD : va_D A (pic g ad h)) : va_D A (pic g ad h') := by
  have key : ∀ (k : Nat) (q : Nat × va_E), (pic g ad h')[k]? = some q → ∃ q0, (pic g ad h)[k]? = some q0 ∧ q0.1 = q.1 := by
    intro k q hk
    unfold pic at hk ⊢
    rw [List.getElem?_map] at hk ⊢
    cases hr : (List.range nc_c)[k]? with
    | none => rw [hr] at hk; cases hk
    | some b =>
      rw [hr] at hk
      cases hk
      exact ⟨_, rfl, rfl⟩
  refine ⟨fun i j x y hi hj hxy => ?_, fun k q hk => ?_⟩
  · obtain ⟨x0, h1, h2⟩ := key i x hi
    obtain ⟨y0, h3, h4⟩ := key j y hj
    exact hD.1 i j x0 y0 h1 h3 (h2.trans (hxy.trans h4.symm))
  · obtain ⟨q0, h1, h2⟩ := key k q hk
    rw [← h2]
    exact hD.2 k q0 h1
end
section
/-! the judgement Vw (a method's walk over a world), Jj (the same, guarded by a pure computation), and their rows; written with the help of a short program -/
abbrev KX : Type := Launch × GG × Option (Nat × Nat × (Nat → Int32)) × Room × String × ByteArray × Nat × Bool × Nat × Nat × (Option Value → va_W → Prop) × Option FieldType
abbrev xl (x : KX) : Launch := x.1
abbrev xg (x : KX) : GG := x.2.1
abbrev xsc (x : KX) : Option (Nat × Nat × (Nat → Int32)) := x.2.2.1
abbrev xR (x : KX) : Room := x.2.2.2.1
abbrev xow (x : KX) : String := x.2.2.2.2.1
abbrev xcc (x : KX) : ByteArray := x.2.2.2.2.2.1
abbrev xnL (x : KX) : Nat := x.2.2.2.2.2.2.1
abbrev xini (x : KX) : Bool := x.2.2.2.2.2.2.2.1
abbrev xkE (x : KX) : Nat := x.2.2.2.2.2.2.2.2.1
abbrev xnE (x : KX) : Nat := x.2.2.2.2.2.2.2.2.2.1
abbrev xQ (x : KX) : Option Value → va_W → Prop := x.2.2.2.2.2.2.2.2.2.2.1
abbrev xret (x : KX) : Option FieldType := x.2.2.2.2.2.2.2.2.2.2.2
def Rw (g : GG) (A : Nat → Prop) (H0 : Heap) (ws : va_W) (H : Heap) (locs : List Loc) : Prop := va_P g.1 cl_s ws H ∧ va_D A ws ∧ va_S A H0 H locs
def Sf (x : KX) (p : Program) (s : State) (m : MethodId) (args : Array Value) (meth : Method) (c : Code) (A : Nat → Prop) : Prop :=
  p.tables.exec = Jvm.exec ∧ c.code = xcc x ∧ c.maxLocals = xnL x ∧ s.vm.findClass (xow x) = some m.cls ∧ wk (xg x) s ∧ (∀ q, s.heap.size ≤ q → A q) ∧ (xini x = true → meth.name = "<init>") ∧ ∀ b L xs, xsc x = some (b, L, xs) → va_X b L xs s s.heap ∧ b < s.heap.size ∧ ¬ A b
def RetI (cc : ByteArray) (pc : Nat) (ret : Option FieldType) (v : Option Value) : Prop :=
  (∃ r : Int32, v = some (.int r) ∧ decode cc pc = .ok (.ireturn, 1) ∧ ∃ ty, ret = some ty ∧ narrow ty (.int r) = .int r) ∨ (∃ r : Int64, v = some (.long r) ∧ decode cc pc = .ok (.lreturn, 1) ∧ ret = some .long) ∨ (∃ (a : Nat) (C : String), v = some (.ref a) ∧ decode cc pc = .ok (.areturn, 1) ∧ ret = some (.object C)) ∨ (v = none ∧ decode cc pc = .ok (.return_, 1) ∧ ret = none)
def Vw (x : KX) (k n pc : Nat) (lv : List (Nat × Value)) (st : List Value) (ws : va_W) : Prop :=
  ∀ (p : Program) (e : Env) (s : State) (m : MethodId) (args : Array Value) (below : List Frame) (meth : Method) (c : Code) (H : Heap) (locs : List Loc) (A : Nat → Prop) (Z : State → Prop) (ls : Array Slot),
    Sf x p s m args meth c A → Rw (xg x) A s.heap ws H locs → lv_has ls (xnL x) lv →
    (∀ (v : Option Value) (ws' : va_W) (H' : Heap) (locs' : List Loc) (ls' : Array Slot) (pc' : Nat), xQ x v ws' → Rw (xg x) A s.heap ws' H' locs' → RetI (xcc x) pc' (xret x) v → W p (xl x) e (xR x) s m args below meth c H' locs' (xkE x) (xnE x) Z (F0 m pc' ls' v.toList)) →
    W p (xl x) e (xR x) s m args below meth c H locs k n Z (F0 m pc ls st)
def Jj {α : Type} (X : α → Prop) (o : Option α) (P : Prop) : Prop := (∃ a, o = some a ∧ X a) → P
section ROWS
variable {x : KX} {k n pc : Nat} {lv : List (Nat × Value)} {st : List Value} {ws : va_W} {α β : Type} {X : α → Prop} {o : Option α}

theorem V_iconst {z : Int} {v : Int32} (hv : Int32.ofInt z = v) (hd : decode (xcc x) pc = .ok (.iconst z, 1)) (kk : Vw x k n (pc + 1) lv (.int v :: st) ws) : Vw x k n pc lv (st) ws := fun p e s m args below meth c H locs A Z ls S r hl hE => lv_iconst S.1 S.2.1 hd hv (kk p e s m args below meth c H locs A Z ls S r hl hE)
theorem V_bipush {z : Int} {v : Int32} (hv : (Int8.ofInt z).toInt32 = v) (hd : decode (xcc x) pc = .ok (.bipush z, 2)) (kk : Vw x k n (pc + 2) lv (.int v :: st) ws) : Vw x k n pc lv (st) ws := fun p e s m args below meth c H locs A Z ls S r hl hE => lv_bipush S.1 S.2.1 hd hv (kk p e s m args below meth c H locs A Z ls S r hl hE)
theorem V_sipush {z : Int} {v : Int32} (hv : (Int16.ofInt z).toInt32 = v) (hd : decode (xcc x) pc = .ok (.sipush z, 3)) (kk : Vw x k n (pc + 3) lv (.int v :: st) ws) : Vw x k n pc lv (st) ws := fun p e s m args below meth c H locs A Z ls S r hl hE => lv_sipush S.1 S.2.1 hd hv (kk p e s m args below meth c H locs A Z ls S r hl hE)
theorem V_lconst {z : Fin 2} {v : Int64} (hv : Int64.ofNat (z : Nat) = v) (hd : decode (xcc x) pc = .ok (.lconst z, 1)) (kk : Vw x k n (pc + 1) lv (.long v :: st) ws) : Vw x k n pc lv (st) ws := fun p e s m args below meth c H locs A Z ls S r hl hE => lv_lconst S.1 S.2.1 hd hv (kk p e s m args below meth c H locs A Z ls S r hl hE)
theorem V_ldc {ix : Nat} {v : Int32} (hw : Cond.constant (xow x) ix v ∈ tb_l) (hd : decode (xcc x) pc = .ok (.ldc ix, 2)) (kk : Vw x k n (pc + 2) lv (.int v :: st) ws) : Vw x k n pc lv (st) ws := fun p e s m args below meth c H locs A Z ls S r hl hE => lv_ldc S.1 S.2.1 S.2.2.2.1 (S.2.2.2.2.1.2.hts args _ hw) hd (kk p e s m args below meth c H locs A Z ls S r hl hE)
theorem V_ldcw {ix : Nat} {v : Int32} (hw : Cond.constant (xow x) ix v ∈ tb_l) (hd : decode (xcc x) pc = .ok (.ldc_w ix, 3)) (kk : Vw x k n (pc + 3) lv (.int v :: st) ws) : Vw x k n pc lv (st) ws := fun p e s m args below meth c H locs A Z ls S r hl hE => lv_ldcw S.1 S.2.1 S.2.2.2.1 (S.2.2.2.2.1.2.hts args _ hw) hd (kk p e s m args below meth c H locs A Z ls S r hl hE)
theorem V_ldc2 {ix : Nat} {v : Int64} (hw : Cond.constantLong (xow x) ix v ∈ tb_l) (hd : decode (xcc x) pc = .ok (.ldc2_w ix, 3)) (kk : Vw x k n (pc + 3) lv (.long v :: st) ws) : Vw x k n pc lv (st) ws := fun p e s m args below meth c H locs A Z ls S r hl hE => lv_ldc2 S.1 S.2.1 S.2.2.2.1 (S.2.2.2.2.1.2.hts args _ hw) hd (kk p e s m args below meth c H locs A Z ls S r hl hE)
theorem V_iload_n {z : Fin 4} {u : Int32} (j : Nat) (hj : lv[j]? = some ((z : Nat), .int u)) (hd : decode (xcc x) pc = .ok (.iload_n z, 1)) (kk : Vw x k n (pc + 1) lv (.int u :: st) ws) : Vw x k n pc lv (st) ws := fun p e s m args below meth c H locs A Z ls S r hl hE => lv_iload_n S.1 S.2.1 hd rfl (lv_at hl j hj) (kk p e s m args below meth c H locs A Z ls S r hl hE)
theorem V_iload {i : Nat} {u : Int32} (j : Nat) (hj : lv[j]? = some (i, .int u)) (hd : decode (xcc x) pc = .ok (.iload i, 2)) (kk : Vw x k n (pc + 2) lv (.int u :: st) ws) : Vw x k n pc lv (st) ws := fun p e s m args below meth c H locs A Z ls S r hl hE => lv_iload S.1 S.2.1 hd (lv_at hl j hj) (kk p e s m args below meth c H locs A Z ls S r hl hE)
theorem V_lload_n {z : Fin 4} {u : Int64} (j : Nat) (hj : lv[j]? = some ((z : Nat), .long u)) (hd : decode (xcc x) pc = .ok (.lload_n z, 1)) (kk : Vw x k n (pc + 1) lv (.long u :: st) ws) : Vw x k n pc lv (st) ws := fun p e s m args below meth c H locs A Z ls S r hl hE => lv_lload_n S.1 S.2.1 hd rfl (lv_at hl j hj) (kk p e s m args below meth c H locs A Z ls S r hl hE)
theorem V_lload {i : Nat} {u : Int64} (j : Nat) (hj : lv[j]? = some (i, .long u)) (hd : decode (xcc x) pc = .ok (.lload i, 2)) (kk : Vw x k n (pc + 2) lv (.long u :: st) ws) : Vw x k n pc lv (st) ws := fun p e s m args below meth c H locs A Z ls S r hl hE => lv_lload S.1 S.2.1 hd (lv_at hl j hj) (kk p e s m args below meth c H locs A Z ls S r hl hE)
theorem V_aload_n {z : Fin 4} {u : Nat} (j : Nat) (hj : lv[j]? = some ((z : Nat), .ref u)) (hd : decode (xcc x) pc = .ok (.aload_n z, 1)) (kk : Vw x k n (pc + 1) lv (.ref u :: st) ws) : Vw x k n pc lv (st) ws := fun p e s m args below meth c H locs A Z ls S r hl hE => lv_aload_n S.1 S.2.1 hd rfl (lv_at hl j hj) (kk p e s m args below meth c H locs A Z ls S r hl hE)
theorem V_aload {i : Nat} {u : Nat} (j : Nat) (hj : lv[j]? = some (i, .ref u)) (hd : decode (xcc x) pc = .ok (.aload i, 2)) (kk : Vw x k n (pc + 2) lv (.ref u :: st) ws) : Vw x k n pc lv (st) ws := fun p e s m args below meth c H locs A Z ls S r hl hE => lv_aload S.1 S.2.1 hd (lv_at hl j hj) (kk p e s m args below meth c H locs A Z ls S r hl hE)
theorem V_iadd {u v : Int32} (hd : decode (xcc x) pc = .ok (.iadd, 1)) (kk : Vw x k n (pc + 1) lv (.int (u + v) :: st) ws) : Vw x k n pc lv (.int v :: .int u :: st) ws := fun p e s m args below meth c H locs A Z ls S r hl hE => lv_iadd S.1 S.2.1 hd (kk p e s m args below meth c H locs A Z ls S r hl hE)
theorem V_isub {u v : Int32} (hd : decode (xcc x) pc = .ok (.isub, 1)) (kk : Vw x k n (pc + 1) lv (.int (u - v) :: st) ws) : Vw x k n pc lv (.int v :: .int u :: st) ws := fun p e s m args below meth c H locs A Z ls S r hl hE => lv_isub S.1 S.2.1 hd (kk p e s m args below meth c H locs A Z ls S r hl hE)
theorem V_imul {u v : Int32} (hd : decode (xcc x) pc = .ok (.imul, 1)) (kk : Vw x k n (pc + 1) lv (.int (u * v) :: st) ws) : Vw x k n pc lv (.int v :: .int u :: st) ws := fun p e s m args below meth c H locs A Z ls S r hl hE => lv_imul S.1 S.2.1 hd (kk p e s m args below meth c H locs A Z ls S r hl hE)
theorem V_iand {u v : Int32} (hd : decode (xcc x) pc = .ok (.iand, 1)) (kk : Vw x k n (pc + 1) lv (.int (u &&& v) :: st) ws) : Vw x k n pc lv (.int v :: .int u :: st) ws := fun p e s m args below meth c H locs A Z ls S r hl hE => lv_iand S.1 S.2.1 hd (kk p e s m args below meth c H locs A Z ls S r hl hE)
theorem V_ior {u v : Int32} (hd : decode (xcc x) pc = .ok (.ior, 1)) (kk : Vw x k n (pc + 1) lv (.int (u ||| v) :: st) ws) : Vw x k n pc lv (.int v :: .int u :: st) ws := fun p e s m args below meth c H locs A Z ls S r hl hE => lv_ior S.1 S.2.1 hd (kk p e s m args below meth c H locs A Z ls S r hl hE)
theorem V_ixor {u v : Int32} (hd : decode (xcc x) pc = .ok (.ixor, 1)) (kk : Vw x k n (pc + 1) lv (.int (u ^^^ v) :: st) ws) : Vw x k n pc lv (.int v :: .int u :: st) ws := fun p e s m args below meth c H locs A Z ls S r hl hE => lv_ixor S.1 S.2.1 hd (kk p e s m args below meth c H locs A Z ls S r hl hE)
theorem V_ishl {u v : Int32} (hd : decode (xcc x) pc = .ok (.ishl, 1)) (kk : Vw x k n (pc + 1) lv (.int (u <<< (v &&& 31)) :: st) ws) : Vw x k n pc lv (.int v :: .int u :: st) ws := fun p e s m args below meth c H locs A Z ls S r hl hE => lv_ishl S.1 S.2.1 hd (kk p e s m args below meth c H locs A Z ls S r hl hE)
theorem V_ishr {u v : Int32} (hd : decode (xcc x) pc = .ok (.ishr, 1)) (kk : Vw x k n (pc + 1) lv (.int (u >>> (v &&& 31)) :: st) ws) : Vw x k n pc lv (.int v :: .int u :: st) ws := fun p e s m args below meth c H locs A Z ls S r hl hE => lv_ishr S.1 S.2.1 hd (kk p e s m args below meth c H locs A Z ls S r hl hE)
theorem V_iushr {u v : Int32} (hd : decode (xcc x) pc = .ok (.iushr, 1)) (kk : Vw x k n (pc + 1) lv (.int ((u.toUInt32 >>> (v.toUInt32 &&& Int32.toUInt32 31)).toInt32) :: st) ws) : Vw x k n pc lv (.int v :: .int u :: st) ws := fun p e s m args below meth c H locs A Z ls S r hl hE => lv_iushr S.1 S.2.1 hd rfl (kk p e s m args below meth c H locs A Z ls S r hl hE)
theorem V_idiv {u v : Int32} (hne : ¬ v = 0) (hd : decode (xcc x) pc = .ok (.idiv, 1)) (kk : Vw x k n (pc + 1) lv (.int (u / v) :: st) ws) : Vw x k n pc lv (.int v :: .int u :: st) ws := fun p e s m args below meth c H locs A Z ls S r hl hE => lv_idiv S.1 S.2.1 hd hne (kk p e s m args below meth c H locs A Z ls S r hl hE)
theorem V_irem {u v : Int32} (hne : ¬ v = 0) (hd : decode (xcc x) pc = .ok (.irem, 1)) (kk : Vw x k n (pc + 1) lv (.int (u - u / v * v) :: st) ws) : Vw x k n pc lv (.int v :: .int u :: st) ws := fun p e s m args below meth c H locs A Z ls S r hl hE => lv_irem S.1 S.2.1 hd hne (kk p e s m args below meth c H locs A Z ls S r hl hE)
theorem V_ladd {u v : Int64} (hd : decode (xcc x) pc = .ok (.ladd, 1)) (kk : Vw x k n (pc + 1) lv (.long (u + v) :: st) ws) : Vw x k n pc lv (.long v :: .long u :: st) ws := fun p e s m args below meth c H locs A Z ls S r hl hE => lv_ladd S.1 S.2.1 hd (kk p e s m args below meth c H locs A Z ls S r hl hE)
theorem V_lsub {u v : Int64} (hd : decode (xcc x) pc = .ok (.lsub, 1)) (kk : Vw x k n (pc + 1) lv (.long (u - v) :: st) ws) : Vw x k n pc lv (.long v :: .long u :: st) ws := fun p e s m args below meth c H locs A Z ls S r hl hE => lv_lsub S.1 S.2.1 hd (kk p e s m args below meth c H locs A Z ls S r hl hE)
theorem V_lmul {u v : Int64} (hd : decode (xcc x) pc = .ok (.lmul, 1)) (kk : Vw x k n (pc + 1) lv (.long (u * v) :: st) ws) : Vw x k n pc lv (.long v :: .long u :: st) ws := fun p e s m args below meth c H locs A Z ls S r hl hE => lv_lmul S.1 S.2.1 hd (kk p e s m args below meth c H locs A Z ls S r hl hE)
theorem V_ldiv {u v : Int64} (hne : ¬ v = 0) (hd : decode (xcc x) pc = .ok (.ldiv, 1)) (kk : Vw x k n (pc + 1) lv (.long (u / v) :: st) ws) : Vw x k n pc lv (.long v :: .long u :: st) ws := fun p e s m args below meth c H locs A Z ls S r hl hE => lv_ldiv S.1 S.2.1 hd hne (kk p e s m args below meth c H locs A Z ls S r hl hE)
theorem V_lrem {u v : Int64} (hne : ¬ v = 0) (hd : decode (xcc x) pc = .ok (.lrem, 1)) (kk : Vw x k n (pc + 1) lv (.long (u - u / v * v) :: st) ws) : Vw x k n pc lv (.long v :: .long u :: st) ws := fun p e s m args below meth c H locs A Z ls S r hl hE => lv_lrem S.1 S.2.1 hd hne (kk p e s m args below meth c H locs A Z ls S r hl hE)
theorem V_lshl {u : Int64} {v : Int32} (hd : decode (xcc x) pc = .ok (.lshl, 1)) (kk : Vw x k n (pc + 1) lv (.long (u <<< (v.toInt64 &&& 63)) :: st) ws) : Vw x k n pc lv (.int v :: .long u :: st) ws := fun p e s m args below meth c H locs A Z ls S r hl hE => lv_lshl S.1 S.2.1 hd rfl (kk p e s m args below meth c H locs A Z ls S r hl hE)
theorem V_i2l {u : Int32} (hd : decode (xcc x) pc = .ok (.i2l, 1)) (kk : Vw x k n (pc + 1) lv (.long u.toInt64 :: st) ws) : Vw x k n pc lv (.int u :: st) ws := fun p e s m args below meth c H locs A Z ls S r hl hE => lv_i2l S.1 S.2.1 hd rfl (kk p e s m args below meth c H locs A Z ls S r hl hE)
theorem V_i2b {u : Int32} (hd : decode (xcc x) pc = .ok (.i2b, 1)) (kk : Vw x k n (pc + 1) lv (.int u.toInt8.toInt32 :: st) ws) : Vw x k n pc lv (.int u :: st) ws := fun p e s m args below meth c H locs A Z ls S r hl hE => lv_i2b S.1 S.2.1 hd rfl (kk p e s m args below meth c H locs A Z ls S r hl hE)
theorem V_i2s {u : Int32} (hd : decode (xcc x) pc = .ok (.i2s, 1)) (kk : Vw x k n (pc + 1) lv (.int u.toInt16.toInt32 :: st) ws) : Vw x k n pc lv (.int u :: st) ws := fun p e s m args below meth c H locs A Z ls S r hl hE => lv_i2s S.1 S.2.1 hd rfl (kk p e s m args below meth c H locs A Z ls S r hl hE)
theorem V_lcmp {u v : Int64} (hd : decode (xcc x) pc = .ok (.lcmp, 1)) (kk : Vw x k n (pc + 1) lv (.int (lg_cmp u v) :: st) ws) : Vw x k n pc lv (.long v :: .long u :: st) ws := fun p e s m args below meth c H locs A Z ls S r hl hE => W.lcmp S.1 S.2.1 hd (kk p e s m args below meth c H locs A Z ls S r hl hE)
theorem V_dup {v : Value} (hv : v.category = 1) (hd : decode (xcc x) pc = .ok (.dup, 1)) (kk : Vw x k n (pc + 1) lv (v :: v :: st) ws) : Vw x k n pc lv (v :: st) ws := fun p e s m args below meth c H locs A Z ls S r hl hE => lv_dup S.1 S.2.1 hd hv (kk p e s m args below meth c H locs A Z ls S r hl hE)
theorem V_pop {v : Value} (hv : v.category = 1) (hd : decode (xcc x) pc = .ok (.pop, 1)) (kk : Vw x k n (pc + 1) lv (st) ws) : Vw x k n pc lv (v :: st) ws := fun p e s m args below meth c H locs A Z ls S r hl hE => lv_pop S.1 S.2.1 hd hv (kk p e s m args below meth c H locs A Z ls S r hl hE)
theorem V_dup2 {v u : Value} (hv : v.category = 1) (hu : u.category = 1) (hd : decode (xcc x) pc = .ok (.dup2, 1)) (kk : Vw x k n (pc + 1) lv (v :: u :: v :: u :: st) ws) : Vw x k n pc lv (v :: u :: st) ws := fun p e s m args below meth c H locs A Z ls S r hl hE => lv_dup2_11 S.1 S.2.1 hd hv hu (kk p e s m args below meth c H locs A Z ls S r hl hE)
theorem J_iconst {z : Int} {v : Int32} (hv : Int32.ofInt z = v) (hd : decode (xcc x) pc = .ok (.iconst z, 1)) (kk : Jj X o (Vw x k n (pc + 1) lv (.int v :: st) ws)) : Jj X o (Vw x k n pc lv (st) ws) := fun q => V_iconst hv hd (kk q)
theorem J_bipush {z : Int} {v : Int32} (hv : (Int8.ofInt z).toInt32 = v) (hd : decode (xcc x) pc = .ok (.bipush z, 2)) (kk : Jj X o (Vw x k n (pc + 2) lv (.int v :: st) ws)) : Jj X o (Vw x k n pc lv (st) ws) := fun q => V_bipush hv hd (kk q)
theorem J_sipush {z : Int} {v : Int32} (hv : (Int16.ofInt z).toInt32 = v) (hd : decode (xcc x) pc = .ok (.sipush z, 3)) (kk : Jj X o (Vw x k n (pc + 3) lv (.int v :: st) ws)) : Jj X o (Vw x k n pc lv (st) ws) := fun q => V_sipush hv hd (kk q)
theorem J_lconst {z : Fin 2} {v : Int64} (hv : Int64.ofNat (z : Nat) = v) (hd : decode (xcc x) pc = .ok (.lconst z, 1)) (kk : Jj X o (Vw x k n (pc + 1) lv (.long v :: st) ws)) : Jj X o (Vw x k n pc lv (st) ws) := fun q => V_lconst hv hd (kk q)
theorem J_ldc {ix : Nat} {v : Int32} (hw : Cond.constant (xow x) ix v ∈ tb_l) (hd : decode (xcc x) pc = .ok (.ldc ix, 2)) (kk : Jj X o (Vw x k n (pc + 2) lv (.int v :: st) ws)) : Jj X o (Vw x k n pc lv (st) ws) := fun q => V_ldc hw hd (kk q)
theorem J_ldcw {ix : Nat} {v : Int32} (hw : Cond.constant (xow x) ix v ∈ tb_l) (hd : decode (xcc x) pc = .ok (.ldc_w ix, 3)) (kk : Jj X o (Vw x k n (pc + 3) lv (.int v :: st) ws)) : Jj X o (Vw x k n pc lv (st) ws) := fun q => V_ldcw hw hd (kk q)
theorem J_ldc2 {ix : Nat} {v : Int64} (hw : Cond.constantLong (xow x) ix v ∈ tb_l) (hd : decode (xcc x) pc = .ok (.ldc2_w ix, 3)) (kk : Jj X o (Vw x k n (pc + 3) lv (.long v :: st) ws)) : Jj X o (Vw x k n pc lv (st) ws) := fun q => V_ldc2 hw hd (kk q)
theorem J_iload_n {z : Fin 4} {u : Int32} (j : Nat) (hj : lv[j]? = some ((z : Nat), .int u)) (hd : decode (xcc x) pc = .ok (.iload_n z, 1)) (kk : Jj X o (Vw x k n (pc + 1) lv (.int u :: st) ws)) : Jj X o (Vw x k n pc lv (st) ws) := fun q => V_iload_n j hj hd (kk q)
theorem J_iload {i : Nat} {u : Int32} (j : Nat) (hj : lv[j]? = some (i, .int u)) (hd : decode (xcc x) pc = .ok (.iload i, 2)) (kk : Jj X o (Vw x k n (pc + 2) lv (.int u :: st) ws)) : Jj X o (Vw x k n pc lv (st) ws) := fun q => V_iload j hj hd (kk q)
theorem J_lload_n {z : Fin 4} {u : Int64} (j : Nat) (hj : lv[j]? = some ((z : Nat), .long u)) (hd : decode (xcc x) pc = .ok (.lload_n z, 1)) (kk : Jj X o (Vw x k n (pc + 1) lv (.long u :: st) ws)) : Jj X o (Vw x k n pc lv (st) ws) := fun q => V_lload_n j hj hd (kk q)
theorem J_lload {i : Nat} {u : Int64} (j : Nat) (hj : lv[j]? = some (i, .long u)) (hd : decode (xcc x) pc = .ok (.lload i, 2)) (kk : Jj X o (Vw x k n (pc + 2) lv (.long u :: st) ws)) : Jj X o (Vw x k n pc lv (st) ws) := fun q => V_lload j hj hd (kk q)
theorem J_aload_n {z : Fin 4} {u : Nat} (j : Nat) (hj : lv[j]? = some ((z : Nat), .ref u)) (hd : decode (xcc x) pc = .ok (.aload_n z, 1)) (kk : Jj X o (Vw x k n (pc + 1) lv (.ref u :: st) ws)) : Jj X o (Vw x k n pc lv (st) ws) := fun q => V_aload_n j hj hd (kk q)
theorem J_aload {i : Nat} {u : Nat} (j : Nat) (hj : lv[j]? = some (i, .ref u)) (hd : decode (xcc x) pc = .ok (.aload i, 2)) (kk : Jj X o (Vw x k n (pc + 2) lv (.ref u :: st) ws)) : Jj X o (Vw x k n pc lv (st) ws) := fun q => V_aload j hj hd (kk q)
theorem J_iadd {u v : Int32} (hd : decode (xcc x) pc = .ok (.iadd, 1)) (kk : Jj X o (Vw x k n (pc + 1) lv (.int (u + v) :: st) ws)) : Jj X o (Vw x k n pc lv (.int v :: .int u :: st) ws) := fun q => V_iadd  hd (kk q)
theorem J_isub {u v : Int32} (hd : decode (xcc x) pc = .ok (.isub, 1)) (kk : Jj X o (Vw x k n (pc + 1) lv (.int (u - v) :: st) ws)) : Jj X o (Vw x k n pc lv (.int v :: .int u :: st) ws) := fun q => V_isub  hd (kk q)
theorem J_imul {u v : Int32} (hd : decode (xcc x) pc = .ok (.imul, 1)) (kk : Jj X o (Vw x k n (pc + 1) lv (.int (u * v) :: st) ws)) : Jj X o (Vw x k n pc lv (.int v :: .int u :: st) ws) := fun q => V_imul  hd (kk q)
theorem J_iand {u v : Int32} (hd : decode (xcc x) pc = .ok (.iand, 1)) (kk : Jj X o (Vw x k n (pc + 1) lv (.int (u &&& v) :: st) ws)) : Jj X o (Vw x k n pc lv (.int v :: .int u :: st) ws) := fun q => V_iand  hd (kk q)
theorem J_ior {u v : Int32} (hd : decode (xcc x) pc = .ok (.ior, 1)) (kk : Jj X o (Vw x k n (pc + 1) lv (.int (u ||| v) :: st) ws)) : Jj X o (Vw x k n pc lv (.int v :: .int u :: st) ws) := fun q => V_ior  hd (kk q)
theorem J_ixor {u v : Int32} (hd : decode (xcc x) pc = .ok (.ixor, 1)) (kk : Jj X o (Vw x k n (pc + 1) lv (.int (u ^^^ v) :: st) ws)) : Jj X o (Vw x k n pc lv (.int v :: .int u :: st) ws) := fun q => V_ixor  hd (kk q)
theorem J_ishl {u v : Int32} (hd : decode (xcc x) pc = .ok (.ishl, 1)) (kk : Jj X o (Vw x k n (pc + 1) lv (.int (u <<< (v &&& 31)) :: st) ws)) : Jj X o (Vw x k n pc lv (.int v :: .int u :: st) ws) := fun q => V_ishl  hd (kk q)
theorem J_ishr {u v : Int32} (hd : decode (xcc x) pc = .ok (.ishr, 1)) (kk : Jj X o (Vw x k n (pc + 1) lv (.int (u >>> (v &&& 31)) :: st) ws)) : Jj X o (Vw x k n pc lv (.int v :: .int u :: st) ws) := fun q => V_ishr  hd (kk q)
theorem J_iushr {u v : Int32} (hd : decode (xcc x) pc = .ok (.iushr, 1)) (kk : Jj X o (Vw x k n (pc + 1) lv (.int ((u.toUInt32 >>> (v.toUInt32 &&& Int32.toUInt32 31)).toInt32) :: st) ws)) : Jj X o (Vw x k n pc lv (.int v :: .int u :: st) ws) := fun q => V_iushr  hd (kk q)
theorem J_idiv {u v : Int32} (hne : ¬ v = 0) (hd : decode (xcc x) pc = .ok (.idiv, 1)) (kk : Jj X o (Vw x k n (pc + 1) lv (.int (u / v) :: st) ws)) : Jj X o (Vw x k n pc lv (.int v :: .int u :: st) ws) := fun q => V_idiv hne hd (kk q)
theorem J_irem {u v : Int32} (hne : ¬ v = 0) (hd : decode (xcc x) pc = .ok (.irem, 1)) (kk : Jj X o (Vw x k n (pc + 1) lv (.int (u - u / v * v) :: st) ws)) : Jj X o (Vw x k n pc lv (.int v :: .int u :: st) ws) := fun q => V_irem hne hd (kk q)
theorem J_ladd {u v : Int64} (hd : decode (xcc x) pc = .ok (.ladd, 1)) (kk : Jj X o (Vw x k n (pc + 1) lv (.long (u + v) :: st) ws)) : Jj X o (Vw x k n pc lv (.long v :: .long u :: st) ws) := fun q => V_ladd  hd (kk q)
theorem J_lsub {u v : Int64} (hd : decode (xcc x) pc = .ok (.lsub, 1)) (kk : Jj X o (Vw x k n (pc + 1) lv (.long (u - v) :: st) ws)) : Jj X o (Vw x k n pc lv (.long v :: .long u :: st) ws) := fun q => V_lsub  hd (kk q)
theorem J_lmul {u v : Int64} (hd : decode (xcc x) pc = .ok (.lmul, 1)) (kk : Jj X o (Vw x k n (pc + 1) lv (.long (u * v) :: st) ws)) : Jj X o (Vw x k n pc lv (.long v :: .long u :: st) ws) := fun q => V_lmul  hd (kk q)
theorem J_ldiv {u v : Int64} (hne : ¬ v = 0) (hd : decode (xcc x) pc = .ok (.ldiv, 1)) (kk : Jj X o (Vw x k n (pc + 1) lv (.long (u / v) :: st) ws)) : Jj X o (Vw x k n pc lv (.long v :: .long u :: st) ws) := fun q => V_ldiv hne hd (kk q)
theorem J_lrem {u v : Int64} (hne : ¬ v = 0) (hd : decode (xcc x) pc = .ok (.lrem, 1)) (kk : Jj X o (Vw x k n (pc + 1) lv (.long (u - u / v * v) :: st) ws)) : Jj X o (Vw x k n pc lv (.long v :: .long u :: st) ws) := fun q => V_lrem hne hd (kk q)
theorem J_lshl {u : Int64} {v : Int32} (hd : decode (xcc x) pc = .ok (.lshl, 1)) (kk : Jj X o (Vw x k n (pc + 1) lv (.long (u <<< (v.toInt64 &&& 63)) :: st) ws)) : Jj X o (Vw x k n pc lv (.int v :: .long u :: st) ws) := fun q => V_lshl  hd (kk q)
theorem J_i2l {u : Int32} (hd : decode (xcc x) pc = .ok (.i2l, 1)) (kk : Jj X o (Vw x k n (pc + 1) lv (.long u.toInt64 :: st) ws)) : Jj X o (Vw x k n pc lv (.int u :: st) ws) := fun q => V_i2l  hd (kk q)
theorem J_i2b {u : Int32} (hd : decode (xcc x) pc = .ok (.i2b, 1)) (kk : Jj X o (Vw x k n (pc + 1) lv (.int u.toInt8.toInt32 :: st) ws)) : Jj X o (Vw x k n pc lv (.int u :: st) ws) := fun q => V_i2b  hd (kk q)
theorem J_i2s {u : Int32} (hd : decode (xcc x) pc = .ok (.i2s, 1)) (kk : Jj X o (Vw x k n (pc + 1) lv (.int u.toInt16.toInt32 :: st) ws)) : Jj X o (Vw x k n pc lv (.int u :: st) ws) := fun q => V_i2s  hd (kk q)
theorem J_lcmp {u v : Int64} (hd : decode (xcc x) pc = .ok (.lcmp, 1)) (kk : Jj X o (Vw x k n (pc + 1) lv (.int (lg_cmp u v) :: st) ws)) : Jj X o (Vw x k n pc lv (.long v :: .long u :: st) ws) := fun q => V_lcmp  hd (kk q)
theorem J_dup {v : Value} (hv : v.category = 1) (hd : decode (xcc x) pc = .ok (.dup, 1)) (kk : Jj X o (Vw x k n (pc + 1) lv (v :: v :: st) ws)) : Jj X o (Vw x k n pc lv (v :: st) ws) := fun q => V_dup hv hd (kk q)
theorem J_pop {v : Value} (hv : v.category = 1) (hd : decode (xcc x) pc = .ok (.pop, 1)) (kk : Jj X o (Vw x k n (pc + 1) lv (st) ws)) : Jj X o (Vw x k n pc lv (v :: st) ws) := fun q => V_pop hv hd (kk q)
theorem J_dup2 {v u : Value} (hv : v.category = 1) (hu : u.category = 1) (hd : decode (xcc x) pc = .ok (.dup2, 1)) (kk : Jj X o (Vw x k n (pc + 1) lv (v :: u :: v :: u :: st) ws)) : Jj X o (Vw x k n pc lv (v :: u :: st) ws) := fun q => V_dup2 hv hu hd (kk q)
theorem J_istore_n {z : Fin 4} {u : Int32} {lv' : List (Nat × Value)} (i : Nat) (hi : (z : Nat) = i) (hn : i < xnL x) (hlv : (i, Value.int u) :: lv.filter (fun q => !(q.1 == i) && !(q.1 + 1 == i && q.2.category == 2)) = lv') (hd : decode (xcc x) pc = .ok (.istore_n z, 1)) (kk : Jj X o (Vw x k n (pc + 1) lv' st ws)) : Jj X o (Vw x k n pc lv (.int u :: st) ws) := fun q p e s m args below meth c H locs A Z ls S r hl hE => lv_istore_n S.1 S.2.1 hd hi hl hn hlv (fun ls' hl' => kk q p e s m args below meth c H locs A Z ls' S r hl' hE)
theorem J_istore {u : Int32} {lv' : List (Nat × Value)} {i : Nat} (hn : i < xnL x) (hlv : (i, Value.int u) :: lv.filter (fun q => !(q.1 == i) && !(q.1 + 1 == i && q.2.category == 2)) = lv') (hd : decode (xcc x) pc = .ok (.istore i, 2)) (kk : Jj X o (Vw x k n (pc + 2) lv' st ws)) : Jj X o (Vw x k n pc lv (.int u :: st) ws) := fun q p e s m args below meth c H locs A Z ls S r hl hE => lv_istore S.1 S.2.1 hd hl hn hlv (fun ls' hl' => kk q p e s m args below meth c H locs A Z ls' S r hl' hE)
theorem J_astore_n {z : Fin 4} {u : Nat} {lv' : List (Nat × Value)} (i : Nat) (hi : (z : Nat) = i) (hn : i < xnL x) (hlv : (i, Value.ref u) :: lv.filter (fun q => !(q.1 == i) && !(q.1 + 1 == i && q.2.category == 2)) = lv') (hd : decode (xcc x) pc = .ok (.astore_n z, 1)) (kk : Jj X o (Vw x k n (pc + 1) lv' st ws)) : Jj X o (Vw x k n pc lv (.ref u :: st) ws) := fun q p e s m args below meth c H locs A Z ls S r hl hE => lv_astore_n S.1 S.2.1 hd hi hl hn hlv (fun ls' hl' => kk q p e s m args below meth c H locs A Z ls' S r hl' hE)
theorem J_astore {u : Nat} {lv' : List (Nat × Value)} {i : Nat} (hn : i < xnL x) (hlv : (i, Value.ref u) :: lv.filter (fun q => !(q.1 == i) && !(q.1 + 1 == i && q.2.category == 2)) = lv') (hd : decode (xcc x) pc = .ok (.astore i, 2)) (kk : Jj X o (Vw x k n (pc + 2) lv' st ws)) : Jj X o (Vw x k n pc lv (.ref u :: st) ws) := fun q p e s m args below meth c H locs A Z ls S r hl hE => lv_astore S.1 S.2.1 hd hl hn hlv (fun ls' hl' => kk q p e s m args below meth c H locs A Z ls' S r hl' hE)
theorem J_lstore_n {z : Fin 4} {u : Int64} {lv' : List (Nat × Value)} (i : Nat) (hi : (z : Nat) = i) (hn : i + 1 < xnL x) (hlv : (i, Value.long u) :: lv.filter (fun q => !(q.1 == i) && (!(q.1 == i + 1) && !(q.1 + 1 == i && q.2.category == 2))) = lv') (hd : decode (xcc x) pc = .ok (.lstore_n z, 1)) (kk : Jj X o (Vw x k n (pc + 1) lv' st ws)) : Jj X o (Vw x k n pc lv (.long u :: st) ws) := fun q p e s m args below meth c H locs A Z ls S r hl hE => lv_lstore_n S.1 S.2.1 hd hi hl hn hlv (fun ls' hl' => kk q p e s m args below meth c H locs A Z ls' S r hl' hE)
theorem J_lstore {u : Int64} {lv' : List (Nat × Value)} {i : Nat} (hn : i + 1 < xnL x) (hlv : (i, Value.long u) :: lv.filter (fun q => !(q.1 == i) && (!(q.1 == i + 1) && !(q.1 + 1 == i && q.2.category == 2))) = lv') (hd : decode (xcc x) pc = .ok (.lstore i, 2)) (kk : Jj X o (Vw x k n (pc + 2) lv' st ws)) : Jj X o (Vw x k n pc lv (.long u :: st) ws) := fun q p e s m args below meth c H locs A Z ls S r hl hE => lv_lstore S.1 S.2.1 hd hl hn hlv (fun ls' hl' => kk q p e s m args below meth c H locs A Z ls' S r hl' hE)
theorem J_icmp_eq {u v : Int32} {off : Int} {o1 o2 : Option α} (tgt : Nat) (ht : (pc : Int) + off = (tgt : Int)) (hd : decode (xcc x) pc = .ok (.if_icmp .eq off, 3)) (k1 : u = v → Jj X o1 (Vw x k n tgt lv st ws)) (k2 : ¬ (u = v) → Jj X o2 (Vw x k n (pc + 3) lv st ws)) : Jj X (if u = v then o1 else o2) (Vw x k n pc lv (.int v :: .int u :: st) ws) := fun q p e s m args below meth c H locs A Z ls S r hl hE => lv_icmp_eq S.1 S.2.1 hd ht (fun hc => k1 hc (by rw [if_pos hc] at q; exact q) p e s m args below meth c H locs A Z ls S r hl hE) (fun hc => k2 hc (by rw [if_neg hc] at q; exact q) p e s m args below meth c H locs A Z ls S r hl hE)
theorem J_if_eq {u : Int32} {off : Int} {o1 o2 : Option α} (tgt : Nat) (ht : (pc : Int) + off = (tgt : Int)) (hd : decode (xcc x) pc = .ok (.ifCond .eq off, 3)) (k1 : u = 0 → Jj X o1 (Vw x k n tgt lv st ws)) (k2 : ¬ (u = 0) → Jj X o2 (Vw x k n (pc + 3) lv st ws)) : Jj X (if u = 0 then o1 else o2) (Vw x k n pc lv (.int u :: st) ws) := fun q p e s m args below meth c H locs A Z ls S r hl hE => lv_if_eq S.1 S.2.1 hd ht (fun hc => k1 hc (by rw [if_pos hc] at q; exact q) p e s m args below meth c H locs A Z ls S r hl hE) (fun hc => k2 hc (by rw [if_neg hc] at q; exact q) p e s m args below meth c H locs A Z ls S r hl hE)
theorem J_icmp_ne {u v : Int32} {off : Int} {o1 o2 : Option α} (tgt : Nat) (ht : (pc : Int) + off = (tgt : Int)) (hd : decode (xcc x) pc = .ok (.if_icmp .ne off, 3)) (k1 : ¬ u = v → Jj X o1 (Vw x k n tgt lv st ws)) (k2 : u = v → Jj X o2 (Vw x k n (pc + 3) lv st ws)) : Jj X (if u = v then o2 else o1) (Vw x k n pc lv (.int v :: .int u :: st) ws) := fun q p e s m args below meth c H locs A Z ls S r hl hE => lv_icmp_ne S.1 S.2.1 hd ht (fun hc => k1 hc (by rw [if_neg hc] at q; exact q) p e s m args below meth c H locs A Z ls S r hl hE) (fun hc => k2 hc (by rw [if_pos hc] at q; exact q) p e s m args below meth c H locs A Z ls S r hl hE)
theorem J_if_ne {u : Int32} {off : Int} {o1 o2 : Option α} (tgt : Nat) (ht : (pc : Int) + off = (tgt : Int)) (hd : decode (xcc x) pc = .ok (.ifCond .ne off, 3)) (k1 : ¬ u = 0 → Jj X o1 (Vw x k n tgt lv st ws)) (k2 : u = 0 → Jj X o2 (Vw x k n (pc + 3) lv st ws)) : Jj X (if u = 0 then o2 else o1) (Vw x k n pc lv (.int u :: st) ws) := fun q p e s m args below meth c H locs A Z ls S r hl hE => lv_if_ne S.1 S.2.1 hd ht (fun hc => k1 hc (by rw [if_neg hc] at q; exact q) p e s m args below meth c H locs A Z ls S r hl hE) (fun hc => k2 hc (by rw [if_pos hc] at q; exact q) p e s m args below meth c H locs A Z ls S r hl hE)
theorem J_icmp_lt {u v : Int32} {off : Int} {o1 o2 : Option α} (tgt : Nat) (ht : (pc : Int) + off = (tgt : Int)) (hd : decode (xcc x) pc = .ok (.if_icmp .lt off, 3)) (k1 : u < v → Jj X o1 (Vw x k n tgt lv st ws)) (k2 : ¬ (u < v) → Jj X o2 (Vw x k n (pc + 3) lv st ws)) : Jj X (if u < v then o1 else o2) (Vw x k n pc lv (.int v :: .int u :: st) ws) := fun q p e s m args below meth c H locs A Z ls S r hl hE => lv_icmp_lt S.1 S.2.1 hd ht (fun hc => k1 hc (by rw [if_pos hc] at q; exact q) p e s m args below meth c H locs A Z ls S r hl hE) (fun hc => k2 hc (by rw [if_neg hc] at q; exact q) p e s m args below meth c H locs A Z ls S r hl hE)
theorem J_if_lt {u : Int32} {off : Int} {o1 o2 : Option α} (tgt : Nat) (ht : (pc : Int) + off = (tgt : Int)) (hd : decode (xcc x) pc = .ok (.ifCond .lt off, 3)) (k1 : u < 0 → Jj X o1 (Vw x k n tgt lv st ws)) (k2 : ¬ (u < 0) → Jj X o2 (Vw x k n (pc + 3) lv st ws)) : Jj X (if u < 0 then o1 else o2) (Vw x k n pc lv (.int u :: st) ws) := fun q p e s m args below meth c H locs A Z ls S r hl hE => lv_if_lt S.1 S.2.1 hd ht (fun hc => k1 hc (by rw [if_pos hc] at q; exact q) p e s m args below meth c H locs A Z ls S r hl hE) (fun hc => k2 hc (by rw [if_neg hc] at q; exact q) p e s m args below meth c H locs A Z ls S r hl hE)
theorem J_icmp_ge {u v : Int32} {off : Int} {o1 o2 : Option α} (tgt : Nat) (ht : (pc : Int) + off = (tgt : Int)) (hd : decode (xcc x) pc = .ok (.if_icmp .ge off, 3)) (k1 : v ≤ u → Jj X o1 (Vw x k n tgt lv st ws)) (k2 : ¬ (v ≤ u) → Jj X o2 (Vw x k n (pc + 3) lv st ws)) : Jj X (if v ≤ u then o1 else o2) (Vw x k n pc lv (.int v :: .int u :: st) ws) := fun q p e s m args below meth c H locs A Z ls S r hl hE => lv_icmp_ge S.1 S.2.1 hd ht (fun hc => k1 hc (by rw [if_pos hc] at q; exact q) p e s m args below meth c H locs A Z ls S r hl hE) (fun hc => k2 hc (by rw [if_neg hc] at q; exact q) p e s m args below meth c H locs A Z ls S r hl hE)
theorem J_if_ge {u : Int32} {off : Int} {o1 o2 : Option α} (tgt : Nat) (ht : (pc : Int) + off = (tgt : Int)) (hd : decode (xcc x) pc = .ok (.ifCond .ge off, 3)) (k1 : 0 ≤ u → Jj X o1 (Vw x k n tgt lv st ws)) (k2 : ¬ (0 ≤ u) → Jj X o2 (Vw x k n (pc + 3) lv st ws)) : Jj X (if 0 ≤ u then o1 else o2) (Vw x k n pc lv (.int u :: st) ws) := fun q p e s m args below meth c H locs A Z ls S r hl hE => lv_if_ge S.1 S.2.1 hd ht (fun hc => k1 hc (by rw [if_pos hc] at q; exact q) p e s m args below meth c H locs A Z ls S r hl hE) (fun hc => k2 hc (by rw [if_neg hc] at q; exact q) p e s m args below meth c H locs A Z ls S r hl hE)
theorem J_icmp_gt {u v : Int32} {off : Int} {o1 o2 : Option α} (tgt : Nat) (ht : (pc : Int) + off = (tgt : Int)) (hd : decode (xcc x) pc = .ok (.if_icmp .gt off, 3)) (k1 : v < u → Jj X o1 (Vw x k n tgt lv st ws)) (k2 : ¬ (v < u) → Jj X o2 (Vw x k n (pc + 3) lv st ws)) : Jj X (if v < u then o1 else o2) (Vw x k n pc lv (.int v :: .int u :: st) ws) := fun q p e s m args below meth c H locs A Z ls S r hl hE => lv_icmp_gt S.1 S.2.1 hd ht (fun hc => k1 hc (by rw [if_pos hc] at q; exact q) p e s m args below meth c H locs A Z ls S r hl hE) (fun hc => k2 hc (by rw [if_neg hc] at q; exact q) p e s m args below meth c H locs A Z ls S r hl hE)
theorem J_if_gt {u : Int32} {off : Int} {o1 o2 : Option α} (tgt : Nat) (ht : (pc : Int) + off = (tgt : Int)) (hd : decode (xcc x) pc = .ok (.ifCond .gt off, 3)) (k1 : 0 < u → Jj X o1 (Vw x k n tgt lv st ws)) (k2 : ¬ (0 < u) → Jj X o2 (Vw x k n (pc + 3) lv st ws)) : Jj X (if 0 < u then o1 else o2) (Vw x k n pc lv (.int u :: st) ws) := fun q p e s m args below meth c H locs A Z ls S r hl hE => lv_if_gt S.1 S.2.1 hd ht (fun hc => k1 hc (by rw [if_pos hc] at q; exact q) p e s m args below meth c H locs A Z ls S r hl hE) (fun hc => k2 hc (by rw [if_neg hc] at q; exact q) p e s m args below meth c H locs A Z ls S r hl hE)
theorem J_icmp_le {u v : Int32} {off : Int} {o1 o2 : Option α} (tgt : Nat) (ht : (pc : Int) + off = (tgt : Int)) (hd : decode (xcc x) pc = .ok (.if_icmp .le off, 3)) (k1 : u ≤ v → Jj X o1 (Vw x k n tgt lv st ws)) (k2 : ¬ (u ≤ v) → Jj X o2 (Vw x k n (pc + 3) lv st ws)) : Jj X (if u ≤ v then o1 else o2) (Vw x k n pc lv (.int v :: .int u :: st) ws) := fun q p e s m args below meth c H locs A Z ls S r hl hE => lv_icmp_le S.1 S.2.1 hd ht (fun hc => k1 hc (by rw [if_pos hc] at q; exact q) p e s m args below meth c H locs A Z ls S r hl hE) (fun hc => k2 hc (by rw [if_neg hc] at q; exact q) p e s m args below meth c H locs A Z ls S r hl hE)
theorem J_if_le {u : Int32} {off : Int} {o1 o2 : Option α} (tgt : Nat) (ht : (pc : Int) + off = (tgt : Int)) (hd : decode (xcc x) pc = .ok (.ifCond .le off, 3)) (k1 : u ≤ 0 → Jj X o1 (Vw x k n tgt lv st ws)) (k2 : ¬ (u ≤ 0) → Jj X o2 (Vw x k n (pc + 3) lv st ws)) : Jj X (if u ≤ 0 then o1 else o2) (Vw x k n pc lv (.int u :: st) ws) := fun q p e s m args below meth c H locs A Z ls S r hl hE => lv_if_le S.1 S.2.1 hd ht (fun hc => k1 hc (by rw [if_pos hc] at q; exact q) p e s m args below meth c H locs A Z ls S r hl hE) (fun hc => k2 hc (by rw [if_neg hc] at q; exact q) p e s m args below meth c H locs A Z ls S r hl hE)
theorem J_goto {off : Int} (tgt : Nat) (ht : (pc : Int) + off = (tgt : Int)) (hd : decode (xcc x) pc = .ok (.goto off, 3)) (kk : Jj X o (Vw x k n tgt lv st ws)) : Jj X o (Vw x k n pc lv st ws) := fun q p e s m args below meth c H locs A Z ls S r hl hE => lv_goto S.1 S.2.1 hd ht (kk q p e s m args below meth c H locs A Z ls S r hl hE)
theorem J_iinc {i : Nat} {z : Int} {u : Int32} {lv' : List (Nat × Value)} (j : Nat) (hj : lv[j]? = some (i, .int u)) (v : Int32) (hv : u + Int32.ofInt z = v) (hn : i < xnL x) (hlv : (i, Value.int v) :: lv.filter (fun q => !(q.1 == i) && !(q.1 + 1 == i && q.2.category == 2)) = lv') (hd : decode (xcc x) pc = .ok (.iinc i z, 3)) (kk : Jj X o (Vw x k n (pc + 3) lv' st ws)) : Jj X o (Vw x k n pc lv st ws) := fun q p e s m args below meth c H locs A Z ls S r hl hE => lv_iinc S.1 S.2.1 hd hl hj hv hn hlv (fun ls' hl' => kk q p e s m args below meth c H locs A Z ls' S r hl' hE)
/-! pure steps -/
def ltt {α β : Type} (v : α) (f : α → Option β) : Option β := f v
def ckk {β : Type} (b : Bool) (o : Option β) : Option β := if b = true then o else none
def bd1 {α β : Type} (o : Option α) (f : α → Option β) : Option β := match o with
  | none => none
  | some a => f a
theorem J_ck {b : Bool} {P : Prop} (kk : b = true → Jj X o P) : Jj X (ckk b o) P := by
  intro q
  unfold ckk at q
  by_cases hb : b = true
  · rw [if_pos hb] at q
    exact kk hb q
  · rw [if_neg hb] at q
    obtain ⟨a, h, -⟩ := q
    cases h
theorem J_none {P : Prop} : Jj X (none : Option α) P := fun ⟨_, h, _⟩ => by cases h
theorem J_topi {u : Int32} {f : Int32 → Option α} (kk : ∀ v, Jj X (f v) (Vw x k n pc lv (.int v :: st) ws)) : Jj X (ltt u f) (Vw x k n pc lv (.int u :: st) ws) := kk u
theorem J_topl {u : Int64} {f : Int64 → Option α} (kk : ∀ v, Jj X (f v) (Vw x k n pc lv (.long v :: st) ws)) : Jj X (ltt u f) (Vw x k n pc lv (.long u :: st) ws) := kk u
theorem J_val {γ : Type} {u : γ} {f : γ → Option α} {P : Prop} (kk : ∀ v, v = u → Jj X (f v) P) : Jj X (ltt u f) P := kk u rfl
theorem J_hp {g : GG} {ad : Nat → Nat} {h : HP} {f : HP → Option α} (kk : ∀ h', Jj X (f h') (Vw x k n pc lv st (pic g ad h'))) : Jj X (ltt h f) (Vw x k n pc lv st (pic g ad h)) := kk h
theorem J_ite {c : Prop} [Decidable c] {o1 o2 : Option α} {P : Prop} (k1 : c → Jj X o1 P) (k2 : ¬ c → Jj X o2 P) : Jj X (if c then o1 else o2) P := by
  by_cases hc : c
  · rw [if_pos hc]; exact k1 hc
  · rw [if_neg hc]; exact k2 hc
theorem J_sub {lv' : List (Nat × Value)} (ks : List Nat) (hl : lv_pick lv ks = lv') (kk : Jj X o (Vw x k n pc lv' st ws)) : Jj X o (Vw x k n pc lv st ws) := fun q p e s m args below meth c H locs A Z ls S r h hE => kk q p e s m args below meth c H locs A Z ls S r (lv_sub h ks hl) hE
theorem J_exit {a : α} {lv' : List (Nat × Value)} (ks : List Nat) (hl : lv_pick lv ks = lv') (hX : X a → Vw x k n pc lv' st ws) : Jj X (some a) (Vw x k n pc lv st ws) := fun ⟨b, hb, hx⟩ p e s m args below meth c H locs A Z ls S r h hE => hX (by cases hb; exact hx) p e s m args below meth c H locs A Z ls S r (lv_sub h ks hl) hE
theorem V_ret {v : Option Value} (hk : k ≤ xkE x) (hn : n ≤ xnE x) (hr : RetI (xcc x) pc (xret x) v) (hQ : xQ x v ws) : Vw x k n pc lv v.toList ws := fun p e s m args below meth c H locs A Z ls S r hl hE => W.widen hk hn (hE v ws H locs ls pc hQ r hr)
theorem J_iret {a : α} {v : Int32} (hk : k ≤ xkE x) (hn : n ≤ xnE x) (hd : decode (xcc x) pc = .ok (.ireturn, 1)) (hr : xret x = some .int) (hX : X a → xQ x (some (.int v)) ws) : Jj X (some a) (Vw x k n pc lv [.int v] ws) := fun ⟨b, hb, hx⟩ => V_ret (v := some (.int v)) hk hn (Or.inl ⟨v, rfl, hd, .int, hr, rfl⟩) (hX (by cases hb; exact hx))
theorem J_zret {a : α} {v : Int32} (hk : k ≤ xkE x) (hn : n ≤ xnE x) (hd : decode (xcc x) pc = .ok (.ireturn, 1)) (hr : xret x = some .boolean) (hv : narrow .boolean (.int v) = .int v) (hX : X a → xQ x (some (.int v)) ws) : Jj X (some a) (Vw x k n pc lv [.int v] ws) := fun ⟨b, hb, hx⟩ => V_ret (v := some (.int v)) hk hn (Or.inl ⟨v, rfl, hd, .boolean, hr, hv⟩) (hX (by cases hb; exact hx))
theorem J_lret {a : α} {v : Int64} (hk : k ≤ xkE x) (hn : n ≤ xnE x) (hd : decode (xcc x) pc = .ok (.lreturn, 1)) (hr : xret x = some .long) (hX : X a → xQ x (some (.long v)) ws) : Jj X (some a) (Vw x k n pc lv [.long v] ws) := fun ⟨b, hb, hx⟩ => V_ret (v := some (.long v)) hk hn (Or.inr (Or.inl ⟨v, rfl, hd, hr⟩)) (hX (by cases hb; exact hx))
theorem J_aret {a : α} {v : Nat} {C : String} (hk : k ≤ xkE x) (hn : n ≤ xnE x) (hd : decode (xcc x) pc = .ok (.areturn, 1)) (hr : xret x = some (.object C)) (hX : X a → xQ x (some (.ref v)) ws) : Jj X (some a) (Vw x k n pc lv [.ref v] ws) := fun ⟨b, hb, hx⟩ => V_ret (v := some (.ref v)) hk hn (Or.inr (Or.inr (Or.inl ⟨v, C, rfl, hd, hr⟩))) (hX (by cases hb; exact hx))
theorem J_vret {a : α} (hk : k ≤ xkE x) (hn : n ≤ xnE x) (hd : decode (xcc x) pc = .ok (.return_, 1)) (hr : xret x = none) (hX : X a → xQ x none ws) : Jj X (some a) (Vw x k n pc lv [] ws) := fun ⟨b, hb, hx⟩ => V_ret (v := none) hk hn (Or.inr (Or.inr (Or.inr ⟨rfl, hd, hr⟩))) (hX (by cases hb; exact hx))
theorem J_tswIn {dflt lo hi : Int} {offs : Array Int} {len : Nat} {u : Int32} {off : Int} (tgt : Nat) (h1 : ¬ u.toInt < lo) (h2 : ¬ hi < u.toInt) (ho : offs[(u.toInt - lo).toNat]? = some off) (ht : (pc : Int) + off = (tgt : Int)) (hd : decode (xcc x) pc = .ok (.tableswitch dflt lo hi offs, len)) (kk : Jj X o (Vw x k n tgt lv st ws)) : Jj X o (Vw x k n pc lv (.int u :: st) ws) := fun q p e s m args below meth c H locs A Z ls S r hl hE => lv_tableIn S.1 S.2.1 hd h1 h2 ho ht (kk q p e s m args below meth c H locs A Z ls S r hl hE)
theorem J_tswOut {dflt lo hi : Int} {offs : Array Int} {len : Nat} {u : Int32} (tgt : Nat) (h : u.toInt < lo ∨ hi < u.toInt) (ht : (pc : Int) + dflt = (tgt : Int)) (hd : decode (xcc x) pc = .ok (.tableswitch dflt lo hi offs, len)) (kk : Jj X o (Vw x k n tgt lv st ws)) : Jj X o (Vw x k n pc lv (.int u :: st) ws) := fun q p e s m args below meth c H locs A Z ls S r hl hE => lv_tableOut S.1 S.2.1 hd h ht (kk q p e s m args below meth c H locs A Z ls S r hl hE)
theorem J_lsw {dflt : Int} {ps : Array (Int × Int)} {len : Nat} {u : Int32} {off : Int} (tgt : Nat) (hp : (ps.toList.zip (ps.toList.drop 1)).all (fun (a, next) => a.1 < next.1) = true) (ho : Op.lookupswitch.offset ps.toList dflt u.toInt = off) (ht : (pc : Int) + off = (tgt : Int)) (hd : decode (xcc x) pc = .ok (.lookupswitch dflt ps, len)) (kk : Jj X o (Vw x k n tgt lv st ws)) : Jj X o (Vw x k n pc lv (.int u :: st) ws) := fun q p e s m args below meth c H locs A Z ls S r hl hE => lv_lookup S.1 S.2.1 hd hp ho ht (kk q p e s m args below meth c H locs A Z ls S r hl hE)

theorem J_bd1 {γ : Type} {o1 : Option γ} {f : γ → Option α} {P : Prop} (X1 : γ → Prop) (k1 : Jj X1 o1 P) (k2 : ∀ a, Jj X (f a) (X1 a)) : Jj X (bd1 o1 f) P := by
  intro ⟨a, h, hx⟩
  cases o1 with
  | none => cases h
  | some b => exact k1 ⟨b, rfl, k2 b ⟨a, h, hx⟩⟩
def bd2 {A1 A2 β : Type} (o : Option (A1 × A2)) (f : A1 → A2 → Option β) : Option β := bd1 o (fun q => f q.1 q.2)
theorem J_bd2 {A1 A2 : Type} {o1 : Option (A1 × A2)} {f : A1 → A2 → Option α} {P : Prop} (X1 : A1 → A2 → Prop) (k1 : Jj (fun q => X1 q.1 q.2) o1 P) (k2 : ∀ a0 a1, Jj X (f a0 a1) (X1 a0 a1)) : Jj X (bd2 o1 f) P := J_bd1 _ k1 (fun q => k2 q.1 q.2)
def bd3 {A1 A2 A3 β : Type} (o : Option (A1 × A2 × A3)) (f : A1 → A2 → A3 → Option β) : Option β := bd1 o (fun q => f q.1 q.2.1 q.2.2)
theorem J_bd3 {A1 A2 A3 : Type} {o1 : Option (A1 × A2 × A3)} {f : A1 → A2 → A3 → Option α} {P : Prop} (X1 : A1 → A2 → A3 → Prop) (k1 : Jj (fun q => X1 q.1 q.2.1 q.2.2) o1 P) (k2 : ∀ a0 a1 a2, Jj X (f a0 a1 a2) (X1 a0 a1 a2)) : Jj X (bd3 o1 f) P := J_bd1 _ k1 (fun q => k2 q.1 q.2.1 q.2.2)
def bd4 {A1 A2 A3 A4 β : Type} (o : Option (A1 × A2 × A3 × A4)) (f : A1 → A2 → A3 → A4 → Option β) : Option β := bd1 o (fun q => f q.1 q.2.1 q.2.2.1 q.2.2.2)
theorem J_bd4 {A1 A2 A3 A4 : Type} {o1 : Option (A1 × A2 × A3 × A4)} {f : A1 → A2 → A3 → A4 → Option α} {P : Prop} (X1 : A1 → A2 → A3 → A4 → Prop) (k1 : Jj (fun q => X1 q.1 q.2.1 q.2.2.1 q.2.2.2) o1 P) (k2 : ∀ a0 a1 a2 a3, Jj X (f a0 a1 a2 a3) (X1 a0 a1 a2 a3)) : Jj X (bd4 o1 f) P := J_bd1 _ k1 (fun q => k2 q.1 q.2.1 q.2.2.1 q.2.2.2)
def bd5 {A1 A2 A3 A4 A5 β : Type} (o : Option (A1 × A2 × A3 × A4 × A5)) (f : A1 → A2 → A3 → A4 → A5 → Option β) : Option β := bd1 o (fun q => f q.1 q.2.1 q.2.2.1 q.2.2.2.1 q.2.2.2.2)
theorem J_bd5 {A1 A2 A3 A4 A5 : Type} {o1 : Option (A1 × A2 × A3 × A4 × A5)} {f : A1 → A2 → A3 → A4 → A5 → Option α} {P : Prop} (X1 : A1 → A2 → A3 → A4 → A5 → Prop) (k1 : Jj (fun q => X1 q.1 q.2.1 q.2.2.1 q.2.2.2.1 q.2.2.2.2) o1 P) (k2 : ∀ a0 a1 a2 a3 a4, Jj X (f a0 a1 a2 a3 a4) (X1 a0 a1 a2 a3 a4)) : Jj X (bd5 o1 f) P := J_bd1 _ k1 (fun q => k2 q.1 q.2.1 q.2.2.1 q.2.2.2.1 q.2.2.2.2)
def bd6 {A1 A2 A3 A4 A5 A6 β : Type} (o : Option (A1 × A2 × A3 × A4 × A5 × A6)) (f : A1 → A2 → A3 → A4 → A5 → A6 → Option β) : Option β := bd1 o (fun q => f q.1 q.2.1 q.2.2.1 q.2.2.2.1 q.2.2.2.2.1 q.2.2.2.2.2)
theorem J_bd6 {A1 A2 A3 A4 A5 A6 : Type} {o1 : Option (A1 × A2 × A3 × A4 × A5 × A6)} {f : A1 → A2 → A3 → A4 → A5 → A6 → Option α} {P : Prop} (X1 : A1 → A2 → A3 → A4 → A5 → A6 → Prop) (k1 : Jj (fun q => X1 q.1 q.2.1 q.2.2.1 q.2.2.2.1 q.2.2.2.2.1 q.2.2.2.2.2) o1 P) (k2 : ∀ a0 a1 a2 a3 a4 a5, Jj X (f a0 a1 a2 a3 a4 a5) (X1 a0 a1 a2 a3 a4 a5)) : Jj X (bd6 o1 f) P := J_bd1 _ k1 (fun q => k2 q.1 q.2.1 q.2.2.1 q.2.2.2.1 q.2.2.2.2.1 q.2.2.2.2.2)
def bd7 {A1 A2 A3 A4 A5 A6 A7 β : Type} (o : Option (A1 × A2 × A3 × A4 × A5 × A6 × A7)) (f : A1 → A2 → A3 → A4 → A5 → A6 → A7 → Option β) : Option β := bd1 o (fun q => f q.1 q.2.1 q.2.2.1 q.2.2.2.1 q.2.2.2.2.1 q.2.2.2.2.2.1 q.2.2.2.2.2.2)
theorem J_bd7 {A1 A2 A3 A4 A5 A6 A7 : Type} {o1 : Option (A1 × A2 × A3 × A4 × A5 × A6 × A7)} {f : A1 → A2 → A3 → A4 → A5 → A6 → A7 → Option α} {P : Prop} (X1 : A1 → A2 → A3 → A4 → A5 → A6 → A7 → Prop) (k1 : Jj (fun q => X1 q.1 q.2.1 q.2.2.1 q.2.2.2.1 q.2.2.2.2.1 q.2.2.2.2.2.1 q.2.2.2.2.2.2) o1 P) (k2 : ∀ a0 a1 a2 a3 a4 a5 a6, Jj X (f a0 a1 a2 a3 a4 a5 a6) (X1 a0 a1 a2 a3 a4 a5 a6)) : Jj X (bd7 o1 f) P := J_bd1 _ k1 (fun q => k2 q.1 q.2.1 q.2.2.1 q.2.2.2.1 q.2.2.2.2.1 q.2.2.2.2.2.1 q.2.2.2.2.2.2)
def bd8 {A1 A2 A3 A4 A5 A6 A7 A8 β : Type} (o : Option (A1 × A2 × A3 × A4 × A5 × A6 × A7 × A8)) (f : A1 → A2 → A3 → A4 → A5 → A6 → A7 → A8 → Option β) : Option β := bd1 o (fun q => f q.1 q.2.1 q.2.2.1 q.2.2.2.1 q.2.2.2.2.1 q.2.2.2.2.2.1 q.2.2.2.2.2.2.1 q.2.2.2.2.2.2.2)
theorem J_bd8 {A1 A2 A3 A4 A5 A6 A7 A8 : Type} {o1 : Option (A1 × A2 × A3 × A4 × A5 × A6 × A7 × A8)} {f : A1 → A2 → A3 → A4 → A5 → A6 → A7 → A8 → Option α} {P : Prop} (X1 : A1 → A2 → A3 → A4 → A5 → A6 → A7 → A8 → Prop) (k1 : Jj (fun q => X1 q.1 q.2.1 q.2.2.1 q.2.2.2.1 q.2.2.2.2.1 q.2.2.2.2.2.1 q.2.2.2.2.2.2.1 q.2.2.2.2.2.2.2) o1 P) (k2 : ∀ a0 a1 a2 a3 a4 a5 a6 a7, Jj X (f a0 a1 a2 a3 a4 a5 a6 a7) (X1 a0 a1 a2 a3 a4 a5 a6 a7)) : Jj X (bd8 o1 f) P := J_bd1 _ k1 (fun q => k2 q.1 q.2.1 q.2.2.1 q.2.2.2.1 q.2.2.2.2.1 q.2.2.2.2.2.1 q.2.2.2.2.2.2.1 q.2.2.2.2.2.2.2)
def bd9 {A1 A2 A3 A4 A5 A6 A7 A8 A9 β : Type} (o : Option (A1 × A2 × A3 × A4 × A5 × A6 × A7 × A8 × A9)) (f : A1 → A2 → A3 → A4 → A5 → A6 → A7 → A8 → A9 → Option β) : Option β := bd1 o (fun q => f q.1 q.2.1 q.2.2.1 q.2.2.2.1 q.2.2.2.2.1 q.2.2.2.2.2.1 q.2.2.2.2.2.2.1 q.2.2.2.2.2.2.2.1 q.2.2.2.2.2.2.2.2)
theorem J_bd9 {A1 A2 A3 A4 A5 A6 A7 A8 A9 : Type} {o1 : Option (A1 × A2 × A3 × A4 × A5 × A6 × A7 × A8 × A9)} {f : A1 → A2 → A3 → A4 → A5 → A6 → A7 → A8 → A9 → Option α} {P : Prop} (X1 : A1 → A2 → A3 → A4 → A5 → A6 → A7 → A8 → A9 → Prop) (k1 : Jj (fun q => X1 q.1 q.2.1 q.2.2.1 q.2.2.2.1 q.2.2.2.2.1 q.2.2.2.2.2.1 q.2.2.2.2.2.2.1 q.2.2.2.2.2.2.2.1 q.2.2.2.2.2.2.2.2) o1 P) (k2 : ∀ a0 a1 a2 a3 a4 a5 a6 a7 a8, Jj X (f a0 a1 a2 a3 a4 a5 a6 a7 a8) (X1 a0 a1 a2 a3 a4 a5 a6 a7 a8)) : Jj X (bd9 o1 f) P := J_bd1 _ k1 (fun q => k2 q.1 q.2.1 q.2.2.1 q.2.2.2.1 q.2.2.2.2.1 q.2.2.2.2.2.1 q.2.2.2.2.2.2.1 q.2.2.2.2.2.2.2.1 q.2.2.2.2.2.2.2.2)
end ROWS
end
section
/-! rows that touch the heap, and calls -/
def FOk (own : String) (idx a j : Nat) (fty : FieldType) (fin : Bool) : Prop := ∃ (C : String) (T : u_T) (N : Nat) (ty : Nat → FieldType) (ref : String), cl_ok (kd a) C T N ty ∧ j < N ∧ kd a < 20 ∧ a < nc_c ∧ (fdl a).length = N ∧ Cond.fieldLink own idx ref (T j).2.1 (T j).2.2.1 ∈ tb_l ∧ (ref = (T j).1 ∨ Cond.sameField ref (T j).1 (T j).2.1 (T j).2.2.1 ∈ tb_l) ∧ ty j = fty ∧ (T j).2.2.2 = fin
theorem FOk.mk0 {own : String} {idx a j : Nat} {fty : FieldType} {fin : Bool} {C : String} {T : u_T} {N : Nat} {ty : Nat → FieldType} (hc : cl_ok (kd a) C T N ty) (hj : j < N) (hk : kd a < 20) (ha : a < nc_c) (hl : (fdl a).length = N) (hlk : Cond.fieldLink own idx (T j).1 (T j).2.1 (T j).2.2.1 ∈ tb_l) (hty : ty j = fty) (hf : (T j).2.2.2 = fin) : FOk own idx a j fty fin := ⟨C, T, N, ty, _, hc, hj, hk, ha, hl, hlk, Or.inl rfl, hty, hf⟩
theorem FOk.mk1 {own : String} {idx a j : Nat} {fty : FieldType} {fin : Bool} {C : String} {T : u_T} {N : Nat} {ty : Nat → FieldType} (ref : String) (hc : cl_ok (kd a) C T N ty) (hj : j < N) (hk : kd a < 20) (ha : a < nc_c) (hl : (fdl a).length = N) (hlk : Cond.fieldLink own idx ref (T j).2.1 (T j).2.2.1 ∈ tb_l) (hs : Cond.sameField ref (T j).1 (T j).2.1 (T j).2.2.1 ∈ tb_l) (hty : ty j = fty) (hf : (T j).2.2.2 = fin) : FOk own idx a j fty fin := ⟨C, T, N, ty, ref, hc, hj, hk, ha, hl, hlk, Or.inr hs, hty, hf⟩
def inb (i : Int32) (n : Nat) : Bool := decide (¬ (i < 0 ∨ n ≤ i.toNatClampNeg))
theorem inb_in {i : Int32} {n : Nat} (h : inb i n = true) : vp_in i n := by
  unfold inb at h
  have h2 : ¬ (i < 0 ∨ n ≤ i.toNatClampNeg) := of_decide_eq_true h
  exact h2
section HROWS
variable {x : KX} {k n pc : Nat} {lv : List (Nat × Value)} {st : List Value} {α β : Type} {X : α → Prop} {o : Option α} {ad : Nat → Nat} {h : HP}
theorem V_get {idx a j : Nat} {fty : FieldType} {fin : Bool} {fd : Nat × Nat} (hF : FOk (xow x) idx a j fty fin) (hf : (fdl a)[j]? = some fd) (hd : decode (xcc x) pc = .ok (.getfield idx, 3)) (kk : Vw x k n (pc + 3) lv (fv_ ad h a j fd :: st) (pic (xg x) ad h)) : Vw x k n pc lv (.ref (ad a) :: st) (pic (xg x) ad h) := by
  intro p e s m args below meth c H locs A Z ls S r hl hE
  obtain ⟨C, T, N, ty, ref, hc, hj, hk, ha, hlen, hlk, hsm, -, -⟩ := hF
  have hts := S.2.2.2.2.1.2.hts args
  have hw : (pic (xg x) ad h)[a]? = some (ad a, .inr (kd a, (fdl a).mapIdx (fun j fd => fv_ ad h a j fd))) := by rw [pic_get ha, ce_obj hk]
  refine va_get (ci := kd a) (v := fv_ ad h a j fd) (ref := ref) S.1 S.2.1 hts hc.2.1 S.2.2.2.1 S.2.2.2.2.1.1 r.1 a hw hc.1 j hj (hts _ hlk) ?_ ?_ hd (kk p e s m args below meth c H locs A Z ls S r hl hE)
  · rcases hsm with rfl | hsm
    · exact fun _ h => h
    · exact fun z hz => u_same (hts _ hsm) z hz
  · rw [List.getElem?_mapIdx, hf]
    rfl
theorem V_put {idx a j : Nat} {fty : FieldType} {v : Value} {h' : HP} (hF : FOk (xow x) idx a j fty false) (hn : narrow fty v = v) (hfit : fits fty v = true) (hset : (pic (xg x) ad h).set a (ad a, .inr (kd a, ((fdl a).mapIdx (fun j fd => fv_ ad h a j fd)).set j v)) = pic (xg x) ad h') (hd : decode (xcc x) pc = .ok (.putfield idx, 3)) (kk : Vw x k n (pc + 3) lv st (pic (xg x) ad h')) : Vw x k n pc lv (v :: .ref (ad a) :: st) (pic (xg x) ad h) := by
  intro p e s m args below meth c H locs A Z ls S r hl hE
  obtain ⟨C, T, N, ty, ref, hc, hj, hk, ha, hlen, hlk, hsm, hty, hfin⟩ := hF
  have hts := S.2.2.2.2.1.2.hts args
  have hw : (pic (xg x) ad h)[a]? = some (ad a, .inr (kd a, (fdl a).mapIdx (fun j fd => fv_ ad h a j fd))) := by rw [pic_get ha, ce_obj hk]
  subst hty
  refine va_put (ci := kd a) (v := v) (ref := ref) S.1 S.2.1 hts hc.2.1 ty hc.2.2.1 hc.2.2.2 S.2.2.2.1 S.2.2.2.2.1.1 r.1 r.2.1 r.2.2 a hw hc.1 j hj (hts _ hlk) ?_ hfin (hc.2.2.1 j hj) hn hfit ?_ hd (fun H1 locs1 q1 q2 q3 => ?_)
  · rcases hsm with rfl | hsm
    · exact fun _ h => h
    · exact fun z hz => u_same (hts _ hsm) z hz
  · rw [List.length_mapIdx, hlen]
    exact hj
  · rw [hset] at q1 q2
    exact kk p e s m args below meth c H1 locs1 A Z ls S ⟨q1, q2, q3⟩ hl hE
theorem J_getI {idx a j t : Nat} (hF : FOk (xow x) idx a j .int false) (hf : (fdl a)[j]? = some (0, t)) (hd : decode (xcc x) pc = .ok (.getfield idx, 3)) (kk : Jj X o (Vw x k n (pc + 3) lv (.int (h.1 a j) :: st) (pic (xg x) ad h))) : Jj X o (Vw x k n pc lv (.ref (ad a) :: st) (pic (xg x) ad h)) := fun q => V_get hF hf hd (kk q)
theorem J_getIf {idx a j t : Nat} {fin : Bool} (hF : FOk (xow x) idx a j .int fin) (hf : (fdl a)[j]? = some (0, t)) (hd : decode (xcc x) pc = .ok (.getfield idx, 3)) (kk : Jj X o (Vw x k n (pc + 3) lv (.int (h.1 a j) :: st) (pic (xg x) ad h))) : Jj X o (Vw x k n pc lv (.ref (ad a) :: st) (pic (xg x) ad h)) := fun q => V_get hF hf hd (kk q)
theorem J_getZ {idx a j t : Nat} (hF : FOk (xow x) idx a j .boolean false) (hf : (fdl a)[j]? = some (0, t)) (hd : decode (xcc x) pc = .ok (.getfield idx, 3)) (kk : Jj X o (Vw x k n (pc + 3) lv (.int (h.1 a j) :: st) (pic (xg x) ad h))) : Jj X o (Vw x k n pc lv (.ref (ad a) :: st) (pic (xg x) ad h)) := fun q => V_get hF hf hd (kk q)
theorem J_getL {idx a j t : Nat} (hF : FOk (xow x) idx a j .long false) (hf : (fdl a)[j]? = some (1, t)) (hd : decode (xcc x) pc = .ok (.getfield idx, 3)) (kk : Jj X o (Vw x k n (pc + 3) lv (.long (h.2.1 a j) :: st) (pic (xg x) ad h))) : Jj X o (Vw x k n pc lv (.ref (ad a) :: st) (pic (xg x) ad h)) := fun q => V_get hF hf hd (kk q)
theorem J_getR {idx a j t : Nat} {fty : FieldType} {fin : Bool} (hF : FOk (xow x) idx a j fty fin) (hf : (fdl a)[j]? = some (2, t)) (hd : decode (xcc x) pc = .ok (.getfield idx, 3)) (kk : Jj X o (Vw x k n (pc + 3) lv (.ref (ad t) :: st) (pic (xg x) ad h))) : Jj X o (Vw x k n pc lv (.ref (ad a) :: st) (pic (xg x) ad h)) := fun q => V_get hF hf hd (kk q)
theorem J_getM {idx a j t : Nat} {fty : FieldType} {fin : Bool} (hF : FOk (xow x) idx a j fty fin) (hf : (fdl a)[j]? = some (3, t)) (hd : decode (xcc x) pc = .ok (.getfield idx, 3)) (kk : Jj X o (Vw x k n (pc + 3) lv (.ref (ad h.2.2) :: st) (pic (xg x) ad h))) : Jj X o (Vw x k n pc lv (.ref (ad a) :: st) (pic (xg x) ad h)) := fun q => V_get hF hf hd (kk q)
theorem FOk.lt {own : String} {idx a j : Nat} {fty : FieldType} {fin : Bool} (h : FOk own idx a j fty fin) : a < nc_c ∧ kd a < 20 := by
  obtain ⟨C, T, N, ty, ref, hc, hj, hk, ha, -⟩ := h
  exact ⟨ha, hk⟩
theorem J_putI {idx a j t : Nat} {v : Int32} (hF : FOk (xow x) idx a j .int false) (hf : (fdl a)[j]? = some (0, t)) (hd : decode (xcc x) pc = .ok (.putfield idx, 3)) (kk : Jj X o (Vw x k n (pc + 3) lv st (pic (xg x) ad (sI h a j v)))) : Jj X o (Vw x k n pc lv (.int v :: .ref (ad a) :: st) (pic (xg x) ad h)) := fun q => V_put hF rfl rfl (pic_sI_f hF.lt.1 hF.lt.2 hf) hd (kk q)
theorem zfit {v : Int32} (hv : v = 0 ∨ v = 1) : narrow .boolean (.int v) = .int v ∧ fits .boolean (.int v) = true := by
  rcases hv with rfl | rfl
  · exact ⟨by decide, by decide⟩
  · exact ⟨by decide, by decide⟩
theorem J_putZ {idx a j t : Nat} {v : Int32} (hv : v = 0 ∨ v = 1) (hF : FOk (xow x) idx a j .boolean false) (hf : (fdl a)[j]? = some (0, t)) (hd : decode (xcc x) pc = .ok (.putfield idx, 3)) (kk : Jj X o (Vw x k n (pc + 3) lv st (pic (xg x) ad (sI h a j v)))) : Jj X o (Vw x k n pc lv (.int v :: .ref (ad a) :: st) (pic (xg x) ad h)) := fun q => V_put hF (zfit hv).1 (zfit hv).2 (pic_sI_f hF.lt.1 hF.lt.2 hf) hd (kk q)
theorem J_putL {idx a j t : Nat} {v : Int64} (hF : FOk (xow x) idx a j .long false) (hf : (fdl a)[j]? = some (1, t)) (hd : decode (xcc x) pc = .ok (.putfield idx, 3)) (kk : Jj X o (Vw x k n (pc + 3) lv st (pic (xg x) ad (sL h a j v)))) : Jj X o (Vw x k n pc lv (.long v :: .ref (ad a) :: st) (pic (xg x) ad h)) := fun q => V_put hF rfl rfl (pic_sL_f hF.lt.1 hF.lt.2 hf) hd (kk q)
theorem J_putM {idx a j t v : Nat} {C : String} (ho : ∀ b i x, (b ≠ a ∨ i ≠ j) → (fdl b)[i]? = some x → x.1 ≠ 3) (hz : ∀ b, (fdl b).all (fun x => decide (x.1 ≤ 3)) = true) (hF : FOk (xow x) idx a j (.object C) false) (hf : (fdl a)[j]? = some (3, t)) (hd : decode (xcc x) pc = .ok (.putfield idx, 3)) (kk : Jj X o (Vw x k n (pc + 3) lv st (pic (xg x) ad (sR h v)))) : Jj X o (Vw x k n pc lv (.ref (ad v) :: .ref (ad a) :: st) (pic (xg x) ad h)) := fun q => V_put hF rfl rfl (pic_sR hF.lt.1 hF.lt.2 hf ho hz) hd (kk q)
theorem J_iald {a N : Nat} {i : Int32} (ha : a < nc_c) (hk : kd a = 20) (hN : ln a = N) (hd : decode (xcc x) pc = .ok (.iaload, 1)) (kk : Jj X o (Vw x k n (pc + 1) lv (.int (h.1 a i.toNatClampNeg) :: st) (pic (xg x) ad h))) : Jj X (ckk (inb i N) o) (Vw x k n pc lv (.int i :: .ref (ad a) :: st) (pic (xg x) ad h)) := by
  refine J_ck (fun hb q p e s m args below meth c H locs A Z ls S r hl hE => ?_)
  subst hN
  exact va_iald S.1 S.2.1 S.2.2.2.2.1.1 r.1 a 0 (by rw [pic_get ha, ce_int hk]) rfl (inb_in hb) hd (kk q p e s m args below meth c H locs A Z ls S r hl hE)
theorem J_zald {a N : Nat} {i : Int32} (ha : a < nc_c) (hk : kd a = 21) (hN : ln a = N) (hd : decode (xcc x) pc = .ok (.baload, 1)) (kk : Jj X o (Vw x k n (pc + 1) lv (.int (h.1 a i.toNatClampNeg) :: st) (pic (xg x) ad h))) : Jj X (ckk (inb i N) o) (Vw x k n pc lv (.int i :: .ref (ad a) :: st) (pic (xg x) ad h)) := by
  refine J_ck (fun hb q p e s m args below meth c H locs A Z ls S r hl hE => ?_)
  subst hN
  exact va_zald S.1 S.2.1 S.2.2.2.2.1.1 r.1 a 1 (by rw [pic_get ha, ce_bool hk]) rfl (inb_in hb) hd (kk q p e s m args below meth c H locs A Z ls S r hl hE)
theorem J_iast {a N : Nat} {i v : Int32} (ha : a < nc_c) (hk : kd a = 20) (hN : ln a = N) (hd : decode (xcc x) pc = .ok (.iastore, 1)) (kk : Jj X o (Vw x k n (pc + 1) lv st (pic (xg x) ad (sI h a i.toNatClampNeg v)))) : Jj X (ckk (inb i N) o) (Vw x k n pc lv (.int v :: .int i :: .ref (ad a) :: st) (pic (xg x) ad h)) := by
  refine J_ck (fun hb q p e s m args below meth c H locs A Z ls S r hl hE => ?_)
  subst hN
  refine va_iast S.1 S.2.1 S.2.2.2.2.1.1 r.1 r.2.1 r.2.2 a 0 (by rw [pic_get ha, ce_int hk]) rfl (inb_in hb) hd (fun H1 locs1 q1 q2 q3 => ?_)
  rw [pic_sI_a ha hk] at q1 q2
  exact kk q p e s m args below meth c H1 locs1 A Z ls S ⟨q1, q2, q3⟩ hl hE
theorem J_zast {a N : Nat} {i v : Int32} (hv : vp_nar .boolean v = v) (ha : a < nc_c) (hk : kd a = 21) (hN : ln a = N) (hd : decode (xcc x) pc = .ok (.bastore, 1)) (kk : Jj X o (Vw x k n (pc + 1) lv st (pic (xg x) ad (sI h a i.toNatClampNeg v)))) : Jj X (ckk (inb i N) o) (Vw x k n pc lv (.int v :: .int i :: .ref (ad a) :: st) (pic (xg x) ad h)) := by
  refine J_ck (fun hb q p e s m args below meth c H locs A Z ls S r hl hE => ?_)
  subst hN
  refine va_zast S.1 S.2.1 S.2.2.2.2.1.1 r.1 r.2.1 r.2.2 a 1 (by rw [pic_get ha, ce_bool hk]) rfl (inb_in hb) hd (fun H1 locs1 q1 q2 q3 => ?_)
  rw [hv, pic_sI_z ha hk] at q1 q2
  exact kk q p e s m args below meth c H1 locs1 A Z ls S ⟨q1, q2, q3⟩ hl hE
theorem J_alen {a : Nat} {v : Int32} (ha : a < nc_c) (hk : kd a = 20) (hv : Int32.ofNat (ln a) = v) (hd : decode (xcc x) pc = .ok (.arraylength, 1)) (kk : Jj X o (Vw x k n (pc + 1) lv (.int v :: st) (pic (xg x) ad h))) : Jj X o (Vw x k n pc lv (.ref (ad a) :: st) (pic (xg x) ad h)) := fun q p e s m args below meth c H locs A Z ls S r hl hE => va_alen S.1 S.2.1 S.2.2.2.2.1.1 r.1 a 0 (by rw [pic_get ha, ce_int hk]) rfl hv hd (kk q p e s m args below meth c H locs A Z ls S r hl hE)
theorem J_aaldT {a N : Nat} {i : Int32} (ha : a < nc_c) (hk : kd a = 22) (hN : ln a = N) (hd : decode (xcc x) pc = .ok (.aaload, 1)) (kk : inb i N = true → Jj X o (Vw x k n (pc + 1) lv (.ref (ad (rfx a i.toNatClampNeg)) :: st) (pic (xg x) ad h))) : Jj X (ckk (inb i N) o) (Vw x k n pc lv (.int i :: .ref (ad a) :: st) (pic (xg x) ad h)) := by
  refine J_ck (fun hb q p e s m args below meth c H locs A Z ls S r hl hE => ?_)
  subst hN
  exact va_aldq (f := fun i => some (ad (rfx a i))) S.1 S.2.1 S.2.2.2.2.1.1 r.1 a 2 (by rw [pic_get ha, ce_txt hk]) rfl (inb_in hb) hd (kk hb q p e s m args below meth c H locs A Z ls S r hl hE)
theorem J_aaldS {a N : Nat} {i : Int32} (ha : a < nc_c) (hk : kd a = 23) (hN : ln a = N) (hd : decode (xcc x) pc = .ok (.aaload, 1)) (kk : inb i N = true → Jj X o (Vw x k n (pc + 1) lv (.ref (ad (rfx a i.toNatClampNeg)) :: st) (pic (xg x) ad h))) : Jj X (ckk (inb i N) o) (Vw x k n pc lv (.int i :: .ref (ad a) :: st) (pic (xg x) ad h)) := by
  refine J_ck (fun hb q p e s m args below meth c H locs A Z ls S r hl hE => ?_)
  subst hN
  exact va_aldq (f := fun i => some (ad (rfx a i))) S.1 S.2.1 S.2.2.2.2.1.1 r.1 a 3 (by rw [pic_get ha, ce_sht hk]) rfl (inb_in hb) hd (kk hb q p e s m args below meth c H locs A Z ls S r hl hE)
theorem J_sld {ws : va_W} {b L : Nat} {xs : Nat → Int32} {i : Int32} (hs : xsc x = some (b, L, xs)) (hd : decode (xcc x) pc = .ok (.iaload, 1)) (kk : Jj X o (Vw x k n (pc + 1) lv (.int (xs i.toNatClampNeg) :: st) ws)) : Jj X (ckk (inb i L) o) (Vw x k n pc lv (.int i :: .ref b :: st) ws) := by
  refine J_ck (fun hb q p e s m args below meth c H locs A Z ls S r hl hE => ?_)
  obtain ⟨h1, h2, h3⟩ := S.2.2.2.2.2.2.2 b L xs hs
  exact va_sld S.1 S.2.1 h1 h2 h3 r.2.2 (inb_in hb) hd (kk q p e s m args below meth c H locs A Z ls S r hl hE)
theorem J_slen {ws : va_W} {b L : Nat} {xs : Nat → Int32} (hs : xsc x = some (b, L, xs)) (hd : decode (xcc x) pc = .ok (.arraylength, 1)) (kk : Jj X o (Vw x k n (pc + 1) lv (.int (Int32.ofNat L) :: st) ws)) : Jj X o (Vw x k n pc lv (.ref b :: st) ws) := by
  intro q p e s m args below meth c H locs A Z ls S r hl hE
  obtain ⟨h1, h2, h3⟩ := S.2.2.2.2.2.2.2 b L xs hs
  exact va_slen S.1 S.2.1 h1 h2 h3 r.2.2 hd (kk q p e s m args below meth c H locs A Z ls S r hl hE)
def cpk (sp dp m : Int32) (la lb : Nat) : Bool := decide (¬ sp < 0) && decide (¬ dp < 0) && decide (¬ m < 0) && decide (sp.toNatClampNeg + m.toNatClampNeg ≤ la) && decide (dp.toNatClampNeg + m.toNatClampNeg ≤ lb)
def wC (h : HP) (a b : Nat) (sp dp m : Int32) : HP := sA h b (va_cpy (h.1 a) (h.1 b) sp.toNatClampNeg dp.toNatClampNeg m.toNatClampNeg)
theorem J_copy {idx a b la lb : Nat} {sp dp m : Int32} (hlk : Cond.methodLink (xow x) idx arraycopyName ∈ tb_l) (hnat : Cond.native arraycopyName ∈ tb_l) (hst : Cond.static arraycopyName ∈ tb_l) (hini : Cond.initialized "java/lang/System" ∈ tb_l) (ha : a < nc_c) (hka : kd a = 20) (hla : ln a = la) (hb : b < nc_c) (hkb : kd b = 20) (hlb : ln b = lb) (hfr : 1 ≤ (xR x).frames) (hlo : (st.map fun v => v.category).sum + (nativeFrameWords "java/lang/System" "arraycopy" 5 + 11) ≤ (xR x).locals) (hd : decode (xcc x) pc = .ok (.invokestatic idx, 3)) (kk : Jj X o (Vw x k n (pc + 3) lv st (pic (xg x) ad (wC h a b sp dp m)))) : Jj X (ckk (cpk sp dp m la lb) o) (Vw x k n pc lv (.int m :: .int dp :: .ref (ad b) :: .int sp :: .ref (ad a) :: st) (pic (xg x) ad h)) := by
  refine J_ck (fun hc q p e s mm args below meth c H locs A Z ls S r hl hE => ?_)
  subst hla
  subst hlb
  unfold cpk at hc
  simp only [Bool.and_eq_true, decide_eq_true_eq] at hc
  obtain ⟨⟨⟨⟨h1, h2⟩, h3⟩, h4⟩, h5⟩ := hc
  have hts := S.2.2.2.2.1.2.hts args
  refine va_copyi S.1 S.2.1 (S.2.2.1.trans hl.1.symm) S.2.2.2.1 (hts _ hlk) (hts _ hnat) (hts _ hst) (hts _ hini) S.2.2.2.2.1.1 r.1 r.2.1 r.2.2 a b 0 0 (by rw [pic_get ha, ce_int hka]) (by rw [pic_get hb, ce_int hkb]) rfl rfl rfl h1 h2 h3 h4 h5 (fun _ _ => rfl) hfr hlo hd (fun H1 locs1 q1 q2 q3 => ?_)
  rw [pic_sA hb hkb] at q1 q2
  exact kk q p e s mm args below meth c H1 locs1 A Z ls S ⟨q1, q2, q3⟩ hl hE
end HROWS
end
section
/-! contracts over the abstract heap, and the calls that use them -/
def Pm (g : GG) (ad : Nat → Nat) (h : HP) (argv : List Value) (sz : Nat) : Array Value → State → Prop := va_Pc argv (fun U => U.heap.size = sz ∧ va_P g.1 cl_s (pic g ad h) U.heap ∧ va_D (fun _ => True) (pic g ad h) ∧ wk g U)
def Qm (g : GG) (ad : Nat → Nat) (h : HP) (sz : Nat) (v : Option Value) (h' : HP) : Array Value → State → Outcome → State → Prop := fun _ st oc t => oc = .returned v ∧ va_P g.1 cl_s (pic g ad h') t.heap ∧ va_F (va_A (pic g ad h) sz) st t
def Ct (l : Launch) (g : GG) (ad : Nat → Nat) (y : MethodName) (bytes : ByteArray) (mL : Nat) (ret : Option FieldType) (R : Room) (argv : List Value) (h : HP) (v : Option Value) (h' : HP) : Prop := ∀ sz, Met l y [.code y bytes mL ret] R (Pm g ad h argv sz) (Qm g ad h sz v h') 0 0 (va_A (pic g ad h) sz)
def CM {γ : Type} (l : Launch) (g : GG) (ad : Nat → Nat) (y : MethodName) (bytes : ByteArray) (mL : Nat) (ret : Option FieldType) (R : Room) (argv : List Value) (h : HP) (enc : γ → Option Value × HP) (o : Option γ) : Prop := ∀ a, o = some a → Ct l g ad y bytes mL ret R argv h (enc a).1 (enc a).2
def enI (q : Int32 × HP) : Option Value × HP := (some (.int q.1), q.2)
def enL (q : Int64 × HP) : Option Value × HP := (some (.long q.1), q.2)
def enV (h : HP) : Option Value × HP := (none, h)
def enA (v : Nat) (h : HP) : Option Value × HP := (some (.ref v), h)
theorem Pm.blind {g : GG} {ad : Nat → Nat} {h : HP} {argv : List Value} {sz : Nat} : FrameBlind (Pm g ad h argv sz) := fun _ _ _ _ q => ⟨q.1, q.2.1, q.2.2.1, q.2.2.2.1, wk.calling q.2.2.2.2⟩
/-- a body's walk gives the contract -/
theorem Ct.of {l : Launch} {g : GG} {ad : Nat → Nat} {y : MethodName} {bytes : ByteArray} {mL : Nat} {ret : Option FieldType} {R : Room} {argv : List Value} {h : HP} {v : Option Value} {h' : HP} (hy : plainName y.cls = true) (hlen : (lg_sl argv).length ≤ mL)
    (hV : Vw (l, g, none, R, y.cls, bytes, mL, false, 0, 0, fun v2 ws => v2 = v ∧ ws = pic g ad h', ret) 0 0 0 (lv_args 0 argv) [] (pic g ad h)) : Ct l g ad y bytes mL ret R argv h v h' := by
  intro sz
  refine Met.ofW (cc := bytes) (maxL := mL) (ret := ret) hy rfl ?_
  intro p e s m args below meth c s₁ B hml hv
  obtain ⟨rfl, hsz, hP, hD0, hK⟩ := hv
  have hr := B.returns
  have hlocks := B.notSynchronized
  rw [lg_entry_eq]
  have hSf : Sf (l, g, none, R, y.cls, bytes, mL, false, 0, 0, fun v2 ws => v2 = v ∧ ws = pic g ad h', ret) p s m argv.toArray meth c (va_A (pic g ad h) sz) := by
    refine ⟨B.exec, B.bytes, hml, findClass_of_methodNamed B.named, hK, fun q hq => Or.inr (by rw [← hsz]; exact hq), ?_, ?_⟩
    · intro hh
      have h2 : false = true := hh
      cases h2
    · intro b1 L1 xs1 hh
      have h2 : (none : Option (Nat × Nat × (Nat → Int32))) = some (b1, L1, xs1) := hh
      cases h2
  refine hV p e s m _ below meth c s.heap [] (va_A (pic g ad h) sz) _ _ hSf ⟨hP, hD0.self, va_S.rf⟩ (lv_entry argv hlen) ?_
  intro v' ws' H' locs' ls' pc' hQ hR hret
  obtain ⟨rfl, rfl⟩ := hQ
  have hq : ∀ t : State, t.heap = H' → s.WarmedH t.vm → Qm g ad h sz v' h' argv.toArray s (.returned v') t := fun t ht _ => ⟨rfl, by rw [ht]; exact hR.1, hR.2.2.F ht⟩
  rcases hret with ⟨r, rfl, hd, ty, hty, hn⟩ | ⟨r, rfl, hd, hty⟩ | ⟨a, C, rfl, hd, hty⟩ | ⟨rfl, hd, hty⟩
  · exact W.zret B.exec B.bytes (hr.trans hty) hn hq hR.2.2.2.2 hd
  · exact W.lret B.exec B.bytes (hr.trans hty) hq hR.2.2.2.2 hd
  · exact W.aret B.exec B.bytes (hr.trans hty) (Or.inl ⟨_, rfl⟩) (Or.inr ⟨_, rfl⟩) hq hR.2.2.2.2 hd
  · exact W.vret B.exec B.bytes (hr.trans hty) hq hR.2.2.2.2 hd
theorem CM.of {γ : Type} {l : Launch} {g : GG} {ad : Nat → Nat} {y : MethodName} {bytes : ByteArray} {mL : Nat} {ret : Option FieldType} {R : Room} {argv : List Value} {h : HP} {enc : γ → Option Value × HP} {o : Option γ} (hy : plainName y.cls = true) (hlen : (lg_sl argv).length ≤ mL)
    (hV : ∀ Q, Jj (fun a => Q (enc a).1 (pic g ad (enc a).2)) o (Vw (l, g, none, R, y.cls, bytes, mL, false, 0, 0, Q, ret) 0 0 0 (lv_args 0 argv) [] (pic g ad h))) : CM l g ad y bytes mL ret R argv h enc o := fun a ha => Ct.of hy hlen (hV _ ⟨a, ha, rfl, rfl⟩)
/-- what a caller must know of a method: its words -/
def MOk (y : MethodName) (bytes : ByteArray) (mL : Nat) (ret : Option FieldType) (np : Nat) : Prop := Cond.code y bytes mL ret ∈ tb_l ∧ Cond.initialized y.cls ∈ tb_l ∧ y.cls ≠ "java/lang/invoke/MethodHandle" ∧ y.cls ≠ "java/lang/invoke/VarHandle" ∧ (parseMethodDescriptor y.desc).map (fun d => d.parameters.length) = some np
def Rok (rm R : Room) (mL : Nat) : Prop := rm.cells = 0 ∧ rm.slots = 0 ∧ rm.frames + 1 ≤ R.frames ∧ 8 + (mL + 11) + rm.locals ≤ R.locals
theorem good_code {y : MethodName} {bytes : ByteArray} {mL : Nat} {ret : Option FieldType} (h : Cond.code y bytes mL ret ∈ tb_l) : GoodIn tb_l [.code y bytes mL ret] := by
  intro w hw
  rw [List.mem_singleton.mp hw]
  exact ⟨h, Or.inl rfl⟩
section CROWS
variable {x : KX} {k n pc : Nat} {lv : List (Nat × Value)} {st rest : List Value} {α β : Type} {X : α → Prop} {o : Option α} {ad : Nat → Nat} {h h' : HP}
variable {y : MethodName} {bytes : ByteArray} {mL : Nat} {ret : Option FieldType} {np : Nat} {rm : Room} {argv : List Value} {v : Option Value} {idx : Nat}
theorem V_run {aa : Array Value} (hr : ∀ p e s m args below meth c H locs A ls, Sf x p s m args meth c A → Rw (xg x) A s.heap (pic (xg x) ad h) H locs → lv_has ls (xnL x) lv → va_Run p (xl x) e (xR x) s m args below meth c H locs k n 0 0 (F0 m pc ls st) rest (Qm (xg x) ad h H.size v h' aa) (va_A (pic (xg x) ad h) H.size)) (kk : Vw x k n (pc + 3) lv (v.toList ++ rest) (pic (xg x) ad h')) : Vw x k n pc lv st (pic (xg x) ad h) := by
  intro p e s m args below meth c H locs A Z ls S r hl hE T hT X
  obtain ⟨v', st₀, t, T', L, h0, X', hL, e1, e2, ⟨hv, hP', hz, hk2⟩, stp⟩ := hr p e s m args below meth c H locs A ls S r hl T hT X
  cases hv
  rw [h0] at hz hk2
  have hF : ∀ q, va_A (pic (xg x) ad h) H.size q → A q := by
    intro q hq
    rcases hq with ⟨i, en, hq⟩ | hq
    · exact r.2.1.2 i _ hq
    · exact S.2.2.2.2.2.1 q (Nat.le_trans r.2.2.1 hq)
  obtain ⟨t2, a1, b1⟩ := kk p e s m args below meth c T'.heap (locs ++ L) A Z ls S ⟨by rw [e1]; exact hP', pic_D r.2.1, Nat.le_trans r.2.2.1 (by rw [e1]; exact hz), fun q h1 h2 => by rw [e1, hk2 q (Nat.lt_of_lt_of_le h1 r.2.2.1) (fun z => h2 (hF q z))]; exact r.2.2.2.1 q h1 h2, fun q hq => by
      rcases List.mem_append.mp hq with hq | hq
      · exact r.2.2.2.2 q hq
      · exact hF _ (hL q hq)⟩ hl hE T' rfl X'
  exact ⟨t2, stp t2 a1, b1⟩
theorem Pm.pre {g : GG} {s U : State} {H : Heap} {A : Nat → Prop} {H0 : Heap} {locs : List Loc} (hU : U.heap = H) (hW : s.WarmedH U.vm) (hK : wk g s) (r : Rw g A H0 (pic g ad h) H locs) : Pm g ad h argv H.size argv.toArray U := ⟨rfl, by rw [hU], by rw [hU]; exact r.1, r.2.1.weaken (fun _ _ _ _ => trivial), hK.warm hW⟩
theorem cb_ {R : Room} {s : State} {args : Array Value} {own : String} (hts : ∀ w ∈ tb_l, w.before args s = true) (ok : MOk y bytes mL ret np) (hlk : Cond.methodLink own idx y ∈ tb_l) (hR : Rok rm R mL) : CallB R s args own idx y bytes mL ret [.code y bytes mL ret] rm 0 0 np :=
  callB_of np hts (good_code ok.1) rfl hR.1 hR.2.1 (hts _ ok.2.1) (hts _ hlk) ok.2.2 hR.2.2
def Ckn (x : KX) (k n : Nat) : Prop := k + 0 ≤ (xR x).cells ∧ n + 0 ≤ (xR x).slots
theorem V_callS (hC : Ct (xl x) (xg x) ad y bytes mL ret rm argv h v h') (ok : MOk y bytes mL ret np) (hs : Cond.static y ∈ tb_l) (hlk : Cond.methodLink (xow x) idx y ∈ tb_l) (hR : Rok rm (xR x) mL) (hkn : Ckn x k n) (hn : argv.length = np) (hst : st = argv.reverse ++ rest) (hw : (rest.map fun v => v.category).sum ≤ 8) (hd : decode (xcc x) pc = .ok (.invokestatic idx, 3)) (kk : Vw x k n (pc + 3) lv (v.toList ++ rest) (pic (xg x) ad h')) : Vw x k n pc lv st (pic (xg x) ad h) := by
  refine V_run (aa := argv.toArray) (fun p e s m args below meth c H locs A ls S r hl => ?_) kk
  have hts := S.2.2.2.2.1.2.hts args
  exact va_runS (As := argv) ⟨S.1, S.2.1, S.2.2.1, S.2.2.2.1, hts⟩ (hC H.size) ⟨cb_ hts ok hlk hR, hts _ hs⟩ ⟨Pm.blind, fun U hU hW => Pm.pre hU hW S.2.2.2.2.1 r⟩ rfl hn hl.1 hst (lv_room hw) hd hkn
theorem V_callSN {host : String} (hC : Ct (xl x) (xg x) ad y bytes mL ret rm argv h v h') (ok : MOk y bytes mL ret np) (hs : Cond.static y ∈ tb_l) (hlk : Cond.methodLinkNest (xow x) idx y host ∈ tb_l) (hR : Rok rm (xR x) mL) (hkn : Ckn x k n) (hn : argv.length = np) (hst : st = argv.reverse ++ rest) (hw : (rest.map fun v => v.category).sum ≤ 8) (hd : decode (xcc x) pc = .ok (.invokestatic idx, 3)) (kk : Vw x k n (pc + 3) lv (v.toList ++ rest) (pic (xg x) ad h')) : Vw x k n pc lv st (pic (xg x) ad h) := by
  refine V_run (aa := argv.toArray) (fun p e s m args below meth c H locs A ls S r hl => ?_) kk
  have hts := S.2.2.2.2.1.2.hts args
  exact va_runSN (As := argv) ⟨S.1, S.2.1, S.2.2.1, S.2.2.2.1, hts⟩ (hC H.size) ⟨va_cnB np hts (good_code ok.1) rfl hR.1 hR.2.1 (S.2.2.2.2.1.2 _ hlk) (hts _ ok.2.1) ok.2.2 hR.2.2, hts _ hs, trivial⟩ ⟨Pm.blind, fun U hU hW => Pm.pre hU hW S.2.2.2.2.1 r⟩ rfl hn hl.1 hst (lv_room hw) hd hkn
/-- the receiver: a cell that is an object of the class of that name -/
def Rcv (a : Nat) (C : String) : Prop := a < nc_c ∧ kd a < 20 ∧ ∃ q, cl_s[kd a]? = some q ∧ q.1 = C
theorem Rcv.use {g : GG} {s : State} {H : Heap} {A : Nat → Prop} {H0 : Heap} {locs : List Loc} {a : Nat} {C : String} (h1 : Rcv a C) (hK : wk g s) (r : Rw g A H0 (pic g ad h) H locs) : ∃ cell : Cell, H[ad a]? = some cell ∧ cell.vm.isStatics = false ∧ s.vm.findClass C = some cell.cls := by
  obtain ⟨ha, hk, q, hq, rfl⟩ := h1
  exact va_recv hK.1 r.1 hq (by rw [pic_get ha, ce_obj hk])
theorem V_callV {a : Nat} {As : List Value} (hC : Ct (xl x) (xg x) ad y bytes mL ret rm (.ref (ad a) :: As) h v h') (ok : MOk y bytes mL ret np) (hrc : Rcv a y.cls) (hs : Cond.instanceMethod y ∈ tb_l) (hse : Cond.selects y.cls y y ∈ tb_l) (hlk : Cond.methodLink (xow x) idx y ∈ tb_l) (hR : Rok rm (xR x) mL) (hkn : Ckn x k n) (hn : As.length = np) (hst : st = As.reverse ++ .ref (ad a) :: rest) (hw : (rest.map fun v => v.category).sum ≤ 8) (hd : decode (xcc x) pc = .ok (.invokevirtual idx, 3)) (kk : Vw x k n (pc + 3) lv (v.toList ++ rest) (pic (xg x) ad h')) : Vw x k n pc lv st (pic (xg x) ad h) := by
  refine V_run (aa := (Value.ref (ad a) :: As).toArray) (fun p e s m args below meth c H locs A ls S r hl => ?_) kk
  have hts := S.2.2.2.2.1.2.hts args
  exact va_runV (As := As) (C := y.cls) ⟨S.1, S.2.1, S.2.2.1, S.2.2.2.1, hts⟩ (hC H.size) ⟨cb_ hts ok hlk hR, hts _ hs, hts _ hse⟩ ⟨Pm.blind, hrc.use S.2.2.2.2.1 r, fun U hU hW => Pm.pre hU hW S.2.2.2.2.1 r⟩ rfl hn hl.1 hst (lv_room hw) hd hkn
/-- a private method of the superclass is selected on an object of a subclass -/
theorem sel_up {args : Array Value} {s : State} {C : String} {y : MethodName} {n : Nat} (hins : (Cond.instantiable C n).before args s = true) (hsame : (Cond.sameMethod y.cls y.cls y.name y.desc).before args s = true) (hpriv : (Cond.privateMethod y).before args s = true) (hinst : (Cond.instanceMethod y).before args s = true) : (Cond.selects C y y).before args s = true := by
  obtain ⟨c, k, hc, hk, -⟩ := Cond.instantiable_spec hins
  obtain ⟨cn, ck, r, hcn, hck, hni, hf, hn⟩ := Cond.sameMethod_found hsame
  obtain ⟨mq, methM, hnamed, hmethM, -, -⟩ := Cond.instanceMethod_spec hinst
  have hn2 : s.methodNamed? y = some r := hn
  have e0 : mq = r := Option.some.inj (hnamed.symm.trans hn2)
  subst e0
  have hcls : mq.cls = cn := Option.some.inj ((findClass_of_methodNamed hnamed).symm.trans hcn)
  have hsel : selectMethod {} s.vm c mq = .method mq := selectMethod_private hmethM (Cond.privateMethod_at hpriv mq methM hnamed hmethM)
  simp only [Cond.before, Cond.holds, Cond.value, hc, hf, hnamed, hsel, hcls, hck]
  simp; exact hni
/-- the words of a call whose method is named through the superclass x0.cls and found, or overridden, as y on the receiver's class C -/
def UOk (C : String) (x0 y : MethodName) : Prop := Cond.sameMethod x0.cls x0.cls x0.name x0.desc ∈ tb_l ∧ Cond.instanceMethod y ∈ tb_l ∧ (Cond.selects C x0 y ∈ tb_l ∨ (x0 = y ∧ (∃ n, Cond.instantiable C n ∈ tb_l) ∧ Cond.privateMethod y ∈ tb_l)) ∧ (x0 = y ∨ Cond.declares x0 ∈ tb_l) ∧ (x0.cls ≠ "java/lang/invoke/MethodHandle" ∧ x0.cls ≠ "java/lang/invoke/VarHandle") ∧ x0.desc = y.desc
theorem V_callU {a : Nat} {C : String} {x0 : MethodName} {As : List Value} (hC : Ct (xl x) (xg x) ad y bytes mL ret rm (.ref (ad a) :: As) h v h') (ok : MOk y bytes mL ret np) (hrc : Rcv a C) (hu : UOk C x0 y) (hlk : Cond.methodLink (xow x) idx x0 ∈ tb_l) (hR : Rok rm (xR x) mL) (hkn : Ckn x k n) (hn : As.length = np) (hst : st = As.reverse ++ .ref (ad a) :: rest) (hw : (rest.map fun v => v.category).sum ≤ 8) (hd : decode (xcc x) pc = .ok (.invokevirtual idx, 3)) (kk : Vw x k n (pc + 3) lv (v.toList ++ rest) (pic (xg x) ad h')) : Vw x k n pc lv st (pic (xg x) ad h) := by
  refine V_run (aa := (Value.ref (ad a) :: As).toArray) (fun p e s m args below meth c H locs A ls S r hl => ?_) kk
  have hts := S.2.2.2.2.1.2.hts args
  obtain ⟨hsm, hin, hse, hde, hmh, hdesc⟩ := hu
  have hsel : (Cond.selects C x0 y).before args s = true := by
    rcases hse with hse | ⟨rfl, ⟨nn, hins⟩, hpr⟩
    · exact hts _ hse
    · exact sel_up (hts _ hins) (hts _ hsm) (hts _ hpr) (hts _ hin)
  have hdecl : va_Decl s ⟨x0.cls, x0.name, x0.desc⟩ := by
    rcases hde with rfl | hde
    · exact va_Decl.of (hts _ hin) (hts _ ok.1)
    · exact va_Decl.abs (S.2.2.2.2.1.2 _ hde)
  refine va_runU (As := As) (C := C) (owner := x0.cls) ⟨S.1, S.2.1, S.2.2.1, S.2.2.2.1, hts⟩ (hC H.size) ⟨⟨hR.1, hR.2.1, hR.2.2.1, hR.2.2.2, pay_in hts (good_code ok.1), List.mem_singleton.mpr rfl⟩, hts _ ok.1, hts _ ok.2.1, hmh, fun sig hsig => ?_, hts _ hlk, hts _ hsm, hdecl, hsel, hts _ hin⟩ ⟨Pm.blind, hrc.use S.2.2.2.2.1 r, fun U hU hW => Pm.pre hU hW S.2.2.2.2.1 r⟩ rfl hn hl.1 hst (lv_room hw) hd hkn
  have h2 := ok.2.2.2.2
  rw [← hdesc, hsig] at h2
  exact (Option.some.inj h2).symm
/-! the same, guarded: a call in front of a computation -/
theorem J_call {γ : Type} {enc : γ → Option Value × HP} {o1 : Option γ} {f : γ → Option α} {P : Prop} (hm : CM (xl x) (xg x) ad y bytes mL ret rm argv h enc o1) (hv : ∀ a, Ct (xl x) (xg x) ad y bytes mL ret rm argv h (enc a).1 (enc a).2 → Vw x k n (pc + 3) lv ((enc a).1.toList ++ rest) (pic (xg x) ad (enc a).2) → P) (kk : ∀ a, Jj X (f a) (Vw x k n (pc + 3) lv ((enc a).1.toList ++ rest) (pic (xg x) ad (enc a).2))) : Jj X (bd1 o1 f) P := by
  intro ⟨a, hb, hx⟩
  cases o1 with
  | none => cases hb
  | some q => exact hv q (hm q rfl) (kk q ⟨a, hb, hx⟩)
end CROWS
section CROWS2
variable {x : KX} {k n pc : Nat} {lv : List (Nat × Value)} {st rest : List Value} {α β : Type} {X : α → Prop} {o : Option α} {ad : Nat → Nat} {h h' : HP}
variable {y : MethodName} {bytes : ByteArray} {mL : Nat} {ret : Option FieldType} {np : Nat} {rm : Room} {argv : List Value} {idx : Nat}
theorem J_callSi {o1 : Option (Int32 × HP)} {f : Int32 → HP → Option α} (hm : CM (xl x) (xg x) ad y bytes mL ret rm argv h enI o1) (ok : MOk y bytes mL ret np) (hs : Cond.static y ∈ tb_l) (hlk : Cond.methodLink (xow x) idx y ∈ tb_l) (hR : Rok rm (xR x) mL) (hkn : Ckn x k n) (hn : argv.length = np) (hst : st = argv.reverse ++ rest) (hw : (rest.map fun v => v.category).sum ≤ 8) (hd : decode (xcc x) pc = .ok (.invokestatic idx, 3)) (kk : ∀ r h', Jj X (f r h') (Vw x k n (pc + 3) lv (.int r :: rest) (pic (xg x) ad h'))) : Jj X (bd2 o1 f) (Vw x k n pc lv st (pic (xg x) ad h)) := J_call hm (fun a hC hv => V_callS hC ok hs hlk hR hkn hn hst hw hd hv) (fun q => kk q.1 q.2)
theorem J_callSl {o1 : Option (Int64 × HP)} {f : Int64 → HP → Option α} (hm : CM (xl x) (xg x) ad y bytes mL ret rm argv h enL o1) (ok : MOk y bytes mL ret np) (hs : Cond.static y ∈ tb_l) (hlk : Cond.methodLink (xow x) idx y ∈ tb_l) (hR : Rok rm (xR x) mL) (hkn : Ckn x k n) (hn : argv.length = np) (hst : st = argv.reverse ++ rest) (hw : (rest.map fun v => v.category).sum ≤ 8) (hd : decode (xcc x) pc = .ok (.invokestatic idx, 3)) (kk : ∀ r h', Jj X (f r h') (Vw x k n (pc + 3) lv (.long r :: rest) (pic (xg x) ad h'))) : Jj X (bd2 o1 f) (Vw x k n pc lv st (pic (xg x) ad h)) := J_call hm (fun a hC hv => V_callS hC ok hs hlk hR hkn hn hst hw hd hv) (fun q => kk q.1 q.2)
theorem J_callSv {o1 : Option (HP)} {f : HP → Option α} (hm : CM (xl x) (xg x) ad y bytes mL ret rm argv h enV o1) (ok : MOk y bytes mL ret np) (hs : Cond.static y ∈ tb_l) (hlk : Cond.methodLink (xow x) idx y ∈ tb_l) (hR : Rok rm (xR x) mL) (hkn : Ckn x k n) (hn : argv.length = np) (hst : st = argv.reverse ++ rest) (hw : (rest.map fun v => v.category).sum ≤ 8) (hd : decode (xcc x) pc = .ok (.invokestatic idx, 3)) (kk : ∀ h', Jj X (f h') (Vw x k n (pc + 3) lv rest (pic (xg x) ad h'))) : Jj X (bd1 o1 f) (Vw x k n pc lv st (pic (xg x) ad h)) := J_call hm (fun a hC hv => V_callS hC ok hs hlk hR hkn hn hst hw hd hv) (fun q => kk q)
theorem J_callSNi {host : String} {o1 : Option (Int32 × HP)} {f : Int32 → HP → Option α} (hm : CM (xl x) (xg x) ad y bytes mL ret rm argv h enI o1) (ok : MOk y bytes mL ret np) (hs : Cond.static y ∈ tb_l) (hlk : Cond.methodLinkNest (xow x) idx y host ∈ tb_l) (hR : Rok rm (xR x) mL) (hkn : Ckn x k n) (hn : argv.length = np) (hst : st = argv.reverse ++ rest) (hw : (rest.map fun v => v.category).sum ≤ 8) (hd : decode (xcc x) pc = .ok (.invokestatic idx, 3)) (kk : ∀ r h', Jj X (f r h') (Vw x k n (pc + 3) lv (.int r :: rest) (pic (xg x) ad h'))) : Jj X (bd2 o1 f) (Vw x k n pc lv st (pic (xg x) ad h)) := J_call hm (fun a hC hv => V_callSN hC ok hs hlk hR hkn hn hst hw hd hv) (fun q => kk q.1 q.2)
theorem J_callSNv {host : String} {o1 : Option (HP)} {f : HP → Option α} (hm : CM (xl x) (xg x) ad y bytes mL ret rm argv h enV o1) (ok : MOk y bytes mL ret np) (hs : Cond.static y ∈ tb_l) (hlk : Cond.methodLinkNest (xow x) idx y host ∈ tb_l) (hR : Rok rm (xR x) mL) (hkn : Ckn x k n) (hn : argv.length = np) (hst : st = argv.reverse ++ rest) (hw : (rest.map fun v => v.category).sum ≤ 8) (hd : decode (xcc x) pc = .ok (.invokestatic idx, 3)) (kk : ∀ h', Jj X (f h') (Vw x k n (pc + 3) lv rest (pic (xg x) ad h'))) : Jj X (bd1 o1 f) (Vw x k n pc lv st (pic (xg x) ad h)) := J_call hm (fun a hC hv => V_callSN hC ok hs hlk hR hkn hn hst hw hd hv) (fun q => kk q)
theorem J_callVi {a : Nat} {As : List Value} {o1 : Option (Int32 × HP)} {f : Int32 → HP → Option α} (hm : CM (xl x) (xg x) ad y bytes mL ret rm (.ref (ad a) :: As) h enI o1) (ok : MOk y bytes mL ret np) (hrc : Rcv a y.cls) (hs : Cond.instanceMethod y ∈ tb_l) (hse : Cond.selects y.cls y y ∈ tb_l) (hlk : Cond.methodLink (xow x) idx y ∈ tb_l) (hR : Rok rm (xR x) mL) (hkn : Ckn x k n) (hn : As.length = np) (hst : st = As.reverse ++ .ref (ad a) :: rest) (hw : (rest.map fun v => v.category).sum ≤ 8) (hd : decode (xcc x) pc = .ok (.invokevirtual idx, 3)) (kk : ∀ r h', Jj X (f r h') (Vw x k n (pc + 3) lv (.int r :: rest) (pic (xg x) ad h'))) : Jj X (bd2 o1 f) (Vw x k n pc lv st (pic (xg x) ad h)) := J_call hm (fun a hC hv => V_callV hC ok hrc hs hse hlk hR hkn hn hst hw hd hv) (fun q => kk q.1 q.2)
theorem J_callVl {a : Nat} {As : List Value} {o1 : Option (Int64 × HP)} {f : Int64 → HP → Option α} (hm : CM (xl x) (xg x) ad y bytes mL ret rm (.ref (ad a) :: As) h enL o1) (ok : MOk y bytes mL ret np) (hrc : Rcv a y.cls) (hs : Cond.instanceMethod y ∈ tb_l) (hse : Cond.selects y.cls y y ∈ tb_l) (hlk : Cond.methodLink (xow x) idx y ∈ tb_l) (hR : Rok rm (xR x) mL) (hkn : Ckn x k n) (hn : As.length = np) (hst : st = As.reverse ++ .ref (ad a) :: rest) (hw : (rest.map fun v => v.category).sum ≤ 8) (hd : decode (xcc x) pc = .ok (.invokevirtual idx, 3)) (kk : ∀ r h', Jj X (f r h') (Vw x k n (pc + 3) lv (.long r :: rest) (pic (xg x) ad h'))) : Jj X (bd2 o1 f) (Vw x k n pc lv st (pic (xg x) ad h)) := J_call hm (fun a hC hv => V_callV hC ok hrc hs hse hlk hR hkn hn hst hw hd hv) (fun q => kk q.1 q.2)
theorem J_callVv {a : Nat} {As : List Value} {o1 : Option (HP)} {f : HP → Option α} (hm : CM (xl x) (xg x) ad y bytes mL ret rm (.ref (ad a) :: As) h enV o1) (ok : MOk y bytes mL ret np) (hrc : Rcv a y.cls) (hs : Cond.instanceMethod y ∈ tb_l) (hse : Cond.selects y.cls y y ∈ tb_l) (hlk : Cond.methodLink (xow x) idx y ∈ tb_l) (hR : Rok rm (xR x) mL) (hkn : Ckn x k n) (hn : As.length = np) (hst : st = As.reverse ++ .ref (ad a) :: rest) (hw : (rest.map fun v => v.category).sum ≤ 8) (hd : decode (xcc x) pc = .ok (.invokevirtual idx, 3)) (kk : ∀ h', Jj X (f h') (Vw x k n (pc + 3) lv rest (pic (xg x) ad h'))) : Jj X (bd1 o1 f) (Vw x k n pc lv st (pic (xg x) ad h)) := J_call hm (fun a hC hv => V_callV hC ok hrc hs hse hlk hR hkn hn hst hw hd hv) (fun q => kk q)
theorem J_callVa {a : Nat} {As : List Value} {vv : Nat} {o1 : Option (HP)} {f : HP → Option α} (hm : CM (xl x) (xg x) ad y bytes mL ret rm (.ref (ad a) :: As) h (enA vv) o1) (ok : MOk y bytes mL ret np) (hrc : Rcv a y.cls) (hs : Cond.instanceMethod y ∈ tb_l) (hse : Cond.selects y.cls y y ∈ tb_l) (hlk : Cond.methodLink (xow x) idx y ∈ tb_l) (hR : Rok rm (xR x) mL) (hkn : Ckn x k n) (hn : As.length = np) (hst : st = As.reverse ++ .ref (ad a) :: rest) (hw : (rest.map fun v => v.category).sum ≤ 8) (hd : decode (xcc x) pc = .ok (.invokevirtual idx, 3)) (kk : ∀ h', Jj X (f h') (Vw x k n (pc + 3) lv (.ref vv :: rest) (pic (xg x) ad h'))) : Jj X (bd1 o1 f) (Vw x k n pc lv st (pic (xg x) ad h)) := J_call hm (fun a hC hv => V_callV hC ok hrc hs hse hlk hR hkn hn hst hw hd hv) (fun q => kk q)
theorem J_callUi {a : Nat} {C : String} {x0 : MethodName} {As : List Value} {o1 : Option (Int32 × HP)} {f : Int32 → HP → Option α} (hm : CM (xl x) (xg x) ad y bytes mL ret rm (.ref (ad a) :: As) h enI o1) (ok : MOk y bytes mL ret np) (hrc : Rcv a C) (hu : UOk C x0 y) (hlk : Cond.methodLink (xow x) idx x0 ∈ tb_l) (hR : Rok rm (xR x) mL) (hkn : Ckn x k n) (hn : As.length = np) (hst : st = As.reverse ++ .ref (ad a) :: rest) (hw : (rest.map fun v => v.category).sum ≤ 8) (hd : decode (xcc x) pc = .ok (.invokevirtual idx, 3)) (kk : ∀ r h', Jj X (f r h') (Vw x k n (pc + 3) lv (.int r :: rest) (pic (xg x) ad h'))) : Jj X (bd2 o1 f) (Vw x k n pc lv st (pic (xg x) ad h)) := J_call hm (fun a hC hv => V_callU hC ok hrc hu hlk hR hkn hn hst hw hd hv) (fun q => kk q.1 q.2)
theorem J_callUv {a : Nat} {C : String} {x0 : MethodName} {As : List Value} {o1 : Option (HP)} {f : HP → Option α} (hm : CM (xl x) (xg x) ad y bytes mL ret rm (.ref (ad a) :: As) h enV o1) (ok : MOk y bytes mL ret np) (hrc : Rcv a C) (hu : UOk C x0 y) (hlk : Cond.methodLink (xow x) idx x0 ∈ tb_l) (hR : Rok rm (xR x) mL) (hkn : Ckn x k n) (hn : As.length = np) (hst : st = As.reverse ++ .ref (ad a) :: rest) (hw : (rest.map fun v => v.category).sum ≤ 8) (hd : decode (xcc x) pc = .ok (.invokevirtual idx, 3)) (kk : ∀ h', Jj X (f h') (Vw x k n (pc + 3) lv rest (pic (xg x) ad h'))) : Jj X (bd1 o1 f) (Vw x k n pc lv st (pic (xg x) ad h)) := J_call hm (fun a hC hv => V_callU hC ok hrc hu hlk hR hkn hn hst hw hd hv) (fun q => kk q)
end CROWS2
end
