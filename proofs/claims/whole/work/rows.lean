section
-- ===== PART A: goes FIRST, ahead of the names: the tables' words, and 'selects' of the private methods out of them =====
/-- a private method of a class that the tables say can be made, by its rows of tables_1 -/
def lw_okq (q : MethodName × Nat) : Prop := (q.1.cls ≠ "java/lang/invoke/MethodHandle" ∧ q.1.cls ≠ "java/lang/invoke/VarHandle") ∧ Cond.instantiable q.1.cls q.2 ∈ tables_1 ∧ Cond.privateMethod q.1 ∈ tables_1 ∧ Cond.instanceMethod q.1 ∈ tables_1
theorem lw_p0 : lw_okq (⟨"CamelStraws", "isCamel", "(I)Z"⟩, 11) := ⟨⟨by decide +kernel, by decide +kernel⟩, List.mem_of_getElem? (i := 18) (by decide +kernel), List.mem_of_getElem? (i := 398) (by decide +kernel), List.mem_of_getElem? (i := 399) (by decide +kernel)⟩
theorem lw_p1 : lw_okq (⟨"CamelStraws", "isBale", "(I)Z"⟩, 11) := ⟨⟨by decide +kernel, by decide +kernel⟩, List.mem_of_getElem? (i := 18) (by decide +kernel), List.mem_of_getElem? (i := 409) (by decide +kernel), List.mem_of_getElem? (i := 410) (by decide +kernel)⟩
theorem lw_p2 : lw_okq (⟨"CamelStraws", "finding", "(I)I"⟩, 11) := ⟨⟨by decide +kernel, by decide +kernel⟩, List.mem_of_getElem? (i := 18) (by decide +kernel), List.mem_of_getElem? (i := 442) (by decide +kernel), List.mem_of_getElem? (i := 443) (by decide +kernel)⟩
theorem lw_p3 : lw_okq (⟨"CamelStraws$Caravan", "busyDaysOf", "(I)I"⟩, 6) := ⟨⟨by decide +kernel, by decide +kernel⟩, List.mem_of_getElem? (i := 133) (by decide +kernel), List.mem_of_getElem? (i := 455) (by decide +kernel), List.mem_of_getElem? (i := 456) (by decide +kernel)⟩
theorem lw_p4 : lw_okq (⟨"CamelStraws$Plans", "beginChoice", "()V"⟩, 3) := ⟨⟨by decide +kernel, by decide +kernel⟩, List.mem_of_getElem? (i := 217) (by decide +kernel), List.mem_of_getElem? (i := 566) (by decide +kernel), List.mem_of_getElem? (i := 567) (by decide +kernel)⟩
theorem lw_p5 : lw_okq (⟨"CamelStraws$Plans", "choose", "(II)V"⟩, 3) := ⟨⟨by decide +kernel, by decide +kernel⟩, List.mem_of_getElem? (i := 217) (by decide +kernel), List.mem_of_getElem? (i := 571) (by decide +kernel), List.mem_of_getElem? (i := 572) (by decide +kernel)⟩
theorem lw_p6 : lw_okq (⟨"CamelStraws$Plans", "allStandWithout", "(I)Z"⟩, 3) := ⟨⟨by decide +kernel, by decide +kernel⟩, List.mem_of_getElem? (i := 217) (by decide +kernel), List.mem_of_getElem? (i := 591) (by decide +kernel), List.mem_of_getElem? (i := 592) (by decide +kernel)⟩
theorem lw_p7 : lw_okq (⟨"CamelStraws$Guesses", "allComesOut", "()Z"⟩, 6) := ⟨⟨by decide +kernel, by decide +kernel⟩, List.mem_of_getElem? (i := 235) (by decide +kernel), List.mem_of_getElem? (i := 626) (by decide +kernel), List.mem_of_getElem? (i := 627) (by decide +kernel)⟩
theorem lw_p8 : lw_okq (⟨"CamelStraws$Guesses", "noteLoads", "(II)V"⟩, 6) := ⟨⟨by decide +kernel, by decide +kernel⟩, List.mem_of_getElem? (i := 235) (by decide +kernel), List.mem_of_getElem? (i := 648) (by decide +kernel), List.mem_of_getElem? (i := 649) (by decide +kernel)⟩
theorem lw_p9 : lw_okq (⟨"CamelStraws$Guesses", "mostAlike", "(II)I"⟩, 6) := ⟨⟨by decide +kernel, by decide +kernel⟩, List.mem_of_getElem? (i := 235) (by decide +kernel), List.mem_of_getElem? (i := 652) (by decide +kernel), List.mem_of_getElem? (i := 653) (by decide +kernel)⟩
theorem lw_p10 : lw_okq (⟨"CamelStraws$Odds", "breaksWithout", "(II)Z"⟩, 3) := ⟨⟨by decide +kernel, by decide +kernel⟩, List.mem_of_getElem? (i := 261) (by decide +kernel), List.mem_of_getElem? (i := 672) (by decide +kernel), List.mem_of_getElem? (i := 673) (by decide +kernel)⟩
theorem lw_p11 : lw_okq (⟨"CamelStraws$Odds", "reduce", "()V"⟩, 3) := ⟨⟨by decide +kernel, by decide +kernel⟩, List.mem_of_getElem? (i := 261) (by decide +kernel), List.mem_of_getElem? (i := 681) (by decide +kernel), List.mem_of_getElem? (i := 682) (by decide +kernel)⟩
theorem lw_p12 : lw_okq (⟨"CamelStraws", "mixBale", "(JI)J"⟩, 11) := ⟨⟨by decide +kernel, by decide +kernel⟩, List.mem_of_getElem? (i := 18) (by decide +kernel), List.mem_of_getElem? (i := 766) (by decide +kernel), List.mem_of_getElem? (i := 767) (by decide +kernel)⟩
theorem lw_p13 : lw_okq (⟨"CamelStraws", "mixCamel", "(JI)J"⟩, 11) := ⟨⟨by decide +kernel, by decide +kernel⟩, List.mem_of_getElem? (i := 18) (by decide +kernel), List.mem_of_getElem? (i := 773) (by decide +kernel), List.mem_of_getElem? (i := 774) (by decide +kernel)⟩
theorem lw_p14 : lw_okq (⟨"CamelStraws", "mixDay", "(JII)J"⟩, 11) := ⟨⟨by decide +kernel, by decide +kernel⟩, List.mem_of_getElem? (i := 18) (by decide +kernel), List.mem_of_getElem? (i := 778) (by decide +kernel), List.mem_of_getElem? (i := 779) (by decide +kernel)⟩
theorem lw_p15 : lw_okq (⟨"CamelStrawsModel", "faultOf", "(I)I"⟩, 45) := ⟨⟨by decide +kernel, by decide +kernel⟩, List.mem_of_getElem? (i := 796) (by decide +kernel), List.mem_of_getElem? (i := 961) (by decide +kernel), List.mem_of_getElem? (i := 962) (by decide +kernel)⟩
def lw_privs_1 : List (MethodName × Nat) := [(⟨"CamelStraws", "isCamel", "(I)Z"⟩, 11), (⟨"CamelStraws", "isBale", "(I)Z"⟩, 11), (⟨"CamelStraws", "finding", "(I)I"⟩, 11), (⟨"CamelStraws$Caravan", "busyDaysOf", "(I)I"⟩, 6), (⟨"CamelStraws$Plans", "beginChoice", "()V"⟩, 3), (⟨"CamelStraws$Plans", "choose", "(II)V"⟩, 3), (⟨"CamelStraws$Plans", "allStandWithout", "(I)Z"⟩, 3), (⟨"CamelStraws$Guesses", "allComesOut", "()Z"⟩, 6), (⟨"CamelStraws$Guesses", "noteLoads", "(II)V"⟩, 6), (⟨"CamelStraws$Guesses", "mostAlike", "(II)I"⟩, 6), (⟨"CamelStraws$Odds", "breaksWithout", "(II)Z"⟩, 3), (⟨"CamelStraws$Odds", "reduce", "()V"⟩, 3), (⟨"CamelStraws", "mixBale", "(JI)J"⟩, 11), (⟨"CamelStraws", "mixCamel", "(JI)J"⟩, 11), (⟨"CamelStraws", "mixDay", "(JII)J"⟩, 11), (⟨"CamelStrawsModel", "faultOf", "(I)I"⟩, 45)]
theorem lw_r1 : ∀ q ∈ lw_privs_1, lw_okq q := List.forall_mem_cons.mpr ⟨lw_p0, List.forall_mem_cons.mpr ⟨lw_p1, List.forall_mem_cons.mpr ⟨lw_p2, List.forall_mem_cons.mpr ⟨lw_p3, List.forall_mem_cons.mpr ⟨lw_p4, List.forall_mem_cons.mpr ⟨lw_p5, List.forall_mem_cons.mpr ⟨lw_p6, List.forall_mem_cons.mpr ⟨lw_p7, List.forall_mem_cons.mpr ⟨lw_p8, List.forall_mem_cons.mpr ⟨lw_p9, List.forall_mem_cons.mpr ⟨lw_p10, List.forall_mem_cons.mpr ⟨lw_p11, List.forall_mem_cons.mpr ⟨lw_p12, List.forall_mem_cons.mpr ⟨lw_p13, List.forall_mem_cons.mpr ⟨lw_p14, List.forall_mem_cons.mpr ⟨lw_p15, fun _ h => absurd h List.not_mem_nil⟩⟩⟩⟩⟩⟩⟩⟩⟩⟩⟩⟩⟩⟩⟩⟩
theorem lw_p16 : lw_okq (⟨"CamelStrawsModel", "readsParts", "(I)I"⟩, 45) := ⟨⟨by decide +kernel, by decide +kernel⟩, List.mem_of_getElem? (i := 796) (by decide +kernel), List.mem_of_getElem? (i := 965) (by decide +kernel), List.mem_of_getElem? (i := 966) (by decide +kernel)⟩
theorem lw_p17 : lw_okq (⟨"CamelStrawsModel", "readsCamel", "(II)I"⟩, 45) := ⟨⟨by decide +kernel, by decide +kernel⟩, List.mem_of_getElem? (i := 796) (by decide +kernel), List.mem_of_getElem? (i := 969) (by decide +kernel), List.mem_of_getElem? (i := 970) (by decide +kernel)⟩
theorem lw_p18 : lw_okq (⟨"CamelStrawsModel", "byteAt", "(II)I"⟩, 45) := ⟨⟨by decide +kernel, by decide +kernel⟩, List.mem_of_getElem? (i := 796) (by decide +kernel), List.mem_of_getElem? (i := 973) (by decide +kernel), List.mem_of_getElem? (i := 974) (by decide +kernel)⟩
theorem lw_p19 : lw_okq (⟨"CamelStrawsModel", "readsBale", "(II)I"⟩, 45) := ⟨⟨by decide +kernel, by decide +kernel⟩, List.mem_of_getElem? (i := 796) (by decide +kernel), List.mem_of_getElem? (i := 977) (by decide +kernel), List.mem_of_getElem? (i := 978) (by decide +kernel)⟩
theorem lw_p20 : lw_okq (⟨"CamelStrawsModel", "isCamel", "(I)Z"⟩, 45) := ⟨⟨by decide +kernel, by decide +kernel⟩, List.mem_of_getElem? (i := 796) (by decide +kernel), List.mem_of_getElem? (i := 985) (by decide +kernel), List.mem_of_getElem? (i := 986) (by decide +kernel)⟩
theorem lw_p21 : lw_okq (⟨"CamelStrawsModel", "reads", "()V"⟩, 45) := ⟨⟨by decide +kernel, by decide +kernel⟩, List.mem_of_getElem? (i := 796) (by decide +kernel), List.mem_of_getElem? (i := 989) (by decide +kernel), List.mem_of_getElem? (i := 990) (by decide +kernel)⟩
theorem lw_p22 : lw_okq (⟨"CamelStrawsModel", "camelOf", "(II)I"⟩, 45) := ⟨⟨by decide +kernel, by decide +kernel⟩, List.mem_of_getElem? (i := 796) (by decide +kernel), List.mem_of_getElem? (i := 996) (by decide +kernel), List.mem_of_getElem? (i := 997) (by decide +kernel)⟩
theorem lw_p23 : lw_okq (⟨"CamelStrawsModel", "isBale", "(I)Z"⟩, 45) := ⟨⟨by decide +kernel, by decide +kernel⟩, List.mem_of_getElem? (i := 796) (by decide +kernel), List.mem_of_getElem? (i := 1004) (by decide +kernel), List.mem_of_getElem? (i := 1005) (by decide +kernel)⟩
theorem lw_p24 : lw_okq (⟨"CamelStrawsModel", "baleOf", "(II)I"⟩, 45) := ⟨⟨by decide +kernel, by decide +kernel⟩, List.mem_of_getElem? (i := 796) (by decide +kernel), List.mem_of_getElem? (i := 1008) (by decide +kernel), List.mem_of_getElem? (i := 1009) (by decide +kernel)⟩
theorem lw_p25 : lw_okq (⟨"CamelStrawsModel", "meets", "(I)I"⟩, 45) := ⟨⟨by decide +kernel, by decide +kernel⟩, List.mem_of_getElem? (i := 796) (by decide +kernel), List.mem_of_getElem? (i := 1033) (by decide +kernel), List.mem_of_getElem? (i := 1034) (by decide +kernel)⟩
theorem lw_p26 : lw_okq (⟨"CamelStrawsModel", "atOf", "(III)I"⟩, 45) := ⟨⟨by decide +kernel, by decide +kernel⟩, List.mem_of_getElem? (i := 796) (by decide +kernel), List.mem_of_getElem? (i := 1042) (by decide +kernel), List.mem_of_getElem? (i := 1043) (by decide +kernel)⟩
theorem lw_p27 : lw_okq (⟨"CamelStrawsModel", "runsTold", "()V"⟩, 45) := ⟨⟨by decide +kernel, by decide +kernel⟩, List.mem_of_getElem? (i := 796) (by decide +kernel), List.mem_of_getElem? (i := 1046) (by decide +kernel), List.mem_of_getElem? (i := 1047) (by decide +kernel)⟩
theorem lw_p28 : lw_okq (⟨"CamelStrawsModel", "asTold", "()V"⟩, 45) := ⟨⟨by decide +kernel, by decide +kernel⟩, List.mem_of_getElem? (i := 796) (by decide +kernel), List.mem_of_getElem? (i := 1050) (by decide +kernel), List.mem_of_getElem? (i := 1051) (by decide +kernel)⟩
theorem lw_p29 : lw_okq (⟨"CamelStrawsModel", "runs", "()V"⟩, 45) := ⟨⟨by decide +kernel, by decide +kernel⟩, List.mem_of_getElem? (i := 796) (by decide +kernel), List.mem_of_getElem? (i := 1054) (by decide +kernel), List.mem_of_getElem? (i := 1055) (by decide +kernel)⟩
theorem lw_p30 : lw_okq (⟨"CamelStrawsModel", "goesBy", "(I)V"⟩, 45) := ⟨⟨by decide +kernel, by decide +kernel⟩, List.mem_of_getElem? (i := 796) (by decide +kernel), List.mem_of_getElem? (i := 1058) (by decide +kernel), List.mem_of_getElem? (i := 1059) (by decide +kernel)⟩
theorem lw_p31 : lw_okq (⟨"CamelStrawsModel", "bears", "(I)V"⟩, 45) := ⟨⟨by decide +kernel, by decide +kernel⟩, List.mem_of_getElem? (i := 796) (by decide +kernel), List.mem_of_getElem? (i := 1062) (by decide +kernel), List.mem_of_getElem? (i := 1063) (by decide +kernel)⟩
def lw_privs_2 : List (MethodName × Nat) := [(⟨"CamelStrawsModel", "readsParts", "(I)I"⟩, 45), (⟨"CamelStrawsModel", "readsCamel", "(II)I"⟩, 45), (⟨"CamelStrawsModel", "byteAt", "(II)I"⟩, 45), (⟨"CamelStrawsModel", "readsBale", "(II)I"⟩, 45), (⟨"CamelStrawsModel", "isCamel", "(I)Z"⟩, 45), (⟨"CamelStrawsModel", "reads", "()V"⟩, 45), (⟨"CamelStrawsModel", "camelOf", "(II)I"⟩, 45), (⟨"CamelStrawsModel", "isBale", "(I)Z"⟩, 45), (⟨"CamelStrawsModel", "baleOf", "(II)I"⟩, 45), (⟨"CamelStrawsModel", "meets", "(I)I"⟩, 45), (⟨"CamelStrawsModel", "atOf", "(III)I"⟩, 45), (⟨"CamelStrawsModel", "runsTold", "()V"⟩, 45), (⟨"CamelStrawsModel", "asTold", "()V"⟩, 45), (⟨"CamelStrawsModel", "runs", "()V"⟩, 45), (⟨"CamelStrawsModel", "goesBy", "(I)V"⟩, 45), (⟨"CamelStrawsModel", "bears", "(I)V"⟩, 45)]
theorem lw_r2 : ∀ q ∈ lw_privs_2, lw_okq q := List.forall_mem_cons.mpr ⟨lw_p16, List.forall_mem_cons.mpr ⟨lw_p17, List.forall_mem_cons.mpr ⟨lw_p18, List.forall_mem_cons.mpr ⟨lw_p19, List.forall_mem_cons.mpr ⟨lw_p20, List.forall_mem_cons.mpr ⟨lw_p21, List.forall_mem_cons.mpr ⟨lw_p22, List.forall_mem_cons.mpr ⟨lw_p23, List.forall_mem_cons.mpr ⟨lw_p24, List.forall_mem_cons.mpr ⟨lw_p25, List.forall_mem_cons.mpr ⟨lw_p26, List.forall_mem_cons.mpr ⟨lw_p27, List.forall_mem_cons.mpr ⟨lw_p28, List.forall_mem_cons.mpr ⟨lw_p29, List.forall_mem_cons.mpr ⟨lw_p30, List.forall_mem_cons.mpr ⟨lw_p31, fun _ h => absurd h List.not_mem_nil⟩⟩⟩⟩⟩⟩⟩⟩⟩⟩⟩⟩⟩⟩⟩⟩
theorem lw_p32 : lw_okq (⟨"CamelStrawsModel", "takes", "(I)Z"⟩, 45) := ⟨⟨by decide +kernel, by decide +kernel⟩, List.mem_of_getElem? (i := 796) (by decide +kernel), List.mem_of_getElem? (i := 1066) (by decide +kernel), List.mem_of_getElem? (i := 1067) (by decide +kernel)⟩
theorem lw_p33 : lw_okq (⟨"CamelStrawsModel", "breaks", "(II)V"⟩, 45) := ⟨⟨by decide +kernel, by decide +kernel⟩, List.mem_of_getElem? (i := 796) (by decide +kernel), List.mem_of_getElem? (i := 1070) (by decide +kernel), List.mem_of_getElem? (i := 1071) (by decide +kernel)⟩
theorem lw_p34 : lw_okq (⟨"CamelStrawsModel", "comeStraws", "(I)V"⟩, 45) := ⟨⟨by decide +kernel, by decide +kernel⟩, List.mem_of_getElem? (i := 796) (by decide +kernel), List.mem_of_getElem? (i := 1074) (by decide +kernel), List.mem_of_getElem? (i := 1075) (by decide +kernel)⟩
theorem lw_p35 : lw_okq (⟨"CamelStrawsModel", "comesStraw", "(II)V"⟩, 45) := ⟨⟨by decide +kernel, by decide +kernel⟩, List.mem_of_getElem? (i := 796) (by decide +kernel), List.mem_of_getElem? (i := 1081) (by decide +kernel), List.mem_of_getElem? (i := 1082) (by decide +kernel)⟩
theorem lw_p36 : lw_okq (⟨"CamelStrawsModel", "tires", "(II)V"⟩, 45) := ⟨⟨by decide +kernel, by decide +kernel⟩, List.mem_of_getElem? (i := 796) (by decide +kernel), List.mem_of_getElem? (i := 1085) (by decide +kernel), List.mem_of_getElem? (i := 1086) (by decide +kernel)⟩
theorem lw_p37 : lw_okq (⟨"CamelStrawsModel", "wears", "(II)Z"⟩, 45) := ⟨⟨by decide +kernel, by decide +kernel⟩, List.mem_of_getElem? (i := 796) (by decide +kernel), List.mem_of_getElem? (i := 1089) (by decide +kernel), List.mem_of_getElem? (i := 1090) (by decide +kernel)⟩
theorem lw_p38 : lw_okq (⟨"CamelStrawsModel", "ends", "(II)V"⟩, 45) := ⟨⟨by decide +kernel, by decide +kernel⟩, List.mem_of_getElem? (i := 796) (by decide +kernel), List.mem_of_getElem? (i := 1093) (by decide +kernel), List.mem_of_getElem? (i := 1094) (by decide +kernel)⟩
theorem lw_p39 : lw_okq (⟨"CamelStrawsModel", "throughOf", "()I"⟩, 45) := ⟨⟨by decide +kernel, by decide +kernel⟩, List.mem_of_getElem? (i := 796) (by decide +kernel), List.mem_of_getElem? (i := 1101) (by decide +kernel), List.mem_of_getElem? (i := 1102) (by decide +kernel)⟩
theorem lw_p40 : lw_okq (⟨"CamelStrawsModel", "throughNow", "()I"⟩, 45) := ⟨⟨by decide +kernel, by decide +kernel⟩, List.mem_of_getElem? (i := 796) (by decide +kernel), List.mem_of_getElem? (i := 1105) (by decide +kernel), List.mem_of_getElem? (i := 1106) (by decide +kernel)⟩
theorem lw_p41 : lw_okq (⟨"CamelStrawsModel", "lostOf", "()I"⟩, 45) := ⟨⟨by decide +kernel, by decide +kernel⟩, List.mem_of_getElem? (i := 796) (by decide +kernel), List.mem_of_getElem? (i := 1113) (by decide +kernel), List.mem_of_getElem? (i := 1114) (by decide +kernel)⟩
theorem lw_p42 : lw_okq (⟨"CamelStrawsModel", "firstOf", "(I)I"⟩, 45) := ⟨⟨by decide +kernel, by decide +kernel⟩, List.mem_of_getElem? (i := 796) (by decide +kernel), List.mem_of_getElem? (i := 1121) (by decide +kernel), List.mem_of_getElem? (i := 1122) (by decide +kernel)⟩
theorem lw_p43 : lw_okq (⟨"CamelStrawsModel", "bestOf", "()I"⟩, 45) := ⟨⟨by decide +kernel, by decide +kernel⟩, List.mem_of_getElem? (i := 796) (by decide +kernel), List.mem_of_getElem? (i := 1129) (by decide +kernel), List.mem_of_getElem? (i := 1130) (by decide +kernel)⟩
theorem lw_p44 : lw_okq (⟨"CamelStrawsModel", "wholeOf", "()I"⟩, 45) := ⟨⟨by decide +kernel, by decide +kernel⟩, List.mem_of_getElem? (i := 796) (by decide +kernel), List.mem_of_getElem? (i := 1137) (by decide +kernel), List.mem_of_getElem? (i := 1138) (by decide +kernel)⟩
theorem lw_p45 : lw_okq (⟨"CamelStrawsModel", "tiredOf", "()I"⟩, 45) := ⟨⟨by decide +kernel, by decide +kernel⟩, List.mem_of_getElem? (i := 796) (by decide +kernel), List.mem_of_getElem? (i := 1145) (by decide +kernel), List.mem_of_getElem? (i := 1146) (by decide +kernel)⟩
theorem lw_p46 : lw_okq (⟨"CamelStrawsModel", "strengthOn", "(I)I"⟩, 45) := ⟨⟨by decide +kernel, by decide +kernel⟩, List.mem_of_getElem? (i := 796) (by decide +kernel), List.mem_of_getElem? (i := 1149) (by decide +kernel), List.mem_of_getElem? (i := 1150) (by decide +kernel)⟩
theorem lw_p47 : lw_okq (⟨"CamelStrawsModel", "lastOf", "(II)I"⟩, 45) := ⟨⟨by decide +kernel, by decide +kernel⟩, List.mem_of_getElem? (i := 796) (by decide +kernel), List.mem_of_getElem? (i := 1157) (by decide +kernel), List.mem_of_getElem? (i := 1158) (by decide +kernel)⟩
def lw_privs_3 : List (MethodName × Nat) := [(⟨"CamelStrawsModel", "takes", "(I)Z"⟩, 45), (⟨"CamelStrawsModel", "breaks", "(II)V"⟩, 45), (⟨"CamelStrawsModel", "comeStraws", "(I)V"⟩, 45), (⟨"CamelStrawsModel", "comesStraw", "(II)V"⟩, 45), (⟨"CamelStrawsModel", "tires", "(II)V"⟩, 45), (⟨"CamelStrawsModel", "wears", "(II)Z"⟩, 45), (⟨"CamelStrawsModel", "ends", "(II)V"⟩, 45), (⟨"CamelStrawsModel", "throughOf", "()I"⟩, 45), (⟨"CamelStrawsModel", "throughNow", "()I"⟩, 45), (⟨"CamelStrawsModel", "lostOf", "()I"⟩, 45), (⟨"CamelStrawsModel", "firstOf", "(I)I"⟩, 45), (⟨"CamelStrawsModel", "bestOf", "()I"⟩, 45), (⟨"CamelStrawsModel", "wholeOf", "()I"⟩, 45), (⟨"CamelStrawsModel", "tiredOf", "()I"⟩, 45), (⟨"CamelStrawsModel", "strengthOn", "(I)I"⟩, 45), (⟨"CamelStrawsModel", "lastOf", "(II)I"⟩, 45)]
theorem lw_r3 : ∀ q ∈ lw_privs_3, lw_okq q := List.forall_mem_cons.mpr ⟨lw_p32, List.forall_mem_cons.mpr ⟨lw_p33, List.forall_mem_cons.mpr ⟨lw_p34, List.forall_mem_cons.mpr ⟨lw_p35, List.forall_mem_cons.mpr ⟨lw_p36, List.forall_mem_cons.mpr ⟨lw_p37, List.forall_mem_cons.mpr ⟨lw_p38, List.forall_mem_cons.mpr ⟨lw_p39, List.forall_mem_cons.mpr ⟨lw_p40, List.forall_mem_cons.mpr ⟨lw_p41, List.forall_mem_cons.mpr ⟨lw_p42, List.forall_mem_cons.mpr ⟨lw_p43, List.forall_mem_cons.mpr ⟨lw_p44, List.forall_mem_cons.mpr ⟨lw_p45, List.forall_mem_cons.mpr ⟨lw_p46, List.forall_mem_cons.mpr ⟨lw_p47, fun _ h => absurd h List.not_mem_nil⟩⟩⟩⟩⟩⟩⟩⟩⟩⟩⟩⟩⟩⟩⟩⟩
theorem lw_p48 : lw_okq (⟨"CamelStrawsModel", "bearOf", "(II)I"⟩, 45) := ⟨⟨by decide +kernel, by decide +kernel⟩, List.mem_of_getElem? (i := 796) (by decide +kernel), List.mem_of_getElem? (i := 1165) (by decide +kernel), List.mem_of_getElem? (i := 1166) (by decide +kernel)⟩
theorem lw_p49 : lw_okq (⟨"CamelStrawsModel", "whenOf", "(II)I"⟩, 45) := ⟨⟨by decide +kernel, by decide +kernel⟩, List.mem_of_getElem? (i := 796) (by decide +kernel), List.mem_of_getElem? (i := 1173) (by decide +kernel), List.mem_of_getElem? (i := 1174) (by decide +kernel)⟩
theorem lw_p50 : lw_okq (⟨"CamelStrawsModel", "spareBy", "()I"⟩, 45) := ⟨⟨by decide +kernel, by decide +kernel⟩, List.mem_of_getElem? (i := 796) (by decide +kernel), List.mem_of_getElem? (i := 1181) (by decide +kernel), List.mem_of_getElem? (i := 1182) (by decide +kernel)⟩
theorem lw_p51 : lw_okq (⟨"CamelStrawsModel", "isSpared", "(I)Z"⟩, 45) := ⟨⟨by decide +kernel, by decide +kernel⟩, List.mem_of_getElem? (i := 796) (by decide +kernel), List.mem_of_getElem? (i := 1185) (by decide +kernel), List.mem_of_getElem? (i := 1186) (by decide +kernel)⟩
theorem lw_p52 : lw_okq (⟨"CamelStrawsModel", "brokeAll", "()I"⟩, 45) := ⟨⟨by decide +kernel, by decide +kernel⟩, List.mem_of_getElem? (i := 796) (by decide +kernel), List.mem_of_getElem? (i := 1189) (by decide +kernel), List.mem_of_getElem? (i := 1190) (by decide +kernel)⟩
theorem lw_p53 : lw_okq (⟨"CamelStrawsModel", "ofRow", "(II)I"⟩, 45) := ⟨⟨by decide +kernel, by decide +kernel⟩, List.mem_of_getElem? (i := 796) (by decide +kernel), List.mem_of_getElem? (i := 1193) (by decide +kernel), List.mem_of_getElem? (i := 1194) (by decide +kernel)⟩
theorem lw_p54 : lw_okq (⟨"CamelStrawsModel", "neverNow", "()I"⟩, 45) := ⟨⟨by decide +kernel, by decide +kernel⟩, List.mem_of_getElem? (i := 796) (by decide +kernel), List.mem_of_getElem? (i := 1209) (by decide +kernel), List.mem_of_getElem? (i := 1210) (by decide +kernel)⟩
theorem lw_p55 : lw_okq (⟨"CamelStrawsModel", "isSeen", "()Z"⟩, 45) := ⟨⟨by decide +kernel, by decide +kernel⟩, List.mem_of_getElem? (i := 796) (by decide +kernel), List.mem_of_getElem? (i := 1213) (by decide +kernel), List.mem_of_getElem? (i := 1214) (by decide +kernel)⟩
theorem lw_p56 : lw_okq (⟨"CamelStrawsModel", "sortsBy", "(I)I"⟩, 45) := ⟨⟨by decide +kernel, by decide +kernel⟩, List.mem_of_getElem? (i := 796) (by decide +kernel), List.mem_of_getElem? (i := 1221) (by decide +kernel), List.mem_of_getElem? (i := 1222) (by decide +kernel)⟩
theorem lw_p57 : lw_okq (⟨"CamelStrawsModel", "strongBy", "(I)I"⟩, 45) := ⟨⟨by decide +kernel, by decide +kernel⟩, List.mem_of_getElem? (i := 796) (by decide +kernel), List.mem_of_getElem? (i := 1225) (by decide +kernel), List.mem_of_getElem? (i := 1226) (by decide +kernel)⟩
theorem lw_p58 : lw_okq (⟨"CamelStrawsModel", "askOf", "(I)I"⟩, 45) := ⟨⟨by decide +kernel, by decide +kernel⟩, List.mem_of_getElem? (i := 796) (by decide +kernel), List.mem_of_getElem? (i := 1233) (by decide +kernel), List.mem_of_getElem? (i := 1234) (by decide +kernel)⟩
theorem lw_p59 : lw_okq (⟨"CamelStrawsModel", "chanceOf", "(III)J"⟩, 45) := ⟨⟨by decide +kernel, by decide +kernel⟩, List.mem_of_getElem? (i := 796) (by decide +kernel), List.mem_of_getElem? (i := 1241) (by decide +kernel), List.mem_of_getElem? (i := 1242) (by decide +kernel)⟩
theorem lw_p60 : lw_okq (⟨"CamelStrawsModel", "yearsOf", "(III)I"⟩, 45) := ⟨⟨by decide +kernel, by decide +kernel⟩, List.mem_of_getElem? (i := 796) (by decide +kernel), List.mem_of_getElem? (i := 1256) (by decide +kernel), List.mem_of_getElem? (i := 1257) (by decide +kernel)⟩
theorem lw_p61 : lw_okq (⟨"CamelStrawsModel", "lacks", "(III)I"⟩, 45) := ⟨⟨by decide +kernel, by decide +kernel⟩, List.mem_of_getElem? (i := 796) (by decide +kernel), List.mem_of_getElem? (i := 1273) (by decide +kernel), List.mem_of_getElem? (i := 1274) (by decide +kernel)⟩
theorem lw_p62 : lw_okq (⟨"CamelStrawsModel", "keep", "(III)V"⟩, 45) := ⟨⟨by decide +kernel, by decide +kernel⟩, List.mem_of_getElem? (i := 796) (by decide +kernel), List.mem_of_getElem? (i := 1277) (by decide +kernel), List.mem_of_getElem? (i := 1278) (by decide +kernel)⟩
theorem lw_p63 : lw_okq (⟨"CamelStrawsModel", "sumOf", "(I)I"⟩, 45) := ⟨⟨by decide +kernel, by decide +kernel⟩, List.mem_of_getElem? (i := 796) (by decide +kernel), List.mem_of_getElem? (i := 1298) (by decide +kernel), List.mem_of_getElem? (i := 1299) (by decide +kernel)⟩
def lw_privs_4 : List (MethodName × Nat) := [(⟨"CamelStrawsModel", "bearOf", "(II)I"⟩, 45), (⟨"CamelStrawsModel", "whenOf", "(II)I"⟩, 45), (⟨"CamelStrawsModel", "spareBy", "()I"⟩, 45), (⟨"CamelStrawsModel", "isSpared", "(I)Z"⟩, 45), (⟨"CamelStrawsModel", "brokeAll", "()I"⟩, 45), (⟨"CamelStrawsModel", "ofRow", "(II)I"⟩, 45), (⟨"CamelStrawsModel", "neverNow", "()I"⟩, 45), (⟨"CamelStrawsModel", "isSeen", "()Z"⟩, 45), (⟨"CamelStrawsModel", "sortsBy", "(I)I"⟩, 45), (⟨"CamelStrawsModel", "strongBy", "(I)I"⟩, 45), (⟨"CamelStrawsModel", "askOf", "(I)I"⟩, 45), (⟨"CamelStrawsModel", "chanceOf", "(III)J"⟩, 45), (⟨"CamelStrawsModel", "yearsOf", "(III)I"⟩, 45), (⟨"CamelStrawsModel", "lacks", "(III)I"⟩, 45), (⟨"CamelStrawsModel", "keep", "(III)V"⟩, 45), (⟨"CamelStrawsModel", "sumOf", "(I)I"⟩, 45)]
theorem lw_r4 : ∀ q ∈ lw_privs_4, lw_okq q := List.forall_mem_cons.mpr ⟨lw_p48, List.forall_mem_cons.mpr ⟨lw_p49, List.forall_mem_cons.mpr ⟨lw_p50, List.forall_mem_cons.mpr ⟨lw_p51, List.forall_mem_cons.mpr ⟨lw_p52, List.forall_mem_cons.mpr ⟨lw_p53, List.forall_mem_cons.mpr ⟨lw_p54, List.forall_mem_cons.mpr ⟨lw_p55, List.forall_mem_cons.mpr ⟨lw_p56, List.forall_mem_cons.mpr ⟨lw_p57, List.forall_mem_cons.mpr ⟨lw_p58, List.forall_mem_cons.mpr ⟨lw_p59, List.forall_mem_cons.mpr ⟨lw_p60, List.forall_mem_cons.mpr ⟨lw_p61, List.forall_mem_cons.mpr ⟨lw_p62, List.forall_mem_cons.mpr ⟨lw_p63, fun _ h => absurd h List.not_mem_nil⟩⟩⟩⟩⟩⟩⟩⟩⟩⟩⟩⟩⟩⟩⟩⟩
theorem lw_p64 : lw_okq (⟨"CamelStrawsModel", "feesAll", "()I"⟩, 45) := ⟨⟨by decide +kernel, by decide +kernel⟩, List.mem_of_getElem? (i := 796) (by decide +kernel), List.mem_of_getElem? (i := 1302) (by decide +kernel), List.mem_of_getElem? (i := 1303) (by decide +kernel)⟩
theorem lw_p65 : lw_okq (⟨"CamelStrawsModel", "baleDigest", "(JI)J"⟩, 45) := ⟨⟨by decide +kernel, by decide +kernel⟩, List.mem_of_getElem? (i := 796) (by decide +kernel), List.mem_of_getElem? (i := 1313) (by decide +kernel), List.mem_of_getElem? (i := 1314) (by decide +kernel)⟩
theorem lw_p66 : lw_okq (⟨"CamelStrawsModel", "camelDigest", "(JI)J"⟩, 45) := ⟨⟨by decide +kernel, by decide +kernel⟩, List.mem_of_getElem? (i := 796) (by decide +kernel), List.mem_of_getElem? (i := 1317) (by decide +kernel), List.mem_of_getElem? (i := 1318) (by decide +kernel)⟩
theorem lw_p67 : lw_okq (⟨"CamelStrawsModel", "dayDigest", "(JII)J"⟩, 45) := ⟨⟨by decide +kernel, by decide +kernel⟩, List.mem_of_getElem? (i := 796) (by decide +kernel), List.mem_of_getElem? (i := 1321) (by decide +kernel), List.mem_of_getElem? (i := 1322) (by decide +kernel)⟩
def lw_privs_5 : List (MethodName × Nat) := [(⟨"CamelStrawsModel", "feesAll", "()I"⟩, 45), (⟨"CamelStrawsModel", "baleDigest", "(JI)J"⟩, 45), (⟨"CamelStrawsModel", "camelDigest", "(JI)J"⟩, 45), (⟨"CamelStrawsModel", "dayDigest", "(JII)J"⟩, 45)]
theorem lw_r5 : ∀ q ∈ lw_privs_5, lw_okq q := List.forall_mem_cons.mpr ⟨lw_p64, List.forall_mem_cons.mpr ⟨lw_p65, List.forall_mem_cons.mpr ⟨lw_p66, List.forall_mem_cons.mpr ⟨lw_p67, fun _ h => absurd h List.not_mem_nil⟩⟩⟩⟩
def lw_privs : List (MethodName × Nat) := lw_privs_1 ++ (lw_privs_2 ++ (lw_privs_3 ++ (lw_privs_4 ++ (lw_privs_5))))
def lw_tbl : List Cond := k2_sels lw_privs ++ tables_1
theorem lw_privs_ok : ∀ q ∈ lw_privs, lw_okq q := by
  show ∀ q ∈ lw_privs_1 ++ (lw_privs_2 ++ (lw_privs_3 ++ (lw_privs_4 ++ (lw_privs_5)))), lw_okq q
  exact List.forall_mem_append.mpr ⟨lw_r1, List.forall_mem_append.mpr ⟨lw_r2, List.forall_mem_append.mpr ⟨lw_r3, List.forall_mem_append.mpr ⟨lw_r4, lw_r5⟩⟩⟩⟩
end
section
/-! names of the classes, their fields, the cells that the two constructors make (printed by wip/gen/names.py out of the claim) -/
def K_0 : String := "CamelStraws"
def T_0 : u_T := fun k => match k with
  | 0 => ("CamelStraws", "camels", "LCamelStraws$Camels;", true)
  | 1 => ("CamelStraws", "bales", "LCamelStraws$Bales;", true)
  | 2 => ("CamelStraws", "texts", "[LCamelStraws$Text;", true)
  | 3 => ("CamelStraws", "straws", "LCamelStraws$Straws;", true)
  | 4 => ("CamelStraws", "drawn", "LCamelStraws$Straws;", true)
  | 5 => ("CamelStraws", "caravan", "LCamelStraws$Caravan;", true)
  | 6 => ("CamelStraws", "plans", "LCamelStraws$Plans;", true)
  | 7 => ("CamelStraws", "guesses", "LCamelStraws$Guesses;", true)
  | 8 => ("CamelStraws", "odds", "LCamelStraws$Odds;", true)
  | 9 => ("CamelStraws", "sheets", "[LCamelStraws$Sheet;", true)
  | _ => ("CamelStraws", "latestFinding", "I", false)
def ft_0 : Nat → FieldType := fun k => match k with
  | 0 => .object "CamelStraws$Camels"
  | 1 => .object "CamelStraws$Bales"
  | 2 => .array (.object "CamelStraws$Text")
  | 3 => .object "CamelStraws$Straws"
  | 4 => .object "CamelStraws$Straws"
  | 5 => .object "CamelStraws$Caravan"
  | 6 => .object "CamelStraws$Plans"
  | 7 => .object "CamelStraws$Guesses"
  | 8 => .object "CamelStraws$Odds"
  | 9 => .array (.object "CamelStraws$Sheet")
  | _ => .int
def K_1 : String := "CamelStraws$Bales"
def T_1 : u_T := fun k => match k with
  | 0 => ("CamelStraws$Text", "bytes", "[I", true)
  | 1 => ("CamelStraws$Text", "period", "I", true)
  | 2 => ("CamelStraws$Text", "size", "I", false)
  | 3 => ("CamelStraws$Text", "faultPlace", "I", false)
  | 4 => ("CamelStraws$Text", "items", "I", false)
  | 5 => ("CamelStraws$Bales", "camels", "[I", true)
  | 6 => ("CamelStraws$Bales", "weights", "[I", true)
  | _ => ("CamelStraws$Bales", "days", "[I", true)
def ft_1 : Nat → FieldType := fun k => match k with
  | 0 => .array (.int)
  | 1 => .int
  | 2 => .int
  | 3 => .int
  | 4 => .int
  | 5 => .array (.int)
  | 6 => .array (.int)
  | _ => .array (.int)
def K_2 : String := "CamelStraws$Camels"
def T_2 : u_T := fun k => match k with
  | 0 => ("CamelStraws$Text", "bytes", "[I", true)
  | 1 => ("CamelStraws$Text", "period", "I", true)
  | 2 => ("CamelStraws$Text", "size", "I", false)
  | 3 => ("CamelStraws$Text", "faultPlace", "I", false)
  | 4 => ("CamelStraws$Text", "items", "I", false)
  | 5 => ("CamelStraws$Camels", "sorts", "[I", true)
  | _ => ("CamelStraws$Camels", "figures", "[I", true)
def ft_2 : Nat → FieldType := fun k => match k with
  | 0 => .array (.int)
  | 1 => .int
  | 2 => .int
  | 3 => .int
  | 4 => .int
  | 5 => .array (.int)
  | _ => .array (.int)
def K_3 : String := "CamelStraws$Caravan"
def T_3 : u_T := fun k => match k with
  | 0 => ("CamelStraws$Caravan", "camels", "LCamelStraws$Camels;", true)
  | 1 => ("CamelStraws$Caravan", "bales", "LCamelStraws$Bales;", true)
  | 2 => ("CamelStraws$Caravan", "straws", "LCamelStraws$Straws;", false)
  | 3 => ("CamelStraws$Caravan", "leftOut", "I", false)
  | 4 => ("CamelStraws$Caravan", "walk", "LCamelStraws$Walk;", true)
  | _ => ("CamelStraws$Caravan", "strengths", "[I", true)
def ft_3 : Nat → FieldType := fun k => match k with
  | 0 => .object "CamelStraws$Camels"
  | 1 => .object "CamelStraws$Bales"
  | 2 => .object "CamelStraws$Straws"
  | 3 => .int
  | 4 => .object "CamelStraws$Walk"
  | _ => .array (.int)
def K_4 : String := "CamelStraws$Guesses"
def T_4 : u_T := fun k => match k with
  | 0 => ("CamelStraws$Guesses", "caravan", "LCamelStraws$Caravan;", true)
  | 1 => ("CamelStraws$Guesses", "days", "[I", true)
  | 2 => ("CamelStraws$Guesses", "places", "[I", true)
  | 3 => ("CamelStraws$Guesses", "loads", "[I", true)
  | 4 => ("CamelStraws$Guesses", "number", "I", false)
  | _ => ("CamelStraws$Guesses", "loadsByFigure", "[I", true)
def ft_4 : Nat → FieldType := fun k => match k with
  | 0 => .object "CamelStraws$Caravan"
  | 1 => .array (.int)
  | 2 => .array (.int)
  | 3 => .array (.int)
  | 4 => .int
  | _ => .array (.int)
def K_5 : String := "CamelStraws$Odds"
def T_5 : u_T := fun k => match k with
  | 0 => ("CamelStraws$Odds", "caravan", "LCamelStraws$Caravan;", true)
  | 1 => ("CamelStraws$Odds", "above", "J", false)
  | _ => ("CamelStraws$Odds", "below", "J", false)
def ft_5 : Nat → FieldType := fun k => match k with
  | 0 => .object "CamelStraws$Caravan"
  | 1 => .long
  | _ => .long
def K_6 : String := "CamelStraws$Plans"
def T_6 : u_T := fun k => match k with
  | 0 => ("CamelStraws$Plans", "caravan", "LCamelStraws$Caravan;", true)
  | 1 => ("CamelStraws$Plans", "which", "I", false)
  | _ => ("CamelStraws$Plans", "howMuch", "I", false)
def ft_6 : Nat → FieldType := fun k => match k with
  | 0 => .object "CamelStraws$Caravan"
  | 1 => .int
  | _ => .int
def K_7 : String := "CamelStraws$Sheet"
def T_7 : u_T := fun k => match k with
  | 0 => ("CamelStraws$Sheet", "items", "[I", true)
  | 1 => ("CamelStraws$Sheet", "form", "I", false)
  | _ => ("CamelStraws$Sheet", "size", "I", false)
def ft_7 : Nat → FieldType := fun k => match k with
  | 0 => .array (.int)
  | 1 => .int
  | _ => .int
def K_8 : String := "CamelStraws$Straws"
def T_8 : u_T := fun k => match k with
  | 0 => ("CamelStraws$Straws", "days", "[I", true)
  | 1 => ("CamelStraws$Straws", "camels", "[I", true)
  | _ => ("CamelStraws$Straws", "number", "I", false)
def ft_8 : Nat → FieldType := fun k => match k with
  | 0 => .array (.int)
  | 1 => .array (.int)
  | _ => .int
def K_9 : String := "CamelStraws$Walk"
def T_9 : u_T := fun k => match k with
  | 0 => ("CamelStraws$Walk", "kept", "[I", true)
  | 1 => ("CamelStraws$Walk", "sort", "I", false)
  | 2 => ("CamelStraws$Walk", "strengthAtFirst", "I", false)
  | 3 => ("CamelStraws$Walk", "load", "I", false)
  | 4 => ("CamelStraws$Walk", "strength", "I", false)
  | 5 => ("CamelStraws$Walk", "dayOfFall", "I", false)
  | 6 => ("CamelStraws$Walk", "fees", "I", false)
  | 7 => ("CamelStraws$Walk", "brought", "I", false)
  | 8 => ("CamelStraws$Walk", "spilt", "I", false)
  | 9 => ("CamelStraws$Walk", "room", "I", false)
  | 10 => ("CamelStraws$Walk", "lies", "Z", false)
  | 11 => ("CamelStraws$Walk", "broke", "I", false)
  | _ => ("CamelStraws$Walk", "firstFall", "I", false)
def ft_9 : Nat → FieldType := fun k => match k with
  | 0 => .array (.int)
  | 1 => .int
  | 2 => .int
  | 3 => .int
  | 4 => .int
  | 5 => .int
  | 6 => .int
  | 7 => .int
  | 8 => .int
  | 9 => .int
  | 10 => .boolean
  | 11 => .int
  | _ => .int
def K_10 : String := "CamelStrawsModel"
def T_10 : u_T := fun k => match k with
  | 0 => ("CamelStrawsModel", "typed", "[I", true)
  | 1 => ("CamelStrawsModel", "texts", "[I", true)
  | 2 => ("CamelStrawsModel", "camels", "I", false)
  | 3 => ("CamelStrawsModel", "sorts", "[I", true)
  | 4 => ("CamelStrawsModel", "figures", "[I", true)
  | 5 => ("CamelStrawsModel", "bales", "I", false)
  | 6 => ("CamelStrawsModel", "baleOn", "[I", true)
  | 7 => ("CamelStrawsModel", "baleBy", "[I", true)
  | 8 => ("CamelStrawsModel", "baleDay", "[I", true)
  | 9 => ("CamelStrawsModel", "straws", "I", false)
  | 10 => ("CamelStrawsModel", "strawDay", "[I", true)
  | 11 => ("CamelStrawsModel", "strawOn", "[I", true)
  | 12 => ("CamelStrawsModel", "strawsNow", "I", false)
  | 13 => ("CamelStrawsModel", "dayNow", "[I", true)
  | 14 => ("CamelStrawsModel", "onNow", "[I", true)
  | 15 => ("CamelStrawsModel", "notStraws", "I", false)
  | 16 => ("CamelStrawsModel", "isLast", "Z", false)
  | 17 => ("CamelStrawsModel", "loads", "[I", true)
  | 18 => ("CamelStrawsModel", "strengths", "[I", true)
  | 19 => ("CamelStrawsModel", "lies", "[I", true)
  | 20 => ("CamelStrawsModel", "fees", "[I", true)
  | 21 => ("CamelStrawsModel", "brought", "[I", true)
  | 22 => ("CamelStrawsModel", "broke", "[I", true)
  | 23 => ("CamelStrawsModel", "lostNow", "I", false)
  | 24 => ("CamelStrawsModel", "firstDay", "I", false)
  | 25 => ("CamelStrawsModel", "firstWho", "I", false)
  | 26 => ("CamelStrawsModel", "loadAt", "[I", true)
  | 27 => ("CamelStrawsModel", "strengthAt", "[I", true)
  | 28 => ("CamelStrawsModel", "lieAt", "[I", true)
  | 29 => ("CamelStrawsModel", "feeAt", "[I", true)
  | 30 => ("CamelStrawsModel", "broughtAt", "[I", true)
  | 31 => ("CamelStrawsModel", "brokeAt", "[I", true)
  | 32 => ("CamelStrawsModel", "lastAt", "[I", true)
  | 33 => ("CamelStrawsModel", "planRow", "[I", true)
  | 34 => ("CamelStrawsModel", "seens", "I", false)
  | 35 => ("CamelStrawsModel", "seenDay", "[I", true)
  | 36 => ("CamelStrawsModel", "seenWho", "[I", true)
  | 37 => ("CamelStrawsModel", "seenLoad", "[I", true)
  | 38 => ("CamelStrawsModel", "loadBy", "[I", true)
  | 39 => ("CamelStrawsModel", "isThere", "[Z", true)
  | 40 => ("CamelStrawsModel", "forms", "[I", true)
  | 41 => ("CamelStrawsModel", "sizes", "[I", true)
  | 42 => ("CamelStrawsModel", "items", "[I", true)
  | 43 => ("CamelStrawsModel", "moved", "[I", true)
  | _ => ("CamelStrawsModel", "finding", "I", false)
def ft_10 : Nat → FieldType := fun k => match k with
  | 0 => .array (.int)
  | 1 => .array (.int)
  | 2 => .int
  | 3 => .array (.int)
  | 4 => .array (.int)
  | 5 => .int
  | 6 => .array (.int)
  | 7 => .array (.int)
  | 8 => .array (.int)
  | 9 => .int
  | 10 => .array (.int)
  | 11 => .array (.int)
  | 12 => .int
  | 13 => .array (.int)
  | 14 => .array (.int)
  | 15 => .int
  | 16 => .boolean
  | 17 => .array (.int)
  | 18 => .array (.int)
  | 19 => .array (.int)
  | 20 => .array (.int)
  | 21 => .array (.int)
  | 22 => .array (.int)
  | 23 => .int
  | 24 => .int
  | 25 => .int
  | 26 => .array (.int)
  | 27 => .array (.int)
  | 28 => .array (.int)
  | 29 => .array (.int)
  | 30 => .array (.int)
  | 31 => .array (.int)
  | 32 => .array (.int)
  | 33 => .array (.int)
  | 34 => .int
  | 35 => .array (.int)
  | 36 => .array (.int)
  | 37 => .array (.int)
  | 38 => .array (.int)
  | 39 => .array (.boolean)
  | 40 => .array (.int)
  | 41 => .array (.int)
  | 42 => .array (.int)
  | 43 => .array (.int)
  | _ => .int
def softW : Cond → Bool
  | .methodLinkNest _ _ _ _ => true
  | .declares _ => true
  | .castable _ _ => true
  | .arrayOver (.object _) => true
  | _ => false
def okW (w : Cond) : Bool := goodWord w || softW w
def tb_l : List Cond := lw_tbl.filter okW
def cl_s : List vw_C := [(K_0, T_0, 11), (K_1, T_1, 8), (K_2, T_2, 7), (K_3, T_3, 6), (K_4, T_4, 6), (K_5, T_5, 3), (K_6, T_6, 3), (K_7, T_7, 3), (K_8, T_8, 3), (K_9, T_9, 13), (K_10, T_10, 45)]
def nc_c : Nat := 72
def kd_l : List Nat := [20, 20, 20, 20, 21, 20, 20, 20, 20, 20, 20, 20, 20, 20, 20, 20, 20, 20, 20, 20, 20, 20, 20, 20, 20, 20, 20, 20, 20, 20, 20, 20, 20, 20, 10, 20, 7, 20, 7, 20, 7, 20, 7, 23, 5, 20, 20, 20, 20, 4, 6, 20, 20, 9, 3, 20, 20, 8, 20, 20, 8, 22, 20, 20, 20, 20, 1, 20, 20, 20, 2, 0]
def ln_l : List Nat := [60, 240, 4, 4, 4, 240, 8, 8, 8, 2, 24, 192, 192, 192, 192, 192, 192, 8, 8, 8, 8, 8, 8, 17, 17, 8, 8, 11, 11, 11, 9, 9, 78, 2, 0, 60, 0, 60, 0, 60, 0, 60, 0, 4, 0, 240, 8, 8, 8, 0, 0, 24, 192, 0, 0, 8, 8, 0, 8, 8, 0, 2, 10, 10, 10, 39, 0, 8, 8, 23, 0, 0]
def fd_l : List (List (Nat × Nat)) := [[], [], [], [], [], [], [], [], [], [], [], [], [], [], [], [], [], [], [], [], [], [], [], [], [], [], [], [], [], [], [], [], [], [], [(2, 33), (2, 32), (0, 0), (2, 31), (2, 30), (0, 0), (2, 29), (2, 28), (2, 27), (0, 0), (2, 26), (2, 25), (0, 0), (2, 24), (2, 23), (0, 0), (0, 0), (2, 22), (2, 21), (2, 20), (2, 19), (2, 18), (2, 17), (0, 0), (0, 0), (0, 0), (2, 16), (2, 15), (2, 14), (2, 13), (2, 12), (2, 11), (2, 10), (2, 9), (0, 0), (2, 8), (2, 7), (2, 6), (2, 5), (2, 4), (2, 3), (2, 2), (2, 1), (2, 0), (0, 0)], [], [(2, 35), (0, 0), (0, 0)], [], [(2, 37), (0, 0), (0, 0)], [], [(2, 39), (0, 0), (0, 0)], [], [(2, 41), (0, 0), (0, 0)], [], [(2, 54), (1, 0), (1, 0)], [], [], [], [], [(2, 54), (2, 48), (2, 47), (2, 46), (0, 0), (2, 45)], [(2, 54), (0, 0), (0, 0)], [], [], [(2, 52), (0, 0), (0, 0), (0, 0), (0, 0), (0, 0), (0, 0), (0, 0), (0, 0), (0, 0), (0, 0), (0, 0), (0, 0)], [(2, 70), (2, 66), (3, 0), (0, 0), (2, 53), (2, 51)], [], [], [(2, 56), (2, 55), (0, 0)], [], [], [(2, 59), (2, 58), (0, 0)], [], [], [], [], [], [(2, 65), (0, 0), (0, 0), (0, 0), (0, 0), (2, 64), (2, 63), (2, 62)], [], [], [], [(2, 69), (0, 0), (0, 0), (0, 0), (0, 0), (2, 68), (2, 67)], [(2, 70), (2, 66), (2, 61), (2, 60), (2, 57), (2, 54), (2, 50), (2, 49), (2, 44), (2, 43), (0, 0)]]
def rx_l : List (List Nat) := [[], [], [], [], [], [], [], [], [], [], [], [], [], [], [], [], [], [], [], [], [], [], [], [], [], [], [], [], [], [], [], [], [], [], [], [], [], [], [], [], [], [], [], [42, 40, 38, 36], [], [], [], [], [], [], [], [], [], [], [], [], [], [], [], [], [], [70, 66], [], [], [], [], [], [], [], [], [], []]
def kd (a : Nat) : Nat := kd_l.getD a 99
def ln (a : Nat) : Nat := ln_l.getD a 0
def fdl (a : Nat) : List (Nat × Nat) := fd_l.getD a []
def rfx (a i : Nat) : Nat := (rx_l.getD a []).getD i 0
def cl_ok (ci : Nat) (C : String) (T : u_T) (N : Nat) (ty : Nat → FieldType) : Prop := cl_s[ci]? = some (C, T, N) ∧ (∀ w ∈ u_ws C T N, w ∈ tb_l) ∧ (∀ k, k < N → parseFieldDescriptor (T k).2.2.1 = some (ty k)) ∧ (∀ a, a < N → ∀ b, b < N → a ≠ b → (T a).2.1 ≠ (T b).2.1)
theorem in_0 : ∀ w ∈ u_ws K_0 T_0 11, w ∈ tb_l := by
  have h : u_ws K_0 T_0 11 = [377, 379, 381, 383, 385, 387, 389, 391, 393, 395, 397].filterMap (fun i => lw_tbl[i]?) := by decide +kernel
  have h2 : (u_ws K_0 T_0 11).all okW = true := by decide +kernel
  intro w hw
  have h3 := List.all_eq_true.mp h2 w hw
  rw [h] at hw
  obtain ⟨j, -, hj⟩ := List.mem_filterMap.mp hw
  exact List.mem_filter.mpr ⟨List.mem_of_getElem? hj, h3⟩
theorem cq_0 : cl_ok 0 K_0 T_0 11 ft_0 := ⟨rfl, in_0, by decide +kernel, by decide +kernel⟩
theorem in_1 : ∀ w ∈ u_ws K_1 T_1 8, w ∈ tb_l := by
  have h : u_ws K_1 T_1 8 = [170, 171, 172, 173, 174, 164, 166, 168].filterMap (fun i => lw_tbl[i]?) := by decide +kernel
  have h2 : (u_ws K_1 T_1 8).all okW = true := by decide +kernel
  intro w hw
  have h3 := List.all_eq_true.mp h2 w hw
  rw [h] at hw
  obtain ⟨j, -, hj⟩ := List.mem_filterMap.mp hw
  exact List.mem_filter.mpr ⟨List.mem_of_getElem? hj, h3⟩
theorem cq_1 : cl_ok 1 K_1 T_1 8 ft_1 := ⟨rfl, in_1, by decide +kernel, by decide +kernel⟩
theorem in_2 : ∀ w ∈ u_ws K_2 T_2 7, w ∈ tb_l := by
  have h : u_ws K_2 T_2 7 = [135, 137, 139, 141, 143, 131, 133].filterMap (fun i => lw_tbl[i]?) := by decide +kernel
  have h2 : (u_ws K_2 T_2 7).all okW = true := by decide +kernel
  intro w hw
  have h3 := List.all_eq_true.mp h2 w hw
  rw [h] at hw
  obtain ⟨j, -, hj⟩ := List.mem_filterMap.mp hw
  exact List.mem_filter.mpr ⟨List.mem_of_getElem? hj, h3⟩
theorem cq_2 : cl_ok 2 K_2 T_2 7 ft_2 := ⟨rfl, in_2, by decide +kernel, by decide +kernel⟩
theorem in_3 : ∀ w ∈ u_ws K_3 T_3 6, w ∈ tb_l := by
  have h : u_ws K_3 T_3 6 = [271, 273, 275, 277, 279, 281].filterMap (fun i => lw_tbl[i]?) := by decide +kernel
  have h2 : (u_ws K_3 T_3 6).all okW = true := by decide +kernel
  intro w hw
  have h3 := List.all_eq_true.mp h2 w hw
  rw [h] at hw
  obtain ⟨j, -, hj⟩ := List.mem_filterMap.mp hw
  exact List.mem_filter.mpr ⟨List.mem_of_getElem? hj, h3⟩
theorem cq_3 : cl_ok 3 K_3 T_3 6 ft_3 := ⟨rfl, in_3, by decide +kernel, by decide +kernel⟩
theorem in_4 : ∀ w ∈ u_ws K_4 T_4 6, w ∈ tb_l := by
  have h : u_ws K_4 T_4 6 = [315, 317, 319, 321, 323, 325].filterMap (fun i => lw_tbl[i]?) := by decide +kernel
  have h2 : (u_ws K_4 T_4 6).all okW = true := by decide +kernel
  intro w hw
  have h3 := List.all_eq_true.mp h2 w hw
  rw [h] at hw
  obtain ⟨j, -, hj⟩ := List.mem_filterMap.mp hw
  exact List.mem_filter.mpr ⟨List.mem_of_getElem? hj, h3⟩
theorem cq_4 : cl_ok 4 K_4 T_4 6 ft_4 := ⟨rfl, in_4, by decide +kernel, by decide +kernel⟩
theorem in_5 : ∀ w ∈ u_ws K_5 T_5 3, w ∈ tb_l := by
  have h : u_ws K_5 T_5 3 = [339, 341, 343].filterMap (fun i => lw_tbl[i]?) := by decide +kernel
  have h2 : (u_ws K_5 T_5 3).all okW = true := by decide +kernel
  intro w hw
  have h3 := List.all_eq_true.mp h2 w hw
  rw [h] at hw
  obtain ⟨j, -, hj⟩ := List.mem_filterMap.mp hw
  exact List.mem_filter.mpr ⟨List.mem_of_getElem? hj, h3⟩
theorem cq_5 : cl_ok 5 K_5 T_5 3 ft_5 := ⟨rfl, in_5, by decide +kernel, by decide +kernel⟩
theorem in_6 : ∀ w ∈ u_ws K_6 T_6 3, w ∈ tb_l := by
  have h : u_ws K_6 T_6 3 = [295, 297, 299].filterMap (fun i => lw_tbl[i]?) := by decide +kernel
  have h2 : (u_ws K_6 T_6 3).all okW = true := by decide +kernel
  intro w hw
  have h3 := List.all_eq_true.mp h2 w hw
  rw [h] at hw
  obtain ⟨j, -, hj⟩ := List.mem_filterMap.mp hw
  exact List.mem_filter.mpr ⟨List.mem_of_getElem? hj, h3⟩
theorem cq_6 : cl_ok 6 K_6 T_6 3 ft_6 := ⟨rfl, in_6, by decide +kernel, by decide +kernel⟩
theorem in_7 : ∀ w ∈ u_ws K_7 T_7 3, w ∈ tb_l := by
  have h : u_ws K_7 T_7 3 = [359, 361, 363].filterMap (fun i => lw_tbl[i]?) := by decide +kernel
  have h2 : (u_ws K_7 T_7 3).all okW = true := by decide +kernel
  intro w hw
  have h3 := List.all_eq_true.mp h2 w hw
  rw [h] at hw
  obtain ⟨j, -, hj⟩ := List.mem_filterMap.mp hw
  exact List.mem_filter.mpr ⟨List.mem_of_getElem? hj, h3⟩
theorem cq_7 : cl_ok 7 K_7 T_7 3 ft_7 := ⟨rfl, in_7, by decide +kernel, by decide +kernel⟩
theorem in_8 : ∀ w ∈ u_ws K_8 T_8 3, w ∈ tb_l := by
  have h : u_ws K_8 T_8 3 = [193, 195, 197].filterMap (fun i => lw_tbl[i]?) := by decide +kernel
  have h2 : (u_ws K_8 T_8 3).all okW = true := by decide +kernel
  intro w hw
  have h3 := List.all_eq_true.mp h2 w hw
  rw [h] at hw
  obtain ⟨j, -, hj⟩ := List.mem_filterMap.mp hw
  exact List.mem_filter.mpr ⟨List.mem_of_getElem? hj, h3⟩
theorem cq_8 : cl_ok 8 K_8 T_8 3 ft_8 := ⟨rfl, in_8, by decide +kernel, by decide +kernel⟩
theorem in_9 : ∀ w ∈ u_ws K_9 T_9 13, w ∈ tb_l := by
  have h : u_ws K_9 T_9 13 = [229, 231, 233, 235, 237, 239, 241, 243, 245, 247, 249, 251, 253].filterMap (fun i => lw_tbl[i]?) := by decide +kernel
  have h2 : (u_ws K_9 T_9 13).all okW = true := by decide +kernel
  intro w hw
  have h3 := List.all_eq_true.mp h2 w hw
  rw [h] at hw
  obtain ⟨j, -, hj⟩ := List.mem_filterMap.mp hw
  exact List.mem_filter.mpr ⟨List.mem_of_getElem? hj, h3⟩
theorem cq_9 : cl_ok 9 K_9 T_9 13 ft_9 := ⟨rfl, in_9, by decide +kernel, by decide +kernel⟩
theorem in_10 : ∀ w ∈ u_ws K_10 T_10 45, w ∈ tb_l := by
  have h : u_ws K_10 T_10 45 = [914, 916, 918, 920, 922, 924, 926, 928, 930, 932, 934, 936, 938, 940, 942, 944, 946, 948, 950, 952, 954, 956, 958, 960, 962, 964, 966, 968, 970, 972, 974, 976, 978, 980, 982, 984, 986, 988, 990, 992, 994, 996, 998, 1000, 1002].filterMap (fun i => lw_tbl[i]?) := by decide +kernel
  have h2 : (u_ws K_10 T_10 45).all okW = true := by decide +kernel
  intro w hw
  have h3 := List.all_eq_true.mp h2 w hw
  rw [h] at hw
  obtain ⟨j, -, hj⟩ := List.mem_filterMap.mp hw
  exact List.mem_filter.mpr ⟨List.mem_of_getElem? hj, h3⟩
theorem cq_10 : cl_ok 10 K_10 T_10 45 ft_10 := ⟨rfl, in_10, by decide +kernel, by decide +kernel⟩
theorem tb_ok : ∀ w ∈ tb_l, okW w = true := fun w h => (List.mem_filter.mp h).2
theorem tb_in {w : Cond} (i : Nat) (h : lw_tbl[i]? = some w) (hk : okW w = true) : w ∈ tb_l := List.mem_filter.mpr ⟨List.mem_of_getElem? h, hk⟩
end
section
/-! the judgement over the abstract heap: one world (72 cells), every method's body a walk in it -/
abbrev GG : Type := va_G × (ClassId × ClassId × ClassId × ClassId)
def ty4 (g : GG) : List (ClassId × FieldType) := [(g.2.1, .int), (g.2.2.1, .boolean), (g.2.2.2.1, .object "CamelStraws$Text"), (g.2.2.2.2, .object "CamelStraws$Sheet")]
def XW (U : State) : Prop := ∀ w ∈ tb_l, w.before #[] U = true
theorem okW_tab {w : Cond} (h : okW w = true) : w.onTables = true ∨ (∃ ty, w = .arrayClass ty) ∨ ∃ C, w = .arrayOver (.object C) := by
  unfold okW at h
  rcases Bool.or_eq_true_iff.mp h with h | h
  · rcases good_of_word h with h | ⟨ty, rfl⟩
    · exact Or.inl (Bool.and_eq_true_iff.mp h).1
    · exact Or.inr (Or.inl ⟨ty, rfl⟩)
  · unfold softW at h
    split at h
    · exact Or.inl rfl
    · exact Or.inl rfl
    · exact Or.inl rfl
    · exact Or.inr (Or.inr ⟨_, rfl⟩)
    · cases h
theorem okW_any {w : Cond} (hw : okW w = true) {A A' : Array Value} {u U : State} (h : u.vm = U.vm) (hb : w.before A u = true) : w.before A' U = true := by
  rcases okW_tab hw with ht | ⟨ty, rfl⟩ | ⟨C, rfl⟩
  · exact va_tabs ht h hb
  · have h2 : u.WarmedH U.vm := by rw [← h]; exact State.WarmedH.refl u
    exact word_at h2 (Or.inr ⟨_, rfl⟩) hb
  · exact va_AO.use (va_AO.moved (by rw [h]; exact Vm.Alike.refl _) (va_AO.of hb))
theorem XW.same {u U : State} (h : u.vm = U.vm) (hx : XW u) : XW U := fun w hw => okW_any (tb_ok w hw) h (hx w hw)
theorem XW.hts {s : State} (h : XW s) (args : Array Value) : ∀ w ∈ tb_l, w.before args s = true := fun w hw => okW_any (tb_ok w hw) rfl (h w hw)
theorem XW.warm {s U : State} (hW : s.WarmedH U.vm) (h : XW s) : XW U := by
  intro w hw
  have hb := h w hw
  have hk := tb_ok w hw
  unfold okW at hk
  rcases Bool.or_eq_true_iff.mp hk with hk | hk
  · exact word_at hW (good_of_word hk) hb
  · unfold softW at hk
    split at hk
    · exact va_Nw.warmM hW hb
    · exact va_Nw.warmD hW hb
    · exact va_Nw.warmC hW hb
    · exact va_AO.use (va_AO.moved hW.alike (va_AO.of hb))
    · cases hk
end
