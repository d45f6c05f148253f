/-! constructors: names, code, decode rows, words, contracts (printed) -/
theorem V_sub {x : KX} {k n pc : Nat} {lv lv' : List (Nat × Value)} {st : List Value} {ws : va_W} (ks : List Nat) (hl : lv_pick lv ks = lv') (kk : Vw x k n pc lv' st ws) : Vw x k n pc lv st ws := fun p e s m args below meth c H locs A Z ls S r h hE => kk p e s m args below meth c H locs A Z ls S r (lv_sub h ks hl) hE
theorem V_ws {x : KX} {k n pc : Nat} {lv : List (Nat × Value)} {st : List Value} {ws ws' : va_W} (h : ws = ws') (kk : Vw x k n pc lv st ws') : Vw x k n pc lv st ws := h ▸ kk
theorem V_st {x : KX} {k n pc : Nat} {lv : List (Nat × Value)} {st st' : List Value} {ws : va_W} (h : st = st') (kk : Vw x k n pc lv st' ws) : Vw x k n pc lv st ws := h ▸ kk
abbrev b_CS_init : ByteArray := prog_1_method_1_code
def y_CS_init : MethodName := ⟨"CamelStraws", "<init>", "()V"⟩
theorem d_CS_init_0 : decode b_CS_init 0 = .ok (.aload_n 0, 1) := by decide +kernel
theorem d_CS_init_1 : decode b_CS_init 1 = .ok (.invokespecial 1, 3) := by decide +kernel
theorem d_CS_init_4 : decode b_CS_init 4 = .ok (.aload_n 0, 1) := by decide +kernel
theorem d_CS_init_5 : decode b_CS_init 5 = .ok (.new 7, 3) := by decide +kernel
theorem d_CS_init_8 : decode b_CS_init 8 = .ok (.dup, 1) := by decide +kernel
theorem d_CS_init_9 : decode b_CS_init 9 = .ok (.invokespecial 9, 3) := by decide +kernel
theorem d_CS_init_12 : decode b_CS_init 12 = .ok (.putfield 10, 3) := by decide +kernel
theorem d_CS_init_15 : decode b_CS_init 15 = .ok (.aload_n 0, 1) := by decide +kernel
theorem d_CS_init_16 : decode b_CS_init 16 = .ok (.new 16, 3) := by decide +kernel
theorem d_CS_init_19 : decode b_CS_init 19 = .ok (.dup, 1) := by decide +kernel
theorem d_CS_init_20 : decode b_CS_init 20 = .ok (.invokespecial 18, 3) := by decide +kernel
theorem d_CS_init_23 : decode b_CS_init 23 = .ok (.putfield 19, 3) := by decide +kernel
theorem d_CS_init_26 : decode b_CS_init 26 = .ok (.aload_n 0, 1) := by decide +kernel
theorem d_CS_init_27 : decode b_CS_init 27 = .ok (.iconst 2, 1) := by decide +kernel
theorem d_CS_init_28 : decode b_CS_init 28 = .ok (.anewarray 23, 3) := by decide +kernel
theorem d_CS_init_31 : decode b_CS_init 31 = .ok (.dup, 1) := by decide +kernel
theorem d_CS_init_32 : decode b_CS_init 32 = .ok (.iconst 0, 1) := by decide +kernel
theorem d_CS_init_33 : decode b_CS_init 33 = .ok (.aload_n 0, 1) := by decide +kernel
theorem d_CS_init_34 : decode b_CS_init 34 = .ok (.getfield 10, 3) := by decide +kernel
theorem d_CS_init_37 : decode b_CS_init 37 = .ok (.aastore, 1) := by decide +kernel
theorem d_CS_init_38 : decode b_CS_init 38 = .ok (.dup, 1) := by decide +kernel
theorem d_CS_init_39 : decode b_CS_init 39 = .ok (.iconst 1, 1) := by decide +kernel
theorem d_CS_init_40 : decode b_CS_init 40 = .ok (.aload_n 0, 1) := by decide +kernel
theorem d_CS_init_41 : decode b_CS_init 41 = .ok (.getfield 19, 3) := by decide +kernel
theorem d_CS_init_44 : decode b_CS_init 44 = .ok (.aastore, 1) := by decide +kernel
theorem d_CS_init_45 : decode b_CS_init 45 = .ok (.putfield 25, 3) := by decide +kernel
theorem d_CS_init_48 : decode b_CS_init 48 = .ok (.aload_n 0, 1) := by decide +kernel
theorem d_CS_init_49 : decode b_CS_init 49 = .ok (.new 29, 3) := by decide +kernel
theorem d_CS_init_52 : decode b_CS_init 52 = .ok (.dup, 1) := by decide +kernel
theorem d_CS_init_53 : decode b_CS_init 53 = .ok (.invokespecial 31, 3) := by decide +kernel
theorem d_CS_init_56 : decode b_CS_init 56 = .ok (.putfield 32, 3) := by decide +kernel
theorem d_CS_init_59 : decode b_CS_init 59 = .ok (.aload_n 0, 1) := by decide +kernel
theorem d_CS_init_60 : decode b_CS_init 60 = .ok (.new 29, 3) := by decide +kernel
theorem d_CS_init_63 : decode b_CS_init 63 = .ok (.dup, 1) := by decide +kernel
theorem d_CS_init_64 : decode b_CS_init 64 = .ok (.invokespecial 31, 3) := by decide +kernel
theorem d_CS_init_67 : decode b_CS_init 67 = .ok (.putfield 36, 3) := by decide +kernel
theorem d_CS_init_70 : decode b_CS_init 70 = .ok (.aload_n 0, 1) := by decide +kernel
theorem d_CS_init_71 : decode b_CS_init 71 = .ok (.new 39, 3) := by decide +kernel
theorem d_CS_init_74 : decode b_CS_init 74 = .ok (.dup, 1) := by decide +kernel
theorem d_CS_init_75 : decode b_CS_init 75 = .ok (.aload_n 0, 1) := by decide +kernel
theorem d_CS_init_76 : decode b_CS_init 76 = .ok (.getfield 10, 3) := by decide +kernel
theorem d_CS_init_79 : decode b_CS_init 79 = .ok (.aload_n 0, 1) := by decide +kernel
theorem d_CS_init_80 : decode b_CS_init 80 = .ok (.getfield 19, 3) := by decide +kernel
theorem d_CS_init_83 : decode b_CS_init 83 = .ok (.aload_n 0, 1) := by decide +kernel
theorem d_CS_init_84 : decode b_CS_init 84 = .ok (.getfield 32, 3) := by decide +kernel
theorem d_CS_init_87 : decode b_CS_init 87 = .ok (.invokespecial 41, 3) := by decide +kernel
theorem d_CS_init_90 : decode b_CS_init 90 = .ok (.putfield 44, 3) := by decide +kernel
theorem d_CS_init_93 : decode b_CS_init 93 = .ok (.aload_n 0, 1) := by decide +kernel
theorem d_CS_init_94 : decode b_CS_init 94 = .ok (.new 48, 3) := by decide +kernel
theorem d_CS_init_97 : decode b_CS_init 97 = .ok (.dup, 1) := by decide +kernel
theorem d_CS_init_98 : decode b_CS_init 98 = .ok (.aload_n 0, 1) := by decide +kernel
theorem d_CS_init_99 : decode b_CS_init 99 = .ok (.getfield 44, 3) := by decide +kernel
theorem d_CS_init_102 : decode b_CS_init 102 = .ok (.invokespecial 50, 3) := by decide +kernel
theorem d_CS_init_105 : decode b_CS_init 105 = .ok (.putfield 53, 3) := by decide +kernel
theorem d_CS_init_108 : decode b_CS_init 108 = .ok (.aload_n 0, 1) := by decide +kernel
theorem d_CS_init_109 : decode b_CS_init 109 = .ok (.new 57, 3) := by decide +kernel
theorem d_CS_init_112 : decode b_CS_init 112 = .ok (.dup, 1) := by decide +kernel
theorem d_CS_init_113 : decode b_CS_init 113 = .ok (.aload_n 0, 1) := by decide +kernel
theorem d_CS_init_114 : decode b_CS_init 114 = .ok (.getfield 44, 3) := by decide +kernel
theorem d_CS_init_117 : decode b_CS_init 117 = .ok (.invokespecial 59, 3) := by decide +kernel
theorem d_CS_init_120 : decode b_CS_init 120 = .ok (.putfield 60, 3) := by decide +kernel
theorem d_CS_init_123 : decode b_CS_init 123 = .ok (.aload_n 0, 1) := by decide +kernel
theorem d_CS_init_124 : decode b_CS_init 124 = .ok (.new 64, 3) := by decide +kernel
theorem d_CS_init_127 : decode b_CS_init 127 = .ok (.dup, 1) := by decide +kernel
theorem d_CS_init_128 : decode b_CS_init 128 = .ok (.aload_n 0, 1) := by decide +kernel
theorem d_CS_init_129 : decode b_CS_init 129 = .ok (.getfield 44, 3) := by decide +kernel
theorem d_CS_init_132 : decode b_CS_init 132 = .ok (.invokespecial 66, 3) := by decide +kernel
theorem d_CS_init_135 : decode b_CS_init 135 = .ok (.putfield 67, 3) := by decide +kernel
theorem d_CS_init_138 : decode b_CS_init 138 = .ok (.aload_n 0, 1) := by decide +kernel
theorem d_CS_init_139 : decode b_CS_init 139 = .ok (.iconst 4, 1) := by decide +kernel
theorem d_CS_init_140 : decode b_CS_init 140 = .ok (.anewarray 71, 3) := by decide +kernel
theorem d_CS_init_143 : decode b_CS_init 143 = .ok (.dup, 1) := by decide +kernel
theorem d_CS_init_144 : decode b_CS_init 144 = .ok (.iconst 0, 1) := by decide +kernel
theorem d_CS_init_145 : decode b_CS_init 145 = .ok (.new 71, 3) := by decide +kernel
theorem d_CS_init_148 : decode b_CS_init 148 = .ok (.dup, 1) := by decide +kernel
theorem d_CS_init_149 : decode b_CS_init 149 = .ok (.invokespecial 73, 3) := by decide +kernel
theorem d_CS_init_152 : decode b_CS_init 152 = .ok (.aastore, 1) := by decide +kernel
theorem d_CS_init_153 : decode b_CS_init 153 = .ok (.dup, 1) := by decide +kernel
theorem d_CS_init_154 : decode b_CS_init 154 = .ok (.iconst 1, 1) := by decide +kernel
theorem d_CS_init_155 : decode b_CS_init 155 = .ok (.new 71, 3) := by decide +kernel
theorem d_CS_init_158 : decode b_CS_init 158 = .ok (.dup, 1) := by decide +kernel
theorem d_CS_init_159 : decode b_CS_init 159 = .ok (.invokespecial 73, 3) := by decide +kernel
theorem d_CS_init_162 : decode b_CS_init 162 = .ok (.aastore, 1) := by decide +kernel
theorem d_CS_init_163 : decode b_CS_init 163 = .ok (.dup, 1) := by decide +kernel
theorem d_CS_init_164 : decode b_CS_init 164 = .ok (.iconst 2, 1) := by decide +kernel
theorem d_CS_init_165 : decode b_CS_init 165 = .ok (.new 71, 3) := by decide +kernel
theorem d_CS_init_168 : decode b_CS_init 168 = .ok (.dup, 1) := by decide +kernel
theorem d_CS_init_169 : decode b_CS_init 169 = .ok (.invokespecial 73, 3) := by decide +kernel
theorem d_CS_init_172 : decode b_CS_init 172 = .ok (.aastore, 1) := by decide +kernel
theorem d_CS_init_173 : decode b_CS_init 173 = .ok (.dup, 1) := by decide +kernel
theorem d_CS_init_174 : decode b_CS_init 174 = .ok (.iconst 3, 1) := by decide +kernel
theorem d_CS_init_175 : decode b_CS_init 175 = .ok (.new 71, 3) := by decide +kernel
theorem d_CS_init_178 : decode b_CS_init 178 = .ok (.dup, 1) := by decide +kernel
theorem d_CS_init_179 : decode b_CS_init 179 = .ok (.invokespecial 73, 3) := by decide +kernel
theorem d_CS_init_182 : decode b_CS_init 182 = .ok (.aastore, 1) := by decide +kernel
theorem d_CS_init_183 : decode b_CS_init 183 = .ok (.putfield 74, 3) := by decide +kernel
theorem d_CS_init_186 : decode b_CS_init 186 = .ok (.return_, 1) := by decide +kernel
abbrev b_Ca_init : ByteArray := prog_3_method_1_code
def y_Ca_init : MethodName := ⟨"CamelStraws$Camels", "<init>", "()V"⟩
theorem d_Ca_init_0 : decode b_Ca_init 0 = .ok (.aload_n 0, 1) := by decide +kernel
theorem d_Ca_init_1 : decode b_Ca_init 1 = .ok (.bipush 8, 2) := by decide +kernel
theorem d_Ca_init_3 : decode b_Ca_init 3 = .ok (.iconst 3, 1) := by decide +kernel
theorem d_Ca_init_4 : decode b_Ca_init 4 = .ok (.invokespecial 3, 3) := by decide +kernel
theorem d_Ca_init_7 : decode b_Ca_init 7 = .ok (.aload_n 0, 1) := by decide +kernel
theorem d_Ca_init_8 : decode b_Ca_init 8 = .ok (.bipush 8, 2) := by decide +kernel
theorem d_Ca_init_10 : decode b_Ca_init 10 = .ok (.newarray .int, 2) := by decide +kernel
theorem d_Ca_init_12 : decode b_Ca_init 12 = .ok (.putfield 9, 3) := by decide +kernel
theorem d_Ca_init_15 : decode b_Ca_init 15 = .ok (.aload_n 0, 1) := by decide +kernel
theorem d_Ca_init_16 : decode b_Ca_init 16 = .ok (.bipush 8, 2) := by decide +kernel
theorem d_Ca_init_18 : decode b_Ca_init 18 = .ok (.newarray .int, 2) := by decide +kernel
theorem d_Ca_init_20 : decode b_Ca_init 20 = .ok (.putfield 15, 3) := by decide +kernel
theorem d_Ca_init_23 : decode b_Ca_init 23 = .ok (.return_, 1) := by decide +kernel
abbrev b_Tx_init : ByteArray := prog_10_method_1_code
def y_Tx_init : MethodName := ⟨"CamelStraws$Text", "<init>", "(II)V"⟩
theorem d_Tx_init_0 : decode b_Tx_init 0 = .ok (.aload_n 0, 1) := by decide +kernel
theorem d_Tx_init_1 : decode b_Tx_init 1 = .ok (.invokespecial 3, 3) := by decide +kernel
theorem d_Tx_init_4 : decode b_Tx_init 4 = .ok (.aload_n 0, 1) := by decide +kernel
theorem d_Tx_init_5 : decode b_Tx_init 5 = .ok (.iconst (-1), 1) := by decide +kernel
theorem d_Tx_init_6 : decode b_Tx_init 6 = .ok (.putfield 9, 3) := by decide +kernel
theorem d_Tx_init_9 : decode b_Tx_init 9 = .ok (.aload_n 0, 1) := by decide +kernel
theorem d_Tx_init_10 : decode b_Tx_init 10 = .ok (.iload_n 1, 1) := by decide +kernel
theorem d_Tx_init_11 : decode b_Tx_init 11 = .ok (.iload_n 2, 1) := by decide +kernel
theorem d_Tx_init_12 : decode b_Tx_init 12 = .ok (.imul, 1) := by decide +kernel
theorem d_Tx_init_13 : decode b_Tx_init 13 = .ok (.iconst 1, 1) := by decide +kernel
theorem d_Tx_init_14 : decode b_Tx_init 14 = .ok (.isub, 1) := by decide +kernel
theorem d_Tx_init_15 : decode b_Tx_init 15 = .ok (.newarray .int, 2) := by decide +kernel
theorem d_Tx_init_17 : decode b_Tx_init 17 = .ok (.putfield 15, 3) := by decide +kernel
theorem d_Tx_init_20 : decode b_Tx_init 20 = .ok (.aload_n 0, 1) := by decide +kernel
theorem d_Tx_init_21 : decode b_Tx_init 21 = .ok (.iload_n 2, 1) := by decide +kernel
theorem d_Tx_init_22 : decode b_Tx_init 22 = .ok (.putfield 19, 3) := by decide +kernel
theorem d_Tx_init_25 : decode b_Tx_init 25 = .ok (.return_, 1) := by decide +kernel
abbrev b_Ba_init : ByteArray := prog_2_method_1_code
def y_Ba_init : MethodName := ⟨"CamelStraws$Bales", "<init>", "()V"⟩
theorem d_Ba_init_0 : decode b_Ba_init 0 = .ok (.aload_n 0, 1) := by decide +kernel
theorem d_Ba_init_1 : decode b_Ba_init 1 = .ok (.bipush 10, 2) := by decide +kernel
theorem d_Ba_init_3 : decode b_Ba_init 3 = .ok (.iconst 4, 1) := by decide +kernel
theorem d_Ba_init_4 : decode b_Ba_init 4 = .ok (.invokespecial 3, 3) := by decide +kernel
theorem d_Ba_init_7 : decode b_Ba_init 7 = .ok (.aload_n 0, 1) := by decide +kernel
theorem d_Ba_init_8 : decode b_Ba_init 8 = .ok (.bipush 10, 2) := by decide +kernel
theorem d_Ba_init_10 : decode b_Ba_init 10 = .ok (.newarray .int, 2) := by decide +kernel
theorem d_Ba_init_12 : decode b_Ba_init 12 = .ok (.putfield 9, 3) := by decide +kernel
theorem d_Ba_init_15 : decode b_Ba_init 15 = .ok (.aload_n 0, 1) := by decide +kernel
theorem d_Ba_init_16 : decode b_Ba_init 16 = .ok (.bipush 10, 2) := by decide +kernel
theorem d_Ba_init_18 : decode b_Ba_init 18 = .ok (.newarray .int, 2) := by decide +kernel
theorem d_Ba_init_20 : decode b_Ba_init 20 = .ok (.putfield 15, 3) := by decide +kernel
theorem d_Ba_init_23 : decode b_Ba_init 23 = .ok (.aload_n 0, 1) := by decide +kernel
theorem d_Ba_init_24 : decode b_Ba_init 24 = .ok (.bipush 10, 2) := by decide +kernel
theorem d_Ba_init_26 : decode b_Ba_init 26 = .ok (.newarray .int, 2) := by decide +kernel
theorem d_Ba_init_28 : decode b_Ba_init 28 = .ok (.putfield 18, 3) := by decide +kernel
theorem d_Ba_init_31 : decode b_Ba_init 31 = .ok (.return_, 1) := by decide +kernel
abbrev b_St_init : ByteArray := prog_9_method_1_code
def y_St_init : MethodName := ⟨"CamelStraws$Straws", "<init>", "()V"⟩
theorem d_St_init_0 : decode b_St_init 0 = .ok (.aload_n 0, 1) := by decide +kernel
theorem d_St_init_1 : decode b_St_init 1 = .ok (.invokespecial 3, 3) := by decide +kernel
theorem d_St_init_4 : decode b_St_init 4 = .ok (.aload_n 0, 1) := by decide +kernel
theorem d_St_init_5 : decode b_St_init 5 = .ok (.bipush 8, 2) := by decide +kernel
theorem d_St_init_7 : decode b_St_init 7 = .ok (.newarray .int, 2) := by decide +kernel
theorem d_St_init_9 : decode b_St_init 9 = .ok (.putfield 9, 3) := by decide +kernel
theorem d_St_init_12 : decode b_St_init 12 = .ok (.aload_n 0, 1) := by decide +kernel
theorem d_St_init_13 : decode b_St_init 13 = .ok (.bipush 8, 2) := by decide +kernel
theorem d_St_init_15 : decode b_St_init 15 = .ok (.newarray .int, 2) := by decide +kernel
theorem d_St_init_17 : decode b_St_init 17 = .ok (.putfield 15, 3) := by decide +kernel
theorem d_St_init_20 : decode b_St_init 20 = .ok (.return_, 1) := by decide +kernel
abbrev b_Cv_init : ByteArray := prog_4_method_1_code
def y_Cv_init : MethodName := ⟨"CamelStraws$Caravan", "<init>", "(LCamelStraws$Camels;LCamelStraws$Bales;LCamelStraws$Straws;)V"⟩
theorem d_Cv_init_0 : decode b_Cv_init 0 = .ok (.aload_n 0, 1) := by decide +kernel
theorem d_Cv_init_1 : decode b_Cv_init 1 = .ok (.invokespecial 3, 3) := by decide +kernel
theorem d_Cv_init_4 : decode b_Cv_init 4 = .ok (.aload_n 0, 1) := by decide +kernel
theorem d_Cv_init_5 : decode b_Cv_init 5 = .ok (.new 9, 3) := by decide +kernel
theorem d_Cv_init_8 : decode b_Cv_init 8 = .ok (.dup, 1) := by decide +kernel
theorem d_Cv_init_9 : decode b_Cv_init 9 = .ok (.invokespecial 11, 3) := by decide +kernel
theorem d_Cv_init_12 : decode b_Cv_init 12 = .ok (.putfield 12, 3) := by decide +kernel
theorem d_Cv_init_15 : decode b_Cv_init 15 = .ok (.aload_n 0, 1) := by decide +kernel
theorem d_Cv_init_16 : decode b_Cv_init 16 = .ok (.bipush 24, 2) := by decide +kernel
theorem d_Cv_init_18 : decode b_Cv_init 18 = .ok (.newarray .int, 2) := by decide +kernel
theorem d_Cv_init_20 : decode b_Cv_init 20 = .ok (.putfield 18, 3) := by decide +kernel
theorem d_Cv_init_23 : decode b_Cv_init 23 = .ok (.aload_n 0, 1) := by decide +kernel
theorem d_Cv_init_24 : decode b_Cv_init 24 = .ok (.aload_n 1, 1) := by decide +kernel
theorem d_Cv_init_25 : decode b_Cv_init 25 = .ok (.putfield 22, 3) := by decide +kernel
theorem d_Cv_init_28 : decode b_Cv_init 28 = .ok (.aload_n 0, 1) := by decide +kernel
theorem d_Cv_init_29 : decode b_Cv_init 29 = .ok (.aload_n 2, 1) := by decide +kernel
theorem d_Cv_init_30 : decode b_Cv_init 30 = .ok (.putfield 26, 3) := by decide +kernel
theorem d_Cv_init_33 : decode b_Cv_init 33 = .ok (.aload_n 0, 1) := by decide +kernel
theorem d_Cv_init_34 : decode b_Cv_init 34 = .ok (.aload_n 3, 1) := by decide +kernel
theorem d_Cv_init_35 : decode b_Cv_init 35 = .ok (.putfield 30, 3) := by decide +kernel
theorem d_Cv_init_38 : decode b_Cv_init 38 = .ok (.return_, 1) := by decide +kernel
abbrev b_Wa_init : ByteArray := prog_11_method_1_code
def y_Wa_init : MethodName := ⟨"CamelStraws$Walk", "<init>", "()V"⟩
theorem d_Wa_init_0 : decode b_Wa_init 0 = .ok (.aload_n 0, 1) := by decide +kernel
theorem d_Wa_init_1 : decode b_Wa_init 1 = .ok (.invokespecial 3, 3) := by decide +kernel
theorem d_Wa_init_4 : decode b_Wa_init 4 = .ok (.aload_n 0, 1) := by decide +kernel
theorem d_Wa_init_5 : decode b_Wa_init 5 = .ok (.sipush 192, 3) := by decide +kernel
theorem d_Wa_init_8 : decode b_Wa_init 8 = .ok (.newarray .int, 2) := by decide +kernel
theorem d_Wa_init_10 : decode b_Wa_init 10 = .ok (.putfield 9, 3) := by decide +kernel
theorem d_Wa_init_13 : decode b_Wa_init 13 = .ok (.return_, 1) := by decide +kernel
abbrev b_Pl_init : ByteArray := prog_7_method_1_code
def y_Pl_init : MethodName := ⟨"CamelStraws$Plans", "<init>", "(LCamelStraws$Caravan;)V"⟩
theorem d_Pl_init_0 : decode b_Pl_init 0 = .ok (.aload_n 0, 1) := by decide +kernel
theorem d_Pl_init_1 : decode b_Pl_init 1 = .ok (.invokespecial 3, 3) := by decide +kernel
theorem d_Pl_init_4 : decode b_Pl_init 4 = .ok (.aload_n 0, 1) := by decide +kernel
theorem d_Pl_init_5 : decode b_Pl_init 5 = .ok (.aload_n 1, 1) := by decide +kernel
theorem d_Pl_init_6 : decode b_Pl_init 6 = .ok (.putfield 9, 3) := by decide +kernel
theorem d_Pl_init_9 : decode b_Pl_init 9 = .ok (.return_, 1) := by decide +kernel
abbrev b_Gu_init : ByteArray := prog_5_method_1_code
def y_Gu_init : MethodName := ⟨"CamelStraws$Guesses", "<init>", "(LCamelStraws$Caravan;)V"⟩
theorem d_Gu_init_0 : decode b_Gu_init 0 = .ok (.aload_n 0, 1) := by decide +kernel
theorem d_Gu_init_1 : decode b_Gu_init 1 = .ok (.invokespecial 3, 3) := by decide +kernel
theorem d_Gu_init_4 : decode b_Gu_init 4 = .ok (.aload_n 0, 1) := by decide +kernel
theorem d_Gu_init_5 : decode b_Gu_init 5 = .ok (.bipush 8, 2) := by decide +kernel
theorem d_Gu_init_7 : decode b_Gu_init 7 = .ok (.newarray .int, 2) := by decide +kernel
theorem d_Gu_init_9 : decode b_Gu_init 9 = .ok (.putfield 9, 3) := by decide +kernel
theorem d_Gu_init_12 : decode b_Gu_init 12 = .ok (.aload_n 0, 1) := by decide +kernel
theorem d_Gu_init_13 : decode b_Gu_init 13 = .ok (.bipush 8, 2) := by decide +kernel
theorem d_Gu_init_15 : decode b_Gu_init 15 = .ok (.newarray .int, 2) := by decide +kernel
theorem d_Gu_init_17 : decode b_Gu_init 17 = .ok (.putfield 15, 3) := by decide +kernel
theorem d_Gu_init_20 : decode b_Gu_init 20 = .ok (.aload_n 0, 1) := by decide +kernel
theorem d_Gu_init_21 : decode b_Gu_init 21 = .ok (.bipush 8, 2) := by decide +kernel
theorem d_Gu_init_23 : decode b_Gu_init 23 = .ok (.newarray .int, 2) := by decide +kernel
theorem d_Gu_init_25 : decode b_Gu_init 25 = .ok (.putfield 18, 3) := by decide +kernel
theorem d_Gu_init_28 : decode b_Gu_init 28 = .ok (.aload_n 0, 1) := by decide +kernel
theorem d_Gu_init_29 : decode b_Gu_init 29 = .ok (.sipush 240, 3) := by decide +kernel
theorem d_Gu_init_32 : decode b_Gu_init 32 = .ok (.newarray .int, 2) := by decide +kernel
theorem d_Gu_init_34 : decode b_Gu_init 34 = .ok (.putfield 21, 3) := by decide +kernel
theorem d_Gu_init_37 : decode b_Gu_init 37 = .ok (.aload_n 0, 1) := by decide +kernel
theorem d_Gu_init_38 : decode b_Gu_init 38 = .ok (.aload_n 1, 1) := by decide +kernel
theorem d_Gu_init_39 : decode b_Gu_init 39 = .ok (.putfield 24, 3) := by decide +kernel
theorem d_Gu_init_42 : decode b_Gu_init 42 = .ok (.return_, 1) := by decide +kernel
abbrev b_Od_init : ByteArray := prog_6_method_1_code
def y_Od_init : MethodName := ⟨"CamelStraws$Odds", "<init>", "(LCamelStraws$Caravan;)V"⟩
theorem d_Od_init_0 : decode b_Od_init 0 = .ok (.aload_n 0, 1) := by decide +kernel
theorem d_Od_init_1 : decode b_Od_init 1 = .ok (.invokespecial 3, 3) := by decide +kernel
theorem d_Od_init_4 : decode b_Od_init 4 = .ok (.aload_n 0, 1) := by decide +kernel
theorem d_Od_init_5 : decode b_Od_init 5 = .ok (.aload_n 1, 1) := by decide +kernel
theorem d_Od_init_6 : decode b_Od_init 6 = .ok (.putfield 9, 3) := by decide +kernel
theorem d_Od_init_9 : decode b_Od_init 9 = .ok (.return_, 1) := by decide +kernel
abbrev b_Sh_init : ByteArray := prog_8_method_1_code
def y_Sh_init : MethodName := ⟨"CamelStraws$Sheet", "<init>", "()V"⟩
theorem d_Sh_init_0 : decode b_Sh_init 0 = .ok (.aload_n 0, 1) := by decide +kernel
theorem d_Sh_init_1 : decode b_Sh_init 1 = .ok (.invokespecial 3, 3) := by decide +kernel
theorem d_Sh_init_4 : decode b_Sh_init 4 = .ok (.aload_n 0, 1) := by decide +kernel
theorem d_Sh_init_5 : decode b_Sh_init 5 = .ok (.bipush 60, 2) := by decide +kernel
theorem d_Sh_init_7 : decode b_Sh_init 7 = .ok (.newarray .int, 2) := by decide +kernel
theorem d_Sh_init_9 : decode b_Sh_init 9 = .ok (.putfield 9, 3) := by decide +kernel
theorem d_Sh_init_12 : decode b_Sh_init 12 = .ok (.aload_n 0, 1) := by decide +kernel
theorem d_Sh_init_13 : decode b_Sh_init 13 = .ok (.iconst (-1), 1) := by decide +kernel
theorem d_Sh_init_14 : decode b_Sh_init 14 = .ok (.putfield 15, 3) := by decide +kernel
theorem d_Sh_init_17 : decode b_Sh_init 17 = .ok (.return_, 1) := by decide +kernel
abbrev b_Mo_init : ByteArray := prog_13_method_1_code
def y_Mo_init : MethodName := ⟨"CamelStrawsModel", "<init>", "()V"⟩
theorem d_Mo_init_0 : decode b_Mo_init 0 = .ok (.aload_n 0, 1) := by decide +kernel
theorem d_Mo_init_1 : decode b_Mo_init 1 = .ok (.invokespecial 1, 3) := by decide +kernel
theorem d_Mo_init_4 : decode b_Mo_init 4 = .ok (.aload_n 0, 1) := by decide +kernel
theorem d_Mo_init_5 : decode b_Mo_init 5 = .ok (.iconst 2, 1) := by decide +kernel
theorem d_Mo_init_6 : decode b_Mo_init 6 = .ok (.newarray .int, 2) := by decide +kernel
theorem d_Mo_init_8 : decode b_Mo_init 8 = .ok (.putfield 7, 3) := by decide +kernel
theorem d_Mo_init_11 : decode b_Mo_init 11 = .ok (.aload_n 0, 1) := by decide +kernel
theorem d_Mo_init_12 : decode b_Mo_init 12 = .ok (.bipush 78, 2) := by decide +kernel
theorem d_Mo_init_14 : decode b_Mo_init 14 = .ok (.newarray .int, 2) := by decide +kernel
theorem d_Mo_init_16 : decode b_Mo_init 16 = .ok (.putfield 13, 3) := by decide +kernel
theorem d_Mo_init_19 : decode b_Mo_init 19 = .ok (.aload_n 0, 1) := by decide +kernel
theorem d_Mo_init_20 : decode b_Mo_init 20 = .ok (.bipush 9, 2) := by decide +kernel
theorem d_Mo_init_22 : decode b_Mo_init 22 = .ok (.newarray .int, 2) := by decide +kernel
theorem d_Mo_init_24 : decode b_Mo_init 24 = .ok (.putfield 16, 3) := by decide +kernel
theorem d_Mo_init_27 : decode b_Mo_init 27 = .ok (.aload_n 0, 1) := by decide +kernel
theorem d_Mo_init_28 : decode b_Mo_init 28 = .ok (.bipush 9, 2) := by decide +kernel
theorem d_Mo_init_30 : decode b_Mo_init 30 = .ok (.newarray .int, 2) := by decide +kernel
theorem d_Mo_init_32 : decode b_Mo_init 32 = .ok (.putfield 19, 3) := by decide +kernel
theorem d_Mo_init_35 : decode b_Mo_init 35 = .ok (.aload_n 0, 1) := by decide +kernel
theorem d_Mo_init_36 : decode b_Mo_init 36 = .ok (.bipush 11, 2) := by decide +kernel
theorem d_Mo_init_38 : decode b_Mo_init 38 = .ok (.newarray .int, 2) := by decide +kernel
theorem d_Mo_init_40 : decode b_Mo_init 40 = .ok (.putfield 22, 3) := by decide +kernel
theorem d_Mo_init_43 : decode b_Mo_init 43 = .ok (.aload_n 0, 1) := by decide +kernel
theorem d_Mo_init_44 : decode b_Mo_init 44 = .ok (.bipush 11, 2) := by decide +kernel
theorem d_Mo_init_46 : decode b_Mo_init 46 = .ok (.newarray .int, 2) := by decide +kernel
theorem d_Mo_init_48 : decode b_Mo_init 48 = .ok (.putfield 25, 3) := by decide +kernel
theorem d_Mo_init_51 : decode b_Mo_init 51 = .ok (.aload_n 0, 1) := by decide +kernel
theorem d_Mo_init_52 : decode b_Mo_init 52 = .ok (.bipush 11, 2) := by decide +kernel
theorem d_Mo_init_54 : decode b_Mo_init 54 = .ok (.newarray .int, 2) := by decide +kernel
theorem d_Mo_init_56 : decode b_Mo_init 56 = .ok (.putfield 28, 3) := by decide +kernel
theorem d_Mo_init_59 : decode b_Mo_init 59 = .ok (.aload_n 0, 1) := by decide +kernel
theorem d_Mo_init_60 : decode b_Mo_init 60 = .ok (.bipush 8, 2) := by decide +kernel
theorem d_Mo_init_62 : decode b_Mo_init 62 = .ok (.newarray .int, 2) := by decide +kernel
theorem d_Mo_init_64 : decode b_Mo_init 64 = .ok (.putfield 31, 3) := by decide +kernel
theorem d_Mo_init_67 : decode b_Mo_init 67 = .ok (.aload_n 0, 1) := by decide +kernel
theorem d_Mo_init_68 : decode b_Mo_init 68 = .ok (.bipush 8, 2) := by decide +kernel
theorem d_Mo_init_70 : decode b_Mo_init 70 = .ok (.newarray .int, 2) := by decide +kernel
theorem d_Mo_init_72 : decode b_Mo_init 72 = .ok (.putfield 34, 3) := by decide +kernel
theorem d_Mo_init_75 : decode b_Mo_init 75 = .ok (.aload_n 0, 1) := by decide +kernel
theorem d_Mo_init_76 : decode b_Mo_init 76 = .ok (.bipush 17, 2) := by decide +kernel
theorem d_Mo_init_78 : decode b_Mo_init 78 = .ok (.newarray .int, 2) := by decide +kernel
theorem d_Mo_init_80 : decode b_Mo_init 80 = .ok (.putfield 37, 3) := by decide +kernel
theorem d_Mo_init_83 : decode b_Mo_init 83 = .ok (.aload_n 0, 1) := by decide +kernel
theorem d_Mo_init_84 : decode b_Mo_init 84 = .ok (.bipush 17, 2) := by decide +kernel
theorem d_Mo_init_86 : decode b_Mo_init 86 = .ok (.newarray .int, 2) := by decide +kernel
theorem d_Mo_init_88 : decode b_Mo_init 88 = .ok (.putfield 40, 3) := by decide +kernel
theorem d_Mo_init_91 : decode b_Mo_init 91 = .ok (.aload_n 0, 1) := by decide +kernel
theorem d_Mo_init_92 : decode b_Mo_init 92 = .ok (.bipush 8, 2) := by decide +kernel
theorem d_Mo_init_94 : decode b_Mo_init 94 = .ok (.newarray .int, 2) := by decide +kernel
theorem d_Mo_init_96 : decode b_Mo_init 96 = .ok (.putfield 43, 3) := by decide +kernel
theorem d_Mo_init_99 : decode b_Mo_init 99 = .ok (.aload_n 0, 1) := by decide +kernel
theorem d_Mo_init_100 : decode b_Mo_init 100 = .ok (.bipush 8, 2) := by decide +kernel
theorem d_Mo_init_102 : decode b_Mo_init 102 = .ok (.newarray .int, 2) := by decide +kernel
theorem d_Mo_init_104 : decode b_Mo_init 104 = .ok (.putfield 46, 3) := by decide +kernel
theorem d_Mo_init_107 : decode b_Mo_init 107 = .ok (.aload_n 0, 1) := by decide +kernel
theorem d_Mo_init_108 : decode b_Mo_init 108 = .ok (.bipush 8, 2) := by decide +kernel
theorem d_Mo_init_110 : decode b_Mo_init 110 = .ok (.newarray .int, 2) := by decide +kernel
theorem d_Mo_init_112 : decode b_Mo_init 112 = .ok (.putfield 49, 3) := by decide +kernel
theorem d_Mo_init_115 : decode b_Mo_init 115 = .ok (.aload_n 0, 1) := by decide +kernel
theorem d_Mo_init_116 : decode b_Mo_init 116 = .ok (.bipush 8, 2) := by decide +kernel
theorem d_Mo_init_118 : decode b_Mo_init 118 = .ok (.newarray .int, 2) := by decide +kernel
theorem d_Mo_init_120 : decode b_Mo_init 120 = .ok (.putfield 52, 3) := by decide +kernel
theorem d_Mo_init_123 : decode b_Mo_init 123 = .ok (.aload_n 0, 1) := by decide +kernel
theorem d_Mo_init_124 : decode b_Mo_init 124 = .ok (.bipush 8, 2) := by decide +kernel
theorem d_Mo_init_126 : decode b_Mo_init 126 = .ok (.newarray .int, 2) := by decide +kernel
theorem d_Mo_init_128 : decode b_Mo_init 128 = .ok (.putfield 55, 3) := by decide +kernel
theorem d_Mo_init_131 : decode b_Mo_init 131 = .ok (.aload_n 0, 1) := by decide +kernel
theorem d_Mo_init_132 : decode b_Mo_init 132 = .ok (.bipush 8, 2) := by decide +kernel
theorem d_Mo_init_134 : decode b_Mo_init 134 = .ok (.newarray .int, 2) := by decide +kernel
theorem d_Mo_init_136 : decode b_Mo_init 136 = .ok (.putfield 58, 3) := by decide +kernel
theorem d_Mo_init_139 : decode b_Mo_init 139 = .ok (.aload_n 0, 1) := by decide +kernel
theorem d_Mo_init_140 : decode b_Mo_init 140 = .ok (.sipush 192, 3) := by decide +kernel
theorem d_Mo_init_143 : decode b_Mo_init 143 = .ok (.newarray .int, 2) := by decide +kernel
theorem d_Mo_init_145 : decode b_Mo_init 145 = .ok (.putfield 61, 3) := by decide +kernel
theorem d_Mo_init_148 : decode b_Mo_init 148 = .ok (.aload_n 0, 1) := by decide +kernel
theorem d_Mo_init_149 : decode b_Mo_init 149 = .ok (.sipush 192, 3) := by decide +kernel
theorem d_Mo_init_152 : decode b_Mo_init 152 = .ok (.newarray .int, 2) := by decide +kernel
theorem d_Mo_init_154 : decode b_Mo_init 154 = .ok (.putfield 64, 3) := by decide +kernel
theorem d_Mo_init_157 : decode b_Mo_init 157 = .ok (.aload_n 0, 1) := by decide +kernel
theorem d_Mo_init_158 : decode b_Mo_init 158 = .ok (.sipush 192, 3) := by decide +kernel
theorem d_Mo_init_161 : decode b_Mo_init 161 = .ok (.newarray .int, 2) := by decide +kernel
theorem d_Mo_init_163 : decode b_Mo_init 163 = .ok (.putfield 67, 3) := by decide +kernel
theorem d_Mo_init_166 : decode b_Mo_init 166 = .ok (.aload_n 0, 1) := by decide +kernel
theorem d_Mo_init_167 : decode b_Mo_init 167 = .ok (.sipush 192, 3) := by decide +kernel
theorem d_Mo_init_170 : decode b_Mo_init 170 = .ok (.newarray .int, 2) := by decide +kernel
theorem d_Mo_init_172 : decode b_Mo_init 172 = .ok (.putfield 70, 3) := by decide +kernel
theorem d_Mo_init_175 : decode b_Mo_init 175 = .ok (.aload_n 0, 1) := by decide +kernel
theorem d_Mo_init_176 : decode b_Mo_init 176 = .ok (.sipush 192, 3) := by decide +kernel
theorem d_Mo_init_179 : decode b_Mo_init 179 = .ok (.newarray .int, 2) := by decide +kernel
theorem d_Mo_init_181 : decode b_Mo_init 181 = .ok (.putfield 73, 3) := by decide +kernel
theorem d_Mo_init_184 : decode b_Mo_init 184 = .ok (.aload_n 0, 1) := by decide +kernel
theorem d_Mo_init_185 : decode b_Mo_init 185 = .ok (.sipush 192, 3) := by decide +kernel
theorem d_Mo_init_188 : decode b_Mo_init 188 = .ok (.newarray .int, 2) := by decide +kernel
theorem d_Mo_init_190 : decode b_Mo_init 190 = .ok (.putfield 76, 3) := by decide +kernel
theorem d_Mo_init_193 : decode b_Mo_init 193 = .ok (.aload_n 0, 1) := by decide +kernel
theorem d_Mo_init_194 : decode b_Mo_init 194 = .ok (.bipush 24, 2) := by decide +kernel
theorem d_Mo_init_196 : decode b_Mo_init 196 = .ok (.newarray .int, 2) := by decide +kernel
theorem d_Mo_init_198 : decode b_Mo_init 198 = .ok (.putfield 79, 3) := by decide +kernel
theorem d_Mo_init_201 : decode b_Mo_init 201 = .ok (.aload_n 0, 1) := by decide +kernel
theorem d_Mo_init_202 : decode b_Mo_init 202 = .ok (.iconst 2, 1) := by decide +kernel
theorem d_Mo_init_203 : decode b_Mo_init 203 = .ok (.newarray .int, 2) := by decide +kernel
theorem d_Mo_init_205 : decode b_Mo_init 205 = .ok (.putfield 82, 3) := by decide +kernel
theorem d_Mo_init_208 : decode b_Mo_init 208 = .ok (.aload_n 0, 1) := by decide +kernel
theorem d_Mo_init_209 : decode b_Mo_init 209 = .ok (.bipush 8, 2) := by decide +kernel
theorem d_Mo_init_211 : decode b_Mo_init 211 = .ok (.newarray .int, 2) := by decide +kernel
theorem d_Mo_init_213 : decode b_Mo_init 213 = .ok (.putfield 85, 3) := by decide +kernel
theorem d_Mo_init_216 : decode b_Mo_init 216 = .ok (.aload_n 0, 1) := by decide +kernel
theorem d_Mo_init_217 : decode b_Mo_init 217 = .ok (.bipush 8, 2) := by decide +kernel
theorem d_Mo_init_219 : decode b_Mo_init 219 = .ok (.newarray .int, 2) := by decide +kernel
theorem d_Mo_init_221 : decode b_Mo_init 221 = .ok (.putfield 88, 3) := by decide +kernel
theorem d_Mo_init_224 : decode b_Mo_init 224 = .ok (.aload_n 0, 1) := by decide +kernel
theorem d_Mo_init_225 : decode b_Mo_init 225 = .ok (.bipush 8, 2) := by decide +kernel
theorem d_Mo_init_227 : decode b_Mo_init 227 = .ok (.newarray .int, 2) := by decide +kernel
theorem d_Mo_init_229 : decode b_Mo_init 229 = .ok (.putfield 91, 3) := by decide +kernel
theorem d_Mo_init_232 : decode b_Mo_init 232 = .ok (.aload_n 0, 1) := by decide +kernel
theorem d_Mo_init_233 : decode b_Mo_init 233 = .ok (.sipush 240, 3) := by decide +kernel
theorem d_Mo_init_236 : decode b_Mo_init 236 = .ok (.newarray .int, 2) := by decide +kernel
theorem d_Mo_init_238 : decode b_Mo_init 238 = .ok (.putfield 94, 3) := by decide +kernel
theorem d_Mo_init_241 : decode b_Mo_init 241 = .ok (.aload_n 0, 1) := by decide +kernel
theorem d_Mo_init_242 : decode b_Mo_init 242 = .ok (.iconst 4, 1) := by decide +kernel
theorem d_Mo_init_243 : decode b_Mo_init 243 = .ok (.newarray .boolean, 2) := by decide +kernel
theorem d_Mo_init_245 : decode b_Mo_init 245 = .ok (.putfield 97, 3) := by decide +kernel
theorem d_Mo_init_248 : decode b_Mo_init 248 = .ok (.aload_n 0, 1) := by decide +kernel
theorem d_Mo_init_249 : decode b_Mo_init 249 = .ok (.iconst 4, 1) := by decide +kernel
theorem d_Mo_init_250 : decode b_Mo_init 250 = .ok (.newarray .int, 2) := by decide +kernel
theorem d_Mo_init_252 : decode b_Mo_init 252 = .ok (.putfield 101, 3) := by decide +kernel
theorem d_Mo_init_255 : decode b_Mo_init 255 = .ok (.aload_n 0, 1) := by decide +kernel
theorem d_Mo_init_256 : decode b_Mo_init 256 = .ok (.iconst 4, 1) := by decide +kernel
theorem d_Mo_init_257 : decode b_Mo_init 257 = .ok (.newarray .int, 2) := by decide +kernel
theorem d_Mo_init_259 : decode b_Mo_init 259 = .ok (.putfield 104, 3) := by decide +kernel
theorem d_Mo_init_262 : decode b_Mo_init 262 = .ok (.aload_n 0, 1) := by decide +kernel
theorem d_Mo_init_263 : decode b_Mo_init 263 = .ok (.sipush 240, 3) := by decide +kernel
theorem d_Mo_init_266 : decode b_Mo_init 266 = .ok (.newarray .int, 2) := by decide +kernel
theorem d_Mo_init_268 : decode b_Mo_init 268 = .ok (.putfield 107, 3) := by decide +kernel
theorem d_Mo_init_271 : decode b_Mo_init 271 = .ok (.aload_n 0, 1) := by decide +kernel
theorem d_Mo_init_272 : decode b_Mo_init 272 = .ok (.bipush 60, 2) := by decide +kernel
theorem d_Mo_init_274 : decode b_Mo_init 274 = .ok (.newarray .int, 2) := by decide +kernel
theorem d_Mo_init_276 : decode b_Mo_init 276 = .ok (.putfield 110, 3) := by decide +kernel
theorem d_Mo_init_279 : decode b_Mo_init 279 = .ok (.return_, 1) := by decide +kernel
theorem wk_CS_1 : Cond.methodLink "CamelStraws" 1 Lib.objectInit ∈ tb_l := (tb_in 90 (by decide +kernel) rfl)
theorem wo_init : Cond.instanceMethod Lib.objectInit ∈ tb_l ∧ Cond.code Lib.objectInit ⟨#[0xb1]⟩ 1 none ∈ tb_l := ⟨(tb_in 91 (by decide +kernel) rfl), (tb_in 92 (by decide +kernel) rfl)⟩
theorem wc_CS_7 : Cond.classLink "CamelStraws" 7 "CamelStraws$Camels" ∈ tb_l := (tb_in 93 (by decide +kernel) rfl)
theorem wI_Ca : Cond.instantiable "CamelStraws$Camels" 7 ∈ tb_l := (tb_in 94 (by decide +kernel) rfl)
theorem wt_Ca : Cond.initialized "CamelStraws$Camels" ∈ tb_l := (tb_in 71 (by decide +kernel) rfl)
theorem wk_Tx_3 : Cond.methodLink "CamelStraws$Text" 3 Lib.objectInit ∈ tb_l := (tb_in 101 (by decide +kernel) rfl)
theorem wf_Tx_9 : Cond.fieldLink "CamelStraws$Text" 9 "CamelStraws$Text" "faultPlace" "I" ∈ tb_l := (tb_in 121 (by decide +kernel) rfl)
theorem wa_int : Cond.arrayClass .int ∈ tb_l := (tb_in 146 (by decide +kernel) rfl)
theorem wf_Tx_15 : Cond.fieldLink "CamelStraws$Text" 15 "CamelStraws$Text" "bytes" "[I" ∈ tb_l := (tb_in 109 (by decide +kernel) rfl)
theorem wf_Tx_19 : Cond.fieldLink "CamelStraws$Text" 19 "CamelStraws$Text" "period" "I" ∈ tb_l := (tb_in 114 (by decide +kernel) rfl)
theorem wk_Ca_3 : Cond.methodLink "CamelStraws$Camels" 3 y_Tx_init ∈ tb_l := (tb_in 98 (by decide +kernel) rfl)
theorem ok_Tx_init : MOk y_Tx_init b_Tx_init 3 none 2 := ⟨(tb_in 100 (by decide +kernel) rfl), (tb_in 70 (by decide +kernel) rfl), by decide +kernel, by decide +kernel, by decide +kernel⟩
theorem wi_Tx_init : Cond.instanceMethod y_Tx_init ∈ tb_l := (tb_in 99 (by decide +kernel) rfl)
theorem wf_Ca_9 : Cond.fieldLink "CamelStraws$Camels" 9 "CamelStraws$Camels" "sorts" "[I" ∈ tb_l := (tb_in 102 (by decide +kernel) rfl)
theorem wf_Ca_15 : Cond.fieldLink "CamelStraws$Camels" 15 "CamelStraws$Camels" "figures" "[I" ∈ tb_l := (tb_in 105 (by decide +kernel) rfl)
theorem wk_CS_9 : Cond.methodLink "CamelStraws" 9 y_Ca_init ∈ tb_l := (tb_in 95 (by decide +kernel) rfl)
theorem ok_Ca_init : MOk y_Ca_init b_Ca_init 1 none 0 := ⟨(tb_in 97 (by decide +kernel) rfl), (tb_in 71 (by decide +kernel) rfl), by decide +kernel, by decide +kernel, by decide +kernel⟩
theorem wi_Ca_init : Cond.instanceMethod y_Ca_init ∈ tb_l := (tb_in 96 (by decide +kernel) rfl)
theorem wf_CS_10 : Cond.fieldLink "CamelStraws" 10 "CamelStraws" "camels" "LCamelStraws$Camels;" ∈ tb_l := (tb_in 366 (by decide +kernel) rfl)
theorem wc_CS_16 : Cond.classLink "CamelStraws" 16 "CamelStraws$Bales" ∈ tb_l := (tb_in 147 (by decide +kernel) rfl)
theorem wI_Ba : Cond.instantiable "CamelStraws$Bales" 8 ∈ tb_l := (tb_in 148 (by decide +kernel) rfl)
theorem wt_Ba : Cond.initialized "CamelStraws$Bales" ∈ tb_l := (tb_in 72 (by decide +kernel) rfl)
theorem wk_Ba_3 : Cond.methodLink "CamelStraws$Bales" 3 y_Tx_init ∈ tb_l := (tb_in 152 (by decide +kernel) rfl)
theorem wf_Ba_9 : Cond.fieldLink "CamelStraws$Bales" 9 "CamelStraws$Bales" "camels" "[I" ∈ tb_l := (tb_in 153 (by decide +kernel) rfl)
theorem wf_Ba_15 : Cond.fieldLink "CamelStraws$Bales" 15 "CamelStraws$Bales" "weights" "[I" ∈ tb_l := (tb_in 157 (by decide +kernel) rfl)
theorem wf_Ba_18 : Cond.fieldLink "CamelStraws$Bales" 18 "CamelStraws$Bales" "days" "[I" ∈ tb_l := (tb_in 160 (by decide +kernel) rfl)
theorem wk_CS_18 : Cond.methodLink "CamelStraws" 18 y_Ba_init ∈ tb_l := (tb_in 149 (by decide +kernel) rfl)
theorem ok_Ba_init : MOk y_Ba_init b_Ba_init 1 none 0 := ⟨(tb_in 151 (by decide +kernel) rfl), (tb_in 72 (by decide +kernel) rfl), by decide +kernel, by decide +kernel, by decide +kernel⟩
theorem wi_Ba_init : Cond.instanceMethod y_Ba_init ∈ tb_l := (tb_in 150 (by decide +kernel) rfl)
theorem wf_CS_19 : Cond.fieldLink "CamelStraws" 19 "CamelStraws" "bales" "LCamelStraws$Bales;" ∈ tb_l := (tb_in 367 (by decide +kernel) rfl)
theorem wc_CS_23 : Cond.classLink "CamelStraws" 23 "CamelStraws$Text" ∈ tb_l := (tb_in 176 (by decide +kernel) rfl)
theorem wv_Tx : Cond.arrayOver (.object "CamelStraws$Text") ∈ tb_l := (tb_in 177 (by decide +kernel) rfl)
theorem wq_Ca_Tx : Cond.castable "CamelStraws$Camels" "CamelStraws$Text" ∈ tb_l := (tb_in 1394 (by decide +kernel) rfl)
theorem wq_Ba_Tx : Cond.castable "CamelStraws$Bales" "CamelStraws$Text" ∈ tb_l := (tb_in 1395 (by decide +kernel) rfl)
theorem wf_CS_25 : Cond.fieldLink "CamelStraws" 25 "CamelStraws" "texts" "[LCamelStraws$Text;" ∈ tb_l := (tb_in 368 (by decide +kernel) rfl)
theorem wc_CS_29 : Cond.classLink "CamelStraws" 29 "CamelStraws$Straws" ∈ tb_l := (tb_in 178 (by decide +kernel) rfl)
theorem wI_St : Cond.instantiable "CamelStraws$Straws" 3 ∈ tb_l := (tb_in 179 (by decide +kernel) rfl)
theorem wt_St : Cond.initialized "CamelStraws$Straws" ∈ tb_l := (tb_in 73 (by decide +kernel) rfl)
theorem wk_St_3 : Cond.methodLink "CamelStraws$Straws" 3 Lib.objectInit ∈ tb_l := (tb_in 183 (by decide +kernel) rfl)
theorem wf_St_9 : Cond.fieldLink "CamelStraws$Straws" 9 "CamelStraws$Straws" "days" "[I" ∈ tb_l := (tb_in 184 (by decide +kernel) rfl)
theorem wf_St_15 : Cond.fieldLink "CamelStraws$Straws" 15 "CamelStraws$Straws" "camels" "[I" ∈ tb_l := (tb_in 186 (by decide +kernel) rfl)
theorem wk_CS_31 : Cond.methodLinkNest "CamelStraws" 31 y_St_init "CamelStraws" ∈ tb_l := (tb_in 180 (by decide +kernel) rfl)
theorem ok_St_init : MOk y_St_init b_St_init 1 none 0 := ⟨(tb_in 182 (by decide +kernel) rfl), (tb_in 73 (by decide +kernel) rfl), by decide +kernel, by decide +kernel, by decide +kernel⟩
theorem wi_St_init : Cond.instanceMethod y_St_init ∈ tb_l := (tb_in 181 (by decide +kernel) rfl)
theorem wf_CS_32 : Cond.fieldLink "CamelStraws" 32 "CamelStraws" "straws" "LCamelStraws$Straws;" ∈ tb_l := (tb_in 369 (by decide +kernel) rfl)
theorem wf_CS_36 : Cond.fieldLink "CamelStraws" 36 "CamelStraws" "drawn" "LCamelStraws$Straws;" ∈ tb_l := (tb_in 370 (by decide +kernel) rfl)
theorem wc_CS_39 : Cond.classLink "CamelStraws" 39 "CamelStraws$Caravan" ∈ tb_l := (tb_in 200 (by decide +kernel) rfl)
theorem wI_Cv : Cond.instantiable "CamelStraws$Caravan" 6 ∈ tb_l := (tb_in 201 (by decide +kernel) rfl)
theorem wt_Cv : Cond.initialized "CamelStraws$Caravan" ∈ tb_l := (tb_in 74 (by decide +kernel) rfl)
theorem wk_Cv_3 : Cond.methodLink "CamelStraws$Caravan" 3 Lib.objectInit ∈ tb_l := (tb_in 205 (by decide +kernel) rfl)
theorem wc_Cv_9 : Cond.classLink "CamelStraws$Caravan" 9 "CamelStraws$Walk" ∈ tb_l := (tb_in 206 (by decide +kernel) rfl)
theorem wI_Wa : Cond.instantiable "CamelStraws$Walk" 13 ∈ tb_l := (tb_in 207 (by decide +kernel) rfl)
theorem wt_Wa : Cond.initialized "CamelStraws$Walk" ∈ tb_l := (tb_in 75 (by decide +kernel) rfl)
theorem wk_Wa_3 : Cond.methodLink "CamelStraws$Walk" 3 Lib.objectInit ∈ tb_l := (tb_in 211 (by decide +kernel) rfl)
theorem wf_Wa_9 : Cond.fieldLink "CamelStraws$Walk" 9 "CamelStraws$Walk" "kept" "[I" ∈ tb_l := (tb_in 212 (by decide +kernel) rfl)
theorem wk_Cv_11 : Cond.methodLinkNest "CamelStraws$Caravan" 11 y_Wa_init "CamelStraws" ∈ tb_l := (tb_in 208 (by decide +kernel) rfl)
theorem ok_Wa_init : MOk y_Wa_init b_Wa_init 1 none 0 := ⟨(tb_in 210 (by decide +kernel) rfl), (tb_in 75 (by decide +kernel) rfl), by decide +kernel, by decide +kernel, by decide +kernel⟩
theorem wi_Wa_init : Cond.instanceMethod y_Wa_init ∈ tb_l := (tb_in 209 (by decide +kernel) rfl)
theorem wf_Cv_12 : Cond.fieldLink "CamelStraws$Caravan" 12 "CamelStraws$Caravan" "walk" "LCamelStraws$Walk;" ∈ tb_l := (tb_in 269 (by decide +kernel) rfl)
theorem wf_Cv_18 : Cond.fieldLink "CamelStraws$Caravan" 18 "CamelStraws$Caravan" "strengths" "[I" ∈ tb_l := (tb_in 270 (by decide +kernel) rfl)
theorem wf_Cv_22 : Cond.fieldLink "CamelStraws$Caravan" 22 "CamelStraws$Caravan" "camels" "LCamelStraws$Camels;" ∈ tb_l := (tb_in 256 (by decide +kernel) rfl)
theorem wf_Cv_26 : Cond.fieldLink "CamelStraws$Caravan" 26 "CamelStraws$Caravan" "bales" "LCamelStraws$Bales;" ∈ tb_l := (tb_in 258 (by decide +kernel) rfl)
theorem wf_Cv_30 : Cond.fieldLink "CamelStraws$Caravan" 30 "CamelStraws$Caravan" "straws" "LCamelStraws$Straws;" ∈ tb_l := (tb_in 260 (by decide +kernel) rfl)
theorem wk_CS_41 : Cond.methodLink "CamelStraws" 41 y_Cv_init ∈ tb_l := (tb_in 202 (by decide +kernel) rfl)
theorem ok_Cv_init : MOk y_Cv_init b_Cv_init 4 none 3 := ⟨(tb_in 204 (by decide +kernel) rfl), (tb_in 74 (by decide +kernel) rfl), by decide +kernel, by decide +kernel, by decide +kernel⟩
theorem wi_Cv_init : Cond.instanceMethod y_Cv_init ∈ tb_l := (tb_in 203 (by decide +kernel) rfl)
theorem wf_CS_44 : Cond.fieldLink "CamelStraws" 44 "CamelStraws" "caravan" "LCamelStraws$Caravan;" ∈ tb_l := (tb_in 371 (by decide +kernel) rfl)
theorem wc_CS_48 : Cond.classLink "CamelStraws" 48 "CamelStraws$Plans" ∈ tb_l := (tb_in 284 (by decide +kernel) rfl)
theorem wI_Pl : Cond.instantiable "CamelStraws$Plans" 3 ∈ tb_l := (tb_in 285 (by decide +kernel) rfl)
theorem wt_Pl : Cond.initialized "CamelStraws$Plans" ∈ tb_l := (tb_in 76 (by decide +kernel) rfl)
theorem wk_Pl_3 : Cond.methodLink "CamelStraws$Plans" 3 Lib.objectInit ∈ tb_l := (tb_in 289 (by decide +kernel) rfl)
theorem wf_Pl_9 : Cond.fieldLink "CamelStraws$Plans" 9 "CamelStraws$Plans" "caravan" "LCamelStraws$Caravan;" ∈ tb_l := (tb_in 290 (by decide +kernel) rfl)
theorem wk_CS_50 : Cond.methodLink "CamelStraws" 50 y_Pl_init ∈ tb_l := (tb_in 286 (by decide +kernel) rfl)
theorem ok_Pl_init : MOk y_Pl_init b_Pl_init 2 none 1 := ⟨(tb_in 288 (by decide +kernel) rfl), (tb_in 76 (by decide +kernel) rfl), by decide +kernel, by decide +kernel, by decide +kernel⟩
theorem wi_Pl_init : Cond.instanceMethod y_Pl_init ∈ tb_l := (tb_in 287 (by decide +kernel) rfl)
theorem wf_CS_53 : Cond.fieldLink "CamelStraws" 53 "CamelStraws" "plans" "LCamelStraws$Plans;" ∈ tb_l := (tb_in 372 (by decide +kernel) rfl)
theorem wc_CS_57 : Cond.classLink "CamelStraws" 57 "CamelStraws$Guesses" ∈ tb_l := (tb_in 302 (by decide +kernel) rfl)
theorem wI_Gu : Cond.instantiable "CamelStraws$Guesses" 6 ∈ tb_l := (tb_in 303 (by decide +kernel) rfl)
theorem wt_Gu : Cond.initialized "CamelStraws$Guesses" ∈ tb_l := (tb_in 77 (by decide +kernel) rfl)
theorem wk_Gu_3 : Cond.methodLink "CamelStraws$Guesses" 3 Lib.objectInit ∈ tb_l := (tb_in 307 (by decide +kernel) rfl)
theorem wf_Gu_9 : Cond.fieldLink "CamelStraws$Guesses" 9 "CamelStraws$Guesses" "days" "[I" ∈ tb_l := (tb_in 309 (by decide +kernel) rfl)
theorem wf_Gu_15 : Cond.fieldLink "CamelStraws$Guesses" 15 "CamelStraws$Guesses" "places" "[I" ∈ tb_l := (tb_in 310 (by decide +kernel) rfl)
theorem wf_Gu_18 : Cond.fieldLink "CamelStraws$Guesses" 18 "CamelStraws$Guesses" "loads" "[I" ∈ tb_l := (tb_in 311 (by decide +kernel) rfl)
theorem wf_Gu_21 : Cond.fieldLink "CamelStraws$Guesses" 21 "CamelStraws$Guesses" "loadsByFigure" "[I" ∈ tb_l := (tb_in 314 (by decide +kernel) rfl)
theorem wf_Gu_24 : Cond.fieldLink "CamelStraws$Guesses" 24 "CamelStraws$Guesses" "caravan" "LCamelStraws$Caravan;" ∈ tb_l := (tb_in 308 (by decide +kernel) rfl)
theorem wk_CS_59 : Cond.methodLink "CamelStraws" 59 y_Gu_init ∈ tb_l := (tb_in 304 (by decide +kernel) rfl)
theorem ok_Gu_init : MOk y_Gu_init b_Gu_init 2 none 1 := ⟨(tb_in 306 (by decide +kernel) rfl), (tb_in 77 (by decide +kernel) rfl), by decide +kernel, by decide +kernel, by decide +kernel⟩
theorem wi_Gu_init : Cond.instanceMethod y_Gu_init ∈ tb_l := (tb_in 305 (by decide +kernel) rfl)
theorem wf_CS_60 : Cond.fieldLink "CamelStraws" 60 "CamelStraws" "guesses" "LCamelStraws$Guesses;" ∈ tb_l := (tb_in 373 (by decide +kernel) rfl)
theorem wc_CS_64 : Cond.classLink "CamelStraws" 64 "CamelStraws$Odds" ∈ tb_l := (tb_in 328 (by decide +kernel) rfl)
theorem wI_Od : Cond.instantiable "CamelStraws$Odds" 3 ∈ tb_l := (tb_in 329 (by decide +kernel) rfl)
theorem wt_Od : Cond.initialized "CamelStraws$Odds" ∈ tb_l := (tb_in 78 (by decide +kernel) rfl)
theorem wk_Od_3 : Cond.methodLink "CamelStraws$Odds" 3 Lib.objectInit ∈ tb_l := (tb_in 333 (by decide +kernel) rfl)
theorem wf_Od_9 : Cond.fieldLink "CamelStraws$Odds" 9 "CamelStraws$Odds" "caravan" "LCamelStraws$Caravan;" ∈ tb_l := (tb_in 334 (by decide +kernel) rfl)
theorem wk_CS_66 : Cond.methodLink "CamelStraws" 66 y_Od_init ∈ tb_l := (tb_in 330 (by decide +kernel) rfl)
theorem ok_Od_init : MOk y_Od_init b_Od_init 2 none 1 := ⟨(tb_in 332 (by decide +kernel) rfl), (tb_in 78 (by decide +kernel) rfl), by decide +kernel, by decide +kernel, by decide +kernel⟩
theorem wi_Od_init : Cond.instanceMethod y_Od_init ∈ tb_l := (tb_in 331 (by decide +kernel) rfl)
theorem wf_CS_67 : Cond.fieldLink "CamelStraws" 67 "CamelStraws" "odds" "LCamelStraws$Odds;" ∈ tb_l := (tb_in 374 (by decide +kernel) rfl)
theorem wc_CS_71 : Cond.classLink "CamelStraws" 71 "CamelStraws$Sheet" ∈ tb_l := (tb_in 346 (by decide +kernel) rfl)
theorem wv_Sh : Cond.arrayOver (.object "CamelStraws$Sheet") ∈ tb_l := (tb_in 347 (by decide +kernel) rfl)
theorem wI_Sh : Cond.instantiable "CamelStraws$Sheet" 3 ∈ tb_l := (tb_in 348 (by decide +kernel) rfl)
theorem wt_Sh : Cond.initialized "CamelStraws$Sheet" ∈ tb_l := (tb_in 79 (by decide +kernel) rfl)
theorem wk_Sh_3 : Cond.methodLink "CamelStraws$Sheet" 3 Lib.objectInit ∈ tb_l := (tb_in 352 (by decide +kernel) rfl)
theorem wf_Sh_9 : Cond.fieldLink "CamelStraws$Sheet" 9 "CamelStraws$Sheet" "items" "[I" ∈ tb_l := (tb_in 353 (by decide +kernel) rfl)
theorem wf_Sh_15 : Cond.fieldLink "CamelStraws$Sheet" 15 "CamelStraws$Sheet" "form" "I" ∈ tb_l := (tb_in 355 (by decide +kernel) rfl)
theorem wk_CS_73 : Cond.methodLinkNest "CamelStraws" 73 y_Sh_init "CamelStraws" ∈ tb_l := (tb_in 349 (by decide +kernel) rfl)
theorem ok_Sh_init : MOk y_Sh_init b_Sh_init 1 none 0 := ⟨(tb_in 351 (by decide +kernel) rfl), (tb_in 79 (by decide +kernel) rfl), by decide +kernel, by decide +kernel, by decide +kernel⟩
theorem wi_Sh_init : Cond.instanceMethod y_Sh_init ∈ tb_l := (tb_in 350 (by decide +kernel) rfl)
theorem wf_CS_74 : Cond.fieldLink "CamelStraws" 74 "CamelStraws" "sheets" "[LCamelStraws$Sheet;" ∈ tb_l := (tb_in 375 (by decide +kernel) rfl)
theorem wk_Mo_1 : Cond.methodLink "CamelStrawsModel" 1 Lib.objectInit ∈ tb_l := (tb_in 868 (by decide +kernel) rfl)
theorem wf_Mo_7 : Cond.fieldLink "CamelStrawsModel" 7 "CamelStrawsModel" "typed" "[I" ∈ tb_l := (tb_in 869 (by decide +kernel) rfl)
theorem wf_Mo_13 : Cond.fieldLink "CamelStrawsModel" 13 "CamelStrawsModel" "texts" "[I" ∈ tb_l := (tb_in 870 (by decide +kernel) rfl)
theorem wf_Mo_16 : Cond.fieldLink "CamelStrawsModel" 16 "CamelStrawsModel" "sorts" "[I" ∈ tb_l := (tb_in 872 (by decide +kernel) rfl)
theorem wf_Mo_19 : Cond.fieldLink "CamelStrawsModel" 19 "CamelStrawsModel" "figures" "[I" ∈ tb_l := (tb_in 873 (by decide +kernel) rfl)
theorem wf_Mo_22 : Cond.fieldLink "CamelStrawsModel" 22 "CamelStrawsModel" "baleOn" "[I" ∈ tb_l := (tb_in 875 (by decide +kernel) rfl)
theorem wf_Mo_25 : Cond.fieldLink "CamelStrawsModel" 25 "CamelStrawsModel" "baleBy" "[I" ∈ tb_l := (tb_in 876 (by decide +kernel) rfl)
theorem wf_Mo_28 : Cond.fieldLink "CamelStrawsModel" 28 "CamelStrawsModel" "baleDay" "[I" ∈ tb_l := (tb_in 877 (by decide +kernel) rfl)
theorem wf_Mo_31 : Cond.fieldLink "CamelStrawsModel" 31 "CamelStrawsModel" "strawDay" "[I" ∈ tb_l := (tb_in 879 (by decide +kernel) rfl)
theorem wf_Mo_34 : Cond.fieldLink "CamelStrawsModel" 34 "CamelStrawsModel" "strawOn" "[I" ∈ tb_l := (tb_in 880 (by decide +kernel) rfl)
theorem wf_Mo_37 : Cond.fieldLink "CamelStrawsModel" 37 "CamelStrawsModel" "dayNow" "[I" ∈ tb_l := (tb_in 882 (by decide +kernel) rfl)
theorem wf_Mo_40 : Cond.fieldLink "CamelStrawsModel" 40 "CamelStrawsModel" "onNow" "[I" ∈ tb_l := (tb_in 883 (by decide +kernel) rfl)
theorem wf_Mo_43 : Cond.fieldLink "CamelStrawsModel" 43 "CamelStrawsModel" "loads" "[I" ∈ tb_l := (tb_in 886 (by decide +kernel) rfl)
theorem wf_Mo_46 : Cond.fieldLink "CamelStrawsModel" 46 "CamelStrawsModel" "strengths" "[I" ∈ tb_l := (tb_in 887 (by decide +kernel) rfl)
theorem wf_Mo_49 : Cond.fieldLink "CamelStrawsModel" 49 "CamelStrawsModel" "lies" "[I" ∈ tb_l := (tb_in 888 (by decide +kernel) rfl)
theorem wf_Mo_52 : Cond.fieldLink "CamelStrawsModel" 52 "CamelStrawsModel" "fees" "[I" ∈ tb_l := (tb_in 889 (by decide +kernel) rfl)
theorem wf_Mo_55 : Cond.fieldLink "CamelStrawsModel" 55 "CamelStrawsModel" "brought" "[I" ∈ tb_l := (tb_in 890 (by decide +kernel) rfl)
theorem wf_Mo_58 : Cond.fieldLink "CamelStrawsModel" 58 "CamelStrawsModel" "broke" "[I" ∈ tb_l := (tb_in 891 (by decide +kernel) rfl)
theorem wf_Mo_61 : Cond.fieldLink "CamelStrawsModel" 61 "CamelStrawsModel" "loadAt" "[I" ∈ tb_l := (tb_in 895 (by decide +kernel) rfl)
theorem wf_Mo_64 : Cond.fieldLink "CamelStrawsModel" 64 "CamelStrawsModel" "strengthAt" "[I" ∈ tb_l := (tb_in 896 (by decide +kernel) rfl)
theorem wf_Mo_67 : Cond.fieldLink "CamelStrawsModel" 67 "CamelStrawsModel" "lieAt" "[I" ∈ tb_l := (tb_in 897 (by decide +kernel) rfl)
theorem wf_Mo_70 : Cond.fieldLink "CamelStrawsModel" 70 "CamelStrawsModel" "feeAt" "[I" ∈ tb_l := (tb_in 898 (by decide +kernel) rfl)
theorem wf_Mo_73 : Cond.fieldLink "CamelStrawsModel" 73 "CamelStrawsModel" "broughtAt" "[I" ∈ tb_l := (tb_in 899 (by decide +kernel) rfl)
theorem wf_Mo_76 : Cond.fieldLink "CamelStrawsModel" 76 "CamelStrawsModel" "brokeAt" "[I" ∈ tb_l := (tb_in 900 (by decide +kernel) rfl)
theorem wf_Mo_79 : Cond.fieldLink "CamelStrawsModel" 79 "CamelStrawsModel" "lastAt" "[I" ∈ tb_l := (tb_in 901 (by decide +kernel) rfl)
theorem wf_Mo_82 : Cond.fieldLink "CamelStrawsModel" 82 "CamelStrawsModel" "planRow" "[I" ∈ tb_l := (tb_in 902 (by decide +kernel) rfl)
theorem wf_Mo_85 : Cond.fieldLink "CamelStrawsModel" 85 "CamelStrawsModel" "seenDay" "[I" ∈ tb_l := (tb_in 904 (by decide +kernel) rfl)
theorem wf_Mo_88 : Cond.fieldLink "CamelStrawsModel" 88 "CamelStrawsModel" "seenWho" "[I" ∈ tb_l := (tb_in 905 (by decide +kernel) rfl)
theorem wf_Mo_91 : Cond.fieldLink "CamelStrawsModel" 91 "CamelStrawsModel" "seenLoad" "[I" ∈ tb_l := (tb_in 906 (by decide +kernel) rfl)
theorem wf_Mo_94 : Cond.fieldLink "CamelStrawsModel" 94 "CamelStrawsModel" "loadBy" "[I" ∈ tb_l := (tb_in 907 (by decide +kernel) rfl)
theorem wa_boolean : Cond.arrayClass .boolean ∈ tb_l := (tb_in 1005 (by decide +kernel) rfl)
theorem wf_Mo_97 : Cond.fieldLink "CamelStrawsModel" 97 "CamelStrawsModel" "isThere" "[Z" ∈ tb_l := (tb_in 908 (by decide +kernel) rfl)
theorem wf_Mo_101 : Cond.fieldLink "CamelStrawsModel" 101 "CamelStrawsModel" "forms" "[I" ∈ tb_l := (tb_in 909 (by decide +kernel) rfl)
theorem wf_Mo_104 : Cond.fieldLink "CamelStrawsModel" 104 "CamelStrawsModel" "sizes" "[I" ∈ tb_l := (tb_in 910 (by decide +kernel) rfl)
theorem wf_Mo_107 : Cond.fieldLink "CamelStrawsModel" 107 "CamelStrawsModel" "items" "[I" ∈ tb_l := (tb_in 911 (by decide +kernel) rfl)
theorem wf_Mo_110 : Cond.fieldLink "CamelStrawsModel" 110 "CamelStrawsModel" "moved" "[I" ∈ tb_l := (tb_in 912 (by decide +kernel) rfl)
set_option maxRecDepth 20000 in
set_option maxHeartbeats 4000000 in
theorem n_Tx_init_Ca (l : Launch) (g : GG) (aa : Nat) (w0 : va_W) : CtW l g y_Tx_init b_Tx_init 3 ({ frames := 1, cells := 1, slots := 23, locals := 12 } : Room) [.ref aa, .int 8, .int 3] ((aa, .inr (2, [.null, .int 0, .int 0, .int 0, .int 0, .null, .null])) :: w0) (fun ws2 => ∃ (q1 : Nat), ws2 = (q1, .inl (g.2.1, 23, .inl (fun _ => 0))) :: (aa, .inr (2, [.ref q1, .int 3, .int 0, .int (-1), .int 0, .null, .null])) :: w0) 1 23 := by
  refine CtW.of (by decide) rfl (Nat.le_of_ble_eq_true rfl) ?_
  refine V_sub [0, 1, 2] (lv' := [(0, .ref aa), (1, .int 8), (2, .int 3)]) rfl ?_
  refine V_aload_n 0 rfl d_Tx_init_0 ?_
  refine V_objinit wk_Tx_3 wo_init.1 wo_init.2 (Nat.le_of_ble_eq_true rfl) (Nat.le_of_ble_eq_true rfl) d_Tx_init_1 ?_
  refine V_aload_n 0 rfl d_Tx_init_4 ?_
  refine V_iconst (v := (-1)) rfl d_Tx_init_5 ?_
  refine V_putW (q0 := 0) (j := 3) cq_2 rfl (by decide) (Nat.le_of_ble_eq_true rfl) wf_Tx_9 (Or.inl rfl) rfl rfl d_Tx_init_6 ?_
  refine V_ws (ws' := (aa, .inr (2, [.null, .int 0, .int 0, .int (-1), .int 0, .null, .null])) :: w0) rfl ?_
  refine V_aload_n 0 rfl d_Tx_init_9 ?_
  refine V_iload_n 1 rfl d_Tx_init_10 ?_
  refine V_iload_n 2 rfl d_Tx_init_11 ?_
  refine V_imul d_Tx_init_12 ?_
  refine V_st (st' := [.int 24, .ref aa]) rfl ?_
  refine V_iconst (v := 1) rfl d_Tx_init_13 ?_
  refine V_isub d_Tx_init_14 ?_
  refine V_st (st' := [.int 23, .ref aa]) rfl ?_
  refine V_newI (N := 23) wa_int (by decide) (by decide) (by decide) (Nat.le_of_ble_eq_true rfl) (Nat.le_of_ble_eq_true rfl) d_Tx_init_15 (fun q1 => ?_)
  refine V_putW (q0 := 1) (j := 0) cq_2 rfl (by decide) (Nat.le_of_ble_eq_true rfl) wf_Tx_15 (Or.inr ⟨rfl, rfl, rfl⟩) rfl rfl d_Tx_init_17 ?_
  refine V_ws (ws' := (q1, .inl (g.2.1, 23, .inl (fun _ => 0))) :: (aa, .inr (2, [.ref q1, .int 0, .int 0, .int (-1), .int 0, .null, .null])) :: w0) rfl ?_
  refine V_aload_n 0 rfl d_Tx_init_20 ?_
  refine V_iload_n 2 rfl d_Tx_init_21 ?_
  refine V_putW (q0 := 1) (j := 1) cq_2 rfl (by decide) (Nat.le_of_ble_eq_true rfl) wf_Tx_19 (Or.inr ⟨rfl, rfl, rfl⟩) rfl rfl d_Tx_init_22 ?_
  refine V_ws (ws' := (q1, .inl (g.2.1, 23, .inl (fun _ => 0))) :: (aa, .inr (2, [.ref q1, .int 3, .int 0, .int (-1), .int 0, .null, .null])) :: w0) rfl ?_
  exact V_vret (Nat.le_of_ble_eq_true rfl) (Nat.le_of_ble_eq_true rfl) d_Tx_init_25 rfl ⟨rfl, q1, rfl⟩
set_option maxRecDepth 20000 in
set_option maxHeartbeats 4000000 in
theorem n_Ca_init (l : Launch) (g : GG) (aa : Nat) (w0 : va_W) : CtW l g y_Ca_init b_Ca_init 1 ({ frames := 2, cells := 3, slots := 39, locals := 34 } : Room) [.ref aa] ((aa, .inr (2, [.null, .int 0, .int 0, .int 0, .int 0, .null, .null])) :: w0) (fun ws2 => ∃ (q1 : Nat) (q2 : Nat) (q3 : Nat), ws2 = (q3, .inl (g.2.1, 8, .inl (fun _ => 0))) :: (q2, .inl (g.2.1, 8, .inl (fun _ => 0))) :: (q1, .inl (g.2.1, 23, .inl (fun _ => 0))) :: (aa, .inr (2, [.ref q1, .int 3, .int 0, .int (-1), .int 0, .ref q2, .ref q3])) :: w0) 3 39 := by
  refine CtW.of (by decide) rfl (Nat.le_of_ble_eq_true rfl) ?_
  refine V_sub [0] (lv' := [(0, .ref aa)]) rfl ?_
  refine V_aload_n 0 rfl d_Ca_init_0 ?_
  refine V_bipush (v := 8) rfl d_Ca_init_1 ?_
  refine V_iconst (v := 3) rfl d_Ca_init_3 ?_
  refine V_callI (rest := []) (n_Tx_init_Ca l g _ _) ok_Tx_init rfl wi_Tx_init wk_Ca_3 ⟨⟨rfl, rfl⟩, ⟨(Nat.le_of_ble_eq_true rfl), (Nat.le_of_ble_eq_true rfl)⟩, (Nat.le_of_ble_eq_true rfl), (Nat.le_of_ble_eq_true rfl)⟩ rfl rfl (Nat.le_of_ble_eq_true rfl) d_Ca_init_4 (fun ws9 hq9 => ?_)
  obtain ⟨q1, rfl⟩ := hq9
  refine V_ws (ws' := (q1, .inl (g.2.1, 23, .inl (fun _ => 0))) :: (aa, .inr (2, [.ref q1, .int 3, .int 0, .int (-1), .int 0, .null, .null])) :: w0) rfl ?_
  refine V_aload_n 0 rfl d_Ca_init_7 ?_
  refine V_bipush (v := 8) rfl d_Ca_init_8 ?_
  refine V_newI (N := 8) wa_int (by decide) (by decide) (by decide) (Nat.le_of_ble_eq_true rfl) (Nat.le_of_ble_eq_true rfl) d_Ca_init_10 (fun q2 => ?_)
  refine V_putW (q0 := 2) (j := 5) cq_2 rfl (by decide) (Nat.le_of_ble_eq_true rfl) wf_Ca_9 (Or.inr ⟨rfl, rfl, rfl⟩) rfl rfl d_Ca_init_12 ?_
  refine V_ws (ws' := (q2, .inl (g.2.1, 8, .inl (fun _ => 0))) :: (q1, .inl (g.2.1, 23, .inl (fun _ => 0))) :: (aa, .inr (2, [.ref q1, .int 3, .int 0, .int (-1), .int 0, .ref q2, .null])) :: w0) rfl ?_
  refine V_aload_n 0 rfl d_Ca_init_15 ?_
  refine V_bipush (v := 8) rfl d_Ca_init_16 ?_
  refine V_newI (N := 8) wa_int (by decide) (by decide) (by decide) (Nat.le_of_ble_eq_true rfl) (Nat.le_of_ble_eq_true rfl) d_Ca_init_18 (fun q3 => ?_)
  refine V_putW (q0 := 3) (j := 6) cq_2 rfl (by decide) (Nat.le_of_ble_eq_true rfl) wf_Ca_15 (Or.inr ⟨rfl, rfl, rfl⟩) rfl rfl d_Ca_init_20 ?_
  refine V_ws (ws' := (q3, .inl (g.2.1, 8, .inl (fun _ => 0))) :: (q2, .inl (g.2.1, 8, .inl (fun _ => 0))) :: (q1, .inl (g.2.1, 23, .inl (fun _ => 0))) :: (aa, .inr (2, [.ref q1, .int 3, .int 0, .int (-1), .int 0, .ref q2, .ref q3])) :: w0) rfl ?_
  exact V_vret (Nat.le_of_ble_eq_true rfl) (Nat.le_of_ble_eq_true rfl) d_Ca_init_23 rfl ⟨rfl, q1, q2, q3, rfl⟩
set_option maxRecDepth 20000 in
set_option maxHeartbeats 4000000 in
theorem n_Tx_init_Ba (l : Launch) (g : GG) (aa : Nat) (w0 : va_W) : CtW l g y_Tx_init b_Tx_init 3 ({ frames := 1, cells := 1, slots := 39, locals := 12 } : Room) [.ref aa, .int 10, .int 4] ((aa, .inr (1, [.null, .int 0, .int 0, .int 0, .int 0, .null, .null, .null])) :: w0) (fun ws2 => ∃ (q1 : Nat), ws2 = (q1, .inl (g.2.1, 39, .inl (fun _ => 0))) :: (aa, .inr (1, [.ref q1, .int 4, .int 0, .int (-1), .int 0, .null, .null, .null])) :: w0) 1 39 := by
  refine CtW.of (by decide) rfl (Nat.le_of_ble_eq_true rfl) ?_
  refine V_sub [0, 1, 2] (lv' := [(0, .ref aa), (1, .int 10), (2, .int 4)]) rfl ?_
  refine V_aload_n 0 rfl d_Tx_init_0 ?_
  refine V_objinit wk_Tx_3 wo_init.1 wo_init.2 (Nat.le_of_ble_eq_true rfl) (Nat.le_of_ble_eq_true rfl) d_Tx_init_1 ?_
  refine V_aload_n 0 rfl d_Tx_init_4 ?_
  refine V_iconst (v := (-1)) rfl d_Tx_init_5 ?_
  refine V_putW (q0 := 0) (j := 3) cq_1 rfl (by decide) (Nat.le_of_ble_eq_true rfl) wf_Tx_9 (Or.inl rfl) rfl rfl d_Tx_init_6 ?_
  refine V_ws (ws' := (aa, .inr (1, [.null, .int 0, .int 0, .int (-1), .int 0, .null, .null, .null])) :: w0) rfl ?_
  refine V_aload_n 0 rfl d_Tx_init_9 ?_
  refine V_iload_n 1 rfl d_Tx_init_10 ?_
  refine V_iload_n 2 rfl d_Tx_init_11 ?_
  refine V_imul d_Tx_init_12 ?_
  refine V_st (st' := [.int 40, .ref aa]) rfl ?_
  refine V_iconst (v := 1) rfl d_Tx_init_13 ?_
  refine V_isub d_Tx_init_14 ?_
  refine V_st (st' := [.int 39, .ref aa]) rfl ?_
  refine V_newI (N := 39) wa_int (by decide) (by decide) (by decide) (Nat.le_of_ble_eq_true rfl) (Nat.le_of_ble_eq_true rfl) d_Tx_init_15 (fun q1 => ?_)
  refine V_putW (q0 := 1) (j := 0) cq_1 rfl (by decide) (Nat.le_of_ble_eq_true rfl) wf_Tx_15 (Or.inr ⟨rfl, rfl, rfl⟩) rfl rfl d_Tx_init_17 ?_
  refine V_ws (ws' := (q1, .inl (g.2.1, 39, .inl (fun _ => 0))) :: (aa, .inr (1, [.ref q1, .int 0, .int 0, .int (-1), .int 0, .null, .null, .null])) :: w0) rfl ?_
  refine V_aload_n 0 rfl d_Tx_init_20 ?_
  refine V_iload_n 2 rfl d_Tx_init_21 ?_
  refine V_putW (q0 := 1) (j := 1) cq_1 rfl (by decide) (Nat.le_of_ble_eq_true rfl) wf_Tx_19 (Or.inr ⟨rfl, rfl, rfl⟩) rfl rfl d_Tx_init_22 ?_
  refine V_ws (ws' := (q1, .inl (g.2.1, 39, .inl (fun _ => 0))) :: (aa, .inr (1, [.ref q1, .int 4, .int 0, .int (-1), .int 0, .null, .null, .null])) :: w0) rfl ?_
  exact V_vret (Nat.le_of_ble_eq_true rfl) (Nat.le_of_ble_eq_true rfl) d_Tx_init_25 rfl ⟨rfl, q1, rfl⟩
set_option maxRecDepth 20000 in
set_option maxHeartbeats 4000000 in
theorem n_Ba_init (l : Launch) (g : GG) (aa : Nat) (w0 : va_W) : CtW l g y_Ba_init b_Ba_init 1 ({ frames := 2, cells := 4, slots := 69, locals := 34 } : Room) [.ref aa] ((aa, .inr (1, [.null, .int 0, .int 0, .int 0, .int 0, .null, .null, .null])) :: w0) (fun ws2 => ∃ (q1 : Nat) (q2 : Nat) (q3 : Nat) (q4 : Nat), ws2 = (q4, .inl (g.2.1, 10, .inl (fun _ => 0))) :: (q3, .inl (g.2.1, 10, .inl (fun _ => 0))) :: (q2, .inl (g.2.1, 10, .inl (fun _ => 0))) :: (q1, .inl (g.2.1, 39, .inl (fun _ => 0))) :: (aa, .inr (1, [.ref q1, .int 4, .int 0, .int (-1), .int 0, .ref q2, .ref q3, .ref q4])) :: w0) 4 69 := by
  refine CtW.of (by decide) rfl (Nat.le_of_ble_eq_true rfl) ?_
  refine V_sub [0] (lv' := [(0, .ref aa)]) rfl ?_
  refine V_aload_n 0 rfl d_Ba_init_0 ?_
  refine V_bipush (v := 10) rfl d_Ba_init_1 ?_
  refine V_iconst (v := 4) rfl d_Ba_init_3 ?_
  refine V_callI (rest := []) (n_Tx_init_Ba l g _ _) ok_Tx_init rfl wi_Tx_init wk_Ba_3 ⟨⟨rfl, rfl⟩, ⟨(Nat.le_of_ble_eq_true rfl), (Nat.le_of_ble_eq_true rfl)⟩, (Nat.le_of_ble_eq_true rfl), (Nat.le_of_ble_eq_true rfl)⟩ rfl rfl (Nat.le_of_ble_eq_true rfl) d_Ba_init_4 (fun ws9 hq9 => ?_)
  obtain ⟨q1, rfl⟩ := hq9
  refine V_ws (ws' := (q1, .inl (g.2.1, 39, .inl (fun _ => 0))) :: (aa, .inr (1, [.ref q1, .int 4, .int 0, .int (-1), .int 0, .null, .null, .null])) :: w0) rfl ?_
  refine V_aload_n 0 rfl d_Ba_init_7 ?_
  refine V_bipush (v := 10) rfl d_Ba_init_8 ?_
  refine V_newI (N := 10) wa_int (by decide) (by decide) (by decide) (Nat.le_of_ble_eq_true rfl) (Nat.le_of_ble_eq_true rfl) d_Ba_init_10 (fun q2 => ?_)
  refine V_putW (q0 := 2) (j := 5) cq_1 rfl (by decide) (Nat.le_of_ble_eq_true rfl) wf_Ba_9 (Or.inr ⟨rfl, rfl, rfl⟩) rfl rfl d_Ba_init_12 ?_
  refine V_ws (ws' := (q2, .inl (g.2.1, 10, .inl (fun _ => 0))) :: (q1, .inl (g.2.1, 39, .inl (fun _ => 0))) :: (aa, .inr (1, [.ref q1, .int 4, .int 0, .int (-1), .int 0, .ref q2, .null, .null])) :: w0) rfl ?_
  refine V_aload_n 0 rfl d_Ba_init_15 ?_
  refine V_bipush (v := 10) rfl d_Ba_init_16 ?_
  refine V_newI (N := 10) wa_int (by decide) (by decide) (by decide) (Nat.le_of_ble_eq_true rfl) (Nat.le_of_ble_eq_true rfl) d_Ba_init_18 (fun q3 => ?_)
  refine V_putW (q0 := 3) (j := 6) cq_1 rfl (by decide) (Nat.le_of_ble_eq_true rfl) wf_Ba_15 (Or.inr ⟨rfl, rfl, rfl⟩) rfl rfl d_Ba_init_20 ?_
  refine V_ws (ws' := (q3, .inl (g.2.1, 10, .inl (fun _ => 0))) :: (q2, .inl (g.2.1, 10, .inl (fun _ => 0))) :: (q1, .inl (g.2.1, 39, .inl (fun _ => 0))) :: (aa, .inr (1, [.ref q1, .int 4, .int 0, .int (-1), .int 0, .ref q2, .ref q3, .null])) :: w0) rfl ?_
  refine V_aload_n 0 rfl d_Ba_init_23 ?_
  refine V_bipush (v := 10) rfl d_Ba_init_24 ?_
  refine V_newI (N := 10) wa_int (by decide) (by decide) (by decide) (Nat.le_of_ble_eq_true rfl) (Nat.le_of_ble_eq_true rfl) d_Ba_init_26 (fun q4 => ?_)
  refine V_putW (q0 := 4) (j := 7) cq_1 rfl (by decide) (Nat.le_of_ble_eq_true rfl) wf_Ba_18 (Or.inr ⟨rfl, rfl, rfl⟩) rfl rfl d_Ba_init_28 ?_
  refine V_ws (ws' := (q4, .inl (g.2.1, 10, .inl (fun _ => 0))) :: (q3, .inl (g.2.1, 10, .inl (fun _ => 0))) :: (q2, .inl (g.2.1, 10, .inl (fun _ => 0))) :: (q1, .inl (g.2.1, 39, .inl (fun _ => 0))) :: (aa, .inr (1, [.ref q1, .int 4, .int 0, .int (-1), .int 0, .ref q2, .ref q3, .ref q4])) :: w0) rfl ?_
  exact V_vret (Nat.le_of_ble_eq_true rfl) (Nat.le_of_ble_eq_true rfl) d_Ba_init_31 rfl ⟨rfl, q1, q2, q3, q4, rfl⟩
set_option maxRecDepth 20000 in
set_option maxHeartbeats 4000000 in
theorem n_St_init (l : Launch) (g : GG) (aa : Nat) (w0 : va_W) : CtW l g y_St_init b_St_init 1 ({ frames := 1, cells := 2, slots := 16, locals := 12 } : Room) [.ref aa] ((aa, .inr (8, [.null, .null, .int 0])) :: w0) (fun ws2 => ∃ (q1 : Nat) (q2 : Nat), ws2 = (q2, .inl (g.2.1, 8, .inl (fun _ => 0))) :: (q1, .inl (g.2.1, 8, .inl (fun _ => 0))) :: (aa, .inr (8, [.ref q1, .ref q2, .int 0])) :: w0) 2 16 := by
  refine CtW.of (by decide) rfl (Nat.le_of_ble_eq_true rfl) ?_
  refine V_sub [0] (lv' := [(0, .ref aa)]) rfl ?_
  refine V_aload_n 0 rfl d_St_init_0 ?_
  refine V_objinit wk_St_3 wo_init.1 wo_init.2 (Nat.le_of_ble_eq_true rfl) (Nat.le_of_ble_eq_true rfl) d_St_init_1 ?_
  refine V_aload_n 0 rfl d_St_init_4 ?_
  refine V_bipush (v := 8) rfl d_St_init_5 ?_
  refine V_newI (N := 8) wa_int (by decide) (by decide) (by decide) (Nat.le_of_ble_eq_true rfl) (Nat.le_of_ble_eq_true rfl) d_St_init_7 (fun q1 => ?_)
  refine V_putW (q0 := 1) (j := 0) cq_8 rfl (by decide) (Nat.le_of_ble_eq_true rfl) wf_St_9 (Or.inr ⟨rfl, rfl, rfl⟩) rfl rfl d_St_init_9 ?_
  refine V_ws (ws' := (q1, .inl (g.2.1, 8, .inl (fun _ => 0))) :: (aa, .inr (8, [.ref q1, .null, .int 0])) :: w0) rfl ?_
  refine V_aload_n 0 rfl d_St_init_12 ?_
  refine V_bipush (v := 8) rfl d_St_init_13 ?_
  refine V_newI (N := 8) wa_int (by decide) (by decide) (by decide) (Nat.le_of_ble_eq_true rfl) (Nat.le_of_ble_eq_true rfl) d_St_init_15 (fun q2 => ?_)
  refine V_putW (q0 := 2) (j := 1) cq_8 rfl (by decide) (Nat.le_of_ble_eq_true rfl) wf_St_15 (Or.inr ⟨rfl, rfl, rfl⟩) rfl rfl d_St_init_17 ?_
  refine V_ws (ws' := (q2, .inl (g.2.1, 8, .inl (fun _ => 0))) :: (q1, .inl (g.2.1, 8, .inl (fun _ => 0))) :: (aa, .inr (8, [.ref q1, .ref q2, .int 0])) :: w0) rfl ?_
  exact V_vret (Nat.le_of_ble_eq_true rfl) (Nat.le_of_ble_eq_true rfl) d_St_init_20 rfl ⟨rfl, q1, q2, rfl⟩
set_option maxRecDepth 20000 in
set_option maxHeartbeats 4000000 in
theorem n_Wa_init (l : Launch) (g : GG) (aa : Nat) (w0 : va_W) : CtW l g y_Wa_init b_Wa_init 1 ({ frames := 1, cells := 1, slots := 192, locals := 12 } : Room) [.ref aa] ((aa, .inr (9, [.null, .int 0, .int 0, .int 0, .int 0, .int 0, .int 0, .int 0, .int 0, .int 0, .int 0, .int 0, .int 0])) :: w0) (fun ws2 => ∃ (q1 : Nat), ws2 = (q1, .inl (g.2.1, 192, .inl (fun _ => 0))) :: (aa, .inr (9, [.ref q1, .int 0, .int 0, .int 0, .int 0, .int 0, .int 0, .int 0, .int 0, .int 0, .int 0, .int 0, .int 0])) :: w0) 1 192 := by
  refine CtW.of (by decide) rfl (Nat.le_of_ble_eq_true rfl) ?_
  refine V_sub [0] (lv' := [(0, .ref aa)]) rfl ?_
  refine V_aload_n 0 rfl d_Wa_init_0 ?_
  refine V_objinit wk_Wa_3 wo_init.1 wo_init.2 (Nat.le_of_ble_eq_true rfl) (Nat.le_of_ble_eq_true rfl) d_Wa_init_1 ?_
  refine V_aload_n 0 rfl d_Wa_init_4 ?_
  refine V_sipush (v := 192) rfl d_Wa_init_5 ?_
  refine V_newI (N := 192) wa_int (by decide) (by decide) (by decide) (Nat.le_of_ble_eq_true rfl) (Nat.le_of_ble_eq_true rfl) d_Wa_init_8 (fun q1 => ?_)
  refine V_putW (q0 := 1) (j := 0) cq_9 rfl (by decide) (Nat.le_of_ble_eq_true rfl) wf_Wa_9 (Or.inr ⟨rfl, rfl, rfl⟩) rfl rfl d_Wa_init_10 ?_
  refine V_ws (ws' := (q1, .inl (g.2.1, 192, .inl (fun _ => 0))) :: (aa, .inr (9, [.ref q1, .int 0, .int 0, .int 0, .int 0, .int 0, .int 0, .int 0, .int 0, .int 0, .int 0, .int 0, .int 0])) :: w0) rfl ?_
  exact V_vret (Nat.le_of_ble_eq_true rfl) (Nat.le_of_ble_eq_true rfl) d_Wa_init_13 rfl ⟨rfl, q1, rfl⟩
set_option maxRecDepth 20000 in
set_option maxHeartbeats 4000000 in
theorem n_Cv_init (l : Launch) (g : GG) (aa : Nat) (r1 : Nat) (r2 : Nat) (r3 : Nat) (w0 : va_W) : CtW l g y_Cv_init b_Cv_init 4 ({ frames := 2, cells := 3, slots := 229, locals := 32 } : Room) [.ref aa, .ref r1, .ref r2, .ref r3] ((aa, .inr (3, [.null, .null, .null, .int 0, .null, .null])) :: w0) (fun ws2 => ∃ (q1 : Nat) (q2 : Nat) (q3 : Nat), ws2 = (q3, .inl (g.2.1, 24, .inl (fun _ => 0))) :: (q2, .inl (g.2.1, 192, .inl (fun _ => 0))) :: (q1, .inr (9, [.ref q2, .int 0, .int 0, .int 0, .int 0, .int 0, .int 0, .int 0, .int 0, .int 0, .int 0, .int 0, .int 0])) :: (aa, .inr (3, [.ref r1, .ref r2, .ref r3, .int 0, .ref q1, .ref q3])) :: w0) 3 229 := by
  refine CtW.of (by decide) rfl (Nat.le_of_ble_eq_true rfl) ?_
  refine V_sub [0, 1, 2, 3] (lv' := [(0, .ref aa), (1, .ref r1), (2, .ref r2), (3, .ref r3)]) rfl ?_
  refine V_aload_n 0 rfl d_Cv_init_0 ?_
  refine V_objinit wk_Cv_3 wo_init.1 wo_init.2 (Nat.le_of_ble_eq_true rfl) (Nat.le_of_ble_eq_true rfl) d_Cv_init_1 ?_
  refine V_aload_n 0 rfl d_Cv_init_4 ?_
  refine V_new (fs := [.null, .int 0, .int 0, .int 0, .int 0, .int 0, .int 0, .int 0, .int 0, .int 0, .int 0, .int 0, .int 0]) cq_9 wc_Cv_9 wI_Wa wt_Wa (fun j hj => by rcases (show j = 0 ∨ j = 1 ∨ j = 2 ∨ j = 3 ∨ j = 4 ∨ j = 5 ∨ j = 6 ∨ j = 7 ∨ j = 8 ∨ j = 9 ∨ j = 10 ∨ j = 11 ∨ j = 12 by omega) with rfl | rfl | rfl | rfl | rfl | rfl | rfl | rfl | rfl | rfl | rfl | rfl | rfl <;> rfl) (Nat.le_of_ble_eq_true rfl) (Nat.le_of_ble_eq_true rfl) d_Cv_init_5 (fun q1 => ?_)
  refine V_dup rfl d_Cv_init_8 ?_
  refine V_callIN (rest := [.ref q1, .ref aa]) (n_Wa_init l g _ _) ok_Wa_init rfl wi_Wa_init wk_Cv_11 ⟨⟨rfl, rfl⟩, ⟨(Nat.le_of_ble_eq_true rfl), (Nat.le_of_ble_eq_true rfl)⟩, (Nat.le_of_ble_eq_true rfl), (Nat.le_of_ble_eq_true rfl)⟩ rfl rfl (Nat.le_of_ble_eq_true rfl) d_Cv_init_9 (fun ws9 hq9 => ?_)
  obtain ⟨q2, rfl⟩ := hq9
  refine V_ws (ws' := (q2, .inl (g.2.1, 192, .inl (fun _ => 0))) :: (q1, .inr (9, [.ref q2, .int 0, .int 0, .int 0, .int 0, .int 0, .int 0, .int 0, .int 0, .int 0, .int 0, .int 0, .int 0])) :: (aa, .inr (3, [.null, .null, .null, .int 0, .null, .null])) :: w0) rfl ?_
  refine V_putW (q0 := 2) (j := 4) cq_3 rfl (by decide) (Nat.le_of_ble_eq_true rfl) wf_Cv_12 (Or.inr ⟨rfl, rfl, rfl⟩) rfl rfl d_Cv_init_12 ?_
  refine V_ws (ws' := (q2, .inl (g.2.1, 192, .inl (fun _ => 0))) :: (q1, .inr (9, [.ref q2, .int 0, .int 0, .int 0, .int 0, .int 0, .int 0, .int 0, .int 0, .int 0, .int 0, .int 0, .int 0])) :: (aa, .inr (3, [.null, .null, .null, .int 0, .ref q1, .null])) :: w0) rfl ?_
  refine V_aload_n 0 rfl d_Cv_init_15 ?_
  refine V_bipush (v := 24) rfl d_Cv_init_16 ?_
  refine V_newI (N := 24) wa_int (by decide) (by decide) (by decide) (Nat.le_of_ble_eq_true rfl) (Nat.le_of_ble_eq_true rfl) d_Cv_init_18 (fun q3 => ?_)
  refine V_putW (q0 := 3) (j := 5) cq_3 rfl (by decide) (Nat.le_of_ble_eq_true rfl) wf_Cv_18 (Or.inr ⟨rfl, rfl, rfl⟩) rfl rfl d_Cv_init_20 ?_
  refine V_ws (ws' := (q3, .inl (g.2.1, 24, .inl (fun _ => 0))) :: (q2, .inl (g.2.1, 192, .inl (fun _ => 0))) :: (q1, .inr (9, [.ref q2, .int 0, .int 0, .int 0, .int 0, .int 0, .int 0, .int 0, .int 0, .int 0, .int 0, .int 0, .int 0])) :: (aa, .inr (3, [.null, .null, .null, .int 0, .ref q1, .ref q3])) :: w0) rfl ?_
  refine V_aload_n 0 rfl d_Cv_init_23 ?_
  refine V_aload_n 1 rfl d_Cv_init_24 ?_
  refine V_putW (q0 := 3) (j := 0) cq_3 rfl (by decide) (Nat.le_of_ble_eq_true rfl) wf_Cv_22 (Or.inr ⟨rfl, rfl, rfl⟩) rfl rfl d_Cv_init_25 ?_
  refine V_ws (ws' := (q3, .inl (g.2.1, 24, .inl (fun _ => 0))) :: (q2, .inl (g.2.1, 192, .inl (fun _ => 0))) :: (q1, .inr (9, [.ref q2, .int 0, .int 0, .int 0, .int 0, .int 0, .int 0, .int 0, .int 0, .int 0, .int 0, .int 0, .int 0])) :: (aa, .inr (3, [.ref r1, .null, .null, .int 0, .ref q1, .ref q3])) :: w0) rfl ?_
  refine V_aload_n 0 rfl d_Cv_init_28 ?_
  refine V_aload_n 2 rfl d_Cv_init_29 ?_
  refine V_putW (q0 := 3) (j := 1) cq_3 rfl (by decide) (Nat.le_of_ble_eq_true rfl) wf_Cv_26 (Or.inr ⟨rfl, rfl, rfl⟩) rfl rfl d_Cv_init_30 ?_
  refine V_ws (ws' := (q3, .inl (g.2.1, 24, .inl (fun _ => 0))) :: (q2, .inl (g.2.1, 192, .inl (fun _ => 0))) :: (q1, .inr (9, [.ref q2, .int 0, .int 0, .int 0, .int 0, .int 0, .int 0, .int 0, .int 0, .int 0, .int 0, .int 0, .int 0])) :: (aa, .inr (3, [.ref r1, .ref r2, .null, .int 0, .ref q1, .ref q3])) :: w0) rfl ?_
  refine V_aload_n 0 rfl d_Cv_init_33 ?_
  refine V_aload_n 3 rfl d_Cv_init_34 ?_
  refine V_putW (q0 := 3) (j := 2) cq_3 rfl (by decide) (Nat.le_of_ble_eq_true rfl) wf_Cv_30 (Or.inl rfl) rfl rfl d_Cv_init_35 ?_
  refine V_ws (ws' := (q3, .inl (g.2.1, 24, .inl (fun _ => 0))) :: (q2, .inl (g.2.1, 192, .inl (fun _ => 0))) :: (q1, .inr (9, [.ref q2, .int 0, .int 0, .int 0, .int 0, .int 0, .int 0, .int 0, .int 0, .int 0, .int 0, .int 0, .int 0])) :: (aa, .inr (3, [.ref r1, .ref r2, .ref r3, .int 0, .ref q1, .ref q3])) :: w0) rfl ?_
  exact V_vret (Nat.le_of_ble_eq_true rfl) (Nat.le_of_ble_eq_true rfl) d_Cv_init_38 rfl ⟨rfl, q1, q2, q3, rfl⟩
set_option maxRecDepth 20000 in
set_option maxHeartbeats 4000000 in
theorem n_Pl_init (l : Launch) (g : GG) (aa : Nat) (r1 : Nat) (w0 : va_W) : CtW l g y_Pl_init b_Pl_init 2 ({ frames := 1, cells := 0, slots := 0, locals := 12 } : Room) [.ref aa, .ref r1] ((aa, .inr (6, [.null, .int 0, .int 0])) :: w0) (fun ws2 => ws2 = (aa, .inr (6, [.ref r1, .int 0, .int 0])) :: w0) 0 0 := by
  refine CtW.of (by decide) rfl (Nat.le_of_ble_eq_true rfl) ?_
  refine V_sub [0, 1] (lv' := [(0, .ref aa), (1, .ref r1)]) rfl ?_
  refine V_aload_n 0 rfl d_Pl_init_0 ?_
  refine V_objinit wk_Pl_3 wo_init.1 wo_init.2 (Nat.le_of_ble_eq_true rfl) (Nat.le_of_ble_eq_true rfl) d_Pl_init_1 ?_
  refine V_aload_n 0 rfl d_Pl_init_4 ?_
  refine V_aload_n 1 rfl d_Pl_init_5 ?_
  refine V_putW (q0 := 0) (j := 0) cq_6 rfl (by decide) (Nat.le_of_ble_eq_true rfl) wf_Pl_9 (Or.inr ⟨rfl, rfl, rfl⟩) rfl rfl d_Pl_init_6 ?_
  refine V_ws (ws' := (aa, .inr (6, [.ref r1, .int 0, .int 0])) :: w0) rfl ?_
  exact V_vret (Nat.le_of_ble_eq_true rfl) (Nat.le_of_ble_eq_true rfl) d_Pl_init_9 rfl ⟨rfl, rfl⟩
set_option maxRecDepth 20000 in
set_option maxHeartbeats 4000000 in
theorem n_Gu_init (l : Launch) (g : GG) (aa : Nat) (r1 : Nat) (w0 : va_W) : CtW l g y_Gu_init b_Gu_init 2 ({ frames := 1, cells := 4, slots := 264, locals := 12 } : Room) [.ref aa, .ref r1] ((aa, .inr (4, [.null, .null, .null, .null, .int 0, .null])) :: w0) (fun ws2 => ∃ (q1 : Nat) (q2 : Nat) (q3 : Nat) (q4 : Nat), ws2 = (q4, .inl (g.2.1, 240, .inl (fun _ => 0))) :: (q3, .inl (g.2.1, 8, .inl (fun _ => 0))) :: (q2, .inl (g.2.1, 8, .inl (fun _ => 0))) :: (q1, .inl (g.2.1, 8, .inl (fun _ => 0))) :: (aa, .inr (4, [.ref r1, .ref q1, .ref q2, .ref q3, .int 0, .ref q4])) :: w0) 4 264 := by
  refine CtW.of (by decide) rfl (Nat.le_of_ble_eq_true rfl) ?_
  refine V_sub [0, 1] (lv' := [(0, .ref aa), (1, .ref r1)]) rfl ?_
  refine V_aload_n 0 rfl d_Gu_init_0 ?_
  refine V_objinit wk_Gu_3 wo_init.1 wo_init.2 (Nat.le_of_ble_eq_true rfl) (Nat.le_of_ble_eq_true rfl) d_Gu_init_1 ?_
  refine V_aload_n 0 rfl d_Gu_init_4 ?_
  refine V_bipush (v := 8) rfl d_Gu_init_5 ?_
  refine V_newI (N := 8) wa_int (by decide) (by decide) (by decide) (Nat.le_of_ble_eq_true rfl) (Nat.le_of_ble_eq_true rfl) d_Gu_init_7 (fun q1 => ?_)
  refine V_putW (q0 := 1) (j := 1) cq_4 rfl (by decide) (Nat.le_of_ble_eq_true rfl) wf_Gu_9 (Or.inr ⟨rfl, rfl, rfl⟩) rfl rfl d_Gu_init_9 ?_
  refine V_ws (ws' := (q1, .inl (g.2.1, 8, .inl (fun _ => 0))) :: (aa, .inr (4, [.null, .ref q1, .null, .null, .int 0, .null])) :: w0) rfl ?_
  refine V_aload_n 0 rfl d_Gu_init_12 ?_
  refine V_bipush (v := 8) rfl d_Gu_init_13 ?_
  refine V_newI (N := 8) wa_int (by decide) (by decide) (by decide) (Nat.le_of_ble_eq_true rfl) (Nat.le_of_ble_eq_true rfl) d_Gu_init_15 (fun q2 => ?_)
  refine V_putW (q0 := 2) (j := 2) cq_4 rfl (by decide) (Nat.le_of_ble_eq_true rfl) wf_Gu_15 (Or.inr ⟨rfl, rfl, rfl⟩) rfl rfl d_Gu_init_17 ?_
  refine V_ws (ws' := (q2, .inl (g.2.1, 8, .inl (fun _ => 0))) :: (q1, .inl (g.2.1, 8, .inl (fun _ => 0))) :: (aa, .inr (4, [.null, .ref q1, .ref q2, .null, .int 0, .null])) :: w0) rfl ?_
  refine V_aload_n 0 rfl d_Gu_init_20 ?_
  refine V_bipush (v := 8) rfl d_Gu_init_21 ?_
  refine V_newI (N := 8) wa_int (by decide) (by decide) (by decide) (Nat.le_of_ble_eq_true rfl) (Nat.le_of_ble_eq_true rfl) d_Gu_init_23 (fun q3 => ?_)
  refine V_putW (q0 := 3) (j := 3) cq_4 rfl (by decide) (Nat.le_of_ble_eq_true rfl) wf_Gu_18 (Or.inr ⟨rfl, rfl, rfl⟩) rfl rfl d_Gu_init_25 ?_
  refine V_ws (ws' := (q3, .inl (g.2.1, 8, .inl (fun _ => 0))) :: (q2, .inl (g.2.1, 8, .inl (fun _ => 0))) :: (q1, .inl (g.2.1, 8, .inl (fun _ => 0))) :: (aa, .inr (4, [.null, .ref q1, .ref q2, .ref q3, .int 0, .null])) :: w0) rfl ?_
  refine V_aload_n 0 rfl d_Gu_init_28 ?_
  refine V_sipush (v := 240) rfl d_Gu_init_29 ?_
  refine V_newI (N := 240) wa_int (by decide) (by decide) (by decide) (Nat.le_of_ble_eq_true rfl) (Nat.le_of_ble_eq_true rfl) d_Gu_init_32 (fun q4 => ?_)
  refine V_putW (q0 := 4) (j := 5) cq_4 rfl (by decide) (Nat.le_of_ble_eq_true rfl) wf_Gu_21 (Or.inr ⟨rfl, rfl, rfl⟩) rfl rfl d_Gu_init_34 ?_
  refine V_ws (ws' := (q4, .inl (g.2.1, 240, .inl (fun _ => 0))) :: (q3, .inl (g.2.1, 8, .inl (fun _ => 0))) :: (q2, .inl (g.2.1, 8, .inl (fun _ => 0))) :: (q1, .inl (g.2.1, 8, .inl (fun _ => 0))) :: (aa, .inr (4, [.null, .ref q1, .ref q2, .ref q3, .int 0, .ref q4])) :: w0) rfl ?_
  refine V_aload_n 0 rfl d_Gu_init_37 ?_
  refine V_aload_n 1 rfl d_Gu_init_38 ?_
  refine V_putW (q0 := 4) (j := 0) cq_4 rfl (by decide) (Nat.le_of_ble_eq_true rfl) wf_Gu_24 (Or.inr ⟨rfl, rfl, rfl⟩) rfl rfl d_Gu_init_39 ?_
  refine V_ws (ws' := (q4, .inl (g.2.1, 240, .inl (fun _ => 0))) :: (q3, .inl (g.2.1, 8, .inl (fun _ => 0))) :: (q2, .inl (g.2.1, 8, .inl (fun _ => 0))) :: (q1, .inl (g.2.1, 8, .inl (fun _ => 0))) :: (aa, .inr (4, [.ref r1, .ref q1, .ref q2, .ref q3, .int 0, .ref q4])) :: w0) rfl ?_
  exact V_vret (Nat.le_of_ble_eq_true rfl) (Nat.le_of_ble_eq_true rfl) d_Gu_init_42 rfl ⟨rfl, q1, q2, q3, q4, rfl⟩
set_option maxRecDepth 20000 in
set_option maxHeartbeats 4000000 in
theorem n_Od_init (l : Launch) (g : GG) (aa : Nat) (r1 : Nat) (w0 : va_W) : CtW l g y_Od_init b_Od_init 2 ({ frames := 1, cells := 0, slots := 0, locals := 12 } : Room) [.ref aa, .ref r1] ((aa, .inr (5, [.null, .long 0, .long 0])) :: w0) (fun ws2 => ws2 = (aa, .inr (5, [.ref r1, .long 0, .long 0])) :: w0) 0 0 := by
  refine CtW.of (by decide) rfl (Nat.le_of_ble_eq_true rfl) ?_
  refine V_sub [0, 1] (lv' := [(0, .ref aa), (1, .ref r1)]) rfl ?_
  refine V_aload_n 0 rfl d_Od_init_0 ?_
  refine V_objinit wk_Od_3 wo_init.1 wo_init.2 (Nat.le_of_ble_eq_true rfl) (Nat.le_of_ble_eq_true rfl) d_Od_init_1 ?_
  refine V_aload_n 0 rfl d_Od_init_4 ?_
  refine V_aload_n 1 rfl d_Od_init_5 ?_
  refine V_putW (q0 := 0) (j := 0) cq_5 rfl (by decide) (Nat.le_of_ble_eq_true rfl) wf_Od_9 (Or.inr ⟨rfl, rfl, rfl⟩) rfl rfl d_Od_init_6 ?_
  refine V_ws (ws' := (aa, .inr (5, [.ref r1, .long 0, .long 0])) :: w0) rfl ?_
  exact V_vret (Nat.le_of_ble_eq_true rfl) (Nat.le_of_ble_eq_true rfl) d_Od_init_9 rfl ⟨rfl, rfl⟩
set_option maxRecDepth 20000 in
set_option maxHeartbeats 4000000 in
theorem n_Sh_init (l : Launch) (g : GG) (aa : Nat) (w0 : va_W) : CtW l g y_Sh_init b_Sh_init 1 ({ frames := 1, cells := 1, slots := 60, locals := 12 } : Room) [.ref aa] ((aa, .inr (7, [.null, .int 0, .int 0])) :: w0) (fun ws2 => ∃ (q1 : Nat), ws2 = (q1, .inl (g.2.1, 60, .inl (fun _ => 0))) :: (aa, .inr (7, [.ref q1, .int (-1), .int 0])) :: w0) 1 60 := by
  refine CtW.of (by decide) rfl (Nat.le_of_ble_eq_true rfl) ?_
  refine V_sub [0] (lv' := [(0, .ref aa)]) rfl ?_
  refine V_aload_n 0 rfl d_Sh_init_0 ?_
  refine V_objinit wk_Sh_3 wo_init.1 wo_init.2 (Nat.le_of_ble_eq_true rfl) (Nat.le_of_ble_eq_true rfl) d_Sh_init_1 ?_
  refine V_aload_n 0 rfl d_Sh_init_4 ?_
  refine V_bipush (v := 60) rfl d_Sh_init_5 ?_
  refine V_newI (N := 60) wa_int (by decide) (by decide) (by decide) (Nat.le_of_ble_eq_true rfl) (Nat.le_of_ble_eq_true rfl) d_Sh_init_7 (fun q1 => ?_)
  refine V_putW (q0 := 1) (j := 0) cq_7 rfl (by decide) (Nat.le_of_ble_eq_true rfl) wf_Sh_9 (Or.inr ⟨rfl, rfl, rfl⟩) rfl rfl d_Sh_init_9 ?_
  refine V_ws (ws' := (q1, .inl (g.2.1, 60, .inl (fun _ => 0))) :: (aa, .inr (7, [.ref q1, .int 0, .int 0])) :: w0) rfl ?_
  refine V_aload_n 0 rfl d_Sh_init_12 ?_
  refine V_iconst (v := (-1)) rfl d_Sh_init_13 ?_
  refine V_putW (q0 := 1) (j := 1) cq_7 rfl (by decide) (Nat.le_of_ble_eq_true rfl) wf_Sh_15 (Or.inl rfl) rfl rfl d_Sh_init_14 ?_
  refine V_ws (ws' := (q1, .inl (g.2.1, 60, .inl (fun _ => 0))) :: (aa, .inr (7, [.ref q1, .int (-1), .int 0])) :: w0) rfl ?_
  exact V_vret (Nat.le_of_ble_eq_true rfl) (Nat.le_of_ble_eq_true rfl) d_Sh_init_17 rfl ⟨rfl, q1, rfl⟩
set_option maxRecDepth 20000 in
set_option maxHeartbeats 4000000 in
theorem n_CS_init (l : Launch) (g : GG) (aa : Nat) (w0 : va_W) : CtW l g y_CS_init b_CS_init 1 ({ frames := 3, cells := 36, slots := 930, locals := 55 } : Room) [.ref aa] ((aa, .inr (0, [.null, .null, .null, .null, .null, .null, .null, .null, .null, .null, .int 0])) :: w0) (fun ws2 => ∃ (q1 : Nat) (q2 : Nat) (q3 : Nat) (q4 : Nat) (q5 : Nat) (q6 : Nat) (q7 : Nat) (q8 : Nat) (q9 : Nat) (q10 : Nat) (q11 : Nat) (q12 : Nat) (q13 : Nat) (q14 : Nat) (q15 : Nat) (q16 : Nat) (q17 : Nat) (q18 : Nat) (q19 : Nat) (q20 : Nat) (q21 : Nat) (q22 : Nat) (q23 : Nat) (q24 : Nat) (q25 : Nat) (q26 : Nat) (q27 : Nat) (q28 : Nat) (q29 : Nat) (q30 : Nat) (q31 : Nat) (q32 : Nat) (q33 : Nat) (q34 : Nat) (q35 : Nat) (q36 : Nat), ws2 = (q36, .inl (g.2.1, 60, .inl (fun _ => 0))) :: (q35, .inr (7, [.ref q36, .int (-1), .int 0])) :: (q34, .inl (g.2.1, 60, .inl (fun _ => 0))) :: (q33, .inr (7, [.ref q34, .int (-1), .int 0])) :: (q32, .inl (g.2.1, 60, .inl (fun _ => 0))) :: (q31, .inr (7, [.ref q32, .int (-1), .int 0])) :: (q30, .inl (g.2.1, 60, .inl (fun _ => 0))) :: (q29, .inr (7, [.ref q30, .int (-1), .int 0])) :: (q28, .inl (g.2.2.2.2, 4, .inr (.inr (.inr (.inr (va_up (va_up (va_up (va_up (fun _ => none) (Int32.toNatClampNeg 0) (some q29)) (Int32.toNatClampNeg 1) (some q31)) (Int32.toNatClampNeg 2) (some q33)) (Int32.toNatClampNeg 3) (some q35))))))) :: (q27, .inr (5, [.ref q17, .long 0, .long 0])) :: (q26, .inl (g.2.1, 240, .inl (fun _ => 0))) :: (q25, .inl (g.2.1, 8, .inl (fun _ => 0))) :: (q24, .inl (g.2.1, 8, .inl (fun _ => 0))) :: (q23, .inl (g.2.1, 8, .inl (fun _ => 0))) :: (q22, .inr (4, [.ref q17, .ref q23, .ref q24, .ref q25, .int 0, .ref q26])) :: (q21, .inr (6, [.ref q17, .int 0, .int 0])) :: (q20, .inl (g.2.1, 24, .inl (fun _ => 0))) :: (q19, .inl (g.2.1, 192, .inl (fun _ => 0))) :: (q18, .inr (9, [.ref q19, .int 0, .int 0, .int 0, .int 0, .int 0, .int 0, .int 0, .int 0, .int 0, .int 0, .int 0, .int 0])) :: (q17, .inr (3, [.ref q1, .ref q5, .ref q11, .int 0, .ref q18, .ref q20])) :: (q16, .inl (g.2.1, 8, .inl (fun _ => 0))) :: (q15, .inl (g.2.1, 8, .inl (fun _ => 0))) :: (q14, .inr (8, [.ref q15, .ref q16, .int 0])) :: (q13, .inl (g.2.1, 8, .inl (fun _ => 0))) :: (q12, .inl (g.2.1, 8, .inl (fun _ => 0))) :: (q11, .inr (8, [.ref q12, .ref q13, .int 0])) :: (q10, .inl (g.2.2.2.1, 2, .inr (.inr (.inr (.inr (va_up (va_up (fun _ => none) (Int32.toNatClampNeg 0) (some q1)) (Int32.toNatClampNeg 1) (some q5))))))) :: (q9, .inl (g.2.1, 10, .inl (fun _ => 0))) :: (q8, .inl (g.2.1, 10, .inl (fun _ => 0))) :: (q7, .inl (g.2.1, 10, .inl (fun _ => 0))) :: (q6, .inl (g.2.1, 39, .inl (fun _ => 0))) :: (q5, .inr (1, [.ref q6, .int 4, .int 0, .int (-1), .int 0, .ref q7, .ref q8, .ref q9])) :: (q4, .inl (g.2.1, 8, .inl (fun _ => 0))) :: (q3, .inl (g.2.1, 8, .inl (fun _ => 0))) :: (q2, .inl (g.2.1, 23, .inl (fun _ => 0))) :: (q1, .inr (2, [.ref q2, .int 3, .int 0, .int (-1), .int 0, .ref q3, .ref q4])) :: (aa, .inr (0, [.ref q1, .ref q5, .ref q10, .ref q11, .ref q14, .ref q17, .ref q21, .ref q22, .ref q27, .ref q28, .int 0])) :: w0) 36 930 := by
  refine CtW.of (by decide) rfl (Nat.le_of_ble_eq_true rfl) ?_
  refine V_sub [0] (lv' := [(0, .ref aa)]) rfl ?_
  refine V_aload_n 0 rfl d_CS_init_0 ?_
  refine V_objinit wk_CS_1 wo_init.1 wo_init.2 (Nat.le_of_ble_eq_true rfl) (Nat.le_of_ble_eq_true rfl) d_CS_init_1 ?_
  refine V_aload_n 0 rfl d_CS_init_4 ?_
  refine V_new (fs := [.null, .int 0, .int 0, .int 0, .int 0, .null, .null]) cq_2 wc_CS_7 wI_Ca wt_Ca (fun j hj => by rcases (show j = 0 ∨ j = 1 ∨ j = 2 ∨ j = 3 ∨ j = 4 ∨ j = 5 ∨ j = 6 by omega) with rfl | rfl | rfl | rfl | rfl | rfl | rfl <;> rfl) (Nat.le_of_ble_eq_true rfl) (Nat.le_of_ble_eq_true rfl) d_CS_init_5 (fun q1 => ?_)
  refine V_dup rfl d_CS_init_8 ?_
  refine V_callI (rest := [.ref q1, .ref aa]) (n_Ca_init l g _ _) ok_Ca_init rfl wi_Ca_init wk_CS_9 ⟨⟨rfl, rfl⟩, ⟨(Nat.le_of_ble_eq_true rfl), (Nat.le_of_ble_eq_true rfl)⟩, (Nat.le_of_ble_eq_true rfl), (Nat.le_of_ble_eq_true rfl)⟩ rfl rfl (Nat.le_of_ble_eq_true rfl) d_CS_init_9 (fun ws9 hq9 => ?_)
  obtain ⟨q2, q3, q4, rfl⟩ := hq9
  refine V_ws (ws' := (q4, .inl (g.2.1, 8, .inl (fun _ => 0))) :: (q3, .inl (g.2.1, 8, .inl (fun _ => 0))) :: (q2, .inl (g.2.1, 23, .inl (fun _ => 0))) :: (q1, .inr (2, [.ref q2, .int 3, .int 0, .int (-1), .int 0, .ref q3, .ref q4])) :: (aa, .inr (0, [.null, .null, .null, .null, .null, .null, .null, .null, .null, .null, .int 0])) :: w0) rfl ?_
  refine V_putW (q0 := 4) (j := 0) cq_0 rfl (by decide) (Nat.le_of_ble_eq_true rfl) wf_CS_10 (Or.inr ⟨rfl, rfl, rfl⟩) rfl rfl d_CS_init_12 ?_
  refine V_ws (ws' := (q4, .inl (g.2.1, 8, .inl (fun _ => 0))) :: (q3, .inl (g.2.1, 8, .inl (fun _ => 0))) :: (q2, .inl (g.2.1, 23, .inl (fun _ => 0))) :: (q1, .inr (2, [.ref q2, .int 3, .int 0, .int (-1), .int 0, .ref q3, .ref q4])) :: (aa, .inr (0, [.ref q1, .null, .null, .null, .null, .null, .null, .null, .null, .null, .int 0])) :: w0) rfl ?_
  refine V_aload_n 0 rfl d_CS_init_15 ?_
  refine V_new (fs := [.null, .int 0, .int 0, .int 0, .int 0, .null, .null, .null]) cq_1 wc_CS_16 wI_Ba wt_Ba (fun j hj => by rcases (show j = 0 ∨ j = 1 ∨ j = 2 ∨ j = 3 ∨ j = 4 ∨ j = 5 ∨ j = 6 ∨ j = 7 by omega) with rfl | rfl | rfl | rfl | rfl | rfl | rfl | rfl <;> rfl) (Nat.le_of_ble_eq_true rfl) (Nat.le_of_ble_eq_true rfl) d_CS_init_16 (fun q5 => ?_)
  refine V_dup rfl d_CS_init_19 ?_
  refine V_callI (rest := [.ref q5, .ref aa]) (n_Ba_init l g _ _) ok_Ba_init rfl wi_Ba_init wk_CS_18 ⟨⟨rfl, rfl⟩, ⟨(Nat.le_of_ble_eq_true rfl), (Nat.le_of_ble_eq_true rfl)⟩, (Nat.le_of_ble_eq_true rfl), (Nat.le_of_ble_eq_true rfl)⟩ rfl rfl (Nat.le_of_ble_eq_true rfl) d_CS_init_20 (fun ws9 hq9 => ?_)
  obtain ⟨q6, q7, q8, q9, rfl⟩ := hq9
  refine V_ws (ws' := (q9, .inl (g.2.1, 10, .inl (fun _ => 0))) :: (q8, .inl (g.2.1, 10, .inl (fun _ => 0))) :: (q7, .inl (g.2.1, 10, .inl (fun _ => 0))) :: (q6, .inl (g.2.1, 39, .inl (fun _ => 0))) :: (q5, .inr (1, [.ref q6, .int 4, .int 0, .int (-1), .int 0, .ref q7, .ref q8, .ref q9])) :: (q4, .inl (g.2.1, 8, .inl (fun _ => 0))) :: (q3, .inl (g.2.1, 8, .inl (fun _ => 0))) :: (q2, .inl (g.2.1, 23, .inl (fun _ => 0))) :: (q1, .inr (2, [.ref q2, .int 3, .int 0, .int (-1), .int 0, .ref q3, .ref q4])) :: (aa, .inr (0, [.ref q1, .null, .null, .null, .null, .null, .null, .null, .null, .null, .int 0])) :: w0) rfl ?_
  refine V_putW (q0 := 9) (j := 1) cq_0 rfl (by decide) (Nat.le_of_ble_eq_true rfl) wf_CS_19 (Or.inr ⟨rfl, rfl, rfl⟩) rfl rfl d_CS_init_23 ?_
  refine V_ws (ws' := (q9, .inl (g.2.1, 10, .inl (fun _ => 0))) :: (q8, .inl (g.2.1, 10, .inl (fun _ => 0))) :: (q7, .inl (g.2.1, 10, .inl (fun _ => 0))) :: (q6, .inl (g.2.1, 39, .inl (fun _ => 0))) :: (q5, .inr (1, [.ref q6, .int 4, .int 0, .int (-1), .int 0, .ref q7, .ref q8, .ref q9])) :: (q4, .inl (g.2.1, 8, .inl (fun _ => 0))) :: (q3, .inl (g.2.1, 8, .inl (fun _ => 0))) :: (q2, .inl (g.2.1, 23, .inl (fun _ => 0))) :: (q1, .inr (2, [.ref q2, .int 3, .int 0, .int (-1), .int 0, .ref q3, .ref q4])) :: (aa, .inr (0, [.ref q1, .ref q5, .null, .null, .null, .null, .null, .null, .null, .null, .int 0])) :: w0) rfl ?_
  refine V_aload_n 0 rfl d_CS_init_26 ?_
  refine V_iconst (v := 2) rfl d_CS_init_27 ?_
  refine V_newQ (t := 2) (N := 2) rfl wc_CS_23 wv_Tx (by decide) (by decide) (by decide) (Nat.le_of_ble_eq_true rfl) (Nat.le_of_ble_eq_true rfl) d_CS_init_28 (fun q10 => ?_)
  refine V_dup rfl d_CS_init_31 ?_
  refine V_iconst (v := 0) rfl d_CS_init_32 ?_
  refine V_aload_n 0 rfl d_CS_init_33 ?_
  refine V_getW (q0 := 10) (j := 0) cq_0 rfl (by decide) wf_CS_10 rfl d_CS_init_34 ?_
  refine V_astq (q0 := 0) (t := 2) (qk := 9) rfl rfl rfl cq_2 (Or.inr wq_Ca_Tx) (by decide) d_CS_init_37 ?_
  refine V_ws (ws' := (q10, .inl (g.2.2.2.1, 2, .inr (.inr (.inr (.inr (va_up (fun _ => none) (Int32.toNatClampNeg 0) (some q1))))))) :: (q9, .inl (g.2.1, 10, .inl (fun _ => 0))) :: (q8, .inl (g.2.1, 10, .inl (fun _ => 0))) :: (q7, .inl (g.2.1, 10, .inl (fun _ => 0))) :: (q6, .inl (g.2.1, 39, .inl (fun _ => 0))) :: (q5, .inr (1, [.ref q6, .int 4, .int 0, .int (-1), .int 0, .ref q7, .ref q8, .ref q9])) :: (q4, .inl (g.2.1, 8, .inl (fun _ => 0))) :: (q3, .inl (g.2.1, 8, .inl (fun _ => 0))) :: (q2, .inl (g.2.1, 23, .inl (fun _ => 0))) :: (q1, .inr (2, [.ref q2, .int 3, .int 0, .int (-1), .int 0, .ref q3, .ref q4])) :: (aa, .inr (0, [.ref q1, .ref q5, .null, .null, .null, .null, .null, .null, .null, .null, .int 0])) :: w0) rfl ?_
  refine V_dup rfl d_CS_init_38 ?_
  refine V_iconst (v := 1) rfl d_CS_init_39 ?_
  refine V_aload_n 0 rfl d_CS_init_40 ?_
  refine V_getW (q0 := 10) (j := 1) cq_0 rfl (by decide) wf_CS_19 rfl d_CS_init_41 ?_
  refine V_astq (q0 := 0) (t := 2) (qk := 5) rfl rfl rfl cq_1 (Or.inr wq_Ba_Tx) (by decide) d_CS_init_44 ?_
  refine V_ws (ws' := (q10, .inl (g.2.2.2.1, 2, .inr (.inr (.inr (.inr (va_up (va_up (fun _ => none) (Int32.toNatClampNeg 0) (some q1)) (Int32.toNatClampNeg 1) (some q5))))))) :: (q9, .inl (g.2.1, 10, .inl (fun _ => 0))) :: (q8, .inl (g.2.1, 10, .inl (fun _ => 0))) :: (q7, .inl (g.2.1, 10, .inl (fun _ => 0))) :: (q6, .inl (g.2.1, 39, .inl (fun _ => 0))) :: (q5, .inr (1, [.ref q6, .int 4, .int 0, .int (-1), .int 0, .ref q7, .ref q8, .ref q9])) :: (q4, .inl (g.2.1, 8, .inl (fun _ => 0))) :: (q3, .inl (g.2.1, 8, .inl (fun _ => 0))) :: (q2, .inl (g.2.1, 23, .inl (fun _ => 0))) :: (q1, .inr (2, [.ref q2, .int 3, .int 0, .int (-1), .int 0, .ref q3, .ref q4])) :: (aa, .inr (0, [.ref q1, .ref q5, .null, .null, .null, .null, .null, .null, .null, .null, .int 0])) :: w0) rfl ?_
  refine V_putW (q0 := 10) (j := 2) cq_0 rfl (by decide) (Nat.le_of_ble_eq_true rfl) wf_CS_25 (Or.inr ⟨rfl, rfl, rfl⟩) rfl rfl d_CS_init_45 ?_
  refine V_ws (ws' := (q10, .inl (g.2.2.2.1, 2, .inr (.inr (.inr (.inr (va_up (va_up (fun _ => none) (Int32.toNatClampNeg 0) (some q1)) (Int32.toNatClampNeg 1) (some q5))))))) :: (q9, .inl (g.2.1, 10, .inl (fun _ => 0))) :: (q8, .inl (g.2.1, 10, .inl (fun _ => 0))) :: (q7, .inl (g.2.1, 10, .inl (fun _ => 0))) :: (q6, .inl (g.2.1, 39, .inl (fun _ => 0))) :: (q5, .inr (1, [.ref q6, .int 4, .int 0, .int (-1), .int 0, .ref q7, .ref q8, .ref q9])) :: (q4, .inl (g.2.1, 8, .inl (fun _ => 0))) :: (q3, .inl (g.2.1, 8, .inl (fun _ => 0))) :: (q2, .inl (g.2.1, 23, .inl (fun _ => 0))) :: (q1, .inr (2, [.ref q2, .int 3, .int 0, .int (-1), .int 0, .ref q3, .ref q4])) :: (aa, .inr (0, [.ref q1, .ref q5, .ref q10, .null, .null, .null, .null, .null, .null, .null, .int 0])) :: w0) rfl ?_
  refine V_aload_n 0 rfl d_CS_init_48 ?_
  refine V_new (fs := [.null, .null, .int 0]) cq_8 wc_CS_29 wI_St wt_St (fun j hj => by rcases (show j = 0 ∨ j = 1 ∨ j = 2 by omega) with rfl | rfl | rfl <;> rfl) (Nat.le_of_ble_eq_true rfl) (Nat.le_of_ble_eq_true rfl) d_CS_init_49 (fun q11 => ?_)
  refine V_dup rfl d_CS_init_52 ?_
  refine V_callIN (rest := [.ref q11, .ref aa]) (n_St_init l g _ _) ok_St_init rfl wi_St_init wk_CS_31 ⟨⟨rfl, rfl⟩, ⟨(Nat.le_of_ble_eq_true rfl), (Nat.le_of_ble_eq_true rfl)⟩, (Nat.le_of_ble_eq_true rfl), (Nat.le_of_ble_eq_true rfl)⟩ rfl rfl (Nat.le_of_ble_eq_true rfl) d_CS_init_53 (fun ws9 hq9 => ?_)
  obtain ⟨q12, q13, rfl⟩ := hq9
  refine V_ws (ws' := (q13, .inl (g.2.1, 8, .inl (fun _ => 0))) :: (q12, .inl (g.2.1, 8, .inl (fun _ => 0))) :: (q11, .inr (8, [.ref q12, .ref q13, .int 0])) :: (q10, .inl (g.2.2.2.1, 2, .inr (.inr (.inr (.inr (va_up (va_up (fun _ => none) (Int32.toNatClampNeg 0) (some q1)) (Int32.toNatClampNeg 1) (some q5))))))) :: (q9, .inl (g.2.1, 10, .inl (fun _ => 0))) :: (q8, .inl (g.2.1, 10, .inl (fun _ => 0))) :: (q7, .inl (g.2.1, 10, .inl (fun _ => 0))) :: (q6, .inl (g.2.1, 39, .inl (fun _ => 0))) :: (q5, .inr (1, [.ref q6, .int 4, .int 0, .int (-1), .int 0, .ref q7, .ref q8, .ref q9])) :: (q4, .inl (g.2.1, 8, .inl (fun _ => 0))) :: (q3, .inl (g.2.1, 8, .inl (fun _ => 0))) :: (q2, .inl (g.2.1, 23, .inl (fun _ => 0))) :: (q1, .inr (2, [.ref q2, .int 3, .int 0, .int (-1), .int 0, .ref q3, .ref q4])) :: (aa, .inr (0, [.ref q1, .ref q5, .ref q10, .null, .null, .null, .null, .null, .null, .null, .int 0])) :: w0) rfl ?_
  refine V_putW (q0 := 13) (j := 3) cq_0 rfl (by decide) (Nat.le_of_ble_eq_true rfl) wf_CS_32 (Or.inr ⟨rfl, rfl, rfl⟩) rfl rfl d_CS_init_56 ?_
  refine V_ws (ws' := (q13, .inl (g.2.1, 8, .inl (fun _ => 0))) :: (q12, .inl (g.2.1, 8, .inl (fun _ => 0))) :: (q11, .inr (8, [.ref q12, .ref q13, .int 0])) :: (q10, .inl (g.2.2.2.1, 2, .inr (.inr (.inr (.inr (va_up (va_up (fun _ => none) (Int32.toNatClampNeg 0) (some q1)) (Int32.toNatClampNeg 1) (some q5))))))) :: (q9, .inl (g.2.1, 10, .inl (fun _ => 0))) :: (q8, .inl (g.2.1, 10, .inl (fun _ => 0))) :: (q7, .inl (g.2.1, 10, .inl (fun _ => 0))) :: (q6, .inl (g.2.1, 39, .inl (fun _ => 0))) :: (q5, .inr (1, [.ref q6, .int 4, .int 0, .int (-1), .int 0, .ref q7, .ref q8, .ref q9])) :: (q4, .inl (g.2.1, 8, .inl (fun _ => 0))) :: (q3, .inl (g.2.1, 8, .inl (fun _ => 0))) :: (q2, .inl (g.2.1, 23, .inl (fun _ => 0))) :: (q1, .inr (2, [.ref q2, .int 3, .int 0, .int (-1), .int 0, .ref q3, .ref q4])) :: (aa, .inr (0, [.ref q1, .ref q5, .ref q10, .ref q11, .null, .null, .null, .null, .null, .null, .int 0])) :: w0) rfl ?_
  refine V_aload_n 0 rfl d_CS_init_59 ?_
  refine V_new (fs := [.null, .null, .int 0]) cq_8 wc_CS_29 wI_St wt_St (fun j hj => by rcases (show j = 0 ∨ j = 1 ∨ j = 2 by omega) with rfl | rfl | rfl <;> rfl) (Nat.le_of_ble_eq_true rfl) (Nat.le_of_ble_eq_true rfl) d_CS_init_60 (fun q14 => ?_)
  refine V_dup rfl d_CS_init_63 ?_
  refine V_callIN (rest := [.ref q14, .ref aa]) (n_St_init l g _ _) ok_St_init rfl wi_St_init wk_CS_31 ⟨⟨rfl, rfl⟩, ⟨(Nat.le_of_ble_eq_true rfl), (Nat.le_of_ble_eq_true rfl)⟩, (Nat.le_of_ble_eq_true rfl), (Nat.le_of_ble_eq_true rfl)⟩ rfl rfl (Nat.le_of_ble_eq_true rfl) d_CS_init_64 (fun ws9 hq9 => ?_)
  obtain ⟨q15, q16, rfl⟩ := hq9
  refine V_ws (ws' := (q16, .inl (g.2.1, 8, .inl (fun _ => 0))) :: (q15, .inl (g.2.1, 8, .inl (fun _ => 0))) :: (q14, .inr (8, [.ref q15, .ref q16, .int 0])) :: (q13, .inl (g.2.1, 8, .inl (fun _ => 0))) :: (q12, .inl (g.2.1, 8, .inl (fun _ => 0))) :: (q11, .inr (8, [.ref q12, .ref q13, .int 0])) :: (q10, .inl (g.2.2.2.1, 2, .inr (.inr (.inr (.inr (va_up (va_up (fun _ => none) (Int32.toNatClampNeg 0) (some q1)) (Int32.toNatClampNeg 1) (some q5))))))) :: (q9, .inl (g.2.1, 10, .inl (fun _ => 0))) :: (q8, .inl (g.2.1, 10, .inl (fun _ => 0))) :: (q7, .inl (g.2.1, 10, .inl (fun _ => 0))) :: (q6, .inl (g.2.1, 39, .inl (fun _ => 0))) :: (q5, .inr (1, [.ref q6, .int 4, .int 0, .int (-1), .int 0, .ref q7, .ref q8, .ref q9])) :: (q4, .inl (g.2.1, 8, .inl (fun _ => 0))) :: (q3, .inl (g.2.1, 8, .inl (fun _ => 0))) :: (q2, .inl (g.2.1, 23, .inl (fun _ => 0))) :: (q1, .inr (2, [.ref q2, .int 3, .int 0, .int (-1), .int 0, .ref q3, .ref q4])) :: (aa, .inr (0, [.ref q1, .ref q5, .ref q10, .ref q11, .null, .null, .null, .null, .null, .null, .int 0])) :: w0) rfl ?_
  refine V_putW (q0 := 16) (j := 4) cq_0 rfl (by decide) (Nat.le_of_ble_eq_true rfl) wf_CS_36 (Or.inr ⟨rfl, rfl, rfl⟩) rfl rfl d_CS_init_67 ?_
  refine V_ws (ws' := (q16, .inl (g.2.1, 8, .inl (fun _ => 0))) :: (q15, .inl (g.2.1, 8, .inl (fun _ => 0))) :: (q14, .inr (8, [.ref q15, .ref q16, .int 0])) :: (q13, .inl (g.2.1, 8, .inl (fun _ => 0))) :: (q12, .inl (g.2.1, 8, .inl (fun _ => 0))) :: (q11, .inr (8, [.ref q12, .ref q13, .int 0])) :: (q10, .inl (g.2.2.2.1, 2, .inr (.inr (.inr (.inr (va_up (va_up (fun _ => none) (Int32.toNatClampNeg 0) (some q1)) (Int32.toNatClampNeg 1) (some q5))))))) :: (q9, .inl (g.2.1, 10, .inl (fun _ => 0))) :: (q8, .inl (g.2.1, 10, .inl (fun _ => 0))) :: (q7, .inl (g.2.1, 10, .inl (fun _ => 0))) :: (q6, .inl (g.2.1, 39, .inl (fun _ => 0))) :: (q5, .inr (1, [.ref q6, .int 4, .int 0, .int (-1), .int 0, .ref q7, .ref q8, .ref q9])) :: (q4, .inl (g.2.1, 8, .inl (fun _ => 0))) :: (q3, .inl (g.2.1, 8, .inl (fun _ => 0))) :: (q2, .inl (g.2.1, 23, .inl (fun _ => 0))) :: (q1, .inr (2, [.ref q2, .int 3, .int 0, .int (-1), .int 0, .ref q3, .ref q4])) :: (aa, .inr (0, [.ref q1, .ref q5, .ref q10, .ref q11, .ref q14, .null, .null, .null, .null, .null, .int 0])) :: w0) rfl ?_
  refine V_aload_n 0 rfl d_CS_init_70 ?_
  refine V_new (fs := [.null, .null, .null, .int 0, .null, .null]) cq_3 wc_CS_39 wI_Cv wt_Cv (fun j hj => by rcases (show j = 0 ∨ j = 1 ∨ j = 2 ∨ j = 3 ∨ j = 4 ∨ j = 5 by omega) with rfl | rfl | rfl | rfl | rfl | rfl <;> rfl) (Nat.le_of_ble_eq_true rfl) (Nat.le_of_ble_eq_true rfl) d_CS_init_71 (fun q17 => ?_)
  refine V_dup rfl d_CS_init_74 ?_
  refine V_aload_n 0 rfl d_CS_init_75 ?_
  refine V_getW (q0 := 17) (j := 0) cq_0 rfl (by decide) wf_CS_10 rfl d_CS_init_76 ?_
  refine V_aload_n 0 rfl d_CS_init_79 ?_
  refine V_getW (q0 := 17) (j := 1) cq_0 rfl (by decide) wf_CS_19 rfl d_CS_init_80 ?_
  refine V_aload_n 0 rfl d_CS_init_83 ?_
  refine V_getW (q0 := 17) (j := 3) cq_0 rfl (by decide) wf_CS_32 rfl d_CS_init_84 ?_
  refine V_callI (rest := [.ref q17, .ref aa]) (n_Cv_init l g _ _ _ _ _) ok_Cv_init rfl wi_Cv_init wk_CS_41 ⟨⟨rfl, rfl⟩, ⟨(Nat.le_of_ble_eq_true rfl), (Nat.le_of_ble_eq_true rfl)⟩, (Nat.le_of_ble_eq_true rfl), (Nat.le_of_ble_eq_true rfl)⟩ rfl rfl (Nat.le_of_ble_eq_true rfl) d_CS_init_87 (fun ws9 hq9 => ?_)
  obtain ⟨q18, q19, q20, rfl⟩ := hq9
  refine V_ws (ws' := (q20, .inl (g.2.1, 24, .inl (fun _ => 0))) :: (q19, .inl (g.2.1, 192, .inl (fun _ => 0))) :: (q18, .inr (9, [.ref q19, .int 0, .int 0, .int 0, .int 0, .int 0, .int 0, .int 0, .int 0, .int 0, .int 0, .int 0, .int 0])) :: (q17, .inr (3, [.ref q1, .ref q5, .ref q11, .int 0, .ref q18, .ref q20])) :: (q16, .inl (g.2.1, 8, .inl (fun _ => 0))) :: (q15, .inl (g.2.1, 8, .inl (fun _ => 0))) :: (q14, .inr (8, [.ref q15, .ref q16, .int 0])) :: (q13, .inl (g.2.1, 8, .inl (fun _ => 0))) :: (q12, .inl (g.2.1, 8, .inl (fun _ => 0))) :: (q11, .inr (8, [.ref q12, .ref q13, .int 0])) :: (q10, .inl (g.2.2.2.1, 2, .inr (.inr (.inr (.inr (va_up (va_up (fun _ => none) (Int32.toNatClampNeg 0) (some q1)) (Int32.toNatClampNeg 1) (some q5))))))) :: (q9, .inl (g.2.1, 10, .inl (fun _ => 0))) :: (q8, .inl (g.2.1, 10, .inl (fun _ => 0))) :: (q7, .inl (g.2.1, 10, .inl (fun _ => 0))) :: (q6, .inl (g.2.1, 39, .inl (fun _ => 0))) :: (q5, .inr (1, [.ref q6, .int 4, .int 0, .int (-1), .int 0, .ref q7, .ref q8, .ref q9])) :: (q4, .inl (g.2.1, 8, .inl (fun _ => 0))) :: (q3, .inl (g.2.1, 8, .inl (fun _ => 0))) :: (q2, .inl (g.2.1, 23, .inl (fun _ => 0))) :: (q1, .inr (2, [.ref q2, .int 3, .int 0, .int (-1), .int 0, .ref q3, .ref q4])) :: (aa, .inr (0, [.ref q1, .ref q5, .ref q10, .ref q11, .ref q14, .null, .null, .null, .null, .null, .int 0])) :: w0) rfl ?_
  refine V_putW (q0 := 20) (j := 5) cq_0 rfl (by decide) (Nat.le_of_ble_eq_true rfl) wf_CS_44 (Or.inr ⟨rfl, rfl, rfl⟩) rfl rfl d_CS_init_90 ?_
  refine V_ws (ws' := (q20, .inl (g.2.1, 24, .inl (fun _ => 0))) :: (q19, .inl (g.2.1, 192, .inl (fun _ => 0))) :: (q18, .inr (9, [.ref q19, .int 0, .int 0, .int 0, .int 0, .int 0, .int 0, .int 0, .int 0, .int 0, .int 0, .int 0, .int 0])) :: (q17, .inr (3, [.ref q1, .ref q5, .ref q11, .int 0, .ref q18, .ref q20])) :: (q16, .inl (g.2.1, 8, .inl (fun _ => 0))) :: (q15, .inl (g.2.1, 8, .inl (fun _ => 0))) :: (q14, .inr (8, [.ref q15, .ref q16, .int 0])) :: (q13, .inl (g.2.1, 8, .inl (fun _ => 0))) :: (q12, .inl (g.2.1, 8, .inl (fun _ => 0))) :: (q11, .inr (8, [.ref q12, .ref q13, .int 0])) :: (q10, .inl (g.2.2.2.1, 2, .inr (.inr (.inr (.inr (va_up (va_up (fun _ => none) (Int32.toNatClampNeg 0) (some q1)) (Int32.toNatClampNeg 1) (some q5))))))) :: (q9, .inl (g.2.1, 10, .inl (fun _ => 0))) :: (q8, .inl (g.2.1, 10, .inl (fun _ => 0))) :: (q7, .inl (g.2.1, 10, .inl (fun _ => 0))) :: (q6, .inl (g.2.1, 39, .inl (fun _ => 0))) :: (q5, .inr (1, [.ref q6, .int 4, .int 0, .int (-1), .int 0, .ref q7, .ref q8, .ref q9])) :: (q4, .inl (g.2.1, 8, .inl (fun _ => 0))) :: (q3, .inl (g.2.1, 8, .inl (fun _ => 0))) :: (q2, .inl (g.2.1, 23, .inl (fun _ => 0))) :: (q1, .inr (2, [.ref q2, .int 3, .int 0, .int (-1), .int 0, .ref q3, .ref q4])) :: (aa, .inr (0, [.ref q1, .ref q5, .ref q10, .ref q11, .ref q14, .ref q17, .null, .null, .null, .null, .int 0])) :: w0) rfl ?_
  refine V_aload_n 0 rfl d_CS_init_93 ?_
  refine V_new (fs := [.null, .int 0, .int 0]) cq_6 wc_CS_48 wI_Pl wt_Pl (fun j hj => by rcases (show j = 0 ∨ j = 1 ∨ j = 2 by omega) with rfl | rfl | rfl <;> rfl) (Nat.le_of_ble_eq_true rfl) (Nat.le_of_ble_eq_true rfl) d_CS_init_94 (fun q21 => ?_)
  refine V_dup rfl d_CS_init_97 ?_
  refine V_aload_n 0 rfl d_CS_init_98 ?_
  refine V_getW (q0 := 21) (j := 5) cq_0 rfl (by decide) wf_CS_44 rfl d_CS_init_99 ?_
  refine V_callI (rest := [.ref q21, .ref aa]) (n_Pl_init l g _ _ _) ok_Pl_init rfl wi_Pl_init wk_CS_50 ⟨⟨rfl, rfl⟩, ⟨(Nat.le_of_ble_eq_true rfl), (Nat.le_of_ble_eq_true rfl)⟩, (Nat.le_of_ble_eq_true rfl), (Nat.le_of_ble_eq_true rfl)⟩ rfl rfl (Nat.le_of_ble_eq_true rfl) d_CS_init_102 (fun ws9 hq9 => ?_)
  subst hq9
  refine V_ws (ws' := (q21, .inr (6, [.ref q17, .int 0, .int 0])) :: (q20, .inl (g.2.1, 24, .inl (fun _ => 0))) :: (q19, .inl (g.2.1, 192, .inl (fun _ => 0))) :: (q18, .inr (9, [.ref q19, .int 0, .int 0, .int 0, .int 0, .int 0, .int 0, .int 0, .int 0, .int 0, .int 0, .int 0, .int 0])) :: (q17, .inr (3, [.ref q1, .ref q5, .ref q11, .int 0, .ref q18, .ref q20])) :: (q16, .inl (g.2.1, 8, .inl (fun _ => 0))) :: (q15, .inl (g.2.1, 8, .inl (fun _ => 0))) :: (q14, .inr (8, [.ref q15, .ref q16, .int 0])) :: (q13, .inl (g.2.1, 8, .inl (fun _ => 0))) :: (q12, .inl (g.2.1, 8, .inl (fun _ => 0))) :: (q11, .inr (8, [.ref q12, .ref q13, .int 0])) :: (q10, .inl (g.2.2.2.1, 2, .inr (.inr (.inr (.inr (va_up (va_up (fun _ => none) (Int32.toNatClampNeg 0) (some q1)) (Int32.toNatClampNeg 1) (some q5))))))) :: (q9, .inl (g.2.1, 10, .inl (fun _ => 0))) :: (q8, .inl (g.2.1, 10, .inl (fun _ => 0))) :: (q7, .inl (g.2.1, 10, .inl (fun _ => 0))) :: (q6, .inl (g.2.1, 39, .inl (fun _ => 0))) :: (q5, .inr (1, [.ref q6, .int 4, .int 0, .int (-1), .int 0, .ref q7, .ref q8, .ref q9])) :: (q4, .inl (g.2.1, 8, .inl (fun _ => 0))) :: (q3, .inl (g.2.1, 8, .inl (fun _ => 0))) :: (q2, .inl (g.2.1, 23, .inl (fun _ => 0))) :: (q1, .inr (2, [.ref q2, .int 3, .int 0, .int (-1), .int 0, .ref q3, .ref q4])) :: (aa, .inr (0, [.ref q1, .ref q5, .ref q10, .ref q11, .ref q14, .ref q17, .null, .null, .null, .null, .int 0])) :: w0) rfl ?_
  refine V_putW (q0 := 21) (j := 6) cq_0 rfl (by decide) (Nat.le_of_ble_eq_true rfl) wf_CS_53 (Or.inr ⟨rfl, rfl, rfl⟩) rfl rfl d_CS_init_105 ?_
  refine V_ws (ws' := (q21, .inr (6, [.ref q17, .int 0, .int 0])) :: (q20, .inl (g.2.1, 24, .inl (fun _ => 0))) :: (q19, .inl (g.2.1, 192, .inl (fun _ => 0))) :: (q18, .inr (9, [.ref q19, .int 0, .int 0, .int 0, .int 0, .int 0, .int 0, .int 0, .int 0, .int 0, .int 0, .int 0, .int 0])) :: (q17, .inr (3, [.ref q1, .ref q5, .ref q11, .int 0, .ref q18, .ref q20])) :: (q16, .inl (g.2.1, 8, .inl (fun _ => 0))) :: (q15, .inl (g.2.1, 8, .inl (fun _ => 0))) :: (q14, .inr (8, [.ref q15, .ref q16, .int 0])) :: (q13, .inl (g.2.1, 8, .inl (fun _ => 0))) :: (q12, .inl (g.2.1, 8, .inl (fun _ => 0))) :: (q11, .inr (8, [.ref q12, .ref q13, .int 0])) :: (q10, .inl (g.2.2.2.1, 2, .inr (.inr (.inr (.inr (va_up (va_up (fun _ => none) (Int32.toNatClampNeg 0) (some q1)) (Int32.toNatClampNeg 1) (some q5))))))) :: (q9, .inl (g.2.1, 10, .inl (fun _ => 0))) :: (q8, .inl (g.2.1, 10, .inl (fun _ => 0))) :: (q7, .inl (g.2.1, 10, .inl (fun _ => 0))) :: (q6, .inl (g.2.1, 39, .inl (fun _ => 0))) :: (q5, .inr (1, [.ref q6, .int 4, .int 0, .int (-1), .int 0, .ref q7, .ref q8, .ref q9])) :: (q4, .inl (g.2.1, 8, .inl (fun _ => 0))) :: (q3, .inl (g.2.1, 8, .inl (fun _ => 0))) :: (q2, .inl (g.2.1, 23, .inl (fun _ => 0))) :: (q1, .inr (2, [.ref q2, .int 3, .int 0, .int (-1), .int 0, .ref q3, .ref q4])) :: (aa, .inr (0, [.ref q1, .ref q5, .ref q10, .ref q11, .ref q14, .ref q17, .ref q21, .null, .null, .null, .int 0])) :: w0) rfl ?_
  refine V_aload_n 0 rfl d_CS_init_108 ?_
  refine V_new (fs := [.null, .null, .null, .null, .int 0, .null]) cq_4 wc_CS_57 wI_Gu wt_Gu (fun j hj => by rcases (show j = 0 ∨ j = 1 ∨ j = 2 ∨ j = 3 ∨ j = 4 ∨ j = 5 by omega) with rfl | rfl | rfl | rfl | rfl | rfl <;> rfl) (Nat.le_of_ble_eq_true rfl) (Nat.le_of_ble_eq_true rfl) d_CS_init_109 (fun q22 => ?_)
  refine V_dup rfl d_CS_init_112 ?_
  refine V_aload_n 0 rfl d_CS_init_113 ?_
  refine V_getW (q0 := 22) (j := 5) cq_0 rfl (by decide) wf_CS_44 rfl d_CS_init_114 ?_
  refine V_callI (rest := [.ref q22, .ref aa]) (n_Gu_init l g _ _ _) ok_Gu_init rfl wi_Gu_init wk_CS_59 ⟨⟨rfl, rfl⟩, ⟨(Nat.le_of_ble_eq_true rfl), (Nat.le_of_ble_eq_true rfl)⟩, (Nat.le_of_ble_eq_true rfl), (Nat.le_of_ble_eq_true rfl)⟩ rfl rfl (Nat.le_of_ble_eq_true rfl) d_CS_init_117 (fun ws9 hq9 => ?_)
  obtain ⟨q23, q24, q25, q26, rfl⟩ := hq9
  refine V_ws (ws' := (q26, .inl (g.2.1, 240, .inl (fun _ => 0))) :: (q25, .inl (g.2.1, 8, .inl (fun _ => 0))) :: (q24, .inl (g.2.1, 8, .inl (fun _ => 0))) :: (q23, .inl (g.2.1, 8, .inl (fun _ => 0))) :: (q22, .inr (4, [.ref q17, .ref q23, .ref q24, .ref q25, .int 0, .ref q26])) :: (q21, .inr (6, [.ref q17, .int 0, .int 0])) :: (q20, .inl (g.2.1, 24, .inl (fun _ => 0))) :: (q19, .inl (g.2.1, 192, .inl (fun _ => 0))) :: (q18, .inr (9, [.ref q19, .int 0, .int 0, .int 0, .int 0, .int 0, .int 0, .int 0, .int 0, .int 0, .int 0, .int 0, .int 0])) :: (q17, .inr (3, [.ref q1, .ref q5, .ref q11, .int 0, .ref q18, .ref q20])) :: (q16, .inl (g.2.1, 8, .inl (fun _ => 0))) :: (q15, .inl (g.2.1, 8, .inl (fun _ => 0))) :: (q14, .inr (8, [.ref q15, .ref q16, .int 0])) :: (q13, .inl (g.2.1, 8, .inl (fun _ => 0))) :: (q12, .inl (g.2.1, 8, .inl (fun _ => 0))) :: (q11, .inr (8, [.ref q12, .ref q13, .int 0])) :: (q10, .inl (g.2.2.2.1, 2, .inr (.inr (.inr (.inr (va_up (va_up (fun _ => none) (Int32.toNatClampNeg 0) (some q1)) (Int32.toNatClampNeg 1) (some q5))))))) :: (q9, .inl (g.2.1, 10, .inl (fun _ => 0))) :: (q8, .inl (g.2.1, 10, .inl (fun _ => 0))) :: (q7, .inl (g.2.1, 10, .inl (fun _ => 0))) :: (q6, .inl (g.2.1, 39, .inl (fun _ => 0))) :: (q5, .inr (1, [.ref q6, .int 4, .int 0, .int (-1), .int 0, .ref q7, .ref q8, .ref q9])) :: (q4, .inl (g.2.1, 8, .inl (fun _ => 0))) :: (q3, .inl (g.2.1, 8, .inl (fun _ => 0))) :: (q2, .inl (g.2.1, 23, .inl (fun _ => 0))) :: (q1, .inr (2, [.ref q2, .int 3, .int 0, .int (-1), .int 0, .ref q3, .ref q4])) :: (aa, .inr (0, [.ref q1, .ref q5, .ref q10, .ref q11, .ref q14, .ref q17, .ref q21, .null, .null, .null, .int 0])) :: w0) rfl ?_
  refine V_putW (q0 := 26) (j := 7) cq_0 rfl (by decide) (Nat.le_of_ble_eq_true rfl) wf_CS_60 (Or.inr ⟨rfl, rfl, rfl⟩) rfl rfl d_CS_init_120 ?_
  refine V_ws (ws' := (q26, .inl (g.2.1, 240, .inl (fun _ => 0))) :: (q25, .inl (g.2.1, 8, .inl (fun _ => 0))) :: (q24, .inl (g.2.1, 8, .inl (fun _ => 0))) :: (q23, .inl (g.2.1, 8, .inl (fun _ => 0))) :: (q22, .inr (4, [.ref q17, .ref q23, .ref q24, .ref q25, .int 0, .ref q26])) :: (q21, .inr (6, [.ref q17, .int 0, .int 0])) :: (q20, .inl (g.2.1, 24, .inl (fun _ => 0))) :: (q19, .inl (g.2.1, 192, .inl (fun _ => 0))) :: (q18, .inr (9, [.ref q19, .int 0, .int 0, .int 0, .int 0, .int 0, .int 0, .int 0, .int 0, .int 0, .int 0, .int 0, .int 0])) :: (q17, .inr (3, [.ref q1, .ref q5, .ref q11, .int 0, .ref q18, .ref q20])) :: (q16, .inl (g.2.1, 8, .inl (fun _ => 0))) :: (q15, .inl (g.2.1, 8, .inl (fun _ => 0))) :: (q14, .inr (8, [.ref q15, .ref q16, .int 0])) :: (q13, .inl (g.2.1, 8, .inl (fun _ => 0))) :: (q12, .inl (g.2.1, 8, .inl (fun _ => 0))) :: (q11, .inr (8, [.ref q12, .ref q13, .int 0])) :: (q10, .inl (g.2.2.2.1, 2, .inr (.inr (.inr (.inr (va_up (va_up (fun _ => none) (Int32.toNatClampNeg 0) (some q1)) (Int32.toNatClampNeg 1) (some q5))))))) :: (q9, .inl (g.2.1, 10, .inl (fun _ => 0))) :: (q8, .inl (g.2.1, 10, .inl (fun _ => 0))) :: (q7, .inl (g.2.1, 10, .inl (fun _ => 0))) :: (q6, .inl (g.2.1, 39, .inl (fun _ => 0))) :: (q5, .inr (1, [.ref q6, .int 4, .int 0, .int (-1), .int 0, .ref q7, .ref q8, .ref q9])) :: (q4, .inl (g.2.1, 8, .inl (fun _ => 0))) :: (q3, .inl (g.2.1, 8, .inl (fun _ => 0))) :: (q2, .inl (g.2.1, 23, .inl (fun _ => 0))) :: (q1, .inr (2, [.ref q2, .int 3, .int 0, .int (-1), .int 0, .ref q3, .ref q4])) :: (aa, .inr (0, [.ref q1, .ref q5, .ref q10, .ref q11, .ref q14, .ref q17, .ref q21, .ref q22, .null, .null, .int 0])) :: w0) rfl ?_
  refine V_aload_n 0 rfl d_CS_init_123 ?_
  refine V_new (fs := [.null, .long 0, .long 0]) cq_5 wc_CS_64 wI_Od wt_Od (fun j hj => by rcases (show j = 0 ∨ j = 1 ∨ j = 2 by omega) with rfl | rfl | rfl <;> rfl) (Nat.le_of_ble_eq_true rfl) (Nat.le_of_ble_eq_true rfl) d_CS_init_124 (fun q27 => ?_)
  refine V_dup rfl d_CS_init_127 ?_
  refine V_aload_n 0 rfl d_CS_init_128 ?_
  refine V_getW (q0 := 27) (j := 5) cq_0 rfl (by decide) wf_CS_44 rfl d_CS_init_129 ?_
  refine V_callI (rest := [.ref q27, .ref aa]) (n_Od_init l g _ _ _) ok_Od_init rfl wi_Od_init wk_CS_66 ⟨⟨rfl, rfl⟩, ⟨(Nat.le_of_ble_eq_true rfl), (Nat.le_of_ble_eq_true rfl)⟩, (Nat.le_of_ble_eq_true rfl), (Nat.le_of_ble_eq_true rfl)⟩ rfl rfl (Nat.le_of_ble_eq_true rfl) d_CS_init_132 (fun ws9 hq9 => ?_)
  subst hq9
  refine V_ws (ws' := (q27, .inr (5, [.ref q17, .long 0, .long 0])) :: (q26, .inl (g.2.1, 240, .inl (fun _ => 0))) :: (q25, .inl (g.2.1, 8, .inl (fun _ => 0))) :: (q24, .inl (g.2.1, 8, .inl (fun _ => 0))) :: (q23, .inl (g.2.1, 8, .inl (fun _ => 0))) :: (q22, .inr (4, [.ref q17, .ref q23, .ref q24, .ref q25, .int 0, .ref q26])) :: (q21, .inr (6, [.ref q17, .int 0, .int 0])) :: (q20, .inl (g.2.1, 24, .inl (fun _ => 0))) :: (q19, .inl (g.2.1, 192, .inl (fun _ => 0))) :: (q18, .inr (9, [.ref q19, .int 0, .int 0, .int 0, .int 0, .int 0, .int 0, .int 0, .int 0, .int 0, .int 0, .int 0, .int 0])) :: (q17, .inr (3, [.ref q1, .ref q5, .ref q11, .int 0, .ref q18, .ref q20])) :: (q16, .inl (g.2.1, 8, .inl (fun _ => 0))) :: (q15, .inl (g.2.1, 8, .inl (fun _ => 0))) :: (q14, .inr (8, [.ref q15, .ref q16, .int 0])) :: (q13, .inl (g.2.1, 8, .inl (fun _ => 0))) :: (q12, .inl (g.2.1, 8, .inl (fun _ => 0))) :: (q11, .inr (8, [.ref q12, .ref q13, .int 0])) :: (q10, .inl (g.2.2.2.1, 2, .inr (.inr (.inr (.inr (va_up (va_up (fun _ => none) (Int32.toNatClampNeg 0) (some q1)) (Int32.toNatClampNeg 1) (some q5))))))) :: (q9, .inl (g.2.1, 10, .inl (fun _ => 0))) :: (q8, .inl (g.2.1, 10, .inl (fun _ => 0))) :: (q7, .inl (g.2.1, 10, .inl (fun _ => 0))) :: (q6, .inl (g.2.1, 39, .inl (fun _ => 0))) :: (q5, .inr (1, [.ref q6, .int 4, .int 0, .int (-1), .int 0, .ref q7, .ref q8, .ref q9])) :: (q4, .inl (g.2.1, 8, .inl (fun _ => 0))) :: (q3, .inl (g.2.1, 8, .inl (fun _ => 0))) :: (q2, .inl (g.2.1, 23, .inl (fun _ => 0))) :: (q1, .inr (2, [.ref q2, .int 3, .int 0, .int (-1), .int 0, .ref q3, .ref q4])) :: (aa, .inr (0, [.ref q1, .ref q5, .ref q10, .ref q11, .ref q14, .ref q17, .ref q21, .ref q22, .null, .null, .int 0])) :: w0) rfl ?_
  refine V_putW (q0 := 27) (j := 8) cq_0 rfl (by decide) (Nat.le_of_ble_eq_true rfl) wf_CS_67 (Or.inr ⟨rfl, rfl, rfl⟩) rfl rfl d_CS_init_135 ?_
  refine V_ws (ws' := (q27, .inr (5, [.ref q17, .long 0, .long 0])) :: (q26, .inl (g.2.1, 240, .inl (fun _ => 0))) :: (q25, .inl (g.2.1, 8, .inl (fun _ => 0))) :: (q24, .inl (g.2.1, 8, .inl (fun _ => 0))) :: (q23, .inl (g.2.1, 8, .inl (fun _ => 0))) :: (q22, .inr (4, [.ref q17, .ref q23, .ref q24, .ref q25, .int 0, .ref q26])) :: (q21, .inr (6, [.ref q17, .int 0, .int 0])) :: (q20, .inl (g.2.1, 24, .inl (fun _ => 0))) :: (q19, .inl (g.2.1, 192, .inl (fun _ => 0))) :: (q18, .inr (9, [.ref q19, .int 0, .int 0, .int 0, .int 0, .int 0, .int 0, .int 0, .int 0, .int 0, .int 0, .int 0, .int 0])) :: (q17, .inr (3, [.ref q1, .ref q5, .ref q11, .int 0, .ref q18, .ref q20])) :: (q16, .inl (g.2.1, 8, .inl (fun _ => 0))) :: (q15, .inl (g.2.1, 8, .inl (fun _ => 0))) :: (q14, .inr (8, [.ref q15, .ref q16, .int 0])) :: (q13, .inl (g.2.1, 8, .inl (fun _ => 0))) :: (q12, .inl (g.2.1, 8, .inl (fun _ => 0))) :: (q11, .inr (8, [.ref q12, .ref q13, .int 0])) :: (q10, .inl (g.2.2.2.1, 2, .inr (.inr (.inr (.inr (va_up (va_up (fun _ => none) (Int32.toNatClampNeg 0) (some q1)) (Int32.toNatClampNeg 1) (some q5))))))) :: (q9, .inl (g.2.1, 10, .inl (fun _ => 0))) :: (q8, .inl (g.2.1, 10, .inl (fun _ => 0))) :: (q7, .inl (g.2.1, 10, .inl (fun _ => 0))) :: (q6, .inl (g.2.1, 39, .inl (fun _ => 0))) :: (q5, .inr (1, [.ref q6, .int 4, .int 0, .int (-1), .int 0, .ref q7, .ref q8, .ref q9])) :: (q4, .inl (g.2.1, 8, .inl (fun _ => 0))) :: (q3, .inl (g.2.1, 8, .inl (fun _ => 0))) :: (q2, .inl (g.2.1, 23, .inl (fun _ => 0))) :: (q1, .inr (2, [.ref q2, .int 3, .int 0, .int (-1), .int 0, .ref q3, .ref q4])) :: (aa, .inr (0, [.ref q1, .ref q5, .ref q10, .ref q11, .ref q14, .ref q17, .ref q21, .ref q22, .ref q27, .null, .int 0])) :: w0) rfl ?_
  refine V_aload_n 0 rfl d_CS_init_138 ?_
  refine V_iconst (v := 4) rfl d_CS_init_139 ?_
  refine V_newQ (t := 3) (N := 4) rfl wc_CS_71 wv_Sh (by decide) (by decide) (by decide) (Nat.le_of_ble_eq_true rfl) (Nat.le_of_ble_eq_true rfl) d_CS_init_140 (fun q28 => ?_)
  refine V_dup rfl d_CS_init_143 ?_
  refine V_iconst (v := 0) rfl d_CS_init_144 ?_
  refine V_new (fs := [.null, .int 0, .int 0]) cq_7 wc_CS_71 wI_Sh wt_Sh (fun j hj => by rcases (show j = 0 ∨ j = 1 ∨ j = 2 by omega) with rfl | rfl | rfl <;> rfl) (Nat.le_of_ble_eq_true rfl) (Nat.le_of_ble_eq_true rfl) d_CS_init_145 (fun q29 => ?_)
  refine V_dup rfl d_CS_init_148 ?_
  refine V_callIN (rest := [.ref q29, .int 0, .ref q28, .ref q28, .ref aa]) (n_Sh_init l g _ _) ok_Sh_init rfl wi_Sh_init wk_CS_73 ⟨⟨rfl, rfl⟩, ⟨(Nat.le_of_ble_eq_true rfl), (Nat.le_of_ble_eq_true rfl)⟩, (Nat.le_of_ble_eq_true rfl), (Nat.le_of_ble_eq_true rfl)⟩ rfl rfl (Nat.le_of_ble_eq_true rfl) d_CS_init_149 (fun ws9 hq9 => ?_)
  obtain ⟨q30, rfl⟩ := hq9
  refine V_ws (ws' := (q30, .inl (g.2.1, 60, .inl (fun _ => 0))) :: (q29, .inr (7, [.ref q30, .int (-1), .int 0])) :: (q28, .inl (g.2.2.2.2, 4, .inr (.inr (.inr (.inr (fun _ => none)))))) :: (q27, .inr (5, [.ref q17, .long 0, .long 0])) :: (q26, .inl (g.2.1, 240, .inl (fun _ => 0))) :: (q25, .inl (g.2.1, 8, .inl (fun _ => 0))) :: (q24, .inl (g.2.1, 8, .inl (fun _ => 0))) :: (q23, .inl (g.2.1, 8, .inl (fun _ => 0))) :: (q22, .inr (4, [.ref q17, .ref q23, .ref q24, .ref q25, .int 0, .ref q26])) :: (q21, .inr (6, [.ref q17, .int 0, .int 0])) :: (q20, .inl (g.2.1, 24, .inl (fun _ => 0))) :: (q19, .inl (g.2.1, 192, .inl (fun _ => 0))) :: (q18, .inr (9, [.ref q19, .int 0, .int 0, .int 0, .int 0, .int 0, .int 0, .int 0, .int 0, .int 0, .int 0, .int 0, .int 0])) :: (q17, .inr (3, [.ref q1, .ref q5, .ref q11, .int 0, .ref q18, .ref q20])) :: (q16, .inl (g.2.1, 8, .inl (fun _ => 0))) :: (q15, .inl (g.2.1, 8, .inl (fun _ => 0))) :: (q14, .inr (8, [.ref q15, .ref q16, .int 0])) :: (q13, .inl (g.2.1, 8, .inl (fun _ => 0))) :: (q12, .inl (g.2.1, 8, .inl (fun _ => 0))) :: (q11, .inr (8, [.ref q12, .ref q13, .int 0])) :: (q10, .inl (g.2.2.2.1, 2, .inr (.inr (.inr (.inr (va_up (va_up (fun _ => none) (Int32.toNatClampNeg 0) (some q1)) (Int32.toNatClampNeg 1) (some q5))))))) :: (q9, .inl (g.2.1, 10, .inl (fun _ => 0))) :: (q8, .inl (g.2.1, 10, .inl (fun _ => 0))) :: (q7, .inl (g.2.1, 10, .inl (fun _ => 0))) :: (q6, .inl (g.2.1, 39, .inl (fun _ => 0))) :: (q5, .inr (1, [.ref q6, .int 4, .int 0, .int (-1), .int 0, .ref q7, .ref q8, .ref q9])) :: (q4, .inl (g.2.1, 8, .inl (fun _ => 0))) :: (q3, .inl (g.2.1, 8, .inl (fun _ => 0))) :: (q2, .inl (g.2.1, 23, .inl (fun _ => 0))) :: (q1, .inr (2, [.ref q2, .int 3, .int 0, .int (-1), .int 0, .ref q3, .ref q4])) :: (aa, .inr (0, [.ref q1, .ref q5, .ref q10, .ref q11, .ref q14, .ref q17, .ref q21, .ref q22, .ref q27, .null, .int 0])) :: w0) rfl ?_
  refine V_astq (q0 := 2) (t := 3) (qk := 1) rfl rfl rfl cq_7 (Or.inl rfl) (by decide) d_CS_init_152 ?_
  refine V_ws (ws' := (q30, .inl (g.2.1, 60, .inl (fun _ => 0))) :: (q29, .inr (7, [.ref q30, .int (-1), .int 0])) :: (q28, .inl (g.2.2.2.2, 4, .inr (.inr (.inr (.inr (va_up (fun _ => none) (Int32.toNatClampNeg 0) (some q29))))))) :: (q27, .inr (5, [.ref q17, .long 0, .long 0])) :: (q26, .inl (g.2.1, 240, .inl (fun _ => 0))) :: (q25, .inl (g.2.1, 8, .inl (fun _ => 0))) :: (q24, .inl (g.2.1, 8, .inl (fun _ => 0))) :: (q23, .inl (g.2.1, 8, .inl (fun _ => 0))) :: (q22, .inr (4, [.ref q17, .ref q23, .ref q24, .ref q25, .int 0, .ref q26])) :: (q21, .inr (6, [.ref q17, .int 0, .int 0])) :: (q20, .inl (g.2.1, 24, .inl (fun _ => 0))) :: (q19, .inl (g.2.1, 192, .inl (fun _ => 0))) :: (q18, .inr (9, [.ref q19, .int 0, .int 0, .int 0, .int 0, .int 0, .int 0, .int 0, .int 0, .int 0, .int 0, .int 0, .int 0])) :: (q17, .inr (3, [.ref q1, .ref q5, .ref q11, .int 0, .ref q18, .ref q20])) :: (q16, .inl (g.2.1, 8, .inl (fun _ => 0))) :: (q15, .inl (g.2.1, 8, .inl (fun _ => 0))) :: (q14, .inr (8, [.ref q15, .ref q16, .int 0])) :: (q13, .inl (g.2.1, 8, .inl (fun _ => 0))) :: (q12, .inl (g.2.1, 8, .inl (fun _ => 0))) :: (q11, .inr (8, [.ref q12, .ref q13, .int 0])) :: (q10, .inl (g.2.2.2.1, 2, .inr (.inr (.inr (.inr (va_up (va_up (fun _ => none) (Int32.toNatClampNeg 0) (some q1)) (Int32.toNatClampNeg 1) (some q5))))))) :: (q9, .inl (g.2.1, 10, .inl (fun _ => 0))) :: (q8, .inl (g.2.1, 10, .inl (fun _ => 0))) :: (q7, .inl (g.2.1, 10, .inl (fun _ => 0))) :: (q6, .inl (g.2.1, 39, .inl (fun _ => 0))) :: (q5, .inr (1, [.ref q6, .int 4, .int 0, .int (-1), .int 0, .ref q7, .ref q8, .ref q9])) :: (q4, .inl (g.2.1, 8, .inl (fun _ => 0))) :: (q3, .inl (g.2.1, 8, .inl (fun _ => 0))) :: (q2, .inl (g.2.1, 23, .inl (fun _ => 0))) :: (q1, .inr (2, [.ref q2, .int 3, .int 0, .int (-1), .int 0, .ref q3, .ref q4])) :: (aa, .inr (0, [.ref q1, .ref q5, .ref q10, .ref q11, .ref q14, .ref q17, .ref q21, .ref q22, .ref q27, .null, .int 0])) :: w0) rfl ?_
  refine V_dup rfl d_CS_init_153 ?_
  refine V_iconst (v := 1) rfl d_CS_init_154 ?_
  refine V_new (fs := [.null, .int 0, .int 0]) cq_7 wc_CS_71 wI_Sh wt_Sh (fun j hj => by rcases (show j = 0 ∨ j = 1 ∨ j = 2 by omega) with rfl | rfl | rfl <;> rfl) (Nat.le_of_ble_eq_true rfl) (Nat.le_of_ble_eq_true rfl) d_CS_init_155 (fun q31 => ?_)
  refine V_dup rfl d_CS_init_158 ?_
  refine V_callIN (rest := [.ref q31, .int 1, .ref q28, .ref q28, .ref aa]) (n_Sh_init l g _ _) ok_Sh_init rfl wi_Sh_init wk_CS_73 ⟨⟨rfl, rfl⟩, ⟨(Nat.le_of_ble_eq_true rfl), (Nat.le_of_ble_eq_true rfl)⟩, (Nat.le_of_ble_eq_true rfl), (Nat.le_of_ble_eq_true rfl)⟩ rfl rfl (Nat.le_of_ble_eq_true rfl) d_CS_init_159 (fun ws9 hq9 => ?_)
  obtain ⟨q32, rfl⟩ := hq9
  refine V_ws (ws' := (q32, .inl (g.2.1, 60, .inl (fun _ => 0))) :: (q31, .inr (7, [.ref q32, .int (-1), .int 0])) :: (q30, .inl (g.2.1, 60, .inl (fun _ => 0))) :: (q29, .inr (7, [.ref q30, .int (-1), .int 0])) :: (q28, .inl (g.2.2.2.2, 4, .inr (.inr (.inr (.inr (va_up (fun _ => none) (Int32.toNatClampNeg 0) (some q29))))))) :: (q27, .inr (5, [.ref q17, .long 0, .long 0])) :: (q26, .inl (g.2.1, 240, .inl (fun _ => 0))) :: (q25, .inl (g.2.1, 8, .inl (fun _ => 0))) :: (q24, .inl (g.2.1, 8, .inl (fun _ => 0))) :: (q23, .inl (g.2.1, 8, .inl (fun _ => 0))) :: (q22, .inr (4, [.ref q17, .ref q23, .ref q24, .ref q25, .int 0, .ref q26])) :: (q21, .inr (6, [.ref q17, .int 0, .int 0])) :: (q20, .inl (g.2.1, 24, .inl (fun _ => 0))) :: (q19, .inl (g.2.1, 192, .inl (fun _ => 0))) :: (q18, .inr (9, [.ref q19, .int 0, .int 0, .int 0, .int 0, .int 0, .int 0, .int 0, .int 0, .int 0, .int 0, .int 0, .int 0])) :: (q17, .inr (3, [.ref q1, .ref q5, .ref q11, .int 0, .ref q18, .ref q20])) :: (q16, .inl (g.2.1, 8, .inl (fun _ => 0))) :: (q15, .inl (g.2.1, 8, .inl (fun _ => 0))) :: (q14, .inr (8, [.ref q15, .ref q16, .int 0])) :: (q13, .inl (g.2.1, 8, .inl (fun _ => 0))) :: (q12, .inl (g.2.1, 8, .inl (fun _ => 0))) :: (q11, .inr (8, [.ref q12, .ref q13, .int 0])) :: (q10, .inl (g.2.2.2.1, 2, .inr (.inr (.inr (.inr (va_up (va_up (fun _ => none) (Int32.toNatClampNeg 0) (some q1)) (Int32.toNatClampNeg 1) (some q5))))))) :: (q9, .inl (g.2.1, 10, .inl (fun _ => 0))) :: (q8, .inl (g.2.1, 10, .inl (fun _ => 0))) :: (q7, .inl (g.2.1, 10, .inl (fun _ => 0))) :: (q6, .inl (g.2.1, 39, .inl (fun _ => 0))) :: (q5, .inr (1, [.ref q6, .int 4, .int 0, .int (-1), .int 0, .ref q7, .ref q8, .ref q9])) :: (q4, .inl (g.2.1, 8, .inl (fun _ => 0))) :: (q3, .inl (g.2.1, 8, .inl (fun _ => 0))) :: (q2, .inl (g.2.1, 23, .inl (fun _ => 0))) :: (q1, .inr (2, [.ref q2, .int 3, .int 0, .int (-1), .int 0, .ref q3, .ref q4])) :: (aa, .inr (0, [.ref q1, .ref q5, .ref q10, .ref q11, .ref q14, .ref q17, .ref q21, .ref q22, .ref q27, .null, .int 0])) :: w0) rfl ?_
  refine V_astq (q0 := 4) (t := 3) (qk := 1) rfl rfl rfl cq_7 (Or.inl rfl) (by decide) d_CS_init_162 ?_
  refine V_ws (ws' := (q32, .inl (g.2.1, 60, .inl (fun _ => 0))) :: (q31, .inr (7, [.ref q32, .int (-1), .int 0])) :: (q30, .inl (g.2.1, 60, .inl (fun _ => 0))) :: (q29, .inr (7, [.ref q30, .int (-1), .int 0])) :: (q28, .inl (g.2.2.2.2, 4, .inr (.inr (.inr (.inr (va_up (va_up (fun _ => none) (Int32.toNatClampNeg 0) (some q29)) (Int32.toNatClampNeg 1) (some q31))))))) :: (q27, .inr (5, [.ref q17, .long 0, .long 0])) :: (q26, .inl (g.2.1, 240, .inl (fun _ => 0))) :: (q25, .inl (g.2.1, 8, .inl (fun _ => 0))) :: (q24, .inl (g.2.1, 8, .inl (fun _ => 0))) :: (q23, .inl (g.2.1, 8, .inl (fun _ => 0))) :: (q22, .inr (4, [.ref q17, .ref q23, .ref q24, .ref q25, .int 0, .ref q26])) :: (q21, .inr (6, [.ref q17, .int 0, .int 0])) :: (q20, .inl (g.2.1, 24, .inl (fun _ => 0))) :: (q19, .inl (g.2.1, 192, .inl (fun _ => 0))) :: (q18, .inr (9, [.ref q19, .int 0, .int 0, .int 0, .int 0, .int 0, .int 0, .int 0, .int 0, .int 0, .int 0, .int 0, .int 0])) :: (q17, .inr (3, [.ref q1, .ref q5, .ref q11, .int 0, .ref q18, .ref q20])) :: (q16, .inl (g.2.1, 8, .inl (fun _ => 0))) :: (q15, .inl (g.2.1, 8, .inl (fun _ => 0))) :: (q14, .inr (8, [.ref q15, .ref q16, .int 0])) :: (q13, .inl (g.2.1, 8, .inl (fun _ => 0))) :: (q12, .inl (g.2.1, 8, .inl (fun _ => 0))) :: (q11, .inr (8, [.ref q12, .ref q13, .int 0])) :: (q10, .inl (g.2.2.2.1, 2, .inr (.inr (.inr (.inr (va_up (va_up (fun _ => none) (Int32.toNatClampNeg 0) (some q1)) (Int32.toNatClampNeg 1) (some q5))))))) :: (q9, .inl (g.2.1, 10, .inl (fun _ => 0))) :: (q8, .inl (g.2.1, 10, .inl (fun _ => 0))) :: (q7, .inl (g.2.1, 10, .inl (fun _ => 0))) :: (q6, .inl (g.2.1, 39, .inl (fun _ => 0))) :: (q5, .inr (1, [.ref q6, .int 4, .int 0, .int (-1), .int 0, .ref q7, .ref q8, .ref q9])) :: (q4, .inl (g.2.1, 8, .inl (fun _ => 0))) :: (q3, .inl (g.2.1, 8, .inl (fun _ => 0))) :: (q2, .inl (g.2.1, 23, .inl (fun _ => 0))) :: (q1, .inr (2, [.ref q2, .int 3, .int 0, .int (-1), .int 0, .ref q3, .ref q4])) :: (aa, .inr (0, [.ref q1, .ref q5, .ref q10, .ref q11, .ref q14, .ref q17, .ref q21, .ref q22, .ref q27, .null, .int 0])) :: w0) rfl ?_
  refine V_dup rfl d_CS_init_163 ?_
  refine V_iconst (v := 2) rfl d_CS_init_164 ?_
  refine V_new (fs := [.null, .int 0, .int 0]) cq_7 wc_CS_71 wI_Sh wt_Sh (fun j hj => by rcases (show j = 0 ∨ j = 1 ∨ j = 2 by omega) with rfl | rfl | rfl <;> rfl) (Nat.le_of_ble_eq_true rfl) (Nat.le_of_ble_eq_true rfl) d_CS_init_165 (fun q33 => ?_)
  refine V_dup rfl d_CS_init_168 ?_
  refine V_callIN (rest := [.ref q33, .int 2, .ref q28, .ref q28, .ref aa]) (n_Sh_init l g _ _) ok_Sh_init rfl wi_Sh_init wk_CS_73 ⟨⟨rfl, rfl⟩, ⟨(Nat.le_of_ble_eq_true rfl), (Nat.le_of_ble_eq_true rfl)⟩, (Nat.le_of_ble_eq_true rfl), (Nat.le_of_ble_eq_true rfl)⟩ rfl rfl (Nat.le_of_ble_eq_true rfl) d_CS_init_169 (fun ws9 hq9 => ?_)
  obtain ⟨q34, rfl⟩ := hq9
  refine V_ws (ws' := (q34, .inl (g.2.1, 60, .inl (fun _ => 0))) :: (q33, .inr (7, [.ref q34, .int (-1), .int 0])) :: (q32, .inl (g.2.1, 60, .inl (fun _ => 0))) :: (q31, .inr (7, [.ref q32, .int (-1), .int 0])) :: (q30, .inl (g.2.1, 60, .inl (fun _ => 0))) :: (q29, .inr (7, [.ref q30, .int (-1), .int 0])) :: (q28, .inl (g.2.2.2.2, 4, .inr (.inr (.inr (.inr (va_up (va_up (fun _ => none) (Int32.toNatClampNeg 0) (some q29)) (Int32.toNatClampNeg 1) (some q31))))))) :: (q27, .inr (5, [.ref q17, .long 0, .long 0])) :: (q26, .inl (g.2.1, 240, .inl (fun _ => 0))) :: (q25, .inl (g.2.1, 8, .inl (fun _ => 0))) :: (q24, .inl (g.2.1, 8, .inl (fun _ => 0))) :: (q23, .inl (g.2.1, 8, .inl (fun _ => 0))) :: (q22, .inr (4, [.ref q17, .ref q23, .ref q24, .ref q25, .int 0, .ref q26])) :: (q21, .inr (6, [.ref q17, .int 0, .int 0])) :: (q20, .inl (g.2.1, 24, .inl (fun _ => 0))) :: (q19, .inl (g.2.1, 192, .inl (fun _ => 0))) :: (q18, .inr (9, [.ref q19, .int 0, .int 0, .int 0, .int 0, .int 0, .int 0, .int 0, .int 0, .int 0, .int 0, .int 0, .int 0])) :: (q17, .inr (3, [.ref q1, .ref q5, .ref q11, .int 0, .ref q18, .ref q20])) :: (q16, .inl (g.2.1, 8, .inl (fun _ => 0))) :: (q15, .inl (g.2.1, 8, .inl (fun _ => 0))) :: (q14, .inr (8, [.ref q15, .ref q16, .int 0])) :: (q13, .inl (g.2.1, 8, .inl (fun _ => 0))) :: (q12, .inl (g.2.1, 8, .inl (fun _ => 0))) :: (q11, .inr (8, [.ref q12, .ref q13, .int 0])) :: (q10, .inl (g.2.2.2.1, 2, .inr (.inr (.inr (.inr (va_up (va_up (fun _ => none) (Int32.toNatClampNeg 0) (some q1)) (Int32.toNatClampNeg 1) (some q5))))))) :: (q9, .inl (g.2.1, 10, .inl (fun _ => 0))) :: (q8, .inl (g.2.1, 10, .inl (fun _ => 0))) :: (q7, .inl (g.2.1, 10, .inl (fun _ => 0))) :: (q6, .inl (g.2.1, 39, .inl (fun _ => 0))) :: (q5, .inr (1, [.ref q6, .int 4, .int 0, .int (-1), .int 0, .ref q7, .ref q8, .ref q9])) :: (q4, .inl (g.2.1, 8, .inl (fun _ => 0))) :: (q3, .inl (g.2.1, 8, .inl (fun _ => 0))) :: (q2, .inl (g.2.1, 23, .inl (fun _ => 0))) :: (q1, .inr (2, [.ref q2, .int 3, .int 0, .int (-1), .int 0, .ref q3, .ref q4])) :: (aa, .inr (0, [.ref q1, .ref q5, .ref q10, .ref q11, .ref q14, .ref q17, .ref q21, .ref q22, .ref q27, .null, .int 0])) :: w0) rfl ?_
  refine V_astq (q0 := 6) (t := 3) (qk := 1) rfl rfl rfl cq_7 (Or.inl rfl) (by decide) d_CS_init_172 ?_
  refine V_ws (ws' := (q34, .inl (g.2.1, 60, .inl (fun _ => 0))) :: (q33, .inr (7, [.ref q34, .int (-1), .int 0])) :: (q32, .inl (g.2.1, 60, .inl (fun _ => 0))) :: (q31, .inr (7, [.ref q32, .int (-1), .int 0])) :: (q30, .inl (g.2.1, 60, .inl (fun _ => 0))) :: (q29, .inr (7, [.ref q30, .int (-1), .int 0])) :: (q28, .inl (g.2.2.2.2, 4, .inr (.inr (.inr (.inr (va_up (va_up (va_up (fun _ => none) (Int32.toNatClampNeg 0) (some q29)) (Int32.toNatClampNeg 1) (some q31)) (Int32.toNatClampNeg 2) (some q33))))))) :: (q27, .inr (5, [.ref q17, .long 0, .long 0])) :: (q26, .inl (g.2.1, 240, .inl (fun _ => 0))) :: (q25, .inl (g.2.1, 8, .inl (fun _ => 0))) :: (q24, .inl (g.2.1, 8, .inl (fun _ => 0))) :: (q23, .inl (g.2.1, 8, .inl (fun _ => 0))) :: (q22, .inr (4, [.ref q17, .ref q23, .ref q24, .ref q25, .int 0, .ref q26])) :: (q21, .inr (6, [.ref q17, .int 0, .int 0])) :: (q20, .inl (g.2.1, 24, .inl (fun _ => 0))) :: (q19, .inl (g.2.1, 192, .inl (fun _ => 0))) :: (q18, .inr (9, [.ref q19, .int 0, .int 0, .int 0, .int 0, .int 0, .int 0, .int 0, .int 0, .int 0, .int 0, .int 0, .int 0])) :: (q17, .inr (3, [.ref q1, .ref q5, .ref q11, .int 0, .ref q18, .ref q20])) :: (q16, .inl (g.2.1, 8, .inl (fun _ => 0))) :: (q15, .inl (g.2.1, 8, .inl (fun _ => 0))) :: (q14, .inr (8, [.ref q15, .ref q16, .int 0])) :: (q13, .inl (g.2.1, 8, .inl (fun _ => 0))) :: (q12, .inl (g.2.1, 8, .inl (fun _ => 0))) :: (q11, .inr (8, [.ref q12, .ref q13, .int 0])) :: (q10, .inl (g.2.2.2.1, 2, .inr (.inr (.inr (.inr (va_up (va_up (fun _ => none) (Int32.toNatClampNeg 0) (some q1)) (Int32.toNatClampNeg 1) (some q5))))))) :: (q9, .inl (g.2.1, 10, .inl (fun _ => 0))) :: (q8, .inl (g.2.1, 10, .inl (fun _ => 0))) :: (q7, .inl (g.2.1, 10, .inl (fun _ => 0))) :: (q6, .inl (g.2.1, 39, .inl (fun _ => 0))) :: (q5, .inr (1, [.ref q6, .int 4, .int 0, .int (-1), .int 0, .ref q7, .ref q8, .ref q9])) :: (q4, .inl (g.2.1, 8, .inl (fun _ => 0))) :: (q3, .inl (g.2.1, 8, .inl (fun _ => 0))) :: (q2, .inl (g.2.1, 23, .inl (fun _ => 0))) :: (q1, .inr (2, [.ref q2, .int 3, .int 0, .int (-1), .int 0, .ref q3, .ref q4])) :: (aa, .inr (0, [.ref q1, .ref q5, .ref q10, .ref q11, .ref q14, .ref q17, .ref q21, .ref q22, .ref q27, .null, .int 0])) :: w0) rfl ?_
  refine V_dup rfl d_CS_init_173 ?_
  refine V_iconst (v := 3) rfl d_CS_init_174 ?_
  refine V_new (fs := [.null, .int 0, .int 0]) cq_7 wc_CS_71 wI_Sh wt_Sh (fun j hj => by rcases (show j = 0 ∨ j = 1 ∨ j = 2 by omega) with rfl | rfl | rfl <;> rfl) (Nat.le_of_ble_eq_true rfl) (Nat.le_of_ble_eq_true rfl) d_CS_init_175 (fun q35 => ?_)
  refine V_dup rfl d_CS_init_178 ?_
  refine V_callIN (rest := [.ref q35, .int 3, .ref q28, .ref q28, .ref aa]) (n_Sh_init l g _ _) ok_Sh_init rfl wi_Sh_init wk_CS_73 ⟨⟨rfl, rfl⟩, ⟨(Nat.le_of_ble_eq_true rfl), (Nat.le_of_ble_eq_true rfl)⟩, (Nat.le_of_ble_eq_true rfl), (Nat.le_of_ble_eq_true rfl)⟩ rfl rfl (Nat.le_of_ble_eq_true rfl) d_CS_init_179 (fun ws9 hq9 => ?_)
  obtain ⟨q36, rfl⟩ := hq9
  refine V_ws (ws' := (q36, .inl (g.2.1, 60, .inl (fun _ => 0))) :: (q35, .inr (7, [.ref q36, .int (-1), .int 0])) :: (q34, .inl (g.2.1, 60, .inl (fun _ => 0))) :: (q33, .inr (7, [.ref q34, .int (-1), .int 0])) :: (q32, .inl (g.2.1, 60, .inl (fun _ => 0))) :: (q31, .inr (7, [.ref q32, .int (-1), .int 0])) :: (q30, .inl (g.2.1, 60, .inl (fun _ => 0))) :: (q29, .inr (7, [.ref q30, .int (-1), .int 0])) :: (q28, .inl (g.2.2.2.2, 4, .inr (.inr (.inr (.inr (va_up (va_up (va_up (fun _ => none) (Int32.toNatClampNeg 0) (some q29)) (Int32.toNatClampNeg 1) (some q31)) (Int32.toNatClampNeg 2) (some q33))))))) :: (q27, .inr (5, [.ref q17, .long 0, .long 0])) :: (q26, .inl (g.2.1, 240, .inl (fun _ => 0))) :: (q25, .inl (g.2.1, 8, .inl (fun _ => 0))) :: (q24, .inl (g.2.1, 8, .inl (fun _ => 0))) :: (q23, .inl (g.2.1, 8, .inl (fun _ => 0))) :: (q22, .inr (4, [.ref q17, .ref q23, .ref q24, .ref q25, .int 0, .ref q26])) :: (q21, .inr (6, [.ref q17, .int 0, .int 0])) :: (q20, .inl (g.2.1, 24, .inl (fun _ => 0))) :: (q19, .inl (g.2.1, 192, .inl (fun _ => 0))) :: (q18, .inr (9, [.ref q19, .int 0, .int 0, .int 0, .int 0, .int 0, .int 0, .int 0, .int 0, .int 0, .int 0, .int 0, .int 0])) :: (q17, .inr (3, [.ref q1, .ref q5, .ref q11, .int 0, .ref q18, .ref q20])) :: (q16, .inl (g.2.1, 8, .inl (fun _ => 0))) :: (q15, .inl (g.2.1, 8, .inl (fun _ => 0))) :: (q14, .inr (8, [.ref q15, .ref q16, .int 0])) :: (q13, .inl (g.2.1, 8, .inl (fun _ => 0))) :: (q12, .inl (g.2.1, 8, .inl (fun _ => 0))) :: (q11, .inr (8, [.ref q12, .ref q13, .int 0])) :: (q10, .inl (g.2.2.2.1, 2, .inr (.inr (.inr (.inr (va_up (va_up (fun _ => none) (Int32.toNatClampNeg 0) (some q1)) (Int32.toNatClampNeg 1) (some q5))))))) :: (q9, .inl (g.2.1, 10, .inl (fun _ => 0))) :: (q8, .inl (g.2.1, 10, .inl (fun _ => 0))) :: (q7, .inl (g.2.1, 10, .inl (fun _ => 0))) :: (q6, .inl (g.2.1, 39, .inl (fun _ => 0))) :: (q5, .inr (1, [.ref q6, .int 4, .int 0, .int (-1), .int 0, .ref q7, .ref q8, .ref q9])) :: (q4, .inl (g.2.1, 8, .inl (fun _ => 0))) :: (q3, .inl (g.2.1, 8, .inl (fun _ => 0))) :: (q2, .inl (g.2.1, 23, .inl (fun _ => 0))) :: (q1, .inr (2, [.ref q2, .int 3, .int 0, .int (-1), .int 0, .ref q3, .ref q4])) :: (aa, .inr (0, [.ref q1, .ref q5, .ref q10, .ref q11, .ref q14, .ref q17, .ref q21, .ref q22, .ref q27, .null, .int 0])) :: w0) rfl ?_
  refine V_astq (q0 := 8) (t := 3) (qk := 1) rfl rfl rfl cq_7 (Or.inl rfl) (by decide) d_CS_init_182 ?_
  refine V_ws (ws' := (q36, .inl (g.2.1, 60, .inl (fun _ => 0))) :: (q35, .inr (7, [.ref q36, .int (-1), .int 0])) :: (q34, .inl (g.2.1, 60, .inl (fun _ => 0))) :: (q33, .inr (7, [.ref q34, .int (-1), .int 0])) :: (q32, .inl (g.2.1, 60, .inl (fun _ => 0))) :: (q31, .inr (7, [.ref q32, .int (-1), .int 0])) :: (q30, .inl (g.2.1, 60, .inl (fun _ => 0))) :: (q29, .inr (7, [.ref q30, .int (-1), .int 0])) :: (q28, .inl (g.2.2.2.2, 4, .inr (.inr (.inr (.inr (va_up (va_up (va_up (va_up (fun _ => none) (Int32.toNatClampNeg 0) (some q29)) (Int32.toNatClampNeg 1) (some q31)) (Int32.toNatClampNeg 2) (some q33)) (Int32.toNatClampNeg 3) (some q35))))))) :: (q27, .inr (5, [.ref q17, .long 0, .long 0])) :: (q26, .inl (g.2.1, 240, .inl (fun _ => 0))) :: (q25, .inl (g.2.1, 8, .inl (fun _ => 0))) :: (q24, .inl (g.2.1, 8, .inl (fun _ => 0))) :: (q23, .inl (g.2.1, 8, .inl (fun _ => 0))) :: (q22, .inr (4, [.ref q17, .ref q23, .ref q24, .ref q25, .int 0, .ref q26])) :: (q21, .inr (6, [.ref q17, .int 0, .int 0])) :: (q20, .inl (g.2.1, 24, .inl (fun _ => 0))) :: (q19, .inl (g.2.1, 192, .inl (fun _ => 0))) :: (q18, .inr (9, [.ref q19, .int 0, .int 0, .int 0, .int 0, .int 0, .int 0, .int 0, .int 0, .int 0, .int 0, .int 0, .int 0])) :: (q17, .inr (3, [.ref q1, .ref q5, .ref q11, .int 0, .ref q18, .ref q20])) :: (q16, .inl (g.2.1, 8, .inl (fun _ => 0))) :: (q15, .inl (g.2.1, 8, .inl (fun _ => 0))) :: (q14, .inr (8, [.ref q15, .ref q16, .int 0])) :: (q13, .inl (g.2.1, 8, .inl (fun _ => 0))) :: (q12, .inl (g.2.1, 8, .inl (fun _ => 0))) :: (q11, .inr (8, [.ref q12, .ref q13, .int 0])) :: (q10, .inl (g.2.2.2.1, 2, .inr (.inr (.inr (.inr (va_up (va_up (fun _ => none) (Int32.toNatClampNeg 0) (some q1)) (Int32.toNatClampNeg 1) (some q5))))))) :: (q9, .inl (g.2.1, 10, .inl (fun _ => 0))) :: (q8, .inl (g.2.1, 10, .inl (fun _ => 0))) :: (q7, .inl (g.2.1, 10, .inl (fun _ => 0))) :: (q6, .inl (g.2.1, 39, .inl (fun _ => 0))) :: (q5, .inr (1, [.ref q6, .int 4, .int 0, .int (-1), .int 0, .ref q7, .ref q8, .ref q9])) :: (q4, .inl (g.2.1, 8, .inl (fun _ => 0))) :: (q3, .inl (g.2.1, 8, .inl (fun _ => 0))) :: (q2, .inl (g.2.1, 23, .inl (fun _ => 0))) :: (q1, .inr (2, [.ref q2, .int 3, .int 0, .int (-1), .int 0, .ref q3, .ref q4])) :: (aa, .inr (0, [.ref q1, .ref q5, .ref q10, .ref q11, .ref q14, .ref q17, .ref q21, .ref q22, .ref q27, .null, .int 0])) :: w0) rfl ?_
  refine V_putW (q0 := 36) (j := 9) cq_0 rfl (by decide) (Nat.le_of_ble_eq_true rfl) wf_CS_74 (Or.inr ⟨rfl, rfl, rfl⟩) rfl rfl d_CS_init_183 ?_
  refine V_ws (ws' := (q36, .inl (g.2.1, 60, .inl (fun _ => 0))) :: (q35, .inr (7, [.ref q36, .int (-1), .int 0])) :: (q34, .inl (g.2.1, 60, .inl (fun _ => 0))) :: (q33, .inr (7, [.ref q34, .int (-1), .int 0])) :: (q32, .inl (g.2.1, 60, .inl (fun _ => 0))) :: (q31, .inr (7, [.ref q32, .int (-1), .int 0])) :: (q30, .inl (g.2.1, 60, .inl (fun _ => 0))) :: (q29, .inr (7, [.ref q30, .int (-1), .int 0])) :: (q28, .inl (g.2.2.2.2, 4, .inr (.inr (.inr (.inr (va_up (va_up (va_up (va_up (fun _ => none) (Int32.toNatClampNeg 0) (some q29)) (Int32.toNatClampNeg 1) (some q31)) (Int32.toNatClampNeg 2) (some q33)) (Int32.toNatClampNeg 3) (some q35))))))) :: (q27, .inr (5, [.ref q17, .long 0, .long 0])) :: (q26, .inl (g.2.1, 240, .inl (fun _ => 0))) :: (q25, .inl (g.2.1, 8, .inl (fun _ => 0))) :: (q24, .inl (g.2.1, 8, .inl (fun _ => 0))) :: (q23, .inl (g.2.1, 8, .inl (fun _ => 0))) :: (q22, .inr (4, [.ref q17, .ref q23, .ref q24, .ref q25, .int 0, .ref q26])) :: (q21, .inr (6, [.ref q17, .int 0, .int 0])) :: (q20, .inl (g.2.1, 24, .inl (fun _ => 0))) :: (q19, .inl (g.2.1, 192, .inl (fun _ => 0))) :: (q18, .inr (9, [.ref q19, .int 0, .int 0, .int 0, .int 0, .int 0, .int 0, .int 0, .int 0, .int 0, .int 0, .int 0, .int 0])) :: (q17, .inr (3, [.ref q1, .ref q5, .ref q11, .int 0, .ref q18, .ref q20])) :: (q16, .inl (g.2.1, 8, .inl (fun _ => 0))) :: (q15, .inl (g.2.1, 8, .inl (fun _ => 0))) :: (q14, .inr (8, [.ref q15, .ref q16, .int 0])) :: (q13, .inl (g.2.1, 8, .inl (fun _ => 0))) :: (q12, .inl (g.2.1, 8, .inl (fun _ => 0))) :: (q11, .inr (8, [.ref q12, .ref q13, .int 0])) :: (q10, .inl (g.2.2.2.1, 2, .inr (.inr (.inr (.inr (va_up (va_up (fun _ => none) (Int32.toNatClampNeg 0) (some q1)) (Int32.toNatClampNeg 1) (some q5))))))) :: (q9, .inl (g.2.1, 10, .inl (fun _ => 0))) :: (q8, .inl (g.2.1, 10, .inl (fun _ => 0))) :: (q7, .inl (g.2.1, 10, .inl (fun _ => 0))) :: (q6, .inl (g.2.1, 39, .inl (fun _ => 0))) :: (q5, .inr (1, [.ref q6, .int 4, .int 0, .int (-1), .int 0, .ref q7, .ref q8, .ref q9])) :: (q4, .inl (g.2.1, 8, .inl (fun _ => 0))) :: (q3, .inl (g.2.1, 8, .inl (fun _ => 0))) :: (q2, .inl (g.2.1, 23, .inl (fun _ => 0))) :: (q1, .inr (2, [.ref q2, .int 3, .int 0, .int (-1), .int 0, .ref q3, .ref q4])) :: (aa, .inr (0, [.ref q1, .ref q5, .ref q10, .ref q11, .ref q14, .ref q17, .ref q21, .ref q22, .ref q27, .ref q28, .int 0])) :: w0) rfl ?_
  exact V_vret (Nat.le_of_ble_eq_true rfl) (Nat.le_of_ble_eq_true rfl) d_CS_init_186 rfl ⟨rfl, q1, q2, q3, q4, q5, q6, q7, q8, q9, q10, q11, q12, q13, q14, q15, q16, q17, q18, q19, q20, q21, q22, q23, q24, q25, q26, q27, q28, q29, q30, q31, q32, q33, q34, q35, q36, rfl⟩
set_option maxRecDepth 20000 in
set_option maxHeartbeats 4000000 in
theorem n_Mo_init (l : Launch) (g : GG) (aa : Nat) (w0 : va_W) : CtW l g y_Mo_init b_Mo_init 1 ({ frames := 1, cells := 34, slots := 1983, locals := 12 } : Room) [.ref aa] ((aa, .inr (10, [.null, .null, .int 0, .null, .null, .int 0, .null, .null, .null, .int 0, .null, .null, .int 0, .null, .null, .int 0, .int 0, .null, .null, .null, .null, .null, .null, .int 0, .int 0, .int 0, .null, .null, .null, .null, .null, .null, .null, .null, .int 0, .null, .null, .null, .null, .null, .null, .null, .null, .null, .int 0])) :: w0) (fun ws2 => ∃ (q1 : Nat) (q2 : Nat) (q3 : Nat) (q4 : Nat) (q5 : Nat) (q6 : Nat) (q7 : Nat) (q8 : Nat) (q9 : Nat) (q10 : Nat) (q11 : Nat) (q12 : Nat) (q13 : Nat) (q14 : Nat) (q15 : Nat) (q16 : Nat) (q17 : Nat) (q18 : Nat) (q19 : Nat) (q20 : Nat) (q21 : Nat) (q22 : Nat) (q23 : Nat) (q24 : Nat) (q25 : Nat) (q26 : Nat) (q27 : Nat) (q28 : Nat) (q29 : Nat) (q30 : Nat) (q31 : Nat) (q32 : Nat) (q33 : Nat) (q34 : Nat), ws2 = (q34, .inl (g.2.1, 60, .inl (fun _ => 0))) :: (q33, .inl (g.2.1, 240, .inl (fun _ => 0))) :: (q32, .inl (g.2.1, 4, .inl (fun _ => 0))) :: (q31, .inl (g.2.1, 4, .inl (fun _ => 0))) :: (q30, .inl (g.2.2.1, 4, .inl (fun _ => 0))) :: (q29, .inl (g.2.1, 240, .inl (fun _ => 0))) :: (q28, .inl (g.2.1, 8, .inl (fun _ => 0))) :: (q27, .inl (g.2.1, 8, .inl (fun _ => 0))) :: (q26, .inl (g.2.1, 8, .inl (fun _ => 0))) :: (q25, .inl (g.2.1, 2, .inl (fun _ => 0))) :: (q24, .inl (g.2.1, 24, .inl (fun _ => 0))) :: (q23, .inl (g.2.1, 192, .inl (fun _ => 0))) :: (q22, .inl (g.2.1, 192, .inl (fun _ => 0))) :: (q21, .inl (g.2.1, 192, .inl (fun _ => 0))) :: (q20, .inl (g.2.1, 192, .inl (fun _ => 0))) :: (q19, .inl (g.2.1, 192, .inl (fun _ => 0))) :: (q18, .inl (g.2.1, 192, .inl (fun _ => 0))) :: (q17, .inl (g.2.1, 8, .inl (fun _ => 0))) :: (q16, .inl (g.2.1, 8, .inl (fun _ => 0))) :: (q15, .inl (g.2.1, 8, .inl (fun _ => 0))) :: (q14, .inl (g.2.1, 8, .inl (fun _ => 0))) :: (q13, .inl (g.2.1, 8, .inl (fun _ => 0))) :: (q12, .inl (g.2.1, 8, .inl (fun _ => 0))) :: (q11, .inl (g.2.1, 17, .inl (fun _ => 0))) :: (q10, .inl (g.2.1, 17, .inl (fun _ => 0))) :: (q9, .inl (g.2.1, 8, .inl (fun _ => 0))) :: (q8, .inl (g.2.1, 8, .inl (fun _ => 0))) :: (q7, .inl (g.2.1, 11, .inl (fun _ => 0))) :: (q6, .inl (g.2.1, 11, .inl (fun _ => 0))) :: (q5, .inl (g.2.1, 11, .inl (fun _ => 0))) :: (q4, .inl (g.2.1, 9, .inl (fun _ => 0))) :: (q3, .inl (g.2.1, 9, .inl (fun _ => 0))) :: (q2, .inl (g.2.1, 78, .inl (fun _ => 0))) :: (q1, .inl (g.2.1, 2, .inl (fun _ => 0))) :: (aa, .inr (10, [.ref q1, .ref q2, .int 0, .ref q3, .ref q4, .int 0, .ref q5, .ref q6, .ref q7, .int 0, .ref q8, .ref q9, .int 0, .ref q10, .ref q11, .int 0, .int 0, .ref q12, .ref q13, .ref q14, .ref q15, .ref q16, .ref q17, .int 0, .int 0, .int 0, .ref q18, .ref q19, .ref q20, .ref q21, .ref q22, .ref q23, .ref q24, .ref q25, .int 0, .ref q26, .ref q27, .ref q28, .ref q29, .ref q30, .ref q31, .ref q32, .ref q33, .ref q34, .int 0])) :: w0) 34 1983 := by
  refine CtW.of (by decide) rfl (Nat.le_of_ble_eq_true rfl) ?_
  refine V_sub [0] (lv' := [(0, .ref aa)]) rfl ?_
  refine V_aload_n 0 rfl d_Mo_init_0 ?_
  refine V_objinit wk_Mo_1 wo_init.1 wo_init.2 (Nat.le_of_ble_eq_true rfl) (Nat.le_of_ble_eq_true rfl) d_Mo_init_1 ?_
  refine V_aload_n 0 rfl d_Mo_init_4 ?_
  refine V_iconst (v := 2) rfl d_Mo_init_5 ?_
  refine V_newI (N := 2) wa_int (by decide) (by decide) (by decide) (Nat.le_of_ble_eq_true rfl) (Nat.le_of_ble_eq_true rfl) d_Mo_init_6 (fun q1 => ?_)
  refine V_putW (q0 := 1) (j := 0) cq_10 rfl (by decide) (Nat.le_of_ble_eq_true rfl) wf_Mo_7 (Or.inr ⟨rfl, rfl, rfl⟩) rfl rfl d_Mo_init_8 ?_
  refine V_ws (ws' := (q1, .inl (g.2.1, 2, .inl (fun _ => 0))) :: (aa, .inr (10, [.ref q1, .null, .int 0, .null, .null, .int 0, .null, .null, .null, .int 0, .null, .null, .int 0, .null, .null, .int 0, .int 0, .null, .null, .null, .null, .null, .null, .int 0, .int 0, .int 0, .null, .null, .null, .null, .null, .null, .null, .null, .int 0, .null, .null, .null, .null, .null, .null, .null, .null, .null, .int 0])) :: w0) rfl ?_
  refine V_aload_n 0 rfl d_Mo_init_11 ?_
  refine V_bipush (v := 78) rfl d_Mo_init_12 ?_
  refine V_newI (N := 78) wa_int (by decide) (by decide) (by decide) (Nat.le_of_ble_eq_true rfl) (Nat.le_of_ble_eq_true rfl) d_Mo_init_14 (fun q2 => ?_)
  refine V_putW (q0 := 2) (j := 1) cq_10 rfl (by decide) (Nat.le_of_ble_eq_true rfl) wf_Mo_13 (Or.inr ⟨rfl, rfl, rfl⟩) rfl rfl d_Mo_init_16 ?_
  refine V_ws (ws' := (q2, .inl (g.2.1, 78, .inl (fun _ => 0))) :: (q1, .inl (g.2.1, 2, .inl (fun _ => 0))) :: (aa, .inr (10, [.ref q1, .ref q2, .int 0, .null, .null, .int 0, .null, .null, .null, .int 0, .null, .null, .int 0, .null, .null, .int 0, .int 0, .null, .null, .null, .null, .null, .null, .int 0, .int 0, .int 0, .null, .null, .null, .null, .null, .null, .null, .null, .int 0, .null, .null, .null, .null, .null, .null, .null, .null, .null, .int 0])) :: w0) rfl ?_
  refine V_aload_n 0 rfl d_Mo_init_19 ?_
  refine V_bipush (v := 9) rfl d_Mo_init_20 ?_
  refine V_newI (N := 9) wa_int (by decide) (by decide) (by decide) (Nat.le_of_ble_eq_true rfl) (Nat.le_of_ble_eq_true rfl) d_Mo_init_22 (fun q3 => ?_)
  refine V_putW (q0 := 3) (j := 3) cq_10 rfl (by decide) (Nat.le_of_ble_eq_true rfl) wf_Mo_16 (Or.inr ⟨rfl, rfl, rfl⟩) rfl rfl d_Mo_init_24 ?_
  refine V_ws (ws' := (q3, .inl (g.2.1, 9, .inl (fun _ => 0))) :: (q2, .inl (g.2.1, 78, .inl (fun _ => 0))) :: (q1, .inl (g.2.1, 2, .inl (fun _ => 0))) :: (aa, .inr (10, [.ref q1, .ref q2, .int 0, .ref q3, .null, .int 0, .null, .null, .null, .int 0, .null, .null, .int 0, .null, .null, .int 0, .int 0, .null, .null, .null, .null, .null, .null, .int 0, .int 0, .int 0, .null, .null, .null, .null, .null, .null, .null, .null, .int 0, .null, .null, .null, .null, .null, .null, .null, .null, .null, .int 0])) :: w0) rfl ?_
  refine V_aload_n 0 rfl d_Mo_init_27 ?_
  refine V_bipush (v := 9) rfl d_Mo_init_28 ?_
  refine V_newI (N := 9) wa_int (by decide) (by decide) (by decide) (Nat.le_of_ble_eq_true rfl) (Nat.le_of_ble_eq_true rfl) d_Mo_init_30 (fun q4 => ?_)
  refine V_putW (q0 := 4) (j := 4) cq_10 rfl (by decide) (Nat.le_of_ble_eq_true rfl) wf_Mo_19 (Or.inr ⟨rfl, rfl, rfl⟩) rfl rfl d_Mo_init_32 ?_
  refine V_ws (ws' := (q4, .inl (g.2.1, 9, .inl (fun _ => 0))) :: (q3, .inl (g.2.1, 9, .inl (fun _ => 0))) :: (q2, .inl (g.2.1, 78, .inl (fun _ => 0))) :: (q1, .inl (g.2.1, 2, .inl (fun _ => 0))) :: (aa, .inr (10, [.ref q1, .ref q2, .int 0, .ref q3, .ref q4, .int 0, .null, .null, .null, .int 0, .null, .null, .int 0, .null, .null, .int 0, .int 0, .null, .null, .null, .null, .null, .null, .int 0, .int 0, .int 0, .null, .null, .null, .null, .null, .null, .null, .null, .int 0, .null, .null, .null, .null, .null, .null, .null, .null, .null, .int 0])) :: w0) rfl ?_
  refine V_aload_n 0 rfl d_Mo_init_35 ?_
  refine V_bipush (v := 11) rfl d_Mo_init_36 ?_
  refine V_newI (N := 11) wa_int (by decide) (by decide) (by decide) (Nat.le_of_ble_eq_true rfl) (Nat.le_of_ble_eq_true rfl) d_Mo_init_38 (fun q5 => ?_)
  refine V_putW (q0 := 5) (j := 6) cq_10 rfl (by decide) (Nat.le_of_ble_eq_true rfl) wf_Mo_22 (Or.inr ⟨rfl, rfl, rfl⟩) rfl rfl d_Mo_init_40 ?_
  refine V_ws (ws' := (q5, .inl (g.2.1, 11, .inl (fun _ => 0))) :: (q4, .inl (g.2.1, 9, .inl (fun _ => 0))) :: (q3, .inl (g.2.1, 9, .inl (fun _ => 0))) :: (q2, .inl (g.2.1, 78, .inl (fun _ => 0))) :: (q1, .inl (g.2.1, 2, .inl (fun _ => 0))) :: (aa, .inr (10, [.ref q1, .ref q2, .int 0, .ref q3, .ref q4, .int 0, .ref q5, .null, .null, .int 0, .null, .null, .int 0, .null, .null, .int 0, .int 0, .null, .null, .null, .null, .null, .null, .int 0, .int 0, .int 0, .null, .null, .null, .null, .null, .null, .null, .null, .int 0, .null, .null, .null, .null, .null, .null, .null, .null, .null, .int 0])) :: w0) rfl ?_
  refine V_aload_n 0 rfl d_Mo_init_43 ?_
  refine V_bipush (v := 11) rfl d_Mo_init_44 ?_
  refine V_newI (N := 11) wa_int (by decide) (by decide) (by decide) (Nat.le_of_ble_eq_true rfl) (Nat.le_of_ble_eq_true rfl) d_Mo_init_46 (fun q6 => ?_)
  refine V_putW (q0 := 6) (j := 7) cq_10 rfl (by decide) (Nat.le_of_ble_eq_true rfl) wf_Mo_25 (Or.inr ⟨rfl, rfl, rfl⟩) rfl rfl d_Mo_init_48 ?_
  refine V_ws (ws' := (q6, .inl (g.2.1, 11, .inl (fun _ => 0))) :: (q5, .inl (g.2.1, 11, .inl (fun _ => 0))) :: (q4, .inl (g.2.1, 9, .inl (fun _ => 0))) :: (q3, .inl (g.2.1, 9, .inl (fun _ => 0))) :: (q2, .inl (g.2.1, 78, .inl (fun _ => 0))) :: (q1, .inl (g.2.1, 2, .inl (fun _ => 0))) :: (aa, .inr (10, [.ref q1, .ref q2, .int 0, .ref q3, .ref q4, .int 0, .ref q5, .ref q6, .null, .int 0, .null, .null, .int 0, .null, .null, .int 0, .int 0, .null, .null, .null, .null, .null, .null, .int 0, .int 0, .int 0, .null, .null, .null, .null, .null, .null, .null, .null, .int 0, .null, .null, .null, .null, .null, .null, .null, .null, .null, .int 0])) :: w0) rfl ?_
  refine V_aload_n 0 rfl d_Mo_init_51 ?_
  refine V_bipush (v := 11) rfl d_Mo_init_52 ?_
  refine V_newI (N := 11) wa_int (by decide) (by decide) (by decide) (Nat.le_of_ble_eq_true rfl) (Nat.le_of_ble_eq_true rfl) d_Mo_init_54 (fun q7 => ?_)
  refine V_putW (q0 := 7) (j := 8) cq_10 rfl (by decide) (Nat.le_of_ble_eq_true rfl) wf_Mo_28 (Or.inr ⟨rfl, rfl, rfl⟩) rfl rfl d_Mo_init_56 ?_
  refine V_ws (ws' := (q7, .inl (g.2.1, 11, .inl (fun _ => 0))) :: (q6, .inl (g.2.1, 11, .inl (fun _ => 0))) :: (q5, .inl (g.2.1, 11, .inl (fun _ => 0))) :: (q4, .inl (g.2.1, 9, .inl (fun _ => 0))) :: (q3, .inl (g.2.1, 9, .inl (fun _ => 0))) :: (q2, .inl (g.2.1, 78, .inl (fun _ => 0))) :: (q1, .inl (g.2.1, 2, .inl (fun _ => 0))) :: (aa, .inr (10, [.ref q1, .ref q2, .int 0, .ref q3, .ref q4, .int 0, .ref q5, .ref q6, .ref q7, .int 0, .null, .null, .int 0, .null, .null, .int 0, .int 0, .null, .null, .null, .null, .null, .null, .int 0, .int 0, .int 0, .null, .null, .null, .null, .null, .null, .null, .null, .int 0, .null, .null, .null, .null, .null, .null, .null, .null, .null, .int 0])) :: w0) rfl ?_
  refine V_aload_n 0 rfl d_Mo_init_59 ?_
  refine V_bipush (v := 8) rfl d_Mo_init_60 ?_
  refine V_newI (N := 8) wa_int (by decide) (by decide) (by decide) (Nat.le_of_ble_eq_true rfl) (Nat.le_of_ble_eq_true rfl) d_Mo_init_62 (fun q8 => ?_)
  refine V_putW (q0 := 8) (j := 10) cq_10 rfl (by decide) (Nat.le_of_ble_eq_true rfl) wf_Mo_31 (Or.inr ⟨rfl, rfl, rfl⟩) rfl rfl d_Mo_init_64 ?_
  refine V_ws (ws' := (q8, .inl (g.2.1, 8, .inl (fun _ => 0))) :: (q7, .inl (g.2.1, 11, .inl (fun _ => 0))) :: (q6, .inl (g.2.1, 11, .inl (fun _ => 0))) :: (q5, .inl (g.2.1, 11, .inl (fun _ => 0))) :: (q4, .inl (g.2.1, 9, .inl (fun _ => 0))) :: (q3, .inl (g.2.1, 9, .inl (fun _ => 0))) :: (q2, .inl (g.2.1, 78, .inl (fun _ => 0))) :: (q1, .inl (g.2.1, 2, .inl (fun _ => 0))) :: (aa, .inr (10, [.ref q1, .ref q2, .int 0, .ref q3, .ref q4, .int 0, .ref q5, .ref q6, .ref q7, .int 0, .ref q8, .null, .int 0, .null, .null, .int 0, .int 0, .null, .null, .null, .null, .null, .null, .int 0, .int 0, .int 0, .null, .null, .null, .null, .null, .null, .null, .null, .int 0, .null, .null, .null, .null, .null, .null, .null, .null, .null, .int 0])) :: w0) rfl ?_
  refine V_aload_n 0 rfl d_Mo_init_67 ?_
  refine V_bipush (v := 8) rfl d_Mo_init_68 ?_
  refine V_newI (N := 8) wa_int (by decide) (by decide) (by decide) (Nat.le_of_ble_eq_true rfl) (Nat.le_of_ble_eq_true rfl) d_Mo_init_70 (fun q9 => ?_)
  refine V_putW (q0 := 9) (j := 11) cq_10 rfl (by decide) (Nat.le_of_ble_eq_true rfl) wf_Mo_34 (Or.inr ⟨rfl, rfl, rfl⟩) rfl rfl d_Mo_init_72 ?_
  refine V_ws (ws' := (q9, .inl (g.2.1, 8, .inl (fun _ => 0))) :: (q8, .inl (g.2.1, 8, .inl (fun _ => 0))) :: (q7, .inl (g.2.1, 11, .inl (fun _ => 0))) :: (q6, .inl (g.2.1, 11, .inl (fun _ => 0))) :: (q5, .inl (g.2.1, 11, .inl (fun _ => 0))) :: (q4, .inl (g.2.1, 9, .inl (fun _ => 0))) :: (q3, .inl (g.2.1, 9, .inl (fun _ => 0))) :: (q2, .inl (g.2.1, 78, .inl (fun _ => 0))) :: (q1, .inl (g.2.1, 2, .inl (fun _ => 0))) :: (aa, .inr (10, [.ref q1, .ref q2, .int 0, .ref q3, .ref q4, .int 0, .ref q5, .ref q6, .ref q7, .int 0, .ref q8, .ref q9, .int 0, .null, .null, .int 0, .int 0, .null, .null, .null, .null, .null, .null, .int 0, .int 0, .int 0, .null, .null, .null, .null, .null, .null, .null, .null, .int 0, .null, .null, .null, .null, .null, .null, .null, .null, .null, .int 0])) :: w0) rfl ?_
  refine V_aload_n 0 rfl d_Mo_init_75 ?_
  refine V_bipush (v := 17) rfl d_Mo_init_76 ?_
  refine V_newI (N := 17) wa_int (by decide) (by decide) (by decide) (Nat.le_of_ble_eq_true rfl) (Nat.le_of_ble_eq_true rfl) d_Mo_init_78 (fun q10 => ?_)
  refine V_putW (q0 := 10) (j := 13) cq_10 rfl (by decide) (Nat.le_of_ble_eq_true rfl) wf_Mo_37 (Or.inr ⟨rfl, rfl, rfl⟩) rfl rfl d_Mo_init_80 ?_
  refine V_ws (ws' := (q10, .inl (g.2.1, 17, .inl (fun _ => 0))) :: (q9, .inl (g.2.1, 8, .inl (fun _ => 0))) :: (q8, .inl (g.2.1, 8, .inl (fun _ => 0))) :: (q7, .inl (g.2.1, 11, .inl (fun _ => 0))) :: (q6, .inl (g.2.1, 11, .inl (fun _ => 0))) :: (q5, .inl (g.2.1, 11, .inl (fun _ => 0))) :: (q4, .inl (g.2.1, 9, .inl (fun _ => 0))) :: (q3, .inl (g.2.1, 9, .inl (fun _ => 0))) :: (q2, .inl (g.2.1, 78, .inl (fun _ => 0))) :: (q1, .inl (g.2.1, 2, .inl (fun _ => 0))) :: (aa, .inr (10, [.ref q1, .ref q2, .int 0, .ref q3, .ref q4, .int 0, .ref q5, .ref q6, .ref q7, .int 0, .ref q8, .ref q9, .int 0, .ref q10, .null, .int 0, .int 0, .null, .null, .null, .null, .null, .null, .int 0, .int 0, .int 0, .null, .null, .null, .null, .null, .null, .null, .null, .int 0, .null, .null, .null, .null, .null, .null, .null, .null, .null, .int 0])) :: w0) rfl ?_
  refine V_aload_n 0 rfl d_Mo_init_83 ?_
  refine V_bipush (v := 17) rfl d_Mo_init_84 ?_
  refine V_newI (N := 17) wa_int (by decide) (by decide) (by decide) (Nat.le_of_ble_eq_true rfl) (Nat.le_of_ble_eq_true rfl) d_Mo_init_86 (fun q11 => ?_)
  refine V_putW (q0 := 11) (j := 14) cq_10 rfl (by decide) (Nat.le_of_ble_eq_true rfl) wf_Mo_40 (Or.inr ⟨rfl, rfl, rfl⟩) rfl rfl d_Mo_init_88 ?_
  refine V_ws (ws' := (q11, .inl (g.2.1, 17, .inl (fun _ => 0))) :: (q10, .inl (g.2.1, 17, .inl (fun _ => 0))) :: (q9, .inl (g.2.1, 8, .inl (fun _ => 0))) :: (q8, .inl (g.2.1, 8, .inl (fun _ => 0))) :: (q7, .inl (g.2.1, 11, .inl (fun _ => 0))) :: (q6, .inl (g.2.1, 11, .inl (fun _ => 0))) :: (q5, .inl (g.2.1, 11, .inl (fun _ => 0))) :: (q4, .inl (g.2.1, 9, .inl (fun _ => 0))) :: (q3, .inl (g.2.1, 9, .inl (fun _ => 0))) :: (q2, .inl (g.2.1, 78, .inl (fun _ => 0))) :: (q1, .inl (g.2.1, 2, .inl (fun _ => 0))) :: (aa, .inr (10, [.ref q1, .ref q2, .int 0, .ref q3, .ref q4, .int 0, .ref q5, .ref q6, .ref q7, .int 0, .ref q8, .ref q9, .int 0, .ref q10, .ref q11, .int 0, .int 0, .null, .null, .null, .null, .null, .null, .int 0, .int 0, .int 0, .null, .null, .null, .null, .null, .null, .null, .null, .int 0, .null, .null, .null, .null, .null, .null, .null, .null, .null, .int 0])) :: w0) rfl ?_
  refine V_aload_n 0 rfl d_Mo_init_91 ?_
  refine V_bipush (v := 8) rfl d_Mo_init_92 ?_
  refine V_newI (N := 8) wa_int (by decide) (by decide) (by decide) (Nat.le_of_ble_eq_true rfl) (Nat.le_of_ble_eq_true rfl) d_Mo_init_94 (fun q12 => ?_)
  refine V_putW (q0 := 12) (j := 17) cq_10 rfl (by decide) (Nat.le_of_ble_eq_true rfl) wf_Mo_43 (Or.inr ⟨rfl, rfl, rfl⟩) rfl rfl d_Mo_init_96 ?_
  refine V_ws (ws' := (q12, .inl (g.2.1, 8, .inl (fun _ => 0))) :: (q11, .inl (g.2.1, 17, .inl (fun _ => 0))) :: (q10, .inl (g.2.1, 17, .inl (fun _ => 0))) :: (q9, .inl (g.2.1, 8, .inl (fun _ => 0))) :: (q8, .inl (g.2.1, 8, .inl (fun _ => 0))) :: (q7, .inl (g.2.1, 11, .inl (fun _ => 0))) :: (q6, .inl (g.2.1, 11, .inl (fun _ => 0))) :: (q5, .inl (g.2.1, 11, .inl (fun _ => 0))) :: (q4, .inl (g.2.1, 9, .inl (fun _ => 0))) :: (q3, .inl (g.2.1, 9, .inl (fun _ => 0))) :: (q2, .inl (g.2.1, 78, .inl (fun _ => 0))) :: (q1, .inl (g.2.1, 2, .inl (fun _ => 0))) :: (aa, .inr (10, [.ref q1, .ref q2, .int 0, .ref q3, .ref q4, .int 0, .ref q5, .ref q6, .ref q7, .int 0, .ref q8, .ref q9, .int 0, .ref q10, .ref q11, .int 0, .int 0, .ref q12, .null, .null, .null, .null, .null, .int 0, .int 0, .int 0, .null, .null, .null, .null, .null, .null, .null, .null, .int 0, .null, .null, .null, .null, .null, .null, .null, .null, .null, .int 0])) :: w0) rfl ?_
  refine V_aload_n 0 rfl d_Mo_init_99 ?_
  refine V_bipush (v := 8) rfl d_Mo_init_100 ?_
  refine V_newI (N := 8) wa_int (by decide) (by decide) (by decide) (Nat.le_of_ble_eq_true rfl) (Nat.le_of_ble_eq_true rfl) d_Mo_init_102 (fun q13 => ?_)
  refine V_putW (q0 := 13) (j := 18) cq_10 rfl (by decide) (Nat.le_of_ble_eq_true rfl) wf_Mo_46 (Or.inr ⟨rfl, rfl, rfl⟩) rfl rfl d_Mo_init_104 ?_
  refine V_ws (ws' := (q13, .inl (g.2.1, 8, .inl (fun _ => 0))) :: (q12, .inl (g.2.1, 8, .inl (fun _ => 0))) :: (q11, .inl (g.2.1, 17, .inl (fun _ => 0))) :: (q10, .inl (g.2.1, 17, .inl (fun _ => 0))) :: (q9, .inl (g.2.1, 8, .inl (fun _ => 0))) :: (q8, .inl (g.2.1, 8, .inl (fun _ => 0))) :: (q7, .inl (g.2.1, 11, .inl (fun _ => 0))) :: (q6, .inl (g.2.1, 11, .inl (fun _ => 0))) :: (q5, .inl (g.2.1, 11, .inl (fun _ => 0))) :: (q4, .inl (g.2.1, 9, .inl (fun _ => 0))) :: (q3, .inl (g.2.1, 9, .inl (fun _ => 0))) :: (q2, .inl (g.2.1, 78, .inl (fun _ => 0))) :: (q1, .inl (g.2.1, 2, .inl (fun _ => 0))) :: (aa, .inr (10, [.ref q1, .ref q2, .int 0, .ref q3, .ref q4, .int 0, .ref q5, .ref q6, .ref q7, .int 0, .ref q8, .ref q9, .int 0, .ref q10, .ref q11, .int 0, .int 0, .ref q12, .ref q13, .null, .null, .null, .null, .int 0, .int 0, .int 0, .null, .null, .null, .null, .null, .null, .null, .null, .int 0, .null, .null, .null, .null, .null, .null, .null, .null, .null, .int 0])) :: w0) rfl ?_
  refine V_aload_n 0 rfl d_Mo_init_107 ?_
  refine V_bipush (v := 8) rfl d_Mo_init_108 ?_
  refine V_newI (N := 8) wa_int (by decide) (by decide) (by decide) (Nat.le_of_ble_eq_true rfl) (Nat.le_of_ble_eq_true rfl) d_Mo_init_110 (fun q14 => ?_)
  refine V_putW (q0 := 14) (j := 19) cq_10 rfl (by decide) (Nat.le_of_ble_eq_true rfl) wf_Mo_49 (Or.inr ⟨rfl, rfl, rfl⟩) rfl rfl d_Mo_init_112 ?_
  refine V_ws (ws' := (q14, .inl (g.2.1, 8, .inl (fun _ => 0))) :: (q13, .inl (g.2.1, 8, .inl (fun _ => 0))) :: (q12, .inl (g.2.1, 8, .inl (fun _ => 0))) :: (q11, .inl (g.2.1, 17, .inl (fun _ => 0))) :: (q10, .inl (g.2.1, 17, .inl (fun _ => 0))) :: (q9, .inl (g.2.1, 8, .inl (fun _ => 0))) :: (q8, .inl (g.2.1, 8, .inl (fun _ => 0))) :: (q7, .inl (g.2.1, 11, .inl (fun _ => 0))) :: (q6, .inl (g.2.1, 11, .inl (fun _ => 0))) :: (q5, .inl (g.2.1, 11, .inl (fun _ => 0))) :: (q4, .inl (g.2.1, 9, .inl (fun _ => 0))) :: (q3, .inl (g.2.1, 9, .inl (fun _ => 0))) :: (q2, .inl (g.2.1, 78, .inl (fun _ => 0))) :: (q1, .inl (g.2.1, 2, .inl (fun _ => 0))) :: (aa, .inr (10, [.ref q1, .ref q2, .int 0, .ref q3, .ref q4, .int 0, .ref q5, .ref q6, .ref q7, .int 0, .ref q8, .ref q9, .int 0, .ref q10, .ref q11, .int 0, .int 0, .ref q12, .ref q13, .ref q14, .null, .null, .null, .int 0, .int 0, .int 0, .null, .null, .null, .null, .null, .null, .null, .null, .int 0, .null, .null, .null, .null, .null, .null, .null, .null, .null, .int 0])) :: w0) rfl ?_
  refine V_aload_n 0 rfl d_Mo_init_115 ?_
  refine V_bipush (v := 8) rfl d_Mo_init_116 ?_
  refine V_newI (N := 8) wa_int (by decide) (by decide) (by decide) (Nat.le_of_ble_eq_true rfl) (Nat.le_of_ble_eq_true rfl) d_Mo_init_118 (fun q15 => ?_)
  refine V_putW (q0 := 15) (j := 20) cq_10 rfl (by decide) (Nat.le_of_ble_eq_true rfl) wf_Mo_52 (Or.inr ⟨rfl, rfl, rfl⟩) rfl rfl d_Mo_init_120 ?_
  refine V_ws (ws' := (q15, .inl (g.2.1, 8, .inl (fun _ => 0))) :: (q14, .inl (g.2.1, 8, .inl (fun _ => 0))) :: (q13, .inl (g.2.1, 8, .inl (fun _ => 0))) :: (q12, .inl (g.2.1, 8, .inl (fun _ => 0))) :: (q11, .inl (g.2.1, 17, .inl (fun _ => 0))) :: (q10, .inl (g.2.1, 17, .inl (fun _ => 0))) :: (q9, .inl (g.2.1, 8, .inl (fun _ => 0))) :: (q8, .inl (g.2.1, 8, .inl (fun _ => 0))) :: (q7, .inl (g.2.1, 11, .inl (fun _ => 0))) :: (q6, .inl (g.2.1, 11, .inl (fun _ => 0))) :: (q5, .inl (g.2.1, 11, .inl (fun _ => 0))) :: (q4, .inl (g.2.1, 9, .inl (fun _ => 0))) :: (q3, .inl (g.2.1, 9, .inl (fun _ => 0))) :: (q2, .inl (g.2.1, 78, .inl (fun _ => 0))) :: (q1, .inl (g.2.1, 2, .inl (fun _ => 0))) :: (aa, .inr (10, [.ref q1, .ref q2, .int 0, .ref q3, .ref q4, .int 0, .ref q5, .ref q6, .ref q7, .int 0, .ref q8, .ref q9, .int 0, .ref q10, .ref q11, .int 0, .int 0, .ref q12, .ref q13, .ref q14, .ref q15, .null, .null, .int 0, .int 0, .int 0, .null, .null, .null, .null, .null, .null, .null, .null, .int 0, .null, .null, .null, .null, .null, .null, .null, .null, .null, .int 0])) :: w0) rfl ?_
  refine V_aload_n 0 rfl d_Mo_init_123 ?_
  refine V_bipush (v := 8) rfl d_Mo_init_124 ?_
  refine V_newI (N := 8) wa_int (by decide) (by decide) (by decide) (Nat.le_of_ble_eq_true rfl) (Nat.le_of_ble_eq_true rfl) d_Mo_init_126 (fun q16 => ?_)
  refine V_putW (q0 := 16) (j := 21) cq_10 rfl (by decide) (Nat.le_of_ble_eq_true rfl) wf_Mo_55 (Or.inr ⟨rfl, rfl, rfl⟩) rfl rfl d_Mo_init_128 ?_
  refine V_ws (ws' := (q16, .inl (g.2.1, 8, .inl (fun _ => 0))) :: (q15, .inl (g.2.1, 8, .inl (fun _ => 0))) :: (q14, .inl (g.2.1, 8, .inl (fun _ => 0))) :: (q13, .inl (g.2.1, 8, .inl (fun _ => 0))) :: (q12, .inl (g.2.1, 8, .inl (fun _ => 0))) :: (q11, .inl (g.2.1, 17, .inl (fun _ => 0))) :: (q10, .inl (g.2.1, 17, .inl (fun _ => 0))) :: (q9, .inl (g.2.1, 8, .inl (fun _ => 0))) :: (q8, .inl (g.2.1, 8, .inl (fun _ => 0))) :: (q7, .inl (g.2.1, 11, .inl (fun _ => 0))) :: (q6, .inl (g.2.1, 11, .inl (fun _ => 0))) :: (q5, .inl (g.2.1, 11, .inl (fun _ => 0))) :: (q4, .inl (g.2.1, 9, .inl (fun _ => 0))) :: (q3, .inl (g.2.1, 9, .inl (fun _ => 0))) :: (q2, .inl (g.2.1, 78, .inl (fun _ => 0))) :: (q1, .inl (g.2.1, 2, .inl (fun _ => 0))) :: (aa, .inr (10, [.ref q1, .ref q2, .int 0, .ref q3, .ref q4, .int 0, .ref q5, .ref q6, .ref q7, .int 0, .ref q8, .ref q9, .int 0, .ref q10, .ref q11, .int 0, .int 0, .ref q12, .ref q13, .ref q14, .ref q15, .ref q16, .null, .int 0, .int 0, .int 0, .null, .null, .null, .null, .null, .null, .null, .null, .int 0, .null, .null, .null, .null, .null, .null, .null, .null, .null, .int 0])) :: w0) rfl ?_
  refine V_aload_n 0 rfl d_Mo_init_131 ?_
  refine V_bipush (v := 8) rfl d_Mo_init_132 ?_
  refine V_newI (N := 8) wa_int (by decide) (by decide) (by decide) (Nat.le_of_ble_eq_true rfl) (Nat.le_of_ble_eq_true rfl) d_Mo_init_134 (fun q17 => ?_)
  refine V_putW (q0 := 17) (j := 22) cq_10 rfl (by decide) (Nat.le_of_ble_eq_true rfl) wf_Mo_58 (Or.inr ⟨rfl, rfl, rfl⟩) rfl rfl d_Mo_init_136 ?_
  refine V_ws (ws' := (q17, .inl (g.2.1, 8, .inl (fun _ => 0))) :: (q16, .inl (g.2.1, 8, .inl (fun _ => 0))) :: (q15, .inl (g.2.1, 8, .inl (fun _ => 0))) :: (q14, .inl (g.2.1, 8, .inl (fun _ => 0))) :: (q13, .inl (g.2.1, 8, .inl (fun _ => 0))) :: (q12, .inl (g.2.1, 8, .inl (fun _ => 0))) :: (q11, .inl (g.2.1, 17, .inl (fun _ => 0))) :: (q10, .inl (g.2.1, 17, .inl (fun _ => 0))) :: (q9, .inl (g.2.1, 8, .inl (fun _ => 0))) :: (q8, .inl (g.2.1, 8, .inl (fun _ => 0))) :: (q7, .inl (g.2.1, 11, .inl (fun _ => 0))) :: (q6, .inl (g.2.1, 11, .inl (fun _ => 0))) :: (q5, .inl (g.2.1, 11, .inl (fun _ => 0))) :: (q4, .inl (g.2.1, 9, .inl (fun _ => 0))) :: (q3, .inl (g.2.1, 9, .inl (fun _ => 0))) :: (q2, .inl (g.2.1, 78, .inl (fun _ => 0))) :: (q1, .inl (g.2.1, 2, .inl (fun _ => 0))) :: (aa, .inr (10, [.ref q1, .ref q2, .int 0, .ref q3, .ref q4, .int 0, .ref q5, .ref q6, .ref q7, .int 0, .ref q8, .ref q9, .int 0, .ref q10, .ref q11, .int 0, .int 0, .ref q12, .ref q13, .ref q14, .ref q15, .ref q16, .ref q17, .int 0, .int 0, .int 0, .null, .null, .null, .null, .null, .null, .null, .null, .int 0, .null, .null, .null, .null, .null, .null, .null, .null, .null, .int 0])) :: w0) rfl ?_
  refine V_aload_n 0 rfl d_Mo_init_139 ?_
  refine V_sipush (v := 192) rfl d_Mo_init_140 ?_
  refine V_newI (N := 192) wa_int (by decide) (by decide) (by decide) (Nat.le_of_ble_eq_true rfl) (Nat.le_of_ble_eq_true rfl) d_Mo_init_143 (fun q18 => ?_)
  refine V_putW (q0 := 18) (j := 26) cq_10 rfl (by decide) (Nat.le_of_ble_eq_true rfl) wf_Mo_61 (Or.inr ⟨rfl, rfl, rfl⟩) rfl rfl d_Mo_init_145 ?_
  refine V_ws (ws' := (q18, .inl (g.2.1, 192, .inl (fun _ => 0))) :: (q17, .inl (g.2.1, 8, .inl (fun _ => 0))) :: (q16, .inl (g.2.1, 8, .inl (fun _ => 0))) :: (q15, .inl (g.2.1, 8, .inl (fun _ => 0))) :: (q14, .inl (g.2.1, 8, .inl (fun _ => 0))) :: (q13, .inl (g.2.1, 8, .inl (fun _ => 0))) :: (q12, .inl (g.2.1, 8, .inl (fun _ => 0))) :: (q11, .inl (g.2.1, 17, .inl (fun _ => 0))) :: (q10, .inl (g.2.1, 17, .inl (fun _ => 0))) :: (q9, .inl (g.2.1, 8, .inl (fun _ => 0))) :: (q8, .inl (g.2.1, 8, .inl (fun _ => 0))) :: (q7, .inl (g.2.1, 11, .inl (fun _ => 0))) :: (q6, .inl (g.2.1, 11, .inl (fun _ => 0))) :: (q5, .inl (g.2.1, 11, .inl (fun _ => 0))) :: (q4, .inl (g.2.1, 9, .inl (fun _ => 0))) :: (q3, .inl (g.2.1, 9, .inl (fun _ => 0))) :: (q2, .inl (g.2.1, 78, .inl (fun _ => 0))) :: (q1, .inl (g.2.1, 2, .inl (fun _ => 0))) :: (aa, .inr (10, [.ref q1, .ref q2, .int 0, .ref q3, .ref q4, .int 0, .ref q5, .ref q6, .ref q7, .int 0, .ref q8, .ref q9, .int 0, .ref q10, .ref q11, .int 0, .int 0, .ref q12, .ref q13, .ref q14, .ref q15, .ref q16, .ref q17, .int 0, .int 0, .int 0, .ref q18, .null, .null, .null, .null, .null, .null, .null, .int 0, .null, .null, .null, .null, .null, .null, .null, .null, .null, .int 0])) :: w0) rfl ?_
  refine V_aload_n 0 rfl d_Mo_init_148 ?_
  refine V_sipush (v := 192) rfl d_Mo_init_149 ?_
  refine V_newI (N := 192) wa_int (by decide) (by decide) (by decide) (Nat.le_of_ble_eq_true rfl) (Nat.le_of_ble_eq_true rfl) d_Mo_init_152 (fun q19 => ?_)
  refine V_putW (q0 := 19) (j := 27) cq_10 rfl (by decide) (Nat.le_of_ble_eq_true rfl) wf_Mo_64 (Or.inr ⟨rfl, rfl, rfl⟩) rfl rfl d_Mo_init_154 ?_
  refine V_ws (ws' := (q19, .inl (g.2.1, 192, .inl (fun _ => 0))) :: (q18, .inl (g.2.1, 192, .inl (fun _ => 0))) :: (q17, .inl (g.2.1, 8, .inl (fun _ => 0))) :: (q16, .inl (g.2.1, 8, .inl (fun _ => 0))) :: (q15, .inl (g.2.1, 8, .inl (fun _ => 0))) :: (q14, .inl (g.2.1, 8, .inl (fun _ => 0))) :: (q13, .inl (g.2.1, 8, .inl (fun _ => 0))) :: (q12, .inl (g.2.1, 8, .inl (fun _ => 0))) :: (q11, .inl (g.2.1, 17, .inl (fun _ => 0))) :: (q10, .inl (g.2.1, 17, .inl (fun _ => 0))) :: (q9, .inl (g.2.1, 8, .inl (fun _ => 0))) :: (q8, .inl (g.2.1, 8, .inl (fun _ => 0))) :: (q7, .inl (g.2.1, 11, .inl (fun _ => 0))) :: (q6, .inl (g.2.1, 11, .inl (fun _ => 0))) :: (q5, .inl (g.2.1, 11, .inl (fun _ => 0))) :: (q4, .inl (g.2.1, 9, .inl (fun _ => 0))) :: (q3, .inl (g.2.1, 9, .inl (fun _ => 0))) :: (q2, .inl (g.2.1, 78, .inl (fun _ => 0))) :: (q1, .inl (g.2.1, 2, .inl (fun _ => 0))) :: (aa, .inr (10, [.ref q1, .ref q2, .int 0, .ref q3, .ref q4, .int 0, .ref q5, .ref q6, .ref q7, .int 0, .ref q8, .ref q9, .int 0, .ref q10, .ref q11, .int 0, .int 0, .ref q12, .ref q13, .ref q14, .ref q15, .ref q16, .ref q17, .int 0, .int 0, .int 0, .ref q18, .ref q19, .null, .null, .null, .null, .null, .null, .int 0, .null, .null, .null, .null, .null, .null, .null, .null, .null, .int 0])) :: w0) rfl ?_
  refine V_aload_n 0 rfl d_Mo_init_157 ?_
  refine V_sipush (v := 192) rfl d_Mo_init_158 ?_
  refine V_newI (N := 192) wa_int (by decide) (by decide) (by decide) (Nat.le_of_ble_eq_true rfl) (Nat.le_of_ble_eq_true rfl) d_Mo_init_161 (fun q20 => ?_)
  refine V_putW (q0 := 20) (j := 28) cq_10 rfl (by decide) (Nat.le_of_ble_eq_true rfl) wf_Mo_67 (Or.inr ⟨rfl, rfl, rfl⟩) rfl rfl d_Mo_init_163 ?_
  refine V_ws (ws' := (q20, .inl (g.2.1, 192, .inl (fun _ => 0))) :: (q19, .inl (g.2.1, 192, .inl (fun _ => 0))) :: (q18, .inl (g.2.1, 192, .inl (fun _ => 0))) :: (q17, .inl (g.2.1, 8, .inl (fun _ => 0))) :: (q16, .inl (g.2.1, 8, .inl (fun _ => 0))) :: (q15, .inl (g.2.1, 8, .inl (fun _ => 0))) :: (q14, .inl (g.2.1, 8, .inl (fun _ => 0))) :: (q13, .inl (g.2.1, 8, .inl (fun _ => 0))) :: (q12, .inl (g.2.1, 8, .inl (fun _ => 0))) :: (q11, .inl (g.2.1, 17, .inl (fun _ => 0))) :: (q10, .inl (g.2.1, 17, .inl (fun _ => 0))) :: (q9, .inl (g.2.1, 8, .inl (fun _ => 0))) :: (q8, .inl (g.2.1, 8, .inl (fun _ => 0))) :: (q7, .inl (g.2.1, 11, .inl (fun _ => 0))) :: (q6, .inl (g.2.1, 11, .inl (fun _ => 0))) :: (q5, .inl (g.2.1, 11, .inl (fun _ => 0))) :: (q4, .inl (g.2.1, 9, .inl (fun _ => 0))) :: (q3, .inl (g.2.1, 9, .inl (fun _ => 0))) :: (q2, .inl (g.2.1, 78, .inl (fun _ => 0))) :: (q1, .inl (g.2.1, 2, .inl (fun _ => 0))) :: (aa, .inr (10, [.ref q1, .ref q2, .int 0, .ref q3, .ref q4, .int 0, .ref q5, .ref q6, .ref q7, .int 0, .ref q8, .ref q9, .int 0, .ref q10, .ref q11, .int 0, .int 0, .ref q12, .ref q13, .ref q14, .ref q15, .ref q16, .ref q17, .int 0, .int 0, .int 0, .ref q18, .ref q19, .ref q20, .null, .null, .null, .null, .null, .int 0, .null, .null, .null, .null, .null, .null, .null, .null, .null, .int 0])) :: w0) rfl ?_
  refine V_aload_n 0 rfl d_Mo_init_166 ?_
  refine V_sipush (v := 192) rfl d_Mo_init_167 ?_
  refine V_newI (N := 192) wa_int (by decide) (by decide) (by decide) (Nat.le_of_ble_eq_true rfl) (Nat.le_of_ble_eq_true rfl) d_Mo_init_170 (fun q21 => ?_)
  refine V_putW (q0 := 21) (j := 29) cq_10 rfl (by decide) (Nat.le_of_ble_eq_true rfl) wf_Mo_70 (Or.inr ⟨rfl, rfl, rfl⟩) rfl rfl d_Mo_init_172 ?_
  refine V_ws (ws' := (q21, .inl (g.2.1, 192, .inl (fun _ => 0))) :: (q20, .inl (g.2.1, 192, .inl (fun _ => 0))) :: (q19, .inl (g.2.1, 192, .inl (fun _ => 0))) :: (q18, .inl (g.2.1, 192, .inl (fun _ => 0))) :: (q17, .inl (g.2.1, 8, .inl (fun _ => 0))) :: (q16, .inl (g.2.1, 8, .inl (fun _ => 0))) :: (q15, .inl (g.2.1, 8, .inl (fun _ => 0))) :: (q14, .inl (g.2.1, 8, .inl (fun _ => 0))) :: (q13, .inl (g.2.1, 8, .inl (fun _ => 0))) :: (q12, .inl (g.2.1, 8, .inl (fun _ => 0))) :: (q11, .inl (g.2.1, 17, .inl (fun _ => 0))) :: (q10, .inl (g.2.1, 17, .inl (fun _ => 0))) :: (q9, .inl (g.2.1, 8, .inl (fun _ => 0))) :: (q8, .inl (g.2.1, 8, .inl (fun _ => 0))) :: (q7, .inl (g.2.1, 11, .inl (fun _ => 0))) :: (q6, .inl (g.2.1, 11, .inl (fun _ => 0))) :: (q5, .inl (g.2.1, 11, .inl (fun _ => 0))) :: (q4, .inl (g.2.1, 9, .inl (fun _ => 0))) :: (q3, .inl (g.2.1, 9, .inl (fun _ => 0))) :: (q2, .inl (g.2.1, 78, .inl (fun _ => 0))) :: (q1, .inl (g.2.1, 2, .inl (fun _ => 0))) :: (aa, .inr (10, [.ref q1, .ref q2, .int 0, .ref q3, .ref q4, .int 0, .ref q5, .ref q6, .ref q7, .int 0, .ref q8, .ref q9, .int 0, .ref q10, .ref q11, .int 0, .int 0, .ref q12, .ref q13, .ref q14, .ref q15, .ref q16, .ref q17, .int 0, .int 0, .int 0, .ref q18, .ref q19, .ref q20, .ref q21, .null, .null, .null, .null, .int 0, .null, .null, .null, .null, .null, .null, .null, .null, .null, .int 0])) :: w0) rfl ?_
  refine V_aload_n 0 rfl d_Mo_init_175 ?_
  refine V_sipush (v := 192) rfl d_Mo_init_176 ?_
  refine V_newI (N := 192) wa_int (by decide) (by decide) (by decide) (Nat.le_of_ble_eq_true rfl) (Nat.le_of_ble_eq_true rfl) d_Mo_init_179 (fun q22 => ?_)
  refine V_putW (q0 := 22) (j := 30) cq_10 rfl (by decide) (Nat.le_of_ble_eq_true rfl) wf_Mo_73 (Or.inr ⟨rfl, rfl, rfl⟩) rfl rfl d_Mo_init_181 ?_
  refine V_ws (ws' := (q22, .inl (g.2.1, 192, .inl (fun _ => 0))) :: (q21, .inl (g.2.1, 192, .inl (fun _ => 0))) :: (q20, .inl (g.2.1, 192, .inl (fun _ => 0))) :: (q19, .inl (g.2.1, 192, .inl (fun _ => 0))) :: (q18, .inl (g.2.1, 192, .inl (fun _ => 0))) :: (q17, .inl (g.2.1, 8, .inl (fun _ => 0))) :: (q16, .inl (g.2.1, 8, .inl (fun _ => 0))) :: (q15, .inl (g.2.1, 8, .inl (fun _ => 0))) :: (q14, .inl (g.2.1, 8, .inl (fun _ => 0))) :: (q13, .inl (g.2.1, 8, .inl (fun _ => 0))) :: (q12, .inl (g.2.1, 8, .inl (fun _ => 0))) :: (q11, .inl (g.2.1, 17, .inl (fun _ => 0))) :: (q10, .inl (g.2.1, 17, .inl (fun _ => 0))) :: (q9, .inl (g.2.1, 8, .inl (fun _ => 0))) :: (q8, .inl (g.2.1, 8, .inl (fun _ => 0))) :: (q7, .inl (g.2.1, 11, .inl (fun _ => 0))) :: (q6, .inl (g.2.1, 11, .inl (fun _ => 0))) :: (q5, .inl (g.2.1, 11, .inl (fun _ => 0))) :: (q4, .inl (g.2.1, 9, .inl (fun _ => 0))) :: (q3, .inl (g.2.1, 9, .inl (fun _ => 0))) :: (q2, .inl (g.2.1, 78, .inl (fun _ => 0))) :: (q1, .inl (g.2.1, 2, .inl (fun _ => 0))) :: (aa, .inr (10, [.ref q1, .ref q2, .int 0, .ref q3, .ref q4, .int 0, .ref q5, .ref q6, .ref q7, .int 0, .ref q8, .ref q9, .int 0, .ref q10, .ref q11, .int 0, .int 0, .ref q12, .ref q13, .ref q14, .ref q15, .ref q16, .ref q17, .int 0, .int 0, .int 0, .ref q18, .ref q19, .ref q20, .ref q21, .ref q22, .null, .null, .null, .int 0, .null, .null, .null, .null, .null, .null, .null, .null, .null, .int 0])) :: w0) rfl ?_
  refine V_aload_n 0 rfl d_Mo_init_184 ?_
  refine V_sipush (v := 192) rfl d_Mo_init_185 ?_
  refine V_newI (N := 192) wa_int (by decide) (by decide) (by decide) (Nat.le_of_ble_eq_true rfl) (Nat.le_of_ble_eq_true rfl) d_Mo_init_188 (fun q23 => ?_)
  refine V_putW (q0 := 23) (j := 31) cq_10 rfl (by decide) (Nat.le_of_ble_eq_true rfl) wf_Mo_76 (Or.inr ⟨rfl, rfl, rfl⟩) rfl rfl d_Mo_init_190 ?_
  refine V_ws (ws' := (q23, .inl (g.2.1, 192, .inl (fun _ => 0))) :: (q22, .inl (g.2.1, 192, .inl (fun _ => 0))) :: (q21, .inl (g.2.1, 192, .inl (fun _ => 0))) :: (q20, .inl (g.2.1, 192, .inl (fun _ => 0))) :: (q19, .inl (g.2.1, 192, .inl (fun _ => 0))) :: (q18, .inl (g.2.1, 192, .inl (fun _ => 0))) :: (q17, .inl (g.2.1, 8, .inl (fun _ => 0))) :: (q16, .inl (g.2.1, 8, .inl (fun _ => 0))) :: (q15, .inl (g.2.1, 8, .inl (fun _ => 0))) :: (q14, .inl (g.2.1, 8, .inl (fun _ => 0))) :: (q13, .inl (g.2.1, 8, .inl (fun _ => 0))) :: (q12, .inl (g.2.1, 8, .inl (fun _ => 0))) :: (q11, .inl (g.2.1, 17, .inl (fun _ => 0))) :: (q10, .inl (g.2.1, 17, .inl (fun _ => 0))) :: (q9, .inl (g.2.1, 8, .inl (fun _ => 0))) :: (q8, .inl (g.2.1, 8, .inl (fun _ => 0))) :: (q7, .inl (g.2.1, 11, .inl (fun _ => 0))) :: (q6, .inl (g.2.1, 11, .inl (fun _ => 0))) :: (q5, .inl (g.2.1, 11, .inl (fun _ => 0))) :: (q4, .inl (g.2.1, 9, .inl (fun _ => 0))) :: (q3, .inl (g.2.1, 9, .inl (fun _ => 0))) :: (q2, .inl (g.2.1, 78, .inl (fun _ => 0))) :: (q1, .inl (g.2.1, 2, .inl (fun _ => 0))) :: (aa, .inr (10, [.ref q1, .ref q2, .int 0, .ref q3, .ref q4, .int 0, .ref q5, .ref q6, .ref q7, .int 0, .ref q8, .ref q9, .int 0, .ref q10, .ref q11, .int 0, .int 0, .ref q12, .ref q13, .ref q14, .ref q15, .ref q16, .ref q17, .int 0, .int 0, .int 0, .ref q18, .ref q19, .ref q20, .ref q21, .ref q22, .ref q23, .null, .null, .int 0, .null, .null, .null, .null, .null, .null, .null, .null, .null, .int 0])) :: w0) rfl ?_
  refine V_aload_n 0 rfl d_Mo_init_193 ?_
  refine V_bipush (v := 24) rfl d_Mo_init_194 ?_
  refine V_newI (N := 24) wa_int (by decide) (by decide) (by decide) (Nat.le_of_ble_eq_true rfl) (Nat.le_of_ble_eq_true rfl) d_Mo_init_196 (fun q24 => ?_)
  refine V_putW (q0 := 24) (j := 32) cq_10 rfl (by decide) (Nat.le_of_ble_eq_true rfl) wf_Mo_79 (Or.inr ⟨rfl, rfl, rfl⟩) rfl rfl d_Mo_init_198 ?_
  refine V_ws (ws' := (q24, .inl (g.2.1, 24, .inl (fun _ => 0))) :: (q23, .inl (g.2.1, 192, .inl (fun _ => 0))) :: (q22, .inl (g.2.1, 192, .inl (fun _ => 0))) :: (q21, .inl (g.2.1, 192, .inl (fun _ => 0))) :: (q20, .inl (g.2.1, 192, .inl (fun _ => 0))) :: (q19, .inl (g.2.1, 192, .inl (fun _ => 0))) :: (q18, .inl (g.2.1, 192, .inl (fun _ => 0))) :: (q17, .inl (g.2.1, 8, .inl (fun _ => 0))) :: (q16, .inl (g.2.1, 8, .inl (fun _ => 0))) :: (q15, .inl (g.2.1, 8, .inl (fun _ => 0))) :: (q14, .inl (g.2.1, 8, .inl (fun _ => 0))) :: (q13, .inl (g.2.1, 8, .inl (fun _ => 0))) :: (q12, .inl (g.2.1, 8, .inl (fun _ => 0))) :: (q11, .inl (g.2.1, 17, .inl (fun _ => 0))) :: (q10, .inl (g.2.1, 17, .inl (fun _ => 0))) :: (q9, .inl (g.2.1, 8, .inl (fun _ => 0))) :: (q8, .inl (g.2.1, 8, .inl (fun _ => 0))) :: (q7, .inl (g.2.1, 11, .inl (fun _ => 0))) :: (q6, .inl (g.2.1, 11, .inl (fun _ => 0))) :: (q5, .inl (g.2.1, 11, .inl (fun _ => 0))) :: (q4, .inl (g.2.1, 9, .inl (fun _ => 0))) :: (q3, .inl (g.2.1, 9, .inl (fun _ => 0))) :: (q2, .inl (g.2.1, 78, .inl (fun _ => 0))) :: (q1, .inl (g.2.1, 2, .inl (fun _ => 0))) :: (aa, .inr (10, [.ref q1, .ref q2, .int 0, .ref q3, .ref q4, .int 0, .ref q5, .ref q6, .ref q7, .int 0, .ref q8, .ref q9, .int 0, .ref q10, .ref q11, .int 0, .int 0, .ref q12, .ref q13, .ref q14, .ref q15, .ref q16, .ref q17, .int 0, .int 0, .int 0, .ref q18, .ref q19, .ref q20, .ref q21, .ref q22, .ref q23, .ref q24, .null, .int 0, .null, .null, .null, .null, .null, .null, .null, .null, .null, .int 0])) :: w0) rfl ?_
  refine V_aload_n 0 rfl d_Mo_init_201 ?_
  refine V_iconst (v := 2) rfl d_Mo_init_202 ?_
  refine V_newI (N := 2) wa_int (by decide) (by decide) (by decide) (Nat.le_of_ble_eq_true rfl) (Nat.le_of_ble_eq_true rfl) d_Mo_init_203 (fun q25 => ?_)
  refine V_putW (q0 := 25) (j := 33) cq_10 rfl (by decide) (Nat.le_of_ble_eq_true rfl) wf_Mo_82 (Or.inr ⟨rfl, rfl, rfl⟩) rfl rfl d_Mo_init_205 ?_
  refine V_ws (ws' := (q25, .inl (g.2.1, 2, .inl (fun _ => 0))) :: (q24, .inl (g.2.1, 24, .inl (fun _ => 0))) :: (q23, .inl (g.2.1, 192, .inl (fun _ => 0))) :: (q22, .inl (g.2.1, 192, .inl (fun _ => 0))) :: (q21, .inl (g.2.1, 192, .inl (fun _ => 0))) :: (q20, .inl (g.2.1, 192, .inl (fun _ => 0))) :: (q19, .inl (g.2.1, 192, .inl (fun _ => 0))) :: (q18, .inl (g.2.1, 192, .inl (fun _ => 0))) :: (q17, .inl (g.2.1, 8, .inl (fun _ => 0))) :: (q16, .inl (g.2.1, 8, .inl (fun _ => 0))) :: (q15, .inl (g.2.1, 8, .inl (fun _ => 0))) :: (q14, .inl (g.2.1, 8, .inl (fun _ => 0))) :: (q13, .inl (g.2.1, 8, .inl (fun _ => 0))) :: (q12, .inl (g.2.1, 8, .inl (fun _ => 0))) :: (q11, .inl (g.2.1, 17, .inl (fun _ => 0))) :: (q10, .inl (g.2.1, 17, .inl (fun _ => 0))) :: (q9, .inl (g.2.1, 8, .inl (fun _ => 0))) :: (q8, .inl (g.2.1, 8, .inl (fun _ => 0))) :: (q7, .inl (g.2.1, 11, .inl (fun _ => 0))) :: (q6, .inl (g.2.1, 11, .inl (fun _ => 0))) :: (q5, .inl (g.2.1, 11, .inl (fun _ => 0))) :: (q4, .inl (g.2.1, 9, .inl (fun _ => 0))) :: (q3, .inl (g.2.1, 9, .inl (fun _ => 0))) :: (q2, .inl (g.2.1, 78, .inl (fun _ => 0))) :: (q1, .inl (g.2.1, 2, .inl (fun _ => 0))) :: (aa, .inr (10, [.ref q1, .ref q2, .int 0, .ref q3, .ref q4, .int 0, .ref q5, .ref q6, .ref q7, .int 0, .ref q8, .ref q9, .int 0, .ref q10, .ref q11, .int 0, .int 0, .ref q12, .ref q13, .ref q14, .ref q15, .ref q16, .ref q17, .int 0, .int 0, .int 0, .ref q18, .ref q19, .ref q20, .ref q21, .ref q22, .ref q23, .ref q24, .ref q25, .int 0, .null, .null, .null, .null, .null, .null, .null, .null, .null, .int 0])) :: w0) rfl ?_
  refine V_aload_n 0 rfl d_Mo_init_208 ?_
  refine V_bipush (v := 8) rfl d_Mo_init_209 ?_
  refine V_newI (N := 8) wa_int (by decide) (by decide) (by decide) (Nat.le_of_ble_eq_true rfl) (Nat.le_of_ble_eq_true rfl) d_Mo_init_211 (fun q26 => ?_)
  refine V_putW (q0 := 26) (j := 35) cq_10 rfl (by decide) (Nat.le_of_ble_eq_true rfl) wf_Mo_85 (Or.inr ⟨rfl, rfl, rfl⟩) rfl rfl d_Mo_init_213 ?_
  refine V_ws (ws' := (q26, .inl (g.2.1, 8, .inl (fun _ => 0))) :: (q25, .inl (g.2.1, 2, .inl (fun _ => 0))) :: (q24, .inl (g.2.1, 24, .inl (fun _ => 0))) :: (q23, .inl (g.2.1, 192, .inl (fun _ => 0))) :: (q22, .inl (g.2.1, 192, .inl (fun _ => 0))) :: (q21, .inl (g.2.1, 192, .inl (fun _ => 0))) :: (q20, .inl (g.2.1, 192, .inl (fun _ => 0))) :: (q19, .inl (g.2.1, 192, .inl (fun _ => 0))) :: (q18, .inl (g.2.1, 192, .inl (fun _ => 0))) :: (q17, .inl (g.2.1, 8, .inl (fun _ => 0))) :: (q16, .inl (g.2.1, 8, .inl (fun _ => 0))) :: (q15, .inl (g.2.1, 8, .inl (fun _ => 0))) :: (q14, .inl (g.2.1, 8, .inl (fun _ => 0))) :: (q13, .inl (g.2.1, 8, .inl (fun _ => 0))) :: (q12, .inl (g.2.1, 8, .inl (fun _ => 0))) :: (q11, .inl (g.2.1, 17, .inl (fun _ => 0))) :: (q10, .inl (g.2.1, 17, .inl (fun _ => 0))) :: (q9, .inl (g.2.1, 8, .inl (fun _ => 0))) :: (q8, .inl (g.2.1, 8, .inl (fun _ => 0))) :: (q7, .inl (g.2.1, 11, .inl (fun _ => 0))) :: (q6, .inl (g.2.1, 11, .inl (fun _ => 0))) :: (q5, .inl (g.2.1, 11, .inl (fun _ => 0))) :: (q4, .inl (g.2.1, 9, .inl (fun _ => 0))) :: (q3, .inl (g.2.1, 9, .inl (fun _ => 0))) :: (q2, .inl (g.2.1, 78, .inl (fun _ => 0))) :: (q1, .inl (g.2.1, 2, .inl (fun _ => 0))) :: (aa, .inr (10, [.ref q1, .ref q2, .int 0, .ref q3, .ref q4, .int 0, .ref q5, .ref q6, .ref q7, .int 0, .ref q8, .ref q9, .int 0, .ref q10, .ref q11, .int 0, .int 0, .ref q12, .ref q13, .ref q14, .ref q15, .ref q16, .ref q17, .int 0, .int 0, .int 0, .ref q18, .ref q19, .ref q20, .ref q21, .ref q22, .ref q23, .ref q24, .ref q25, .int 0, .ref q26, .null, .null, .null, .null, .null, .null, .null, .null, .int 0])) :: w0) rfl ?_
  refine V_aload_n 0 rfl d_Mo_init_216 ?_
  refine V_bipush (v := 8) rfl d_Mo_init_217 ?_
  refine V_newI (N := 8) wa_int (by decide) (by decide) (by decide) (Nat.le_of_ble_eq_true rfl) (Nat.le_of_ble_eq_true rfl) d_Mo_init_219 (fun q27 => ?_)
  refine V_putW (q0 := 27) (j := 36) cq_10 rfl (by decide) (Nat.le_of_ble_eq_true rfl) wf_Mo_88 (Or.inr ⟨rfl, rfl, rfl⟩) rfl rfl d_Mo_init_221 ?_
  refine V_ws (ws' := (q27, .inl (g.2.1, 8, .inl (fun _ => 0))) :: (q26, .inl (g.2.1, 8, .inl (fun _ => 0))) :: (q25, .inl (g.2.1, 2, .inl (fun _ => 0))) :: (q24, .inl (g.2.1, 24, .inl (fun _ => 0))) :: (q23, .inl (g.2.1, 192, .inl (fun _ => 0))) :: (q22, .inl (g.2.1, 192, .inl (fun _ => 0))) :: (q21, .inl (g.2.1, 192, .inl (fun _ => 0))) :: (q20, .inl (g.2.1, 192, .inl (fun _ => 0))) :: (q19, .inl (g.2.1, 192, .inl (fun _ => 0))) :: (q18, .inl (g.2.1, 192, .inl (fun _ => 0))) :: (q17, .inl (g.2.1, 8, .inl (fun _ => 0))) :: (q16, .inl (g.2.1, 8, .inl (fun _ => 0))) :: (q15, .inl (g.2.1, 8, .inl (fun _ => 0))) :: (q14, .inl (g.2.1, 8, .inl (fun _ => 0))) :: (q13, .inl (g.2.1, 8, .inl (fun _ => 0))) :: (q12, .inl (g.2.1, 8, .inl (fun _ => 0))) :: (q11, .inl (g.2.1, 17, .inl (fun _ => 0))) :: (q10, .inl (g.2.1, 17, .inl (fun _ => 0))) :: (q9, .inl (g.2.1, 8, .inl (fun _ => 0))) :: (q8, .inl (g.2.1, 8, .inl (fun _ => 0))) :: (q7, .inl (g.2.1, 11, .inl (fun _ => 0))) :: (q6, .inl (g.2.1, 11, .inl (fun _ => 0))) :: (q5, .inl (g.2.1, 11, .inl (fun _ => 0))) :: (q4, .inl (g.2.1, 9, .inl (fun _ => 0))) :: (q3, .inl (g.2.1, 9, .inl (fun _ => 0))) :: (q2, .inl (g.2.1, 78, .inl (fun _ => 0))) :: (q1, .inl (g.2.1, 2, .inl (fun _ => 0))) :: (aa, .inr (10, [.ref q1, .ref q2, .int 0, .ref q3, .ref q4, .int 0, .ref q5, .ref q6, .ref q7, .int 0, .ref q8, .ref q9, .int 0, .ref q10, .ref q11, .int 0, .int 0, .ref q12, .ref q13, .ref q14, .ref q15, .ref q16, .ref q17, .int 0, .int 0, .int 0, .ref q18, .ref q19, .ref q20, .ref q21, .ref q22, .ref q23, .ref q24, .ref q25, .int 0, .ref q26, .ref q27, .null, .null, .null, .null, .null, .null, .null, .int 0])) :: w0) rfl ?_
  refine V_aload_n 0 rfl d_Mo_init_224 ?_
  refine V_bipush (v := 8) rfl d_Mo_init_225 ?_
  refine V_newI (N := 8) wa_int (by decide) (by decide) (by decide) (Nat.le_of_ble_eq_true rfl) (Nat.le_of_ble_eq_true rfl) d_Mo_init_227 (fun q28 => ?_)
  refine V_putW (q0 := 28) (j := 37) cq_10 rfl (by decide) (Nat.le_of_ble_eq_true rfl) wf_Mo_91 (Or.inr ⟨rfl, rfl, rfl⟩) rfl rfl d_Mo_init_229 ?_
  refine V_ws (ws' := (q28, .inl (g.2.1, 8, .inl (fun _ => 0))) :: (q27, .inl (g.2.1, 8, .inl (fun _ => 0))) :: (q26, .inl (g.2.1, 8, .inl (fun _ => 0))) :: (q25, .inl (g.2.1, 2, .inl (fun _ => 0))) :: (q24, .inl (g.2.1, 24, .inl (fun _ => 0))) :: (q23, .inl (g.2.1, 192, .inl (fun _ => 0))) :: (q22, .inl (g.2.1, 192, .inl (fun _ => 0))) :: (q21, .inl (g.2.1, 192, .inl (fun _ => 0))) :: (q20, .inl (g.2.1, 192, .inl (fun _ => 0))) :: (q19, .inl (g.2.1, 192, .inl (fun _ => 0))) :: (q18, .inl (g.2.1, 192, .inl (fun _ => 0))) :: (q17, .inl (g.2.1, 8, .inl (fun _ => 0))) :: (q16, .inl (g.2.1, 8, .inl (fun _ => 0))) :: (q15, .inl (g.2.1, 8, .inl (fun _ => 0))) :: (q14, .inl (g.2.1, 8, .inl (fun _ => 0))) :: (q13, .inl (g.2.1, 8, .inl (fun _ => 0))) :: (q12, .inl (g.2.1, 8, .inl (fun _ => 0))) :: (q11, .inl (g.2.1, 17, .inl (fun _ => 0))) :: (q10, .inl (g.2.1, 17, .inl (fun _ => 0))) :: (q9, .inl (g.2.1, 8, .inl (fun _ => 0))) :: (q8, .inl (g.2.1, 8, .inl (fun _ => 0))) :: (q7, .inl (g.2.1, 11, .inl (fun _ => 0))) :: (q6, .inl (g.2.1, 11, .inl (fun _ => 0))) :: (q5, .inl (g.2.1, 11, .inl (fun _ => 0))) :: (q4, .inl (g.2.1, 9, .inl (fun _ => 0))) :: (q3, .inl (g.2.1, 9, .inl (fun _ => 0))) :: (q2, .inl (g.2.1, 78, .inl (fun _ => 0))) :: (q1, .inl (g.2.1, 2, .inl (fun _ => 0))) :: (aa, .inr (10, [.ref q1, .ref q2, .int 0, .ref q3, .ref q4, .int 0, .ref q5, .ref q6, .ref q7, .int 0, .ref q8, .ref q9, .int 0, .ref q10, .ref q11, .int 0, .int 0, .ref q12, .ref q13, .ref q14, .ref q15, .ref q16, .ref q17, .int 0, .int 0, .int 0, .ref q18, .ref q19, .ref q20, .ref q21, .ref q22, .ref q23, .ref q24, .ref q25, .int 0, .ref q26, .ref q27, .ref q28, .null, .null, .null, .null, .null, .null, .int 0])) :: w0) rfl ?_
  refine V_aload_n 0 rfl d_Mo_init_232 ?_
  refine V_sipush (v := 240) rfl d_Mo_init_233 ?_
  refine V_newI (N := 240) wa_int (by decide) (by decide) (by decide) (Nat.le_of_ble_eq_true rfl) (Nat.le_of_ble_eq_true rfl) d_Mo_init_236 (fun q29 => ?_)
  refine V_putW (q0 := 29) (j := 38) cq_10 rfl (by decide) (Nat.le_of_ble_eq_true rfl) wf_Mo_94 (Or.inr ⟨rfl, rfl, rfl⟩) rfl rfl d_Mo_init_238 ?_
  refine V_ws (ws' := (q29, .inl (g.2.1, 240, .inl (fun _ => 0))) :: (q28, .inl (g.2.1, 8, .inl (fun _ => 0))) :: (q27, .inl (g.2.1, 8, .inl (fun _ => 0))) :: (q26, .inl (g.2.1, 8, .inl (fun _ => 0))) :: (q25, .inl (g.2.1, 2, .inl (fun _ => 0))) :: (q24, .inl (g.2.1, 24, .inl (fun _ => 0))) :: (q23, .inl (g.2.1, 192, .inl (fun _ => 0))) :: (q22, .inl (g.2.1, 192, .inl (fun _ => 0))) :: (q21, .inl (g.2.1, 192, .inl (fun _ => 0))) :: (q20, .inl (g.2.1, 192, .inl (fun _ => 0))) :: (q19, .inl (g.2.1, 192, .inl (fun _ => 0))) :: (q18, .inl (g.2.1, 192, .inl (fun _ => 0))) :: (q17, .inl (g.2.1, 8, .inl (fun _ => 0))) :: (q16, .inl (g.2.1, 8, .inl (fun _ => 0))) :: (q15, .inl (g.2.1, 8, .inl (fun _ => 0))) :: (q14, .inl (g.2.1, 8, .inl (fun _ => 0))) :: (q13, .inl (g.2.1, 8, .inl (fun _ => 0))) :: (q12, .inl (g.2.1, 8, .inl (fun _ => 0))) :: (q11, .inl (g.2.1, 17, .inl (fun _ => 0))) :: (q10, .inl (g.2.1, 17, .inl (fun _ => 0))) :: (q9, .inl (g.2.1, 8, .inl (fun _ => 0))) :: (q8, .inl (g.2.1, 8, .inl (fun _ => 0))) :: (q7, .inl (g.2.1, 11, .inl (fun _ => 0))) :: (q6, .inl (g.2.1, 11, .inl (fun _ => 0))) :: (q5, .inl (g.2.1, 11, .inl (fun _ => 0))) :: (q4, .inl (g.2.1, 9, .inl (fun _ => 0))) :: (q3, .inl (g.2.1, 9, .inl (fun _ => 0))) :: (q2, .inl (g.2.1, 78, .inl (fun _ => 0))) :: (q1, .inl (g.2.1, 2, .inl (fun _ => 0))) :: (aa, .inr (10, [.ref q1, .ref q2, .int 0, .ref q3, .ref q4, .int 0, .ref q5, .ref q6, .ref q7, .int 0, .ref q8, .ref q9, .int 0, .ref q10, .ref q11, .int 0, .int 0, .ref q12, .ref q13, .ref q14, .ref q15, .ref q16, .ref q17, .int 0, .int 0, .int 0, .ref q18, .ref q19, .ref q20, .ref q21, .ref q22, .ref q23, .ref q24, .ref q25, .int 0, .ref q26, .ref q27, .ref q28, .ref q29, .null, .null, .null, .null, .null, .int 0])) :: w0) rfl ?_
  refine V_aload_n 0 rfl d_Mo_init_241 ?_
  refine V_iconst (v := 4) rfl d_Mo_init_242 ?_
  refine V_newZ (N := 4) wa_boolean (by decide) (by decide) (by decide) (Nat.le_of_ble_eq_true rfl) (Nat.le_of_ble_eq_true rfl) d_Mo_init_243 (fun q30 => ?_)
  refine V_putW (q0 := 30) (j := 39) cq_10 rfl (by decide) (Nat.le_of_ble_eq_true rfl) wf_Mo_97 (Or.inr ⟨rfl, rfl, rfl⟩) rfl rfl d_Mo_init_245 ?_
  refine V_ws (ws' := (q30, .inl (g.2.2.1, 4, .inl (fun _ => 0))) :: (q29, .inl (g.2.1, 240, .inl (fun _ => 0))) :: (q28, .inl (g.2.1, 8, .inl (fun _ => 0))) :: (q27, .inl (g.2.1, 8, .inl (fun _ => 0))) :: (q26, .inl (g.2.1, 8, .inl (fun _ => 0))) :: (q25, .inl (g.2.1, 2, .inl (fun _ => 0))) :: (q24, .inl (g.2.1, 24, .inl (fun _ => 0))) :: (q23, .inl (g.2.1, 192, .inl (fun _ => 0))) :: (q22, .inl (g.2.1, 192, .inl (fun _ => 0))) :: (q21, .inl (g.2.1, 192, .inl (fun _ => 0))) :: (q20, .inl (g.2.1, 192, .inl (fun _ => 0))) :: (q19, .inl (g.2.1, 192, .inl (fun _ => 0))) :: (q18, .inl (g.2.1, 192, .inl (fun _ => 0))) :: (q17, .inl (g.2.1, 8, .inl (fun _ => 0))) :: (q16, .inl (g.2.1, 8, .inl (fun _ => 0))) :: (q15, .inl (g.2.1, 8, .inl (fun _ => 0))) :: (q14, .inl (g.2.1, 8, .inl (fun _ => 0))) :: (q13, .inl (g.2.1, 8, .inl (fun _ => 0))) :: (q12, .inl (g.2.1, 8, .inl (fun _ => 0))) :: (q11, .inl (g.2.1, 17, .inl (fun _ => 0))) :: (q10, .inl (g.2.1, 17, .inl (fun _ => 0))) :: (q9, .inl (g.2.1, 8, .inl (fun _ => 0))) :: (q8, .inl (g.2.1, 8, .inl (fun _ => 0))) :: (q7, .inl (g.2.1, 11, .inl (fun _ => 0))) :: (q6, .inl (g.2.1, 11, .inl (fun _ => 0))) :: (q5, .inl (g.2.1, 11, .inl (fun _ => 0))) :: (q4, .inl (g.2.1, 9, .inl (fun _ => 0))) :: (q3, .inl (g.2.1, 9, .inl (fun _ => 0))) :: (q2, .inl (g.2.1, 78, .inl (fun _ => 0))) :: (q1, .inl (g.2.1, 2, .inl (fun _ => 0))) :: (aa, .inr (10, [.ref q1, .ref q2, .int 0, .ref q3, .ref q4, .int 0, .ref q5, .ref q6, .ref q7, .int 0, .ref q8, .ref q9, .int 0, .ref q10, .ref q11, .int 0, .int 0, .ref q12, .ref q13, .ref q14, .ref q15, .ref q16, .ref q17, .int 0, .int 0, .int 0, .ref q18, .ref q19, .ref q20, .ref q21, .ref q22, .ref q23, .ref q24, .ref q25, .int 0, .ref q26, .ref q27, .ref q28, .ref q29, .ref q30, .null, .null, .null, .null, .int 0])) :: w0) rfl ?_
  refine V_aload_n 0 rfl d_Mo_init_248 ?_
  refine V_iconst (v := 4) rfl d_Mo_init_249 ?_
  refine V_newI (N := 4) wa_int (by decide) (by decide) (by decide) (Nat.le_of_ble_eq_true rfl) (Nat.le_of_ble_eq_true rfl) d_Mo_init_250 (fun q31 => ?_)
  refine V_putW (q0 := 31) (j := 40) cq_10 rfl (by decide) (Nat.le_of_ble_eq_true rfl) wf_Mo_101 (Or.inr ⟨rfl, rfl, rfl⟩) rfl rfl d_Mo_init_252 ?_
  refine V_ws (ws' := (q31, .inl (g.2.1, 4, .inl (fun _ => 0))) :: (q30, .inl (g.2.2.1, 4, .inl (fun _ => 0))) :: (q29, .inl (g.2.1, 240, .inl (fun _ => 0))) :: (q28, .inl (g.2.1, 8, .inl (fun _ => 0))) :: (q27, .inl (g.2.1, 8, .inl (fun _ => 0))) :: (q26, .inl (g.2.1, 8, .inl (fun _ => 0))) :: (q25, .inl (g.2.1, 2, .inl (fun _ => 0))) :: (q24, .inl (g.2.1, 24, .inl (fun _ => 0))) :: (q23, .inl (g.2.1, 192, .inl (fun _ => 0))) :: (q22, .inl (g.2.1, 192, .inl (fun _ => 0))) :: (q21, .inl (g.2.1, 192, .inl (fun _ => 0))) :: (q20, .inl (g.2.1, 192, .inl (fun _ => 0))) :: (q19, .inl (g.2.1, 192, .inl (fun _ => 0))) :: (q18, .inl (g.2.1, 192, .inl (fun _ => 0))) :: (q17, .inl (g.2.1, 8, .inl (fun _ => 0))) :: (q16, .inl (g.2.1, 8, .inl (fun _ => 0))) :: (q15, .inl (g.2.1, 8, .inl (fun _ => 0))) :: (q14, .inl (g.2.1, 8, .inl (fun _ => 0))) :: (q13, .inl (g.2.1, 8, .inl (fun _ => 0))) :: (q12, .inl (g.2.1, 8, .inl (fun _ => 0))) :: (q11, .inl (g.2.1, 17, .inl (fun _ => 0))) :: (q10, .inl (g.2.1, 17, .inl (fun _ => 0))) :: (q9, .inl (g.2.1, 8, .inl (fun _ => 0))) :: (q8, .inl (g.2.1, 8, .inl (fun _ => 0))) :: (q7, .inl (g.2.1, 11, .inl (fun _ => 0))) :: (q6, .inl (g.2.1, 11, .inl (fun _ => 0))) :: (q5, .inl (g.2.1, 11, .inl (fun _ => 0))) :: (q4, .inl (g.2.1, 9, .inl (fun _ => 0))) :: (q3, .inl (g.2.1, 9, .inl (fun _ => 0))) :: (q2, .inl (g.2.1, 78, .inl (fun _ => 0))) :: (q1, .inl (g.2.1, 2, .inl (fun _ => 0))) :: (aa, .inr (10, [.ref q1, .ref q2, .int 0, .ref q3, .ref q4, .int 0, .ref q5, .ref q6, .ref q7, .int 0, .ref q8, .ref q9, .int 0, .ref q10, .ref q11, .int 0, .int 0, .ref q12, .ref q13, .ref q14, .ref q15, .ref q16, .ref q17, .int 0, .int 0, .int 0, .ref q18, .ref q19, .ref q20, .ref q21, .ref q22, .ref q23, .ref q24, .ref q25, .int 0, .ref q26, .ref q27, .ref q28, .ref q29, .ref q30, .ref q31, .null, .null, .null, .int 0])) :: w0) rfl ?_
  refine V_aload_n 0 rfl d_Mo_init_255 ?_
  refine V_iconst (v := 4) rfl d_Mo_init_256 ?_
  refine V_newI (N := 4) wa_int (by decide) (by decide) (by decide) (Nat.le_of_ble_eq_true rfl) (Nat.le_of_ble_eq_true rfl) d_Mo_init_257 (fun q32 => ?_)
  refine V_putW (q0 := 32) (j := 41) cq_10 rfl (by decide) (Nat.le_of_ble_eq_true rfl) wf_Mo_104 (Or.inr ⟨rfl, rfl, rfl⟩) rfl rfl d_Mo_init_259 ?_
  refine V_ws (ws' := (q32, .inl (g.2.1, 4, .inl (fun _ => 0))) :: (q31, .inl (g.2.1, 4, .inl (fun _ => 0))) :: (q30, .inl (g.2.2.1, 4, .inl (fun _ => 0))) :: (q29, .inl (g.2.1, 240, .inl (fun _ => 0))) :: (q28, .inl (g.2.1, 8, .inl (fun _ => 0))) :: (q27, .inl (g.2.1, 8, .inl (fun _ => 0))) :: (q26, .inl (g.2.1, 8, .inl (fun _ => 0))) :: (q25, .inl (g.2.1, 2, .inl (fun _ => 0))) :: (q24, .inl (g.2.1, 24, .inl (fun _ => 0))) :: (q23, .inl (g.2.1, 192, .inl (fun _ => 0))) :: (q22, .inl (g.2.1, 192, .inl (fun _ => 0))) :: (q21, .inl (g.2.1, 192, .inl (fun _ => 0))) :: (q20, .inl (g.2.1, 192, .inl (fun _ => 0))) :: (q19, .inl (g.2.1, 192, .inl (fun _ => 0))) :: (q18, .inl (g.2.1, 192, .inl (fun _ => 0))) :: (q17, .inl (g.2.1, 8, .inl (fun _ => 0))) :: (q16, .inl (g.2.1, 8, .inl (fun _ => 0))) :: (q15, .inl (g.2.1, 8, .inl (fun _ => 0))) :: (q14, .inl (g.2.1, 8, .inl (fun _ => 0))) :: (q13, .inl (g.2.1, 8, .inl (fun _ => 0))) :: (q12, .inl (g.2.1, 8, .inl (fun _ => 0))) :: (q11, .inl (g.2.1, 17, .inl (fun _ => 0))) :: (q10, .inl (g.2.1, 17, .inl (fun _ => 0))) :: (q9, .inl (g.2.1, 8, .inl (fun _ => 0))) :: (q8, .inl (g.2.1, 8, .inl (fun _ => 0))) :: (q7, .inl (g.2.1, 11, .inl (fun _ => 0))) :: (q6, .inl (g.2.1, 11, .inl (fun _ => 0))) :: (q5, .inl (g.2.1, 11, .inl (fun _ => 0))) :: (q4, .inl (g.2.1, 9, .inl (fun _ => 0))) :: (q3, .inl (g.2.1, 9, .inl (fun _ => 0))) :: (q2, .inl (g.2.1, 78, .inl (fun _ => 0))) :: (q1, .inl (g.2.1, 2, .inl (fun _ => 0))) :: (aa, .inr (10, [.ref q1, .ref q2, .int 0, .ref q3, .ref q4, .int 0, .ref q5, .ref q6, .ref q7, .int 0, .ref q8, .ref q9, .int 0, .ref q10, .ref q11, .int 0, .int 0, .ref q12, .ref q13, .ref q14, .ref q15, .ref q16, .ref q17, .int 0, .int 0, .int 0, .ref q18, .ref q19, .ref q20, .ref q21, .ref q22, .ref q23, .ref q24, .ref q25, .int 0, .ref q26, .ref q27, .ref q28, .ref q29, .ref q30, .ref q31, .ref q32, .null, .null, .int 0])) :: w0) rfl ?_
  refine V_aload_n 0 rfl d_Mo_init_262 ?_
  refine V_sipush (v := 240) rfl d_Mo_init_263 ?_
  refine V_newI (N := 240) wa_int (by decide) (by decide) (by decide) (Nat.le_of_ble_eq_true rfl) (Nat.le_of_ble_eq_true rfl) d_Mo_init_266 (fun q33 => ?_)
  refine V_putW (q0 := 33) (j := 42) cq_10 rfl (by decide) (Nat.le_of_ble_eq_true rfl) wf_Mo_107 (Or.inr ⟨rfl, rfl, rfl⟩) rfl rfl d_Mo_init_268 ?_
  refine V_ws (ws' := (q33, .inl (g.2.1, 240, .inl (fun _ => 0))) :: (q32, .inl (g.2.1, 4, .inl (fun _ => 0))) :: (q31, .inl (g.2.1, 4, .inl (fun _ => 0))) :: (q30, .inl (g.2.2.1, 4, .inl (fun _ => 0))) :: (q29, .inl (g.2.1, 240, .inl (fun _ => 0))) :: (q28, .inl (g.2.1, 8, .inl (fun _ => 0))) :: (q27, .inl (g.2.1, 8, .inl (fun _ => 0))) :: (q26, .inl (g.2.1, 8, .inl (fun _ => 0))) :: (q25, .inl (g.2.1, 2, .inl (fun _ => 0))) :: (q24, .inl (g.2.1, 24, .inl (fun _ => 0))) :: (q23, .inl (g.2.1, 192, .inl (fun _ => 0))) :: (q22, .inl (g.2.1, 192, .inl (fun _ => 0))) :: (q21, .inl (g.2.1, 192, .inl (fun _ => 0))) :: (q20, .inl (g.2.1, 192, .inl (fun _ => 0))) :: (q19, .inl (g.2.1, 192, .inl (fun _ => 0))) :: (q18, .inl (g.2.1, 192, .inl (fun _ => 0))) :: (q17, .inl (g.2.1, 8, .inl (fun _ => 0))) :: (q16, .inl (g.2.1, 8, .inl (fun _ => 0))) :: (q15, .inl (g.2.1, 8, .inl (fun _ => 0))) :: (q14, .inl (g.2.1, 8, .inl (fun _ => 0))) :: (q13, .inl (g.2.1, 8, .inl (fun _ => 0))) :: (q12, .inl (g.2.1, 8, .inl (fun _ => 0))) :: (q11, .inl (g.2.1, 17, .inl (fun _ => 0))) :: (q10, .inl (g.2.1, 17, .inl (fun _ => 0))) :: (q9, .inl (g.2.1, 8, .inl (fun _ => 0))) :: (q8, .inl (g.2.1, 8, .inl (fun _ => 0))) :: (q7, .inl (g.2.1, 11, .inl (fun _ => 0))) :: (q6, .inl (g.2.1, 11, .inl (fun _ => 0))) :: (q5, .inl (g.2.1, 11, .inl (fun _ => 0))) :: (q4, .inl (g.2.1, 9, .inl (fun _ => 0))) :: (q3, .inl (g.2.1, 9, .inl (fun _ => 0))) :: (q2, .inl (g.2.1, 78, .inl (fun _ => 0))) :: (q1, .inl (g.2.1, 2, .inl (fun _ => 0))) :: (aa, .inr (10, [.ref q1, .ref q2, .int 0, .ref q3, .ref q4, .int 0, .ref q5, .ref q6, .ref q7, .int 0, .ref q8, .ref q9, .int 0, .ref q10, .ref q11, .int 0, .int 0, .ref q12, .ref q13, .ref q14, .ref q15, .ref q16, .ref q17, .int 0, .int 0, .int 0, .ref q18, .ref q19, .ref q20, .ref q21, .ref q22, .ref q23, .ref q24, .ref q25, .int 0, .ref q26, .ref q27, .ref q28, .ref q29, .ref q30, .ref q31, .ref q32, .ref q33, .null, .int 0])) :: w0) rfl ?_
  refine V_aload_n 0 rfl d_Mo_init_271 ?_
  refine V_bipush (v := 60) rfl d_Mo_init_272 ?_
  refine V_newI (N := 60) wa_int (by decide) (by decide) (by decide) (Nat.le_of_ble_eq_true rfl) (Nat.le_of_ble_eq_true rfl) d_Mo_init_274 (fun q34 => ?_)
  refine V_putW (q0 := 34) (j := 43) cq_10 rfl (by decide) (Nat.le_of_ble_eq_true rfl) wf_Mo_110 (Or.inr ⟨rfl, rfl, rfl⟩) rfl rfl d_Mo_init_276 ?_
  refine V_ws (ws' := (q34, .inl (g.2.1, 60, .inl (fun _ => 0))) :: (q33, .inl (g.2.1, 240, .inl (fun _ => 0))) :: (q32, .inl (g.2.1, 4, .inl (fun _ => 0))) :: (q31, .inl (g.2.1, 4, .inl (fun _ => 0))) :: (q30, .inl (g.2.2.1, 4, .inl (fun _ => 0))) :: (q29, .inl (g.2.1, 240, .inl (fun _ => 0))) :: (q28, .inl (g.2.1, 8, .inl (fun _ => 0))) :: (q27, .inl (g.2.1, 8, .inl (fun _ => 0))) :: (q26, .inl (g.2.1, 8, .inl (fun _ => 0))) :: (q25, .inl (g.2.1, 2, .inl (fun _ => 0))) :: (q24, .inl (g.2.1, 24, .inl (fun _ => 0))) :: (q23, .inl (g.2.1, 192, .inl (fun _ => 0))) :: (q22, .inl (g.2.1, 192, .inl (fun _ => 0))) :: (q21, .inl (g.2.1, 192, .inl (fun _ => 0))) :: (q20, .inl (g.2.1, 192, .inl (fun _ => 0))) :: (q19, .inl (g.2.1, 192, .inl (fun _ => 0))) :: (q18, .inl (g.2.1, 192, .inl (fun _ => 0))) :: (q17, .inl (g.2.1, 8, .inl (fun _ => 0))) :: (q16, .inl (g.2.1, 8, .inl (fun _ => 0))) :: (q15, .inl (g.2.1, 8, .inl (fun _ => 0))) :: (q14, .inl (g.2.1, 8, .inl (fun _ => 0))) :: (q13, .inl (g.2.1, 8, .inl (fun _ => 0))) :: (q12, .inl (g.2.1, 8, .inl (fun _ => 0))) :: (q11, .inl (g.2.1, 17, .inl (fun _ => 0))) :: (q10, .inl (g.2.1, 17, .inl (fun _ => 0))) :: (q9, .inl (g.2.1, 8, .inl (fun _ => 0))) :: (q8, .inl (g.2.1, 8, .inl (fun _ => 0))) :: (q7, .inl (g.2.1, 11, .inl (fun _ => 0))) :: (q6, .inl (g.2.1, 11, .inl (fun _ => 0))) :: (q5, .inl (g.2.1, 11, .inl (fun _ => 0))) :: (q4, .inl (g.2.1, 9, .inl (fun _ => 0))) :: (q3, .inl (g.2.1, 9, .inl (fun _ => 0))) :: (q2, .inl (g.2.1, 78, .inl (fun _ => 0))) :: (q1, .inl (g.2.1, 2, .inl (fun _ => 0))) :: (aa, .inr (10, [.ref q1, .ref q2, .int 0, .ref q3, .ref q4, .int 0, .ref q5, .ref q6, .ref q7, .int 0, .ref q8, .ref q9, .int 0, .ref q10, .ref q11, .int 0, .int 0, .ref q12, .ref q13, .ref q14, .ref q15, .ref q16, .ref q17, .int 0, .int 0, .int 0, .ref q18, .ref q19, .ref q20, .ref q21, .ref q22, .ref q23, .ref q24, .ref q25, .int 0, .ref q26, .ref q27, .ref q28, .ref q29, .ref q30, .ref q31, .ref q32, .ref q33, .ref q34, .int 0])) :: w0) rfl ?_
  exact V_vret (Nat.le_of_ble_eq_true rfl) (Nat.le_of_ble_eq_true rfl) d_Mo_init_279 rfl ⟨rfl, q1, q2, q3, q4, q5, q6, q7, q8, q9, q10, q11, q12, q13, q14, q15, q16, q17, q18, q19, q20, q21, q22, q23, q24, q25, q26, q27, q28, q29, q30, q31, q32, q33, q34, rfl⟩
