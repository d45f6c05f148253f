def f_In_numberOfTrailingZeros (a1 : Int32) (h0 : HP) : Option (Int32 × HP) :=
 ltt ((a1 ^^^ (-1)) &&& (a1 - 1)) (fun (v2 : Int32) =>
 (if 0 < v2 then
 bd2 ((if v2 ≤ 65536 then
 some (1, v2)
 else
 ltt (1 + 16) (fun (v7 : Int32) =>
 ltt ((Int32.toUInt32 v2 >>> (Int32.toUInt32 16 &&& Int32.toUInt32 31)).toInt32) (fun (v8 : Int32) =>
 some (v7, v8)))) : Option (Int32 × Int32)) (fun (v4 : Int32) (v5 : Int32) =>
 bd2 ((if v5 ≤ 256 then
 some (v4, v5)
 else
 ltt (v4 + 8) (fun (v12 : Int32) =>
 ltt ((Int32.toUInt32 v5 >>> (Int32.toUInt32 8 &&& Int32.toUInt32 31)).toInt32) (fun (v13 : Int32) =>
 some (v12, v13)))) : Option (Int32 × Int32)) (fun (v9 : Int32) (v10 : Int32) =>
 bd2 ((if v10 ≤ 16 then
 some (v9, v10)
 else
 ltt (v9 + 4) (fun (v17 : Int32) =>
 ltt ((Int32.toUInt32 v10 >>> (Int32.toUInt32 4 &&& Int32.toUInt32 31)).toInt32) (fun (v18 : Int32) =>
 some (v17, v18)))) : Option (Int32 × Int32)) (fun (v14 : Int32) (v15 : Int32) =>
 bd2 ((if v15 ≤ 4 then
 some (v14, v15)
 else
 ltt (v14 + 2) (fun (v22 : Int32) =>
 ltt ((Int32.toUInt32 v15 >>> (Int32.toUInt32 2 &&& Int32.toUInt32 31)).toInt32) (fun (v23 : Int32) =>
 some (v22, v23)))) : Option (Int32 × Int32)) (fun (v19 : Int32) (v20 : Int32) =>
 some (v19 + ((Int32.toUInt32 v20 >>> (Int32.toUInt32 1 &&& Int32.toUInt32 31)).toInt32), h0)))))
 else
 some (v2 &&& 32, h0)))
set_option maxRecDepth 20000 in
set_option maxHeartbeats 4000000 in
theorem m_In_numberOfTrailingZeros (l : Launch) (g : GG) (ad : Nat → Nat) (a1 : Int32) (h0 : HP) : CM l g ad y_In_numberOfTrailingZeros b_In_numberOfTrailingZeros 2 (some .int) rm_In_numberOfTrailingZeros [.int a1] h0 enI (f_In_numberOfTrailingZeros a1 h0) := by
  refine CM.of (by decide) (Nat.le_of_ble_eq_true rfl) (fun Q => ?_)
  show Jj _ _ (Vw (kx_In_numberOfTrailingZeros l g Q) 0 0 0 _ _ _)
  refine J_sub [0] (lv' := [(0, .int a1)]) rfl ?_
  unfold f_In_numberOfTrailingZeros
  refine J_iload_n 0 rfl d_In_numberOfTrailingZeros_0 ?_
  refine J_iconst (v := (-1)) rfl d_In_numberOfTrailingZeros_1 ?_
  refine J_ixor d_In_numberOfTrailingZeros_2 ?_
  refine J_iload_n 0 rfl d_In_numberOfTrailingZeros_3 ?_
  refine J_iconst (v := 1) rfl d_In_numberOfTrailingZeros_4 ?_
  refine J_isub d_In_numberOfTrailingZeros_5 ?_
  refine J_iand d_In_numberOfTrailingZeros_6 ?_
  refine P_ist_n (lv' := fun v2 => [(0, .int v2)]) 0 rfl (Nat.le_of_ble_eq_true rfl) (fun _ => rfl) d_In_numberOfTrailingZeros_7 (fun v2 => ?_)
  refine J_iload_n 0 rfl d_In_numberOfTrailingZeros_8 ?_
  refine J_if_gt 17 rfl d_In_numberOfTrailingZeros_9 (fun c3 => ?_) (fun c3 => ?_)
  · refine J_iconst (v := 1) rfl d_In_numberOfTrailingZeros_17 ?_
    refine J_istore_n (lv' := [(1, .int 1), (0, .int v2)]) 1 rfl (Nat.le_of_ble_eq_true rfl) rfl d_In_numberOfTrailingZeros_18 ?_
    refine J_iload_n 1 rfl d_In_numberOfTrailingZeros_19 ?_
    refine J_ldcw (v := 65536) kc_In_264 d_In_numberOfTrailingZeros_20 ?_
    refine J_bd2 (fun (v4 : Int32) (v5 : Int32) => Vw (kx_In_numberOfTrailingZeros l g Q) 0 0 34 [(1, .int v4), (0, .int v5)] [] (pic g ad h0)) ?_ (fun v4 v5 => ?_)
    · refine J_icmp_le 34 rfl d_In_numberOfTrailingZeros_23 (fun c6 => ?_) (fun c6 => ?_)
      · exact J_exit [0, 1] rfl (fun hx => hx)
      · refine P_inc (w := 16) (lv' := fun v7 => [(1, .int v7), (0, .int v2)]) 0 rfl rfl (Nat.le_of_ble_eq_true rfl) (fun _ => rfl) d_In_numberOfTrailingZeros_26 (fun v7 => ?_)
        refine J_iload_n 1 rfl d_In_numberOfTrailingZeros_29 ?_
        refine J_bipush (v := 16) rfl d_In_numberOfTrailingZeros_30 ?_
        refine J_iushr d_In_numberOfTrailingZeros_32 ?_
        refine P_ist_n (lv' := fun v8 => [(0, .int v8), (1, .int v7)]) 0 rfl (Nat.le_of_ble_eq_true rfl) (fun _ => rfl) d_In_numberOfTrailingZeros_33 (fun v8 => ?_)
        exact J_exit [1, 0] rfl (fun hx => hx)
    · refine J_iload_n 1 rfl d_In_numberOfTrailingZeros_34 ?_
      refine J_sipush (v := 256) rfl d_In_numberOfTrailingZeros_35 ?_
      refine J_bd2 (fun (v9 : Int32) (v10 : Int32) => Vw (kx_In_numberOfTrailingZeros l g Q) 0 0 49 [(1, .int v9), (0, .int v10)] [] (pic g ad h0)) ?_ (fun v9 v10 => ?_)
      · refine J_icmp_le 49 rfl d_In_numberOfTrailingZeros_38 (fun c11 => ?_) (fun c11 => ?_)
        · exact J_exit [0, 1] rfl (fun hx => hx)
        · refine P_inc (w := 8) (lv' := fun v12 => [(1, .int v12), (0, .int v5)]) 0 rfl rfl (Nat.le_of_ble_eq_true rfl) (fun _ => rfl) d_In_numberOfTrailingZeros_41 (fun v12 => ?_)
          refine J_iload_n 1 rfl d_In_numberOfTrailingZeros_44 ?_
          refine J_bipush (v := 8) rfl d_In_numberOfTrailingZeros_45 ?_
          refine J_iushr d_In_numberOfTrailingZeros_47 ?_
          refine P_ist_n (lv' := fun v13 => [(0, .int v13), (1, .int v12)]) 0 rfl (Nat.le_of_ble_eq_true rfl) (fun _ => rfl) d_In_numberOfTrailingZeros_48 (fun v13 => ?_)
          exact J_exit [1, 0] rfl (fun hx => hx)
      · refine J_iload_n 1 rfl d_In_numberOfTrailingZeros_49 ?_
        refine J_bipush (v := 16) rfl d_In_numberOfTrailingZeros_50 ?_
        refine J_bd2 (fun (v14 : Int32) (v15 : Int32) => Vw (kx_In_numberOfTrailingZeros l g Q) 0 0 62 [(1, .int v14), (0, .int v15)] [] (pic g ad h0)) ?_ (fun v14 v15 => ?_)
        · refine J_icmp_le 62 rfl d_In_numberOfTrailingZeros_52 (fun c16 => ?_) (fun c16 => ?_)
          · exact J_exit [0, 1] rfl (fun hx => hx)
          · refine P_inc (w := 4) (lv' := fun v17 => [(1, .int v17), (0, .int v10)]) 0 rfl rfl (Nat.le_of_ble_eq_true rfl) (fun _ => rfl) d_In_numberOfTrailingZeros_55 (fun v17 => ?_)
            refine J_iload_n 1 rfl d_In_numberOfTrailingZeros_58 ?_
            refine J_iconst (v := 4) rfl d_In_numberOfTrailingZeros_59 ?_
            refine J_iushr d_In_numberOfTrailingZeros_60 ?_
            refine P_ist_n (lv' := fun v18 => [(0, .int v18), (1, .int v17)]) 0 rfl (Nat.le_of_ble_eq_true rfl) (fun _ => rfl) d_In_numberOfTrailingZeros_61 (fun v18 => ?_)
            exact J_exit [1, 0] rfl (fun hx => hx)
        · refine J_iload_n 1 rfl d_In_numberOfTrailingZeros_62 ?_
          refine J_iconst (v := 4) rfl d_In_numberOfTrailingZeros_63 ?_
          refine J_bd2 (fun (v19 : Int32) (v20 : Int32) => Vw (kx_In_numberOfTrailingZeros l g Q) 0 0 74 [(1, .int v19), (0, .int v20)] [] (pic g ad h0)) ?_ (fun v19 v20 => ?_)
          · refine J_icmp_le 74 rfl d_In_numberOfTrailingZeros_64 (fun c21 => ?_) (fun c21 => ?_)
            · exact J_exit [0, 1] rfl (fun hx => hx)
            · refine P_inc (w := 2) (lv' := fun v22 => [(1, .int v22), (0, .int v15)]) 0 rfl rfl (Nat.le_of_ble_eq_true rfl) (fun _ => rfl) d_In_numberOfTrailingZeros_67 (fun v22 => ?_)
              refine J_iload_n 1 rfl d_In_numberOfTrailingZeros_70 ?_
              refine J_iconst (v := 2) rfl d_In_numberOfTrailingZeros_71 ?_
              refine J_iushr d_In_numberOfTrailingZeros_72 ?_
              refine P_ist_n (lv' := fun v23 => [(0, .int v23), (1, .int v22)]) 0 rfl (Nat.le_of_ble_eq_true rfl) (fun _ => rfl) d_In_numberOfTrailingZeros_73 (fun v23 => ?_)
              exact J_exit [1, 0] rfl (fun hx => hx)
          · refine J_iload_n 0 rfl d_In_numberOfTrailingZeros_74 ?_
            refine J_iload_n 1 rfl d_In_numberOfTrailingZeros_75 ?_
            refine J_iconst (v := 1) rfl d_In_numberOfTrailingZeros_76 ?_
            refine J_iushr d_In_numberOfTrailingZeros_77 ?_
            refine J_iadd d_In_numberOfTrailingZeros_78 ?_
            exact J_iret (Nat.le_refl _) (Nat.le_refl _) d_In_numberOfTrailingZeros_79 rfl (fun hx => hx)
  · refine J_iload_n 0 rfl d_In_numberOfTrailingZeros_12 ?_
    refine J_bipush (v := 32) rfl d_In_numberOfTrailingZeros_13 ?_
    refine J_iand d_In_numberOfTrailingZeros_15 ?_
    exact J_iret (Nat.le_refl _) (Nat.le_refl _) d_In_numberOfTrailingZeros_16 rfl (fun hx => hx)
def f_CS_spare (a1 : Int32) (h0 : HP) : Option (Int32 × HP) :=
 (if a1 = (-1) then
 bd2 (f_Pl_sparedStraws h0) (fun (v3 : Int32) (h4 : HP) =>
 (if v3 = (-1) then
 some ((-1), h4)
 else
 (if a1 = (-1) then
 bd2 (f_In_bitCount v3 h4) (fun (v12 : Int32) (h13 : HP) =>
 some (v12, h13))
 else
 bd1 ((if a1 = 0 then
 some (v3)
 else
 some (v3 &&& (v3 - 1))) : Option (Int32)) (fun (v7 : Int32) =>
 (if v7 = 0 then
 some ((-1), h4)
 else
 bd2 (f_In_numberOfTrailingZeros v7 h4) (fun (v10 : Int32) (h11 : HP) =>
 some (v10, h11)))))))
 else
 (if a1 < 0 then
 some ((-2), h0)
 else
 (if a1 < 2 then
 bd2 (f_Pl_sparedStraws h0) (fun (v16 : Int32) (h17 : HP) =>
 (if v16 = (-1) then
 some ((-1), h17)
 else
 (if a1 = (-1) then
 bd2 (f_In_bitCount v16 h17) (fun (v25 : Int32) (h26 : HP) =>
 some (v25, h26))
 else
 bd1 ((if a1 = 0 then
 some (v16)
 else
 some (v16 &&& (v16 - 1))) : Option (Int32)) (fun (v20 : Int32) =>
 (if v20 = 0 then
 some ((-1), h17)
 else
 bd2 (f_In_numberOfTrailingZeros v20 h17) (fun (v23 : Int32) (h24 : HP) =>
 some (v23, h24)))))))
 else
 some ((-2), h0))))
set_option maxRecDepth 20000 in
set_option maxHeartbeats 4000000 in
theorem m_CS_spare (l : Launch) (g : GG) (ad : Nat → Nat) (a1 : Int32) (h0 : HP) : CM l g ad y_CS_spare b_CS_spare 4 (some .int) rm_CS_spare [.ref (ad 71), .int a1] h0 enI (f_CS_spare a1 h0) := by
  refine CM.of (by decide) (Nat.le_of_ble_eq_true rfl) (fun Q => ?_)
  show Jj _ _ (Vw (kx_CS_spare l g Q) 0 0 0 _ _ _)
  refine J_sub [0, 1] (lv' := [(0, .ref (ad 71)), (1, .int a1)]) rfl ?_
  unfold f_CS_spare
  refine J_iload_n 1 rfl d_CS_spare_0 ?_
  refine J_iconst (v := (-1)) rfl d_CS_spare_1 ?_
  refine J_icmp_eq 17 rfl d_CS_spare_2 (fun c2 => ?_) (fun c2 => ?_)
  · refine J_aload_n 0 rfl d_CS_spare_17 ?_
    refine J_getR fo_CS_53_71 rfl d_CS_spare_18 ?_
    refine J_callVi (m_Pl_sparedStraws l g ad _) ok_Pl_sparedStraws rc_50 wi_Pl_sparedStraws wl_Pl_Pl_sparedStraws wk_CS_191 ⟨rfl, rfl, Nat.le_of_ble_eq_true rfl, Nat.le_of_ble_eq_true rfl⟩ ⟨Nat.zero_le _, Nat.zero_le _⟩ (rest := []) rfl rfl (Nat.le_of_ble_eq_true rfl) d_CS_spare_21 (fun v3 h4 => ?_)
    refine J_istore_n (lv' := [(2, .int v3), (0, .ref (ad 71)), (1, .int a1)]) 2 rfl (Nat.le_of_ble_eq_true rfl) rfl d_CS_spare_24 ?_
    refine J_iload_n 0 rfl d_CS_spare_25 ?_
    refine J_iconst (v := (-1)) rfl d_CS_spare_26 ?_
    refine J_icmp_ne 32 rfl d_CS_spare_27 (fun c5 => ?_) (fun c5 => ?_)
    · refine J_iload_n 2 rfl d_CS_spare_32 ?_
      refine J_iconst (v := (-1)) rfl d_CS_spare_33 ?_
      refine J_icmp_ne 42 rfl d_CS_spare_34 (fun c6 => ?_) (fun c6 => ?_)
      · refine J_iload_n 2 rfl d_CS_spare_42 ?_
        refine J_bd1 (fun (v7 : Int32) => Vw (kx_CS_spare l g Q) 0 0 55 [(2, .int v3), (0, .ref (ad 71)), (1, .int a1)] [.int v7] (pic g ad h4)) ?_ (fun v7 => ?_)
        · refine J_if_ne 50 rfl d_CS_spare_43 (fun c8 => ?_) (fun c8 => ?_)
          · refine J_iload_n 0 rfl d_CS_spare_50 ?_
            refine J_iload_n 0 rfl d_CS_spare_51 ?_
            refine J_iconst (v := 1) rfl d_CS_spare_52 ?_
            refine J_isub d_CS_spare_53 ?_
            refine J_iand d_CS_spare_54 ?_
            exact J_exit [0, 1, 2] rfl (fun hx => hx)
          · refine J_iload_n 0 rfl d_CS_spare_46 ?_
            refine J_goto 55 rfl d_CS_spare_47 ?_
            exact J_exit [0, 1, 2] rfl (fun hx => hx)
        · refine J_istore_n (lv' := [(3, .int v7), (2, .int v3), (0, .ref (ad 71)), (1, .int a1)]) 3 rfl (Nat.le_of_ble_eq_true rfl) rfl d_CS_spare_55 ?_
          refine J_iload_n 0 rfl d_CS_spare_56 ?_
          refine J_if_ne 64 rfl d_CS_spare_57 (fun c9 => ?_) (fun c9 => ?_)
          · refine J_iload_n 0 rfl d_CS_spare_64 ?_
            refine J_callSi (m_In_numberOfTrailingZeros l g ad _ _) ok_In_numberOfTrailingZeros ws_In_numberOfTrailingZeros wk_CS_199 ⟨rfl, rfl, Nat.le_of_ble_eq_true rfl, Nat.le_of_ble_eq_true rfl⟩ ⟨Nat.zero_le _, Nat.zero_le _⟩ (rest := []) rfl rfl (Nat.le_of_ble_eq_true rfl) d_CS_spare_65 (fun v10 h11 => ?_)
            exact J_iret (Nat.le_refl _) (Nat.le_refl _) d_CS_spare_68 rfl (fun hx => hx)
          · refine J_iconst (v := (-1)) rfl d_CS_spare_60 ?_
            refine J_goto 68 rfl d_CS_spare_61 ?_
            exact J_iret (Nat.le_refl _) (Nat.le_refl _) d_CS_spare_68 rfl (fun hx => hx)
      · refine J_iload_n 0 rfl d_CS_spare_37 ?_
        refine J_callSi (m_In_bitCount l g ad _ _) ok_In_bitCount ws_In_bitCount wk_CS_194 ⟨rfl, rfl, Nat.le_of_ble_eq_true rfl, Nat.le_of_ble_eq_true rfl⟩ ⟨Nat.zero_le _, Nat.zero_le _⟩ (rest := []) rfl rfl (Nat.le_of_ble_eq_true rfl) d_CS_spare_38 (fun v12 h13 => ?_)
        exact J_iret (Nat.le_refl _) (Nat.le_refl _) d_CS_spare_41 rfl (fun hx => hx)
    · refine J_iconst (v := (-1)) rfl d_CS_spare_30 ?_
      exact J_iret (Nat.le_refl _) (Nat.le_refl _) d_CS_spare_31 rfl (fun hx => hx)
  · refine J_iload_n 1 rfl d_CS_spare_5 ?_
    refine J_if_lt 14 rfl d_CS_spare_6 (fun c14 => ?_) (fun c14 => ?_)
    · refine J_bipush (v := (-2)) rfl d_CS_spare_14 ?_
      exact J_iret (Nat.le_refl _) (Nat.le_refl _) d_CS_spare_16 rfl (fun hx => hx)
    · refine J_iload_n 1 rfl d_CS_spare_9 ?_
      refine J_iconst (v := 2) rfl d_CS_spare_10 ?_
      refine J_icmp_lt 17 rfl d_CS_spare_11 (fun c15 => ?_) (fun c15 => ?_)
      · refine J_aload_n 0 rfl d_CS_spare_17 ?_
        refine J_getR fo_CS_53_71 rfl d_CS_spare_18 ?_
        refine J_callVi (m_Pl_sparedStraws l g ad _) ok_Pl_sparedStraws rc_50 wi_Pl_sparedStraws wl_Pl_Pl_sparedStraws wk_CS_191 ⟨rfl, rfl, Nat.le_of_ble_eq_true rfl, Nat.le_of_ble_eq_true rfl⟩ ⟨Nat.zero_le _, Nat.zero_le _⟩ (rest := []) rfl rfl (Nat.le_of_ble_eq_true rfl) d_CS_spare_21 (fun v16 h17 => ?_)
        refine J_istore_n (lv' := [(2, .int v16), (0, .ref (ad 71)), (1, .int a1)]) 2 rfl (Nat.le_of_ble_eq_true rfl) rfl d_CS_spare_24 ?_
        refine J_iload_n 0 rfl d_CS_spare_25 ?_
        refine J_iconst (v := (-1)) rfl d_CS_spare_26 ?_
        refine J_icmp_ne 32 rfl d_CS_spare_27 (fun c18 => ?_) (fun c18 => ?_)
        · refine J_iload_n 2 rfl d_CS_spare_32 ?_
          refine J_iconst (v := (-1)) rfl d_CS_spare_33 ?_
          refine J_icmp_ne 42 rfl d_CS_spare_34 (fun c19 => ?_) (fun c19 => ?_)
          · refine J_iload_n 2 rfl d_CS_spare_42 ?_
            refine J_bd1 (fun (v20 : Int32) => Vw (kx_CS_spare l g Q) 0 0 55 [(2, .int v16), (0, .ref (ad 71)), (1, .int a1)] [.int v20] (pic g ad h17)) ?_ (fun v20 => ?_)
            · refine J_if_ne 50 rfl d_CS_spare_43 (fun c21 => ?_) (fun c21 => ?_)
              · refine J_iload_n 0 rfl d_CS_spare_50 ?_
                refine J_iload_n 0 rfl d_CS_spare_51 ?_
                refine J_iconst (v := 1) rfl d_CS_spare_52 ?_
                refine J_isub d_CS_spare_53 ?_
                refine J_iand d_CS_spare_54 ?_
                exact J_exit [0, 1, 2] rfl (fun hx => hx)
              · refine J_iload_n 0 rfl d_CS_spare_46 ?_
                refine J_goto 55 rfl d_CS_spare_47 ?_
                exact J_exit [0, 1, 2] rfl (fun hx => hx)
            · refine J_istore_n (lv' := [(3, .int v20), (2, .int v16), (0, .ref (ad 71)), (1, .int a1)]) 3 rfl (Nat.le_of_ble_eq_true rfl) rfl d_CS_spare_55 ?_
              refine J_iload_n 0 rfl d_CS_spare_56 ?_
              refine J_if_ne 64 rfl d_CS_spare_57 (fun c22 => ?_) (fun c22 => ?_)
              · refine J_iload_n 0 rfl d_CS_spare_64 ?_
                refine J_callSi (m_In_numberOfTrailingZeros l g ad _ _) ok_In_numberOfTrailingZeros ws_In_numberOfTrailingZeros wk_CS_199 ⟨rfl, rfl, Nat.le_of_ble_eq_true rfl, Nat.le_of_ble_eq_true rfl⟩ ⟨Nat.zero_le _, Nat.zero_le _⟩ (rest := []) rfl rfl (Nat.le_of_ble_eq_true rfl) d_CS_spare_65 (fun v23 h24 => ?_)
                exact J_iret (Nat.le_refl _) (Nat.le_refl _) d_CS_spare_68 rfl (fun hx => hx)
              · refine J_iconst (v := (-1)) rfl d_CS_spare_60 ?_
                refine J_goto 68 rfl d_CS_spare_61 ?_
                exact J_iret (Nat.le_refl _) (Nat.le_refl _) d_CS_spare_68 rfl (fun hx => hx)
          · refine J_iload_n 0 rfl d_CS_spare_37 ?_
            refine J_callSi (m_In_bitCount l g ad _ _) ok_In_bitCount ws_In_bitCount wk_CS_194 ⟨rfl, rfl, Nat.le_of_ble_eq_true rfl, Nat.le_of_ble_eq_true rfl⟩ ⟨Nat.zero_le _, Nat.zero_le _⟩ (rest := []) rfl rfl (Nat.le_of_ble_eq_true rfl) d_CS_spare_38 (fun v25 h26 => ?_)
            exact J_iret (Nat.le_refl _) (Nat.le_refl _) d_CS_spare_41 rfl (fun hx => hx)
        · refine J_iconst (v := (-1)) rfl d_CS_spare_30 ?_
          exact J_iret (Nat.le_refl _) (Nat.le_refl _) d_CS_spare_31 rfl (fun hx => hx)
      · refine J_bipush (v := (-2)) rfl d_CS_spare_14 ?_
        exact J_iret (Nat.le_refl _) (Nat.le_refl _) d_CS_spare_16 rfl (fun hx => hx)
def f_Gu_append (a1 : Int32) (a2 : Int32) (a3 : Int32) (h0 : HP) : Option (Int32 × HP) :=
 ltt (rI h0 49 4) (fun (v4 : Int32) =>
 (if v4 < 8 then
 ltt (rI h0 49 4) (fun (v6 : Int32) =>
 ckk (inb v6 8) (ltt (wA h0 48 v6 a1) (fun (h7 : HP) =>
 ltt (rI h7 49 4) (fun (v8 : Int32) =>
 ckk (inb v8 8) (ltt (wA h7 47 v8 a2) (fun (h9 : HP) =>
 ltt (rI h9 49 4) (fun (v10 : Int32) =>
 ckk (inb v10 8) (ltt (wA h9 46 v10 a3) (fun (h11 : HP) =>
 ltt (rI h11 49 4) (fun (v12 : Int32) =>
 ltt (sI h11 49 4 (v12 + 1)) (fun (h13 : HP) =>
 some (1, h13))))))))))))
 else
 some (0, h0)))
set_option maxRecDepth 20000 in
set_option maxHeartbeats 4000000 in
theorem m_Gu_append (l : Launch) (g : GG) (ad : Nat → Nat) (a1 : Int32) (a2 : Int32) (a3 : Int32) (h0 : HP) : CM l g ad y_Gu_append b_Gu_append 4 (some .boolean) rm_Gu_append [.ref (ad 49), .int a1, .int a2, .int a3] h0 enI (f_Gu_append a1 a2 a3 h0) := by
  refine CM.of (by decide) (Nat.le_of_ble_eq_true rfl) (fun Q => ?_)
  show Jj _ _ (Vw (kx_Gu_append l g Q) 0 0 0 _ _ _)
  refine J_sub [0, 1, 2, 3] (lv' := [(0, .ref (ad 49)), (1, .int a1), (2, .int a2), (3, .int a3)]) rfl ?_
  unfold f_Gu_append
  refine J_aload_n 0 rfl d_Gu_append_0 ?_
  refine P_gI fo_Gu_28_49 rfl d_Gu_append_1 (fun v4 => ?_)
  refine J_bipush (v := 8) rfl d_Gu_append_4 ?_
  refine J_icmp_lt 11 rfl d_Gu_append_6 (fun c5 => ?_) (fun c5 => ?_)
  · refine J_aload_n 0 rfl d_Gu_append_11 ?_
    refine J_getR fo_Gu_9_49 rfl d_Gu_append_12 ?_
    refine J_aload_n 0 rfl d_Gu_append_15 ?_
    refine P_gI fo_Gu_28_49 rfl d_Gu_append_16 (fun v6 => ?_)
    refine J_iload_n 1 rfl d_Gu_append_19 ?_
    refine P_wa (by decide) rfl rfl d_Gu_append_20 (fun h7 => ?_)
    refine J_aload_n 0 rfl d_Gu_append_21 ?_
    refine J_getR fo_Gu_15_49 rfl d_Gu_append_22 ?_
    refine J_aload_n 0 rfl d_Gu_append_25 ?_
    refine P_gI fo_Gu_28_49 rfl d_Gu_append_26 (fun v8 => ?_)
    refine J_iload_n 2 rfl d_Gu_append_29 ?_
    refine P_wa (by decide) rfl rfl d_Gu_append_30 (fun h9 => ?_)
    refine J_aload_n 0 rfl d_Gu_append_31 ?_
    refine J_getR fo_Gu_18_49 rfl d_Gu_append_32 ?_
    refine J_aload_n 0 rfl d_Gu_append_35 ?_
    refine P_gI fo_Gu_28_49 rfl d_Gu_append_36 (fun v10 => ?_)
    refine J_iload_n 3 rfl d_Gu_append_39 ?_
    refine P_wa (by decide) rfl rfl d_Gu_append_40 (fun h11 => ?_)
    refine J_aload_n 0 rfl d_Gu_append_41 ?_
    refine J_dup rfl d_Gu_append_42 ?_
    refine P_gI fo_Gu_28_49 rfl d_Gu_append_43 (fun v12 => ?_)
    refine J_iconst (v := 1) rfl d_Gu_append_46 ?_
    refine J_iadd d_Gu_append_47 ?_
    refine P_wI fo_Gu_28_49 rfl d_Gu_append_48 (fun h13 => ?_)
    refine J_iconst (v := 1) rfl d_Gu_append_51 ?_
    exact J_zret (Nat.le_refl _) (Nat.le_refl _) d_Gu_append_52 rfl (zfit (Or.inr rfl)).1 (fun hx => hx)
  · refine J_iconst (v := 0) rfl d_Gu_append_9 ?_
    exact J_zret (Nat.le_refl _) (Nat.le_refl _) d_Gu_append_10 rfl (zfit (Or.inl rfl)).1 (fun hx => hx)
def f_CS_seen (a1 : Int32) (a2 : Int32) (a3 : Int32) (h0 : HP) : Option (Int32 × HP) :=
 bd2 (f_CS_isDay a1 h0) (fun (v4 : Int32) (h5 : HP) =>
 (if v4 = 0 then
 some ((-2), h5)
 else
 bd2 (f_CS_isPlaceOfCamel a2 h5) (fun (v7 : Int32) (h8 : HP) =>
 (if v7 = 0 then
 some ((-2), h8)
 else
 (if a3 < 0 then
 some ((-2), h8)
 else
 (if a3 ≤ 99 then
 bd2 (f_Gu_append a1 a2 a3 h8) (fun (v12 : Int32) (h13 : HP) =>
 (if v12 = 0 then
 some ((-4), h13)
 else
 ltt (rI h13 49 4) (fun (v15 : Int32) =>
 some (v15, h13))))
 else
 some ((-2), h8)))))))
set_option maxRecDepth 20000 in
set_option maxHeartbeats 4000000 in
theorem m_CS_seen (l : Launch) (g : GG) (ad : Nat → Nat) (a1 : Int32) (a2 : Int32) (a3 : Int32) (h0 : HP) : CM l g ad y_CS_seen b_CS_seen 4 (some .int) rm_CS_seen [.ref (ad 71), .int a1, .int a2, .int a3] h0 enI (f_CS_seen a1 a2 a3 h0) := by
  refine CM.of (by decide) (Nat.le_of_ble_eq_true rfl) (fun Q => ?_)
  show Jj _ _ (Vw (kx_CS_seen l g Q) 0 0 0 _ _ _)
  refine J_sub [0, 1, 2, 3] (lv' := [(0, .ref (ad 71)), (1, .int a1), (2, .int a2), (3, .int a3)]) rfl ?_
  unfold f_CS_seen
  refine J_iload_n 1 rfl d_CS_seen_0 ?_
  refine J_callSi (m_CS_isDay l g ad _ _) ok_CS_isDay ws_CS_isDay wk_CS_121 ⟨rfl, rfl, Nat.le_of_ble_eq_true rfl, Nat.le_of_ble_eq_true rfl⟩ ⟨Nat.zero_le _, Nat.zero_le _⟩ (rest := []) rfl rfl (Nat.le_of_ble_eq_true rfl) d_CS_seen_1 (fun v4 h5 => ?_)
  refine J_if_eq 24 rfl d_CS_seen_4 (fun c6 => ?_) (fun c6 => ?_)
  · refine J_bipush (v := (-2)) rfl d_CS_seen_24 ?_
    exact J_iret (Nat.le_refl _) (Nat.le_refl _) d_CS_seen_26 rfl (fun hx => hx)
  · refine J_iload_n 2 rfl d_CS_seen_7 ?_
    refine J_callSi (m_CS_isPlaceOfCamel l g ad _ _) ok_CS_isPlaceOfCamel ws_CS_isPlaceOfCamel wk_CS_124 ⟨rfl, rfl, Nat.le_of_ble_eq_true rfl, Nat.le_of_ble_eq_true rfl⟩ ⟨Nat.zero_le _, Nat.zero_le _⟩ (rest := []) rfl rfl (Nat.le_of_ble_eq_true rfl) d_CS_seen_8 (fun v7 h8 => ?_)
    refine J_if_eq 24 rfl d_CS_seen_11 (fun c9 => ?_) (fun c9 => ?_)
    · refine J_bipush (v := (-2)) rfl d_CS_seen_24 ?_
      exact J_iret (Nat.le_refl _) (Nat.le_refl _) d_CS_seen_26 rfl (fun hx => hx)
    · refine J_iload_n 3 rfl d_CS_seen_14 ?_
      refine J_if_lt 24 rfl d_CS_seen_15 (fun c10 => ?_) (fun c10 => ?_)
      · refine J_bipush (v := (-2)) rfl d_CS_seen_24 ?_
        exact J_iret (Nat.le_refl _) (Nat.le_refl _) d_CS_seen_26 rfl (fun hx => hx)
      · refine J_iload_n 3 rfl d_CS_seen_18 ?_
        refine J_bipush (v := 99) rfl d_CS_seen_19 ?_
        refine J_icmp_le 27 rfl d_CS_seen_21 (fun c11 => ?_) (fun c11 => ?_)
        · refine J_aload_n 0 rfl d_CS_seen_27 ?_
          refine J_getR fo_CS_60_71 rfl d_CS_seen_28 ?_
          refine J_iload_n 1 rfl d_CS_seen_31 ?_
          refine J_iload_n 2 rfl d_CS_seen_32 ?_
          refine J_iload_n 3 rfl d_CS_seen_33 ?_
          refine J_callVi (m_Gu_append l g ad _ _ _ _) ok_Gu_append rc_49 wi_Gu_append wl_Gu_Gu_append wk_CS_202 ⟨rfl, rfl, Nat.le_of_ble_eq_true rfl, Nat.le_of_ble_eq_true rfl⟩ ⟨Nat.zero_le _, Nat.zero_le _⟩ (rest := []) rfl rfl (Nat.le_of_ble_eq_true rfl) d_CS_seen_34 (fun v12 h13 => ?_)
          refine J_if_eq 50 rfl d_CS_seen_37 (fun c14 => ?_) (fun c14 => ?_)
          · refine J_bipush (v := (-4)) rfl d_CS_seen_50 ?_
            exact J_iret (Nat.le_refl _) (Nat.le_refl _) d_CS_seen_52 rfl (fun hx => hx)
          · refine J_aload_n 0 rfl d_CS_seen_40 ?_
            refine J_getR fo_CS_60_71 rfl d_CS_seen_41 ?_
            refine P_gI fo_CS_205_49 rfl d_CS_seen_44 (fun v15 => ?_)
            refine J_goto 52 rfl d_CS_seen_47 ?_
            exact J_iret (Nat.le_refl _) (Nat.le_refl _) d_CS_seen_52 rfl (fun hx => hx)
        · refine J_bipush (v := (-2)) rfl d_CS_seen_24 ?_
          exact J_iret (Nat.le_refl _) (Nat.le_refl _) d_CS_seen_26 rfl (fun hx => hx)
def f_CS_forget (h0 : HP) : Option (Int32 × HP) :=
 ltt (rI h0 49 4) (fun (v1 : Int32) =>
 ltt (sI h0 49 4 0) (fun (h2 : HP) =>
 some (v1, h2)))
set_option maxRecDepth 20000 in
set_option maxHeartbeats 4000000 in
theorem m_CS_forget (l : Launch) (g : GG) (ad : Nat → Nat) (h0 : HP) : CM l g ad y_CS_forget b_CS_forget 2 (some .int) rm_CS_forget [.ref (ad 71)] h0 enI (f_CS_forget h0) := by
  refine CM.of (by decide) (Nat.le_of_ble_eq_true rfl) (fun Q => ?_)
  show Jj _ _ (Vw (kx_CS_forget l g Q) 0 0 0 _ _ _)
  refine J_sub [0] (lv' := [(0, .ref (ad 71))]) rfl ?_
  unfold f_CS_forget
  refine J_aload_n 0 rfl d_CS_forget_0 ?_
  refine J_getR fo_CS_60_71 rfl d_CS_forget_1 ?_
  refine P_gI fo_CS_205_49 rfl d_CS_forget_4 (fun v1 => ?_)
  refine J_istore_n (lv' := [(1, .int v1), (0, .ref (ad 71))]) 1 rfl (Nat.le_of_ble_eq_true rfl) rfl d_CS_forget_7 ?_
  refine J_aload_n 1 rfl d_CS_forget_8 ?_
  refine J_getR fo_CS_60_71 rfl d_CS_forget_9 ?_
  refine J_iconst (v := 0) rfl d_CS_forget_12 ?_
  refine P_wI fo_CS_205_49 rfl d_CS_forget_13 (fun h2 => ?_)
  refine J_iload_n 0 rfl d_CS_forget_16 ?_
  exact J_iret (Nat.le_refl _) (Nat.le_refl _) d_CS_forget_17 rfl (fun hx => hx)
def lp_Gu_allComesOut_2 : Nat → Int32 → HP → Option (Int32 × HP)
 | 0, _, _ => none
 | fu + 1, v1, h2 =>
 ltt (rI h2 49 4) (fun (v3 : Int32) =>
 (if v3 ≤ v1 then
 some (1, h2)
 else
 ckk (inb v1 8) (ltt (rA h2 47 v1) (fun (v5 : Int32) =>
 ltt (rI h2 70 4) (fun (v6 : Int32) =>
 (if v5 < v6 then
 ckk (inb v1 8) (ltt (rA h2 47 v1) (fun (v8 : Int32) =>
 bd1 (f_Cv_march v8 h2) (fun (h9 : HP) =>
 ckk (inb v1 8) (ltt (rA h9 48 v1) (fun (v10 : Int32) =>
 bd2 (f_Wa_behind v10 0 h9) (fun (v11 : Int32) (h12 : HP) =>
 ckk (inb v1 8) (ltt (rA h12 46 v1) (fun (v13 : Int32) =>
 (if v11 = v13 then
 ltt (v1 + 1) (fun (v15 : Int32) =>
 lp_Gu_allComesOut_2 fu v15 h12)
 else
 some (0, h12))))))))))
 else
 some (0, h2)))))))
def f_Gu_allComesOut (h0 : HP) : Option (Int32 × HP) :=
 lp_Gu_allComesOut_2 400 0 h0
set_option maxRecDepth 20000 in
set_option maxHeartbeats 4000000 in
theorem mlp_Gu_allComesOut_2 (l : Launch) (g : GG) (ad : Nat → Nat) (Q : Option Value → va_W → Prop) : ∀ (fu : Nat) (v1 : Int32) (h2 : HP), Jj (fun a : Int32 × HP => Q (enI a).1 (pic g ad (enI a).2)) (lp_Gu_allComesOut_2 fu v1 h2) (Vw (kx_Gu_allComesOut l g Q) 0 0 2 [(1, .int v1), (0, .ref (ad 49))] [] (pic g ad h2)) := by
  intro fu
  induction fu with
  | zero =>
    intro v1 h2
    exact J_none
  | succ fu ih =>
    intro v1 h2
    rw [lp_Gu_allComesOut_2]
    refine J_iload_n 0 rfl d_Gu_allComesOut_2 ?_
    refine J_aload_n 1 rfl d_Gu_allComesOut_3 ?_
    refine P_gI fo_Gu_28_49 rfl d_Gu_allComesOut_4 (fun v3 => ?_)
    refine J_icmp_ge 71 rfl d_Gu_allComesOut_7 (fun c4 => ?_) (fun c4 => ?_)
    · refine J_iconst (v := 1) rfl d_Gu_allComesOut_71 ?_
      exact J_zret (Nat.le_refl _) (Nat.le_refl _) d_Gu_allComesOut_72 rfl (zfit (Or.inr rfl)).1 (fun hx => hx)
    · refine J_aload_n 1 rfl d_Gu_allComesOut_10 ?_
      refine J_getR fo_Gu_15_49 rfl d_Gu_allComesOut_11 ?_
      refine J_iload_n 0 rfl d_Gu_allComesOut_14 ?_
      refine P_ia (by decide) rfl rfl d_Gu_allComesOut_15 (fun v5 => ?_)
      refine J_aload_n 1 rfl d_Gu_allComesOut_16 ?_
      refine J_getR fo_Gu_24_49 rfl d_Gu_allComesOut_17 ?_
      refine J_getR fo_Gu_32_54 rfl d_Gu_allComesOut_20 ?_
      refine P_gI fo_Gu_38_70 rfl d_Gu_allComesOut_23 (fun v6 => ?_)
      refine J_icmp_lt 31 rfl d_Gu_allComesOut_26 (fun c7 => ?_) (fun c7 => ?_)
      · refine J_aload_n 1 rfl d_Gu_allComesOut_31 ?_
        refine J_getR fo_Gu_24_49 rfl d_Gu_allComesOut_32 ?_
        refine J_aload_n 1 rfl d_Gu_allComesOut_35 ?_
        refine J_getR fo_Gu_15_49 rfl d_Gu_allComesOut_36 ?_
        refine J_iload_n 0 rfl d_Gu_allComesOut_39 ?_
        refine P_ia (by decide) rfl rfl d_Gu_allComesOut_40 (fun v8 => ?_)
        refine J_callVa (m_Cv_march l g ad _ _) ok_Cv_march rc_54 wi_Cv_march wl_Cv_Cv_march wk_Gu_43 ⟨rfl, rfl, Nat.le_of_ble_eq_true rfl, Nat.le_of_ble_eq_true rfl⟩ ⟨Nat.zero_le _, Nat.zero_le _⟩ (rest := []) rfl rfl (Nat.le_of_ble_eq_true rfl) d_Gu_allComesOut_41 (fun h9 => ?_)
        refine J_aload_n 1 rfl d_Gu_allComesOut_44 ?_
        refine J_getR fo_Gu_9_49 rfl d_Gu_allComesOut_45 ?_
        refine J_iload_n 0 rfl d_Gu_allComesOut_48 ?_
        refine P_ia (by decide) rfl rfl d_Gu_allComesOut_49 (fun v10 => ?_)
        refine J_iconst (v := 0) rfl d_Gu_allComesOut_50 ?_
        refine J_callVi (m_Wa_behind l g ad _ _ _) ok_Wa_behind rc_53 wi_Wa_behind wl_Wa_Wa_behind wk_Gu_47 ⟨rfl, rfl, Nat.le_of_ble_eq_true rfl, Nat.le_of_ble_eq_true rfl⟩ ⟨Nat.zero_le _, Nat.zero_le _⟩ (rest := []) rfl rfl (Nat.le_of_ble_eq_true rfl) d_Gu_allComesOut_51 (fun v11 h12 => ?_)
        refine J_aload_n 1 rfl d_Gu_allComesOut_54 ?_
        refine J_getR fo_Gu_18_49 rfl d_Gu_allComesOut_55 ?_
        refine J_iload_n 0 rfl d_Gu_allComesOut_58 ?_
        refine P_ia (by decide) rfl rfl d_Gu_allComesOut_59 (fun v13 => ?_)
        refine J_icmp_eq 65 rfl d_Gu_allComesOut_60 (fun c14 => ?_) (fun c14 => ?_)
        · refine P_inc (w := 1) (lv' := fun v15 => [(1, .int v15), (0, .ref (ad 49))]) 0 rfl rfl (Nat.le_of_ble_eq_true rfl) (fun _ => rfl) d_Gu_allComesOut_65 (fun v15 => ?_)
          refine J_goto 2 rfl d_Gu_allComesOut_68 ?_
          exact J_sub [0, 1] rfl (ih _ _)
        · refine J_iconst (v := 0) rfl d_Gu_allComesOut_63 ?_
          exact J_zret (Nat.le_refl _) (Nat.le_refl _) d_Gu_allComesOut_64 rfl (zfit (Or.inl rfl)).1 (fun hx => hx)
      · refine J_iconst (v := 0) rfl d_Gu_allComesOut_29 ?_
        exact J_zret (Nat.le_refl _) (Nat.le_refl _) d_Gu_allComesOut_30 rfl (zfit (Or.inl rfl)).1 (fun hx => hx)
set_option maxRecDepth 20000 in
set_option maxHeartbeats 4000000 in
theorem m_Gu_allComesOut (l : Launch) (g : GG) (ad : Nat → Nat) (h0 : HP) : CM l g ad y_Gu_allComesOut b_Gu_allComesOut 2 (some .boolean) rm_Gu_allComesOut [.ref (ad 49)] h0 enI (f_Gu_allComesOut h0) := by
  refine CM.of (by decide) (Nat.le_of_ble_eq_true rfl) (fun Q => ?_)
  show Jj _ _ (Vw (kx_Gu_allComesOut l g Q) 0 0 0 _ _ _)
  refine J_sub [0] (lv' := [(0, .ref (ad 49))]) rfl ?_
  unfold f_Gu_allComesOut
  refine J_iconst (v := 0) rfl d_Gu_allComesOut_0 ?_
  refine J_istore_n (lv' := [(1, .int 0), (0, .ref (ad 49))]) 1 rfl (Nat.le_of_ble_eq_true rfl) rfl d_Gu_allComesOut_1 ?_
  exact J_sub [0, 1] rfl (mlp_Gu_allComesOut_2 l g ad Q 400 _ _)
def lp_Gu_strawsThatNeverWere_4 : Nat → Int32 → Int32 → HP → Option (Int32 × Int32 × HP)
 | 0, _, _, _ => none
 | fu + 1, v1, v2, h3 =>
 ckk ([60, 57].contains h3.2.2) (ltt h3.2.2 (fun (o4 : Nat) =>
 ltt (rI h3 o4 2) (fun (v5 : Int32) =>
 (if v5 ≤ v1 then
 some (v1, v2, h3)
 else
 ltt (sI h3 54 3 (1 <<< (v1 &&& 31))) (fun (h7 : HP) =>
 bd2 (f_Gu_allComesOut h7) (fun (v8 : Int32) (h9 : HP) =>
 bd1 ((if v8 = 0 then
 some (v2)
 else
 ltt (v2 ||| (1 <<< (v1 &&& 31))) (fun (v12 : Int32) =>
 some (v12))) : Option (Int32)) (fun (v10 : Int32) =>
 ltt (v1 + 1) (fun (v13 : Int32) =>
 lp_Gu_strawsThatNeverWere_4 fu v13 v10 h9))))))))
def f_Gu_strawsThatNeverWere (h0 : HP) : Option (Int32 × HP) :=
 bd3 (lp_Gu_strawsThatNeverWere_4 400 0 0 h0) (fun (v14 : Int32) (v15 : Int32) (h16 : HP) =>
 ltt (sI h16 54 3 0) (fun (h17 : HP) =>
 some (v15, h17)))
set_option maxRecDepth 20000 in
set_option maxHeartbeats 4000000 in
theorem mlp_Gu_strawsThatNeverWere_4 (l : Launch) (g : GG) (ad : Nat → Nat) (Q : Option Value → va_W → Prop) : ∀ (fu : Nat) (v1 : Int32) (v2 : Int32) (h3 : HP), Jj (fun q : Int32 × Int32 × HP => Vw (kx_Gu_strawsThatNeverWere l g Q) 0 0 47 [(2, .int (q.1)), (1, .int (q.2.1)), (0, .ref (ad 49))] [] (pic g ad q.2.2)) (lp_Gu_strawsThatNeverWere_4 fu v1 v2 h3) (Vw (kx_Gu_strawsThatNeverWere l g Q) 0 0 4 [(2, .int v1), (1, .int v2), (0, .ref (ad 49))] [] (pic g ad h3)) := by
  intro fu
  induction fu with
  | zero =>
    intro v1 v2 h3
    exact J_none
  | succ fu ih =>
    intro v1 v2 h3
    rw [lp_Gu_strawsThatNeverWere_4]
    refine J_iload_n 0 rfl d_Gu_strawsThatNeverWere_4 ?_
    refine J_aload_n 2 rfl d_Gu_strawsThatNeverWere_5 ?_
    refine J_getR fo_Gu_24_49 rfl d_Gu_strawsThatNeverWere_6 ?_
    refine P_gM (cs := [60, 57]) fo_Gu_53_54 rfl d_Gu_strawsThatNeverWere_9 (fun o4 ho4 => ?_)
    refine P_gI (fo_Gu_57_s60_57 _ ho4) (fd_s60_57_2 _ ho4) d_Gu_strawsThatNeverWere_12 (fun v5 => ?_)
    refine J_icmp_ge 47 rfl d_Gu_strawsThatNeverWere_15 (fun c6 => ?_) (fun c6 => ?_)
    · exact J_exit [0, 1, 2] rfl (fun hx => hx)
    · refine J_aload_n 2 rfl d_Gu_strawsThatNeverWere_18 ?_
      refine J_getR fo_Gu_24_49 rfl d_Gu_strawsThatNeverWere_19 ?_
      refine J_iconst (v := 1) rfl d_Gu_strawsThatNeverWere_22 ?_
      refine J_iload_n 0 rfl d_Gu_strawsThatNeverWere_23 ?_
      refine J_ishl d_Gu_strawsThatNeverWere_24 ?_
      refine P_wI fo_Gu_60_54 rfl d_Gu_strawsThatNeverWere_25 (fun h7 => ?_)
      refine J_aload_n 2 rfl d_Gu_strawsThatNeverWere_28 ?_
      refine J_callVi (m_Gu_allComesOut l g ad _) ok_Gu_allComesOut rc_49 wi_Gu_allComesOut wl_Gu_Gu_allComesOut wk_Gu_63 ⟨rfl, rfl, Nat.le_of_ble_eq_true rfl, Nat.le_of_ble_eq_true rfl⟩ ⟨Nat.zero_le _, Nat.zero_le _⟩ (rest := []) rfl rfl (Nat.le_of_ble_eq_true rfl) d_Gu_strawsThatNeverWere_29 (fun v8 h9 => ?_)
      refine J_bd1 (fun (v10 : Int32) => Vw (kx_Gu_strawsThatNeverWere l g Q) 0 0 41 [(2, .int v1), (1, .int v10), (0, .ref (ad 49))] [] (pic g ad h9)) ?_ (fun v10 => ?_)
      · refine J_if_eq 41 rfl d_Gu_strawsThatNeverWere_32 (fun c11 => ?_) (fun c11 => ?_)
        · exact J_exit [0, 1, 2] rfl (fun hx => hx)
        · refine J_iload_n 1 rfl d_Gu_strawsThatNeverWere_35 ?_
          refine J_iconst (v := 1) rfl d_Gu_strawsThatNeverWere_36 ?_
          refine J_iload_n 0 rfl d_Gu_strawsThatNeverWere_37 ?_
          refine J_ishl d_Gu_strawsThatNeverWere_38 ?_
          refine J_ior d_Gu_strawsThatNeverWere_39 ?_
          refine P_ist_n (lv' := fun v12 => [(1, .int v12), (2, .int v1), (0, .ref (ad 49))]) 1 rfl (Nat.le_of_ble_eq_true rfl) (fun _ => rfl) d_Gu_strawsThatNeverWere_40 (fun v12 => ?_)
          exact J_exit [1, 0, 2] rfl (fun hx => hx)
      · refine P_inc (w := 1) (lv' := fun v13 => [(2, .int v13), (1, .int v10), (0, .ref (ad 49))]) 0 rfl rfl (Nat.le_of_ble_eq_true rfl) (fun _ => rfl) d_Gu_strawsThatNeverWere_41 (fun v13 => ?_)
        refine J_goto 4 rfl d_Gu_strawsThatNeverWere_44 ?_
        exact J_sub [0, 1, 2] rfl (ih _ _ _)
set_option maxRecDepth 20000 in
set_option maxHeartbeats 4000000 in
theorem m_Gu_strawsThatNeverWere (l : Launch) (g : GG) (ad : Nat → Nat) (h0 : HP) : CM l g ad y_Gu_strawsThatNeverWere b_Gu_strawsThatNeverWere 3 (some .int) rm_Gu_strawsThatNeverWere [.ref (ad 49)] h0 enI (f_Gu_strawsThatNeverWere h0) := by
  refine CM.of (by decide) (Nat.le_of_ble_eq_true rfl) (fun Q => ?_)
  show Jj _ _ (Vw (kx_Gu_strawsThatNeverWere l g Q) 0 0 0 _ _ _)
  refine J_sub [0] (lv' := [(0, .ref (ad 49))]) rfl ?_
  unfold f_Gu_strawsThatNeverWere
  refine J_iconst (v := 0) rfl d_Gu_strawsThatNeverWere_0 ?_
  refine J_istore_n (lv' := [(1, .int 0), (0, .ref (ad 49))]) 1 rfl (Nat.le_of_ble_eq_true rfl) rfl d_Gu_strawsThatNeverWere_1 ?_
  refine J_iconst (v := 0) rfl d_Gu_strawsThatNeverWere_2 ?_
  refine J_istore_n (lv' := [(2, .int 0), (1, .int 0), (0, .ref (ad 49))]) 2 rfl (Nat.le_of_ble_eq_true rfl) rfl d_Gu_strawsThatNeverWere_3 ?_
  refine J_bd3 (fun (v14 : Int32) (v15 : Int32) (h16 : HP) => Vw (kx_Gu_strawsThatNeverWere l g Q) 0 0 47 [(2, .int v14), (1, .int v15), (0, .ref (ad 49))] [] (pic g ad h16)) ?_ (fun v14 v15 h16 => ?_)
  · exact J_sub [0, 1, 2] rfl (mlp_Gu_strawsThatNeverWere_4 l g ad Q 400 _ _ _)
  · refine J_aload_n 2 rfl d_Gu_strawsThatNeverWere_47 ?_
    refine J_getR fo_Gu_24_49 rfl d_Gu_strawsThatNeverWere_48 ?_
    refine J_iconst (v := 0) rfl d_Gu_strawsThatNeverWere_51 ?_
    refine P_wI fo_Gu_60_54 rfl d_Gu_strawsThatNeverWere_52 (fun h17 => ?_)
    refine J_iload_n 1 rfl d_Gu_strawsThatNeverWere_55 ?_
    exact J_iret (Nat.le_refl _) (Nat.le_refl _) d_Gu_strawsThatNeverWere_56 rfl (fun hx => hx)
def f_CS_never (h0 : HP) : Option (Int32 × HP) :=
 bd2 (f_Gu_strawsThatNeverWere h0) (fun (v1 : Int32) (h2 : HP) =>
 some (v1, h2))
set_option maxRecDepth 20000 in
set_option maxHeartbeats 4000000 in
theorem m_CS_never (l : Launch) (g : GG) (ad : Nat → Nat) (h0 : HP) : CM l g ad y_CS_never b_CS_never 1 (some .int) rm_CS_never [.ref (ad 71)] h0 enI (f_CS_never h0) := by
  refine CM.of (by decide) (Nat.le_of_ble_eq_true rfl) (fun Q => ?_)
  show Jj _ _ (Vw (kx_CS_never l g Q) 0 0 0 _ _ _)
  refine J_sub [0] (lv' := [(0, .ref (ad 71))]) rfl ?_
  unfold f_CS_never
  refine J_aload_n 0 rfl d_CS_never_0 ?_
  refine J_getR fo_CS_60_71 rfl d_CS_never_1 ?_
  refine J_callVi (m_Gu_strawsThatNeverWere l g ad _) ok_Gu_strawsThatNeverWere rc_49 wi_Gu_strawsThatNeverWere wl_Gu_Gu_strawsThatNeverWere wk_CS_206 ⟨rfl, rfl, Nat.le_of_ble_eq_true rfl, Nat.le_of_ble_eq_true rfl⟩ ⟨Nat.zero_le _, Nat.zero_le _⟩ (rest := []) rfl rfl (Nat.le_of_ble_eq_true rfl) d_CS_never_4 (fun v1 h2 => ?_)
  exact J_iret (Nat.le_refl _) (Nat.le_refl _) d_CS_never_7 rfl (fun hx => hx)
def lp_Gu_valuesThatFit_11 (v5 : Int32) (o1 : Nat) (a2 : Int32) (a3 : Int32) (a4 : Int32) : Nat → Int32 → Int32 → HP → Option (Int32 × Int32 × HP)
 | 0, _, _, _ => none
 | fu + 1, v6, v7, h8 =>
 (if a4 < v6 then
 some (v6, v7, h8)
 else
 ckk (inb a2 8) (ltt (wA h8 o1 a2 v6) (fun (h10 : HP) =>
 bd2 (f_Gu_allComesOut h10) (fun (v11 : Int32) (h12 : HP) =>
 bd1 ((if v11 = 0 then
 some (v7)
 else
 ltt (v7 ||| (1 <<< (v6 &&& 31))) (fun (v15 : Int32) =>
 some (v15))) : Option (Int32)) (fun (v13 : Int32) =>
 ltt (v6 + 1) (fun (v16 : Int32) =>
 lp_Gu_valuesThatFit_11 v5 o1 a2 a3 a4 fu v16 v13 h12))))))
def f_Gu_valuesThatFit (o1 : Nat) (a2 : Int32) (a3 : Int32) (a4 : Int32) (h0 : HP) : Option (Int32 × HP) :=
 ckk (inb a2 8) (ltt (rA h0 o1 a2) (fun (v5 : Int32) =>
 bd3 (lp_Gu_valuesThatFit_11 v5 o1 a2 a3 a4 400 a3 0 h0) (fun (v17 : Int32) (v18 : Int32) (h19 : HP) =>
 ckk (inb a2 8) (ltt (wA h19 o1 a2 v5) (fun (h20 : HP) =>
 some (v18, h20))))))
set_option maxRecDepth 20000 in
set_option maxHeartbeats 4000000 in
theorem mlp_Gu_valuesThatFit_11 (l : Launch) (g : GG) (ad : Nat → Nat) (Q : Option Value → va_W → Prop) (v5 : Int32) (o1 : Nat) (a2 : Int32) (a3 : Int32) (a4 : Int32) (ho1 : o1 ∈ [68, 67]) : ∀ (fu : Nat) (v6 : Int32) (v7 : Int32) (h8 : HP), Jj (fun q : Int32 × Int32 × HP => Vw (kx_Gu_valuesThatFit l g Q) 0 0 45 [(7, .int (q.1)), (6, .int (q.2.1)), (5, .int v5), (0, .ref (ad 49)), (1, .ref (ad o1)), (2, .int a2), (3, .int a3), (4, .int a4)] [] (pic g ad q.2.2)) (lp_Gu_valuesThatFit_11 v5 o1 a2 a3 a4 fu v6 v7 h8) (Vw (kx_Gu_valuesThatFit l g Q) 0 0 11 [(7, .int v6), (6, .int v7), (5, .int v5), (0, .ref (ad 49)), (1, .ref (ad o1)), (2, .int a2), (3, .int a3), (4, .int a4)] [] (pic g ad h8)) := by
  intro fu
  induction fu with
  | zero =>
    intro v6 v7 h8
    exact J_none
  | succ fu ih =>
    intro v6 v7 h8
    rw [lp_Gu_valuesThatFit_11]
    refine J_iload 0 rfl d_Gu_valuesThatFit_11 ?_
    refine J_iload 7 rfl d_Gu_valuesThatFit_13 ?_
    refine J_icmp_gt 45 rfl d_Gu_valuesThatFit_15 (fun c9 => ?_) (fun c9 => ?_)
    · exact J_exit [0, 1, 2, 3, 4, 5, 6, 7] rfl (fun hx => hx)
    · refine J_aload_n 4 rfl d_Gu_valuesThatFit_18 ?_
      refine J_iload_n 5 rfl d_Gu_valuesThatFit_19 ?_
      refine J_iload 0 rfl d_Gu_valuesThatFit_20 ?_
      refine P_wa (al_s68_67 _ ho1) (ak_s68_67 _ ho1) (an_s68_67 _ ho1) d_Gu_valuesThatFit_22 (fun h10 => ?_)
      refine J_aload_n 3 rfl d_Gu_valuesThatFit_23 ?_
      refine J_callVi (m_Gu_allComesOut l g ad _) ok_Gu_allComesOut rc_49 wi_Gu_allComesOut wl_Gu_Gu_allComesOut wk_Gu_63 ⟨rfl, rfl, Nat.le_of_ble_eq_true rfl, Nat.le_of_ble_eq_true rfl⟩ ⟨Nat.zero_le _, Nat.zero_le _⟩ (rest := []) rfl rfl (Nat.le_of_ble_eq_true rfl) d_Gu_valuesThatFit_24 (fun v11 h12 => ?_)
      refine J_bd1 (fun (v13 : Int32) => Vw (kx_Gu_valuesThatFit l g Q) 0 0 39 [(7, .int v6), (6, .int v13), (5, .int v5), (0, .ref (ad 49)), (1, .ref (ad o1)), (2, .int a2), (3, .int a3), (4, .int a4)] [] (pic g ad h12)) ?_ (fun v13 => ?_)
      · refine J_if_eq 39 rfl d_Gu_valuesThatFit_27 (fun c14 => ?_) (fun c14 => ?_)
        · exact J_exit [0, 1, 2, 3, 4, 5, 6, 7] rfl (fun hx => hx)
        · refine J_iload 1 rfl d_Gu_valuesThatFit_30 ?_
          refine J_iconst (v := 1) rfl d_Gu_valuesThatFit_32 ?_
          refine J_iload 0 rfl d_Gu_valuesThatFit_33 ?_
          refine J_ishl d_Gu_valuesThatFit_35 ?_
          refine J_ior d_Gu_valuesThatFit_36 ?_
          refine P_ist (lv' := fun v15 => [(6, .int v15), (7, .int v6), (5, .int v5), (0, .ref (ad 49)), (1, .ref (ad o1)), (2, .int a2), (3, .int a3), (4, .int a4)]) (Nat.le_of_ble_eq_true rfl) (fun _ => rfl) d_Gu_valuesThatFit_37 (fun v15 => ?_)
          exact J_exit [1, 0, 2, 3, 4, 5, 6, 7] rfl (fun hx => hx)
      · refine P_inc (w := 1) (lv' := fun v16 => [(7, .int v16), (6, .int v13), (5, .int v5), (0, .ref (ad 49)), (1, .ref (ad o1)), (2, .int a2), (3, .int a3), (4, .int a4)]) 0 rfl rfl (Nat.le_of_ble_eq_true rfl) (fun _ => rfl) d_Gu_valuesThatFit_39 (fun v16 => ?_)
        refine J_goto 11 rfl d_Gu_valuesThatFit_42 ?_
        exact J_sub [0, 1, 2, 3, 4, 5, 6, 7] rfl (ih _ _ _)
set_option maxRecDepth 20000 in
set_option maxHeartbeats 4000000 in
theorem m_Gu_valuesThatFit (l : Launch) (g : GG) (ad : Nat → Nat) (o1 : Nat) (ho1 : o1 ∈ [68, 67]) (a2 : Int32) (a3 : Int32) (a4 : Int32) (h0 : HP) : CM l g ad y_Gu_valuesThatFit b_Gu_valuesThatFit 8 (some .int) rm_Gu_valuesThatFit [.ref (ad 49), .ref (ad o1), .int a2, .int a3, .int a4] h0 enI (f_Gu_valuesThatFit o1 a2 a3 a4 h0) := by
  refine CM.of (by decide) (Nat.le_of_ble_eq_true rfl) (fun Q => ?_)
  show Jj _ _ (Vw (kx_Gu_valuesThatFit l g Q) 0 0 0 _ _ _)
  refine J_sub [0, 1, 2, 3, 4] (lv' := [(0, .ref (ad 49)), (1, .ref (ad o1)), (2, .int a2), (3, .int a3), (4, .int a4)]) rfl ?_
  unfold f_Gu_valuesThatFit
  refine J_aload_n 1 rfl d_Gu_valuesThatFit_0 ?_
  refine J_iload_n 2 rfl d_Gu_valuesThatFit_1 ?_
  refine P_ia (al_s68_67 _ ho1) (ak_s68_67 _ ho1) (an_s68_67 _ ho1) d_Gu_valuesThatFit_2 (fun v5 => ?_)
  refine J_istore (lv' := [(5, .int v5), (0, .ref (ad 49)), (1, .ref (ad o1)), (2, .int a2), (3, .int a3), (4, .int a4)]) (Nat.le_of_ble_eq_true rfl) rfl d_Gu_valuesThatFit_3 ?_
  refine J_iconst (v := 0) rfl d_Gu_valuesThatFit_5 ?_
  refine J_istore (lv' := [(6, .int 0), (5, .int v5), (0, .ref (ad 49)), (1, .ref (ad o1)), (2, .int a2), (3, .int a3), (4, .int a4)]) (Nat.le_of_ble_eq_true rfl) rfl d_Gu_valuesThatFit_6 ?_
  refine J_iload_n 5 rfl d_Gu_valuesThatFit_8 ?_
  refine J_istore (lv' := [(7, .int a3), (6, .int 0), (5, .int v5), (0, .ref (ad 49)), (1, .ref (ad o1)), (2, .int a2), (3, .int a3), (4, .int a4)]) (Nat.le_of_ble_eq_true rfl) rfl d_Gu_valuesThatFit_9 ?_
  refine J_bd3 (fun (v17 : Int32) (v18 : Int32) (h19 : HP) => Vw (kx_Gu_valuesThatFit l g Q) 0 0 45 [(7, .int v17), (6, .int v18), (5, .int v5), (0, .ref (ad 49)), (1, .ref (ad o1)), (2, .int a2), (3, .int a3), (4, .int a4)] [] (pic g ad h19)) ?_ (fun v17 v18 h19 => ?_)
  · exact J_sub [0, 1, 2, 3, 4, 5, 6, 7] rfl (mlp_Gu_valuesThatFit_11 l g ad Q v5 o1 a2 a3 a4 ho1 400 _ _ _)
  · refine J_aload_n 4 rfl d_Gu_valuesThatFit_45 ?_
    refine J_iload_n 5 rfl d_Gu_valuesThatFit_46 ?_
    refine J_iload 2 rfl d_Gu_valuesThatFit_47 ?_
    refine P_wa (al_s68_67 _ ho1) (ak_s68_67 _ ho1) (an_s68_67 _ ho1) d_Gu_valuesThatFit_49 (fun h20 => ?_)
    refine J_iload 1 rfl d_Gu_valuesThatFit_50 ?_
    exact J_iret (Nat.le_refl _) (Nat.le_refl _) d_Gu_valuesThatFit_52 rfl (fun hx => hx)
def f_CS_was (a1 : Int32) (a2 : Int32) (h0 : HP) : Option (Int32 × HP) :=
 bd2 (f_CS_isCamel a1 h0) (fun (v3 : Int32) (h4 : HP) =>
 (if v3 = 0 then
 some ((-2), h4)
 else
 (if a2 < 0 then
 some ((-2), h4)
 else
 (if a2 ≤ 1 then
 (if a2 = 0 then
 bd2 (f_Gu_valuesThatFit 68 a1 0 2 h4) (fun (v11 : Int32) (h12 : HP) =>
 some (v11, h12))
 else
 bd2 (f_Gu_valuesThatFit 67 a1 1 9 h4) (fun (v9 : Int32) (h10 : HP) =>
 some (v9, h10)))
 else
 some ((-2), h4)))))
set_option maxRecDepth 20000 in
set_option maxHeartbeats 4000000 in
theorem m_CS_was (l : Launch) (g : GG) (ad : Nat → Nat) (a1 : Int32) (a2 : Int32) (h0 : HP) : CM l g ad y_CS_was b_CS_was 3 (some .int) rm_CS_was [.ref (ad 71), .int a1, .int a2] h0 enI (f_CS_was a1 a2 h0) := by
  refine CM.of (by decide) (Nat.le_of_ble_eq_true rfl) (fun Q => ?_)
  show Jj _ _ (Vw (kx_CS_was l g Q) 0 0 0 _ _ _)
  refine J_sub [0, 1, 2] (lv' := [(0, .ref (ad 71)), (1, .int a1), (2, .int a2)]) rfl ?_
  unfold f_CS_was
  refine J_aload_n 0 rfl d_CS_was_0 ?_
  refine J_iload_n 1 rfl d_CS_was_1 ?_
  refine J_callVi (m_CS_isCamel l g ad _ _) ok_CS_isCamel rc_71 wi_CS_isCamel wl_CS_CS_isCamel wk_CS_96 ⟨rfl, rfl, Nat.le_of_ble_eq_true rfl, Nat.le_of_ble_eq_true rfl⟩ ⟨Nat.zero_le _, Nat.zero_le _⟩ (rest := []) rfl rfl (Nat.le_of_ble_eq_true rfl) d_CS_was_2 (fun v3 h4 => ?_)
  refine J_if_eq 17 rfl d_CS_was_5 (fun c5 => ?_) (fun c5 => ?_)
  · refine J_bipush (v := (-2)) rfl d_CS_was_17 ?_
    exact J_iret (Nat.le_refl _) (Nat.le_refl _) d_CS_was_19 rfl (fun hx => hx)
  · refine J_iload_n 2 rfl d_CS_was_8 ?_
    refine J_if_lt 17 rfl d_CS_was_9 (fun c6 => ?_) (fun c6 => ?_)
    · refine J_bipush (v := (-2)) rfl d_CS_was_17 ?_
      exact J_iret (Nat.le_refl _) (Nat.le_refl _) d_CS_was_19 rfl (fun hx => hx)
    · refine J_iload_n 2 rfl d_CS_was_12 ?_
      refine J_iconst (v := 1) rfl d_CS_was_13 ?_
      refine J_icmp_le 20 rfl d_CS_was_14 (fun c7 => ?_) (fun c7 => ?_)
      · refine J_iload_n 2 rfl d_CS_was_20 ?_
        refine J_if_ne 44 rfl d_CS_was_21 (fun c8 => ?_) (fun c8 => ?_)
        · refine J_aload_n 0 rfl d_CS_was_44 ?_
          refine J_getR fo_CS_60_71 rfl d_CS_was_45 ?_
          refine J_aload_n 0 rfl d_CS_was_48 ?_
          refine J_getR fo_CS_10_71 rfl d_CS_was_49 ?_
          refine J_getR fo_CS_103_70 rfl d_CS_was_52 ?_
          refine J_iload_n 1 rfl d_CS_was_55 ?_
          refine J_iconst (v := 1) rfl d_CS_was_56 ?_
          refine J_bipush (v := 9) rfl d_CS_was_57 ?_
          refine J_callVi (m_Gu_valuesThatFit l g ad 67 (by decide) _ _ _ _) ok_Gu_valuesThatFit rc_49 wi_Gu_valuesThatFit wl_Gu_Gu_valuesThatFit wk_CS_209 ⟨rfl, rfl, Nat.le_of_ble_eq_true rfl, Nat.le_of_ble_eq_true rfl⟩ ⟨Nat.zero_le _, Nat.zero_le _⟩ (rest := []) rfl rfl (Nat.le_of_ble_eq_true rfl) d_CS_was_59 (fun v9 h10 => ?_)
          exact J_iret (Nat.le_refl _) (Nat.le_refl _) d_CS_was_62 rfl (fun hx => hx)
        · refine J_aload_n 0 rfl d_CS_was_24 ?_
          refine J_getR fo_CS_60_71 rfl d_CS_was_25 ?_
          refine J_aload_n 0 rfl d_CS_was_28 ?_
          refine J_getR fo_CS_10_71 rfl d_CS_was_29 ?_
          refine J_getR fo_CS_99_70 rfl d_CS_was_32 ?_
          refine J_iload_n 1 rfl d_CS_was_35 ?_
          refine J_iconst (v := 0) rfl d_CS_was_36 ?_
          refine J_iconst (v := 2) rfl d_CS_was_37 ?_
          refine J_callVi (m_Gu_valuesThatFit l g ad 68 (by decide) _ _ _ _) ok_Gu_valuesThatFit rc_49 wi_Gu_valuesThatFit wl_Gu_Gu_valuesThatFit wk_CS_209 ⟨rfl, rfl, Nat.le_of_ble_eq_true rfl, Nat.le_of_ble_eq_true rfl⟩ ⟨Nat.zero_le _, Nat.zero_le _⟩ (rest := []) rfl rfl (Nat.le_of_ble_eq_true rfl) d_CS_was_38 (fun v11 h12 => ?_)
          refine J_goto 62 rfl d_CS_was_41 ?_
          exact J_iret (Nat.le_refl _) (Nat.le_refl _) d_CS_was_62 rfl (fun hx => hx)
      · refine J_bipush (v := (-2)) rfl d_CS_was_17 ?_
        exact J_iret (Nat.le_refl _) (Nat.le_refl _) d_CS_was_19 rfl (fun hx => hx)
def lp_Gu_noteLoads_53 (v4 : Int32) (v3 : Int32) (a1 : Int32) (a2 : Int32) : Nat → Int32 → HP → Option (Int32 × HP)
 | 0, _, _ => none
 | fu + 1, v11, h12 =>
 (if 24 ≤ v11 then
 some (v11, h12)
 else
 bd2 (f_Wa_behind v11 0 h12) (fun (v14 : Int32) (h15 : HP) =>
 ckk (inb ((v4 * 24) + v11) 240) (ltt (wA h15 45 ((v4 * 24) + v11) v14) (fun (h16 : HP) =>
 ltt (v11 + 1) (fun (v17 : Int32) =>
 lp_Gu_noteLoads_53 v4 v3 a1 a2 fu v17 h16)))))
def lp_Gu_noteLoads_19 (v3 : Int32) (a1 : Int32) (a2 : Int32) : Nat → Int32 → HP → Option (Int32 × HP)
 | 0, _, _ => none
 | fu + 1, v4, h5 =>
 (if 9 < v4 then
 some (v4, h5)
 else
 bd1 ((if (a2 >>> (v4 &&& 31)) &&& 1 = 0 then
 some (h5)
 else
 ckk (inb a1 8) (ltt (wA h5 67 a1 v4) (fun (h9 : HP) =>
 bd1 (f_Cv_march a1 h9) (fun (h10 : HP) =>
 bd2 (lp_Gu_noteLoads_53 v4 v3 a1 a2 400 0 h10) (fun (v18 : Int32) (h19 : HP) =>
 some (h19)))))) : Option (HP)) (fun (h7 : HP) =>
 ltt (v4 + 1) (fun (v20 : Int32) =>
 lp_Gu_noteLoads_19 v3 a1 a2 fu v20 h7)))
def f_Gu_noteLoads (a1 : Int32) (a2 : Int32) (h0 : HP) : Option (HP) :=
 ckk (inb a1 8) (ltt (rA h0 67 a1) (fun (v3 : Int32) =>
 bd2 (lp_Gu_noteLoads_19 v3 a1 a2 400 1 h0) (fun (v21 : Int32) (h22 : HP) =>
 ckk (inb a1 8) (ltt (wA h22 67 a1 v3) (fun (h23 : HP) =>
 some h23)))))
set_option maxRecDepth 20000 in
set_option maxHeartbeats 4000000 in
theorem mlp_Gu_noteLoads_53 (l : Launch) (g : GG) (ad : Nat → Nat) (Q : Option Value → va_W → Prop) (v4 : Int32) (v3 : Int32) (a1 : Int32) (a2 : Int32) : ∀ (fu : Nat) (v11 : Int32) (h12 : HP), Jj (fun q : Int32 × HP => Vw (kx_Gu_noteLoads l g Q) 0 0 87 [(7, .int (q.1)), (6, .ref (ad 53)), (5, .int v4), (4, .int v3), (3, .ref (ad 67)), (0, .ref (ad 49)), (1, .int a1), (2, .int a2)] [] (pic g ad q.2)) (lp_Gu_noteLoads_53 v4 v3 a1 a2 fu v11 h12) (Vw (kx_Gu_noteLoads l g Q) 0 0 53 [(7, .int v11), (6, .ref (ad 53)), (5, .int v4), (4, .int v3), (3, .ref (ad 67)), (0, .ref (ad 49)), (1, .int a1), (2, .int a2)] [] (pic g ad h12)) := by
  intro fu
  induction fu with
  | zero =>
    intro v11 h12
    exact J_none
  | succ fu ih =>
    intro v11 h12
    rw [lp_Gu_noteLoads_53]
    refine J_iload 0 rfl d_Gu_noteLoads_53 ?_
    refine J_bipush (v := 24) rfl d_Gu_noteLoads_55 ?_
    refine J_icmp_ge 87 rfl d_Gu_noteLoads_57 (fun c13 => ?_) (fun c13 => ?_)
    · exact J_exit [0, 1, 2, 3, 4, 5, 6, 7] rfl (fun hx => hx)
    · refine J_aload_n 5 rfl d_Gu_noteLoads_60 ?_
      refine J_getR fo_Gu_21_49 rfl d_Gu_noteLoads_61 ?_
      refine J_iload 2 rfl d_Gu_noteLoads_64 ?_
      refine J_bipush (v := 24) rfl d_Gu_noteLoads_66 ?_
      refine J_imul d_Gu_noteLoads_68 ?_
      refine J_iload 0 rfl d_Gu_noteLoads_69 ?_
      refine J_iadd d_Gu_noteLoads_71 ?_
      refine J_aload 1 rfl d_Gu_noteLoads_72 ?_
      refine J_iload 0 rfl d_Gu_noteLoads_74 ?_
      refine J_iconst (v := 0) rfl d_Gu_noteLoads_76 ?_
      refine J_callVi (m_Wa_behind l g ad _ _ _) ok_Wa_behind rc_53 wi_Wa_behind wl_Wa_Wa_behind wk_Gu_47 ⟨rfl, rfl, Nat.le_of_ble_eq_true rfl, Nat.le_of_ble_eq_true rfl⟩ ⟨Nat.zero_le _, Nat.zero_le _⟩ (rest := [.int ((v4 * 24) + v11), .ref (ad 45)]) rfl rfl (Nat.le_of_ble_eq_true rfl) d_Gu_noteLoads_77 (fun v14 h15 => ?_)
      refine P_wa (by decide) rfl rfl d_Gu_noteLoads_80 (fun h16 => ?_)
      refine P_inc (w := 1) (lv' := fun v17 => [(7, .int v17), (6, .ref (ad 53)), (5, .int v4), (4, .int v3), (3, .ref (ad 67)), (0, .ref (ad 49)), (1, .int a1), (2, .int a2)]) 0 rfl rfl (Nat.le_of_ble_eq_true rfl) (fun _ => rfl) d_Gu_noteLoads_81 (fun v17 => ?_)
      refine J_goto 53 rfl d_Gu_noteLoads_84 ?_
      exact J_sub [0, 1, 2, 3, 4, 5, 6, 7] rfl (ih _ _)
set_option maxRecDepth 20000 in
set_option maxHeartbeats 4000000 in
theorem mlp_Gu_noteLoads_19 (l : Launch) (g : GG) (ad : Nat → Nat) (Q : Option Value → va_W → Prop) (v3 : Int32) (a1 : Int32) (a2 : Int32) : ∀ (fu : Nat) (v4 : Int32) (h5 : HP), Jj (fun q : Int32 × HP => Vw (kx_Gu_noteLoads l g Q) 0 0 93 [(5, .int (q.1)), (4, .int v3), (3, .ref (ad 67)), (0, .ref (ad 49)), (1, .int a1), (2, .int a2)] [] (pic g ad q.2)) (lp_Gu_noteLoads_19 v3 a1 a2 fu v4 h5) (Vw (kx_Gu_noteLoads l g Q) 0 0 19 [(5, .int v4), (4, .int v3), (3, .ref (ad 67)), (0, .ref (ad 49)), (1, .int a1), (2, .int a2)] [] (pic g ad h5)) := by
  intro fu
  induction fu with
  | zero =>
    intro v4 h5
    exact J_none
  | succ fu ih =>
    intro v4 h5
    rw [lp_Gu_noteLoads_19]
    refine J_iload 0 rfl d_Gu_noteLoads_19 ?_
    refine J_bipush (v := 9) rfl d_Gu_noteLoads_21 ?_
    refine J_icmp_gt 93 rfl d_Gu_noteLoads_23 (fun c6 => ?_) (fun c6 => ?_)
    · exact J_exit [0, 1, 2, 3, 4, 5] rfl (fun hx => hx)
    · refine J_iload_n 5 rfl d_Gu_noteLoads_26 ?_
      refine J_iload 0 rfl d_Gu_noteLoads_27 ?_
      refine J_ishr d_Gu_noteLoads_29 ?_
      refine J_iconst (v := 1) rfl d_Gu_noteLoads_30 ?_
      refine J_iand d_Gu_noteLoads_31 ?_
      refine J_bd1 (fun (h7 : HP) => Vw (kx_Gu_noteLoads l g Q) 0 0 87 [(5, .int v4), (4, .int v3), (3, .ref (ad 67)), (0, .ref (ad 49)), (1, .int a1), (2, .int a2)] [] (pic g ad h7)) ?_ (fun h7 => ?_)
      · refine J_if_eq 87 rfl d_Gu_noteLoads_32 (fun c8 => ?_) (fun c8 => ?_)
        · exact J_exit [0, 1, 2, 3, 4, 5] rfl (fun hx => hx)
        · refine J_aload_n 2 rfl d_Gu_noteLoads_35 ?_
          refine J_iload_n 4 rfl d_Gu_noteLoads_36 ?_
          refine J_iload 0 rfl d_Gu_noteLoads_37 ?_
          refine P_wa (by decide) rfl rfl d_Gu_noteLoads_39 (fun h9 => ?_)
          refine J_aload_n 3 rfl d_Gu_noteLoads_40 ?_
          refine J_getR fo_Gu_24_49 rfl d_Gu_noteLoads_41 ?_
          refine J_iload_n 4 rfl d_Gu_noteLoads_44 ?_
          refine J_callVa (m_Cv_march l g ad _ _) ok_Cv_march rc_54 wi_Cv_march wl_Cv_Cv_march wk_Gu_43 ⟨rfl, rfl, Nat.le_of_ble_eq_true rfl, Nat.le_of_ble_eq_true rfl⟩ ⟨Nat.zero_le _, Nat.zero_le _⟩ (rest := []) rfl rfl (Nat.le_of_ble_eq_true rfl) d_Gu_noteLoads_45 (fun h10 => ?_)
          refine J_astore (lv' := [(6, .ref (ad 53)), (5, .int v4), (4, .int v3), (3, .ref (ad 67)), (0, .ref (ad 49)), (1, .int a1), (2, .int a2)]) (Nat.le_of_ble_eq_true rfl) rfl d_Gu_noteLoads_48 ?_
          refine J_iconst (v := 0) rfl d_Gu_noteLoads_50 ?_
          refine J_istore (lv' := [(7, .int 0), (6, .ref (ad 53)), (5, .int v4), (4, .int v3), (3, .ref (ad 67)), (0, .ref (ad 49)), (1, .int a1), (2, .int a2)]) (Nat.le_of_ble_eq_true rfl) rfl d_Gu_noteLoads_51 ?_
          refine J_bd2 (fun (v18 : Int32) (h19 : HP) => Vw (kx_Gu_noteLoads l g Q) 0 0 87 [(7, .int v18), (6, .ref (ad 53)), (5, .int v4), (4, .int v3), (3, .ref (ad 67)), (0, .ref (ad 49)), (1, .int a1), (2, .int a2)] [] (pic g ad h19)) ?_ (fun v18 h19 => ?_)
          · exact J_sub [0, 1, 2, 3, 4, 5, 6, 7] rfl (mlp_Gu_noteLoads_53 l g ad Q v4 v3 a1 a2 400 _ _)
          · exact J_exit [2, 3, 4, 5, 6, 7] rfl (fun hx => hx)
      · refine P_inc (w := 1) (lv' := fun v20 => [(5, .int v20), (4, .int v3), (3, .ref (ad 67)), (0, .ref (ad 49)), (1, .int a1), (2, .int a2)]) 0 rfl rfl (Nat.le_of_ble_eq_true rfl) (fun _ => rfl) d_Gu_noteLoads_87 (fun v20 => ?_)
        refine J_goto 19 rfl d_Gu_noteLoads_90 ?_
        exact J_sub [0, 1, 2, 3, 4, 5] rfl (ih _ _)
set_option maxRecDepth 20000 in
set_option maxHeartbeats 4000000 in
theorem m_Gu_noteLoads (l : Launch) (g : GG) (ad : Nat → Nat) (a1 : Int32) (a2 : Int32) (h0 : HP) : CM l g ad y_Gu_noteLoads b_Gu_noteLoads 8 none rm_Gu_noteLoads [.ref (ad 49), .int a1, .int a2] h0 enV (f_Gu_noteLoads a1 a2 h0) := by
  refine CM.of (by decide) (Nat.le_of_ble_eq_true rfl) (fun Q => ?_)
  show Jj _ _ (Vw (kx_Gu_noteLoads l g Q) 0 0 0 _ _ _)
  refine J_sub [0, 1, 2] (lv' := [(0, .ref (ad 49)), (1, .int a1), (2, .int a2)]) rfl ?_
  unfold f_Gu_noteLoads
  refine J_aload_n 0 rfl d_Gu_noteLoads_0 ?_
  refine J_getR fo_Gu_24_49 rfl d_Gu_noteLoads_1 ?_
  refine J_getR fo_Gu_32_54 rfl d_Gu_noteLoads_4 ?_
  refine J_getR fo_Gu_74_70 rfl d_Gu_noteLoads_7 ?_
  refine J_astore_n (lv' := [(3, .ref (ad 67)), (0, .ref (ad 49)), (1, .int a1), (2, .int a2)]) 3 rfl (Nat.le_of_ble_eq_true rfl) rfl d_Gu_noteLoads_10 ?_
  refine J_aload_n 0 rfl d_Gu_noteLoads_11 ?_
  refine J_iload_n 2 rfl d_Gu_noteLoads_12 ?_
  refine P_ia (by decide) rfl rfl d_Gu_noteLoads_13 (fun v3 => ?_)
  refine J_istore (lv' := [(4, .int v3), (3, .ref (ad 67)), (0, .ref (ad 49)), (1, .int a1), (2, .int a2)]) (Nat.le_of_ble_eq_true rfl) rfl d_Gu_noteLoads_14 ?_
  refine J_iconst (v := 1) rfl d_Gu_noteLoads_16 ?_
  refine J_istore (lv' := [(5, .int 1), (4, .int v3), (3, .ref (ad 67)), (0, .ref (ad 49)), (1, .int a1), (2, .int a2)]) (Nat.le_of_ble_eq_true rfl) rfl d_Gu_noteLoads_17 ?_
  refine J_bd2 (fun (v21 : Int32) (h22 : HP) => Vw (kx_Gu_noteLoads l g Q) 0 0 93 [(5, .int v21), (4, .int v3), (3, .ref (ad 67)), (0, .ref (ad 49)), (1, .int a1), (2, .int a2)] [] (pic g ad h22)) ?_ (fun v21 h22 => ?_)
  · exact J_sub [0, 1, 2, 3, 4, 5] rfl (mlp_Gu_noteLoads_19 l g ad Q v3 a1 a2 400 _ _)
  · refine J_aload_n 2 rfl d_Gu_noteLoads_93 ?_
    refine J_iload_n 4 rfl d_Gu_noteLoads_94 ?_
    refine J_iload 1 rfl d_Gu_noteLoads_95 ?_
    refine P_wa (by decide) rfl rfl d_Gu_noteLoads_97 (fun h23 => ?_)
    exact J_vret (Nat.le_refl _) (Nat.le_refl _) d_Gu_noteLoads_98 rfl (fun hx => hx)
def lp_Gu_mostAlike_18 (v3 : Int32) (v4 : Int32) (a1 : Int32) (a2 : Int32) : Nat → Int32 → Int32 → HP → Option (Int32 × Int32 × HP)
 | 0, _, _, _ => none
 | fu + 1, v7, v8, h9 =>
 (if 9 < v7 then
 some (v7, v8, h9)
 else
 bd1 ((if ((a2 >>> (v3 &&& 31)) &&& (a2 >>> (v7 &&& 31))) &&& 1 = 0 then
 some (0)
 else
 some (1)) : Option (Int32)) (fun (v11 : Int32) =>
 bd1 ((if v11 = 0 then
 some (v8)
 else
 ckk (inb ((v3 * 24) + a1) 240) (ltt (rA h9 45 ((v3 * 24) + a1)) (fun (v15 : Int32) =>
 ckk (inb ((v7 * 24) + a1) 240) (ltt (rA h9 45 ((v7 * 24) + a1)) (fun (v16 : Int32) =>
 (if v15 = v16 then
 ltt (v8 + 1) (fun (v18 : Int32) =>
 some (v18))
 else
 some (v8))))))) : Option (Int32)) (fun (v13 : Int32) =>
 ltt (v7 + 1) (fun (v19 : Int32) =>
 lp_Gu_mostAlike_18 v3 v4 a1 a2 fu v19 v13 h9))))
def lp_Gu_mostAlike_5 (a1 : Int32) (a2 : Int32) : Nat → Int32 → Int32 → HP → Option (Int32 × Int32 × HP)
 | 0, _, _, _ => none
 | fu + 1, v3, v4, h5 =>
 (if 9 < v3 then
 some (v3, v4, h5)
 else
 bd3 (lp_Gu_mostAlike_18 v3 v4 a1 a2 400 1 0 h5) (fun (v20 : Int32) (v21 : Int32) (h22 : HP) =>
 ltt (mxI v4 v21) (fun (v23 : Int32) =>
 ltt (v3 + 1) (fun (v24 : Int32) =>
 lp_Gu_mostAlike_5 a1 a2 fu v24 v23 h22))))
def f_Gu_mostAlike (a1 : Int32) (a2 : Int32) (h0 : HP) : Option (Int32 × HP) :=
 bd3 (lp_Gu_mostAlike_5 a1 a2 400 1 0 h0) (fun (v25 : Int32) (v26 : Int32) (h27 : HP) =>
 some (v26, h27))
set_option maxRecDepth 20000 in
set_option maxHeartbeats 4000000 in
theorem mlp_Gu_mostAlike_18 (l : Launch) (g : GG) (ad : Nat → Nat) (Q : Option Value → va_W → Prop) (v3 : Int32) (v4 : Int32) (a1 : Int32) (a2 : Int32) : ∀ (fu : Nat) (v7 : Int32) (v8 : Int32) (h9 : HP), Jj (fun q : Int32 × Int32 × HP => Vw (kx_Gu_mostAlike l g Q) 0 0 87 [(6, .int (q.1)), (5, .int (q.2.1)), (4, .int v3), (3, .int v4), (0, .ref (ad 49)), (1, .int a1), (2, .int a2)] [] (pic g ad q.2.2)) (lp_Gu_mostAlike_18 v3 v4 a1 a2 fu v7 v8 h9) (Vw (kx_Gu_mostAlike l g Q) 0 0 18 [(6, .int v7), (5, .int v8), (4, .int v3), (3, .int v4), (0, .ref (ad 49)), (1, .int a1), (2, .int a2)] [] (pic g ad h9)) := by
  intro fu
  induction fu with
  | zero =>
    intro v7 v8 h9
    exact J_none
  | succ fu ih =>
    intro v7 v8 h9
    rw [lp_Gu_mostAlike_18]
    refine J_iload 0 rfl d_Gu_mostAlike_18 ?_
    refine J_bipush (v := 9) rfl d_Gu_mostAlike_20 ?_
    refine J_icmp_gt 87 rfl d_Gu_mostAlike_22 (fun c10 => ?_) (fun c10 => ?_)
    · exact J_exit [0, 1, 2, 3, 4, 5, 6] rfl (fun hx => hx)
    · refine J_iload_n 6 rfl d_Gu_mostAlike_25 ?_
      refine J_iload 2 rfl d_Gu_mostAlike_26 ?_
      refine J_ishr d_Gu_mostAlike_28 ?_
      refine J_iload_n 6 rfl d_Gu_mostAlike_29 ?_
      refine J_iload 0 rfl d_Gu_mostAlike_30 ?_
      refine J_ishr d_Gu_mostAlike_32 ?_
      refine J_iand d_Gu_mostAlike_33 ?_
      refine J_iconst (v := 1) rfl d_Gu_mostAlike_34 ?_
      refine J_iand d_Gu_mostAlike_35 ?_
      refine J_bd1 (fun (v11 : Int32) => Vw (kx_Gu_mostAlike l g Q) 0 0 44 [(6, .int v7), (5, .int v8), (4, .int v3), (3, .int v4), (0, .ref (ad 49)), (1, .int a1), (2, .int a2)] [.int v11] (pic g ad h9)) ?_ (fun v11 => ?_)
      · refine J_if_eq 43 rfl d_Gu_mostAlike_36 (fun c12 => ?_) (fun c12 => ?_)
        · refine J_iconst (v := 0) rfl d_Gu_mostAlike_43 ?_
          exact J_exit [0, 1, 2, 3, 4, 5, 6] rfl (fun hx => hx)
        · refine J_iconst (v := 1) rfl d_Gu_mostAlike_39 ?_
          refine J_goto 44 rfl d_Gu_mostAlike_40 ?_
          exact J_exit [0, 1, 2, 3, 4, 5, 6] rfl (fun hx => hx)
      · refine J_istore (lv' := [(7, .int v11), (6, .int v7), (5, .int v8), (4, .int v3), (3, .int v4), (0, .ref (ad 49)), (1, .int a1), (2, .int a2)]) (Nat.le_of_ble_eq_true rfl) rfl d_Gu_mostAlike_44 ?_
        refine J_iload 0 rfl d_Gu_mostAlike_46 ?_
        refine J_bd1 (fun (v13 : Int32) => Vw (kx_Gu_mostAlike l g Q) 0 0 81 [(7, .int v11), (6, .int v7), (5, .int v13), (4, .int v3), (3, .int v4), (0, .ref (ad 49)), (1, .int a1), (2, .int a2)] [] (pic g ad h9)) ?_ (fun v13 => ?_)
        · refine J_if_eq 81 rfl d_Gu_mostAlike_48 (fun c14 => ?_) (fun c14 => ?_)
          · exact J_exit [0, 1, 2, 3, 4, 5, 6, 7] rfl (fun hx => hx)
          · refine J_aload_n 5 rfl d_Gu_mostAlike_51 ?_
            refine J_getR fo_Gu_21_49 rfl d_Gu_mostAlike_52 ?_
            refine J_iload 3 rfl d_Gu_mostAlike_55 ?_
            refine J_bipush (v := 24) rfl d_Gu_mostAlike_57 ?_
            refine J_imul d_Gu_mostAlike_59 ?_
            refine J_iload_n 6 rfl d_Gu_mostAlike_60 ?_
            refine J_iadd d_Gu_mostAlike_61 ?_
            refine P_ia (by decide) rfl rfl d_Gu_mostAlike_62 (fun v15 => ?_)
            refine J_aload_n 5 rfl d_Gu_mostAlike_63 ?_
            refine J_getR fo_Gu_21_49 rfl d_Gu_mostAlike_64 ?_
            refine J_iload 1 rfl d_Gu_mostAlike_67 ?_
            refine J_bipush (v := 24) rfl d_Gu_mostAlike_69 ?_
            refine J_imul d_Gu_mostAlike_71 ?_
            refine J_iload_n 6 rfl d_Gu_mostAlike_72 ?_
            refine J_iadd d_Gu_mostAlike_73 ?_
            refine P_ia (by decide) rfl rfl d_Gu_mostAlike_74 (fun v16 => ?_)
            refine J_icmp_ne 81 rfl d_Gu_mostAlike_75 (fun c17 => ?_) (fun c17 => ?_)
            · exact J_exit [0, 1, 2, 3, 4, 5, 6, 7] rfl (fun hx => hx)
            · refine P_inc (w := 1) (lv' := fun v18 => [(5, .int v18), (7, .int v11), (6, .int v7), (4, .int v3), (3, .int v4), (0, .ref (ad 49)), (1, .int a1), (2, .int a2)]) 2 rfl rfl (Nat.le_of_ble_eq_true rfl) (fun _ => rfl) d_Gu_mostAlike_78 (fun v18 => ?_)
              exact J_exit [1, 2, 0, 3, 4, 5, 6, 7] rfl (fun hx => hx)
        · refine P_inc (w := 1) (lv' := fun v19 => [(6, .int v19), (7, .int v11), (5, .int v13), (4, .int v3), (3, .int v4), (0, .ref (ad 49)), (1, .int a1), (2, .int a2)]) 1 rfl rfl (Nat.le_of_ble_eq_true rfl) (fun _ => rfl) d_Gu_mostAlike_81 (fun v19 => ?_)
          refine J_goto 18 rfl d_Gu_mostAlike_84 ?_
          exact J_sub [0, 2, 3, 4, 5, 6, 7] rfl (ih _ _ _)
set_option maxRecDepth 20000 in
set_option maxHeartbeats 4000000 in
theorem mlp_Gu_mostAlike_5 (l : Launch) (g : GG) (ad : Nat → Nat) (Q : Option Value → va_W → Prop) (a1 : Int32) (a2 : Int32) : ∀ (fu : Nat) (v3 : Int32) (v4 : Int32) (h5 : HP), Jj (fun q : Int32 × Int32 × HP => Vw (kx_Gu_mostAlike l g Q) 0 0 100 [(4, .int (q.1)), (3, .int (q.2.1)), (0, .ref (ad 49)), (1, .int a1), (2, .int a2)] [] (pic g ad q.2.2)) (lp_Gu_mostAlike_5 a1 a2 fu v3 v4 h5) (Vw (kx_Gu_mostAlike l g Q) 0 0 5 [(4, .int v3), (3, .int v4), (0, .ref (ad 49)), (1, .int a1), (2, .int a2)] [] (pic g ad h5)) := by
  intro fu
  induction fu with
  | zero =>
    intro v3 v4 h5
    exact J_none
  | succ fu ih =>
    intro v3 v4 h5
    rw [lp_Gu_mostAlike_5]
    refine J_iload 0 rfl d_Gu_mostAlike_5 ?_
    refine J_bipush (v := 9) rfl d_Gu_mostAlike_7 ?_
    refine J_icmp_gt 100 rfl d_Gu_mostAlike_9 (fun c6 => ?_) (fun c6 => ?_)
    · exact J_exit [0, 1, 2, 3, 4] rfl (fun hx => hx)
    · refine J_iconst (v := 0) rfl d_Gu_mostAlike_12 ?_
      refine J_istore (lv' := [(5, .int 0), (4, .int v3), (3, .int v4), (0, .ref (ad 49)), (1, .int a1), (2, .int a2)]) (Nat.le_of_ble_eq_true rfl) rfl d_Gu_mostAlike_13 ?_
      refine J_iconst (v := 1) rfl d_Gu_mostAlike_15 ?_
      refine J_istore (lv' := [(6, .int 1), (5, .int 0), (4, .int v3), (3, .int v4), (0, .ref (ad 49)), (1, .int a1), (2, .int a2)]) (Nat.le_of_ble_eq_true rfl) rfl d_Gu_mostAlike_16 ?_
      refine J_bd3 (fun (v20 : Int32) (v21 : Int32) (h22 : HP) => Vw (kx_Gu_mostAlike l g Q) 0 0 87 [(6, .int v20), (5, .int v21), (4, .int v3), (3, .int v4), (0, .ref (ad 49)), (1, .int a1), (2, .int a2)] [] (pic g ad h22)) ?_ (fun v20 v21 h22 => ?_)
      · exact J_sub [0, 1, 2, 3, 4, 5, 6] rfl (mlp_Gu_mostAlike_18 l g ad Q v3 v4 a1 a2 400 _ _ _)
      · refine J_iload_n 3 rfl d_Gu_mostAlike_87 ?_
        refine J_iload 1 rfl d_Gu_mostAlike_88 ?_
        refine P_max wk_Gu_77 wm_max.1 wm_max.2.1 wm_max.2.2 (Nat.le_of_ble_eq_true rfl) (Nat.le_of_ble_eq_true rfl) ⟨Nat.zero_le _, Nat.zero_le _⟩ d_Gu_mostAlike_90 (fun v23 => ?_)
        refine J_istore_n (lv' := [(3, .int v23), (6, .int v20), (5, .int v21), (4, .int v3), (0, .ref (ad 49)), (1, .int a1), (2, .int a2)]) 3 rfl (Nat.le_of_ble_eq_true rfl) rfl d_Gu_mostAlike_93 ?_
        refine P_inc (w := 1) (lv' := fun v24 => [(4, .int v24), (3, .int v23), (6, .int v20), (5, .int v21), (0, .ref (ad 49)), (1, .int a1), (2, .int a2)]) 3 rfl rfl (Nat.le_of_ble_eq_true rfl) (fun _ => rfl) d_Gu_mostAlike_94 (fun v24 => ?_)
        refine J_goto 5 rfl d_Gu_mostAlike_97 ?_
        exact J_sub [0, 1, 4, 5, 6] rfl (ih _ _ _)
set_option maxRecDepth 20000 in
set_option maxHeartbeats 4000000 in
theorem m_Gu_mostAlike (l : Launch) (g : GG) (ad : Nat → Nat) (a1 : Int32) (a2 : Int32) (h0 : HP) : CM l g ad y_Gu_mostAlike b_Gu_mostAlike 8 (some .int) rm_Gu_mostAlike [.ref (ad 49), .int a1, .int a2] h0 enI (f_Gu_mostAlike a1 a2 h0) := by
  refine CM.of (by decide) (Nat.le_of_ble_eq_true rfl) (fun Q => ?_)
  show Jj _ _ (Vw (kx_Gu_mostAlike l g Q) 0 0 0 _ _ _)
  refine J_sub [0, 1, 2] (lv' := [(0, .ref (ad 49)), (1, .int a1), (2, .int a2)]) rfl ?_
  unfold f_Gu_mostAlike
  refine J_iconst (v := 0) rfl d_Gu_mostAlike_0 ?_
  refine J_istore_n (lv' := [(3, .int 0), (0, .ref (ad 49)), (1, .int a1), (2, .int a2)]) 3 rfl (Nat.le_of_ble_eq_true rfl) rfl d_Gu_mostAlike_1 ?_
  refine J_iconst (v := 1) rfl d_Gu_mostAlike_2 ?_
  refine J_istore (lv' := [(4, .int 1), (3, .int 0), (0, .ref (ad 49)), (1, .int a1), (2, .int a2)]) (Nat.le_of_ble_eq_true rfl) rfl d_Gu_mostAlike_3 ?_
  refine J_bd3 (fun (v25 : Int32) (v26 : Int32) (h27 : HP) => Vw (kx_Gu_mostAlike l g Q) 0 0 100 [(4, .int v25), (3, .int v26), (0, .ref (ad 49)), (1, .int a1), (2, .int a2)] [] (pic g ad h27)) ?_ (fun v25 v26 h27 => ?_)
  · exact J_sub [0, 1, 2, 3, 4] rfl (mlp_Gu_mostAlike_5 l g ad Q a1 a2 400 _ _ _)
  · refine J_iload_n 1 rfl d_Gu_mostAlike_100 ?_
    exact J_iret (Nat.le_refl _) (Nat.le_refl _) d_Gu_mostAlike_101 rfl (fun hx => hx)
def lp_Gu_dayToLook_11 (a1 : Int32) (a2 : Int32) : Nat → Int32 → Int32 → HP → Option (Int32 × Int32 × HP)
 | 0, _, _, _ => none
 | fu + 1, v4, v5, h6 =>
 (if 24 ≤ v4 then
 some (v4, v5, h6)
 else
 bd2 (f_Gu_mostAlike v4 a2 h6) (fun (v8 : Int32) (h9 : HP) =>
 bd2 (f_Gu_mostAlike v5 a2 h9) (fun (v10 : Int32) (h11 : HP) =>
 bd1 ((if v10 ≤ v8 then
 some (v5)
 else
 some (v4)) : Option (Int32)) (fun (v12 : Int32) =>
 ltt (v4 + 1) (fun (v14 : Int32) =>
 lp_Gu_dayToLook_11 a1 a2 fu v14 v12 h11)))))
def f_Gu_dayToLook (a1 : Int32) (a2 : Int32) (h0 : HP) : Option (Int32 × HP) :=
 bd1 (f_Gu_noteLoads a1 a2 h0) (fun (h3 : HP) =>
 bd3 (lp_Gu_dayToLook_11 a1 a2 400 1 0 h3) (fun (v15 : Int32) (v16 : Int32) (h17 : HP) =>
 some (v16, h17)))
set_option maxRecDepth 20000 in
set_option maxHeartbeats 4000000 in
theorem mlp_Gu_dayToLook_11 (l : Launch) (g : GG) (ad : Nat → Nat) (Q : Option Value → va_W → Prop) (a1 : Int32) (a2 : Int32) : ∀ (fu : Nat) (v4 : Int32) (v5 : Int32) (h6 : HP), Jj (fun q : Int32 × Int32 × HP => Vw (kx_Gu_dayToLook l g Q) 0 0 43 [(4, .int (q.1)), (3, .int (q.2.1)), (0, .ref (ad 49)), (1, .int a1), (2, .int a2)] [] (pic g ad q.2.2)) (lp_Gu_dayToLook_11 a1 a2 fu v4 v5 h6) (Vw (kx_Gu_dayToLook l g Q) 0 0 11 [(4, .int v4), (3, .int v5), (0, .ref (ad 49)), (1, .int a1), (2, .int a2)] [] (pic g ad h6)) := by
  intro fu
  induction fu with
  | zero =>
    intro v4 v5 h6
    exact J_none
  | succ fu ih =>
    intro v4 v5 h6
    rw [lp_Gu_dayToLook_11]
    refine J_iload 0 rfl d_Gu_dayToLook_11 ?_
    refine J_bipush (v := 24) rfl d_Gu_dayToLook_13 ?_
    refine J_icmp_ge 43 rfl d_Gu_dayToLook_15 (fun c7 => ?_) (fun c7 => ?_)
    · exact J_exit [0, 1, 2, 3, 4] rfl (fun hx => hx)
    · refine J_aload_n 2 rfl d_Gu_dayToLook_18 ?_
      refine J_iload 0 rfl d_Gu_dayToLook_19 ?_
      refine J_iload_n 4 rfl d_Gu_dayToLook_21 ?_
      refine J_callVi (m_Gu_mostAlike l g ad _ _ _) ok_Gu_mostAlike rc_49 wi_Gu_mostAlike wl_Gu_Gu_mostAlike wk_Gu_71 ⟨rfl, rfl, Nat.le_of_ble_eq_true rfl, Nat.le_of_ble_eq_true rfl⟩ ⟨Nat.zero_le _, Nat.zero_le _⟩ (rest := []) rfl rfl (Nat.le_of_ble_eq_true rfl) d_Gu_dayToLook_22 (fun v8 h9 => ?_)
      refine J_aload_n 2 rfl d_Gu_dayToLook_25 ?_
      refine J_iload_n 1 rfl d_Gu_dayToLook_26 ?_
      refine J_iload_n 4 rfl d_Gu_dayToLook_27 ?_
      refine J_callVi (m_Gu_mostAlike l g ad _ _ _) ok_Gu_mostAlike rc_49 wi_Gu_mostAlike wl_Gu_Gu_mostAlike wk_Gu_71 ⟨rfl, rfl, Nat.le_of_ble_eq_true rfl, Nat.le_of_ble_eq_true rfl⟩ ⟨Nat.zero_le _, Nat.zero_le _⟩ (rest := [.int v8]) rfl rfl (Nat.le_of_ble_eq_true rfl) d_Gu_dayToLook_28 (fun v10 h11 => ?_)
      refine J_bd1 (fun (v12 : Int32) => Vw (kx_Gu_dayToLook l g Q) 0 0 37 [(4, .int v4), (3, .int v12), (0, .ref (ad 49)), (1, .int a1), (2, .int a2)] [] (pic g ad h11)) ?_ (fun v12 => ?_)
      · refine J_icmp_ge 37 rfl d_Gu_dayToLook_31 (fun c13 => ?_) (fun c13 => ?_)
        · exact J_exit [0, 1, 2, 3, 4] rfl (fun hx => hx)
        · refine J_iload 0 rfl d_Gu_dayToLook_34 ?_
          refine J_istore_n (lv' := [(3, .int v4), (4, .int v4), (0, .ref (ad 49)), (1, .int a1), (2, .int a2)]) 3 rfl (Nat.le_of_ble_eq_true rfl) rfl d_Gu_dayToLook_36 ?_
          exact J_exit [1, 0, 2, 3, 4] rfl (fun hx => hx)
      · refine P_inc (w := 1) (lv' := fun v14 => [(4, .int v14), (3, .int v12), (0, .ref (ad 49)), (1, .int a1), (2, .int a2)]) 0 rfl rfl (Nat.le_of_ble_eq_true rfl) (fun _ => rfl) d_Gu_dayToLook_37 (fun v14 => ?_)
        refine J_goto 11 rfl d_Gu_dayToLook_40 ?_
        exact J_sub [0, 1, 2, 3, 4] rfl (ih _ _ _)
set_option maxRecDepth 20000 in
set_option maxHeartbeats 4000000 in
theorem m_Gu_dayToLook (l : Launch) (g : GG) (ad : Nat → Nat) (a1 : Int32) (a2 : Int32) (h0 : HP) : CM l g ad y_Gu_dayToLook b_Gu_dayToLook 5 (some .int) rm_Gu_dayToLook [.ref (ad 49), .int a1, .int a2] h0 enI (f_Gu_dayToLook a1 a2 h0) := by
  refine CM.of (by decide) (Nat.le_of_ble_eq_true rfl) (fun Q => ?_)
  show Jj _ _ (Vw (kx_Gu_dayToLook l g Q) 0 0 0 _ _ _)
  refine J_sub [0, 1, 2] (lv' := [(0, .ref (ad 49)), (1, .int a1), (2, .int a2)]) rfl ?_
  unfold f_Gu_dayToLook
  refine J_aload_n 0 rfl d_Gu_dayToLook_0 ?_
  refine J_iload_n 1 rfl d_Gu_dayToLook_1 ?_
  refine J_iload_n 2 rfl d_Gu_dayToLook_2 ?_
  refine J_callVv (m_Gu_noteLoads l g ad _ _ _) ok_Gu_noteLoads rc_49 wi_Gu_noteLoads wl_Gu_Gu_noteLoads wk_Gu_67 ⟨rfl, rfl, Nat.le_of_ble_eq_true rfl, Nat.le_of_ble_eq_true rfl⟩ ⟨Nat.zero_le _, Nat.zero_le _⟩ (rest := []) rfl rfl (Nat.le_of_ble_eq_true rfl) d_Gu_dayToLook_3 (fun h3 => ?_)
  refine J_iconst (v := 0) rfl d_Gu_dayToLook_6 ?_
  refine J_istore_n (lv' := [(3, .int 0), (0, .ref (ad 49)), (1, .int a1), (2, .int a2)]) 3 rfl (Nat.le_of_ble_eq_true rfl) rfl d_Gu_dayToLook_7 ?_
  refine J_iconst (v := 1) rfl d_Gu_dayToLook_8 ?_
  refine J_istore (lv' := [(4, .int 1), (3, .int 0), (0, .ref (ad 49)), (1, .int a1), (2, .int a2)]) (Nat.le_of_ble_eq_true rfl) rfl d_Gu_dayToLook_9 ?_
  refine J_bd3 (fun (v15 : Int32) (v16 : Int32) (h17 : HP) => Vw (kx_Gu_dayToLook l g Q) 0 0 43 [(4, .int v15), (3, .int v16), (0, .ref (ad 49)), (1, .int a1), (2, .int a2)] [] (pic g ad h17)) ?_ (fun v15 v16 h17 => ?_)
  · exact J_sub [0, 1, 2, 3, 4] rfl (mlp_Gu_dayToLook_11 l g ad Q a1 a2 400 _ _ _)
  · refine J_iload_n 1 rfl d_Gu_dayToLook_43 ?_
    exact J_iret (Nat.le_refl _) (Nat.le_refl _) d_Gu_dayToLook_44 rfl (fun hx => hx)
def f_CS_ask (a1 : Int32) (h0 : HP) : Option (Int32 × HP) :=
 bd2 (f_CS_isCamel a1 h0) (fun (v2 : Int32) (h3 : HP) =>
 (if v2 = 0 then
 some ((-2), h3)
 else
 bd2 (f_Gu_valuesThatFit 67 a1 1 9 h3) (fun (v5 : Int32) (h6 : HP) =>
 bd2 (f_Gu_dayToLook a1 v5 h6) (fun (v7 : Int32) (h8 : HP) =>
 some (v7, h8)))))
set_option maxRecDepth 20000 in
set_option maxHeartbeats 4000000 in
theorem m_CS_ask (l : Launch) (g : GG) (ad : Nat → Nat) (a1 : Int32) (h0 : HP) : CM l g ad y_CS_ask b_CS_ask 3 (some .int) rm_CS_ask [.ref (ad 71), .int a1] h0 enI (f_CS_ask a1 h0) := by
  refine CM.of (by decide) (Nat.le_of_ble_eq_true rfl) (fun Q => ?_)
  show Jj _ _ (Vw (kx_CS_ask l g Q) 0 0 0 _ _ _)
  refine J_sub [0, 1] (lv' := [(0, .ref (ad 71)), (1, .int a1)]) rfl ?_
  unfold f_CS_ask
  refine J_aload_n 0 rfl d_CS_ask_0 ?_
  refine J_iload_n 1 rfl d_CS_ask_1 ?_
  refine J_callVi (m_CS_isCamel l g ad _ _) ok_CS_isCamel rc_71 wi_CS_isCamel wl_CS_CS_isCamel wk_CS_96 ⟨rfl, rfl, Nat.le_of_ble_eq_true rfl, Nat.le_of_ble_eq_true rfl⟩ ⟨Nat.zero_le _, Nat.zero_le _⟩ (rest := []) rfl rfl (Nat.le_of_ble_eq_true rfl) d_CS_ask_2 (fun v2 h3 => ?_)
  refine J_if_ne 11 rfl d_CS_ask_5 (fun c4 => ?_) (fun c4 => ?_)
  · refine J_aload_n 0 rfl d_CS_ask_11 ?_
    refine J_getR fo_CS_60_71 rfl d_CS_ask_12 ?_
    refine J_aload_n 0 rfl d_CS_ask_15 ?_
    refine J_getR fo_CS_10_71 rfl d_CS_ask_16 ?_
    refine J_getR fo_CS_103_70 rfl d_CS_ask_19 ?_
    refine J_iload_n 1 rfl d_CS_ask_22 ?_
    refine J_iconst (v := 1) rfl d_CS_ask_23 ?_
    refine J_bipush (v := 9) rfl d_CS_ask_24 ?_
    refine J_callVi (m_Gu_valuesThatFit l g ad 67 (by decide) _ _ _ _) ok_Gu_valuesThatFit rc_49 wi_Gu_valuesThatFit wl_Gu_Gu_valuesThatFit wk_CS_209 ⟨rfl, rfl, Nat.le_of_ble_eq_true rfl, Nat.le_of_ble_eq_true rfl⟩ ⟨Nat.zero_le _, Nat.zero_le _⟩ (rest := []) rfl rfl (Nat.le_of_ble_eq_true rfl) d_CS_ask_26 (fun v5 h6 => ?_)
    refine J_istore_n (lv' := [(2, .int v5), (0, .ref (ad 71)), (1, .int a1)]) 2 rfl (Nat.le_of_ble_eq_true rfl) rfl d_CS_ask_29 ?_
    refine J_aload_n 1 rfl d_CS_ask_30 ?_
    refine J_getR fo_CS_60_71 rfl d_CS_ask_31 ?_
    refine J_iload_n 2 rfl d_CS_ask_34 ?_
    refine J_iload_n 0 rfl d_CS_ask_35 ?_
    refine J_callVi (m_Gu_dayToLook l g ad _ _ _) ok_Gu_dayToLook rc_49 wi_Gu_dayToLook wl_Gu_Gu_dayToLook wk_CS_213 ⟨rfl, rfl, Nat.le_of_ble_eq_true rfl, Nat.le_of_ble_eq_true rfl⟩ ⟨Nat.zero_le _, Nat.zero_le _⟩ (rest := []) rfl rfl (Nat.le_of_ble_eq_true rfl) d_CS_ask_36 (fun v7 h8 => ?_)
    exact J_iret (Nat.le_refl _) (Nat.le_refl _) d_CS_ask_39 rfl (fun hx => hx)
  · refine J_bipush (v := (-2)) rfl d_CS_ask_8 ?_
    exact J_iret (Nat.le_refl _) (Nat.le_refl _) d_CS_ask_10 rfl (fun hx => hx)
def lp_St_onCamel_4 (o1 : Nat) (a2 : Int32) : Nat → Int32 → Int32 → HP → Option (Int32 × Int32 × HP)
 | 0, _, _, _ => none
 | fu + 1, v3, v4, h5 =>
 ltt (rI h5 o1 2) (fun (v6 : Int32) =>
 (if v6 ≤ v3 then
 some (v3, v4, h5)
 else
 ltt (rf1 o1 1) (fun (o8 : Nat) =>
 ckk (inb v3 8) (ltt (rA h5 o8 v3) (fun (v9 : Int32) =>
 bd1 ((if v9 = a2 then
 ltt (v4 ||| (1 <<< (v3 &&& 31))) (fun (v12 : Int32) =>
 some (v12))
 else
 some (v4)) : Option (Int32)) (fun (v10 : Int32) =>
 ltt (v3 + 1) (fun (v13 : Int32) =>
 lp_St_onCamel_4 o1 a2 fu v13 v10 h5)))))))
def f_St_onCamel (o1 : Nat) (a2 : Int32) (h0 : HP) : Option (Int32 × HP) :=
 bd3 (lp_St_onCamel_4 o1 a2 400 0 0 h0) (fun (v14 : Int32) (v15 : Int32) (h16 : HP) =>
 some (v15, h16))
set_option maxRecDepth 20000 in
set_option maxHeartbeats 4000000 in
theorem mlp_St_onCamel_4 (l : Launch) (g : GG) (ad : Nat → Nat) (Q : Option Value → va_W → Prop) (o1 : Nat) (a2 : Int32) (ho1 : o1 ∈ [60, 57]) : ∀ (fu : Nat) (v3 : Int32) (v4 : Int32) (h5 : HP), Jj (fun q : Int32 × Int32 × HP => Vw (kx_St_onCamel l g Q) 0 0 34 [(3, .int (q.1)), (2, .int (q.2.1)), (0, .ref (ad o1)), (1, .int a2)] [] (pic g ad q.2.2)) (lp_St_onCamel_4 o1 a2 fu v3 v4 h5) (Vw (kx_St_onCamel l g Q) 0 0 4 [(3, .int v3), (2, .int v4), (0, .ref (ad o1)), (1, .int a2)] [] (pic g ad h5)) := by
  intro fu
  induction fu with
  | zero =>
    intro v3 v4 h5
    exact J_none
  | succ fu ih =>
    intro v3 v4 h5
    rw [lp_St_onCamel_4]
    refine J_iload_n 0 rfl d_St_onCamel_4 ?_
    refine J_aload_n 2 rfl d_St_onCamel_5 ?_
    refine P_gI (fo_St_18_s60_57 _ ho1) (fd_s60_57_2 _ ho1) d_St_onCamel_6 (fun v6 => ?_)
    refine J_icmp_ge 34 rfl d_St_onCamel_9 (fun c7 => ?_) (fun c7 => ?_)
    · exact J_exit [0, 1, 2, 3] rfl (fun hx => hx)
    · refine J_aload_n 2 rfl d_St_onCamel_12 ?_
      refine P_gRv (rm_s60_57_1 _ ho1) (fo_St_15_s60_57 _ ho1) (fd_s60_57_1 _ ho1) d_St_onCamel_13 (fun o8 ho8 => ?_)
      refine J_iload_n 0 rfl d_St_onCamel_16 ?_
      refine P_ia (al_s58_55 _ ho8) (ak_s58_55 _ ho8) (an_s58_55 _ ho8) d_St_onCamel_17 (fun v9 => ?_)
      refine J_iload_n 3 rfl d_St_onCamel_18 ?_
      refine J_bd1 (fun (v10 : Int32) => Vw (kx_St_onCamel l g Q) 0 0 28 [(3, .int v3), (2, .int v10), (0, .ref (ad o1)), (1, .int a2)] [] (pic g ad h5)) ?_ (fun v10 => ?_)
      · refine J_icmp_ne 28 rfl d_St_onCamel_19 (fun c11 => ?_) (fun c11 => ?_)
        · exact J_exit [0, 1, 2, 3] rfl (fun hx => hx)
        · refine J_iload_n 1 rfl d_St_onCamel_22 ?_
          refine J_iconst (v := 1) rfl d_St_onCamel_23 ?_
          refine J_iload_n 0 rfl d_St_onCamel_24 ?_
          refine J_ishl d_St_onCamel_25 ?_
          refine J_ior d_St_onCamel_26 ?_
          refine P_ist_n (lv' := fun v12 => [(2, .int v12), (3, .int v3), (0, .ref (ad o1)), (1, .int a2)]) 2 rfl (Nat.le_of_ble_eq_true rfl) (fun _ => rfl) d_St_onCamel_27 (fun v12 => ?_)
          exact J_exit [1, 0, 2, 3] rfl (fun hx => hx)
      · refine P_inc (w := 1) (lv' := fun v13 => [(3, .int v13), (2, .int v10), (0, .ref (ad o1)), (1, .int a2)]) 0 rfl rfl (Nat.le_of_ble_eq_true rfl) (fun _ => rfl) d_St_onCamel_28 (fun v13 => ?_)
        refine J_goto 4 rfl d_St_onCamel_31 ?_
        exact J_sub [0, 1, 2, 3] rfl (ih _ _ _)
set_option maxRecDepth 20000 in
set_option maxHeartbeats 4000000 in
theorem m_St_onCamel (l : Launch) (g : GG) (ad : Nat → Nat) (o1 : Nat) (ho1 : o1 ∈ [60, 57]) (a2 : Int32) (h0 : HP) : CM l g ad y_St_onCamel b_St_onCamel 4 (some .int) rm_St_onCamel [.ref (ad o1), .int a2] h0 enI (f_St_onCamel o1 a2 h0) := by
  refine CM.of (by decide) (Nat.le_of_ble_eq_true rfl) (fun Q => ?_)
  show Jj _ _ (Vw (kx_St_onCamel l g Q) 0 0 0 _ _ _)
  refine J_sub [0, 1] (lv' := [(0, .ref (ad o1)), (1, .int a2)]) rfl ?_
  unfold f_St_onCamel
  refine J_iconst (v := 0) rfl d_St_onCamel_0 ?_
  refine J_istore_n (lv' := [(2, .int 0), (0, .ref (ad o1)), (1, .int a2)]) 2 rfl (Nat.le_of_ble_eq_true rfl) rfl d_St_onCamel_1 ?_
  refine J_iconst (v := 0) rfl d_St_onCamel_2 ?_
  refine J_istore_n (lv' := [(3, .int 0), (2, .int 0), (0, .ref (ad o1)), (1, .int a2)]) 3 rfl (Nat.le_of_ble_eq_true rfl) rfl d_St_onCamel_3 ?_
  refine J_bd3 (fun (v14 : Int32) (v15 : Int32) (h16 : HP) => Vw (kx_St_onCamel l g Q) 0 0 34 [(3, .int v14), (2, .int v15), (0, .ref (ad o1)), (1, .int a2)] [] (pic g ad h16)) ?_ (fun v14 v15 h16 => ?_)
  · exact J_sub [0, 1, 2, 3] rfl (mlp_St_onCamel_4 l g ad Q o1 a2 ho1 400 _ _ _)
  · refine J_iload_n 1 rfl d_St_onCamel_34 ?_
    exact J_iret (Nat.le_refl _) (Nat.le_refl _) d_St_onCamel_35 rfl (fun hx => hx)
def f_Od_breaksWithout (a1 : Int32) (a2 : Int32) (h0 : HP) : Option (Int32 × HP) :=
 ltt (sI h0 54 3 a1) (fun (h3 : HP) =>
 bd1 (f_Cv_march a2 h3) (fun (h4 : HP) =>
 ltt (rI h4 53 11) (fun (v5 : Int32) =>
 bd1 ((if v5 ≤ 0 then
 some (0)
 else
 some (1)) : Option (Int32)) (fun (v6 : Int32) =>
 ltt (sI h4 54 3 0) (fun (h8 : HP) =>
 ckk (z01 v6) (some (v6, h8)))))))
set_option maxRecDepth 20000 in
set_option maxHeartbeats 4000000 in
theorem m_Od_breaksWithout (l : Launch) (g : GG) (ad : Nat → Nat) (a1 : Int32) (a2 : Int32) (h0 : HP) : CM l g ad y_Od_breaksWithout b_Od_breaksWithout 4 (some .boolean) rm_Od_breaksWithout [.ref (ad 44), .int a1, .int a2] h0 enI (f_Od_breaksWithout a1 a2 h0) := by
  refine CM.of (by decide) (Nat.le_of_ble_eq_true rfl) (fun Q => ?_)
  show Jj _ _ (Vw (kx_Od_breaksWithout l g Q) 0 0 0 _ _ _)
  refine J_sub [0, 1, 2] (lv' := [(0, .ref (ad 44)), (1, .int a1), (2, .int a2)]) rfl ?_
  unfold f_Od_breaksWithout
  refine J_aload_n 0 rfl d_Od_breaksWithout_0 ?_
  refine J_getR fo_Od_9_44 rfl d_Od_breaksWithout_1 ?_
  refine J_iload_n 1 rfl d_Od_breaksWithout_4 ?_
  refine P_wI fo_Od_50_54 rfl d_Od_breaksWithout_5 (fun h3 => ?_)
  refine J_aload_n 0 rfl d_Od_breaksWithout_8 ?_
  refine J_getR fo_Od_9_44 rfl d_Od_breaksWithout_9 ?_
  refine J_iload_n 2 rfl d_Od_breaksWithout_12 ?_
  refine J_callVa (m_Cv_march l g ad _ _) ok_Cv_march rc_54 wi_Cv_march wl_Cv_Cv_march wk_Od_54 ⟨rfl, rfl, Nat.le_of_ble_eq_true rfl, Nat.le_of_ble_eq_true rfl⟩ ⟨Nat.zero_le _, Nat.zero_le _⟩ (rest := []) rfl rfl (Nat.le_of_ble_eq_true rfl) d_Od_breaksWithout_13 (fun h4 => ?_)
  refine P_gI fo_Od_58_53 rfl d_Od_breaksWithout_16 (fun v5 => ?_)
  refine J_bd1 (fun (v6 : Int32) => Vw (kx_Od_breaksWithout l g Q) 0 0 27 [(0, .ref (ad 44)), (1, .int a1), (2, .int a2)] [.int v6] (pic g ad h4)) ?_ (fun v6 => ?_)
  · refine J_if_le 26 rfl d_Od_breaksWithout_19 (fun c7 => ?_) (fun c7 => ?_)
    · refine J_iconst (v := 0) rfl d_Od_breaksWithout_26 ?_
      exact J_exit [0, 1, 2] rfl (fun hx => hx)
    · refine J_iconst (v := 1) rfl d_Od_breaksWithout_22 ?_
      refine J_goto 27 rfl d_Od_breaksWithout_23 ?_
      exact J_exit [0, 1, 2] rfl (fun hx => hx)
  · refine J_istore_n (lv' := [(3, .int v6), (0, .ref (ad 44)), (1, .int a1), (2, .int a2)]) 3 rfl (Nat.le_of_ble_eq_true rfl) rfl d_Od_breaksWithout_27 ?_
    refine J_aload_n 1 rfl d_Od_breaksWithout_28 ?_
    refine J_getR fo_Od_9_44 rfl d_Od_breaksWithout_29 ?_
    refine J_iconst (v := 0) rfl d_Od_breaksWithout_32 ?_
    refine P_wI fo_Od_50_54 rfl d_Od_breaksWithout_33 (fun h8 => ?_)
    refine J_iload_n 0 rfl d_Od_breaksWithout_36 ?_
    exact P_zret (Nat.le_refl _) (Nat.le_refl _) d_Od_breaksWithout_37 rfl (fun hx => hx)
def lp_Od_power_5 (a1 : Int32) (a2 : Int32) : Nat → Int32 → Int64 → HP → Option (Int32 × Int64 × HP)
 | 0, _, _, _ => none
 | fu + 1, v3, v4, h5 =>
 (if a2 ≤ v3 then
 some (v3, v4, h5)
 else
 ltt (v4 * (Int32.toInt64 a1)) (fun (v7 : Int64) =>
 ltt (v3 + 1) (fun (v8 : Int32) =>
 lp_Od_power_5 a1 a2 fu v8 v7 h5)))
def f_Od_power (a1 : Int32) (a2 : Int32) (h0 : HP) : Option (Int64 × HP) :=
 bd3 (lp_Od_power_5 a1 a2 400 0 1 h0) (fun (v9 : Int32) (v10 : Int64) (h11 : HP) =>
 some (v10, h11))
set_option maxRecDepth 20000 in
set_option maxHeartbeats 4000000 in
theorem mlp_Od_power_5 (l : Launch) (g : GG) (ad : Nat → Nat) (Q : Option Value → va_W → Prop) (a1 : Int32) (a2 : Int32) : ∀ (fu : Nat) (v3 : Int32) (v4 : Int64) (h5 : HP), Jj (fun q : Int32 × Int64 × HP => Vw (kx_Od_power l g Q) 0 0 22 [(4, .int (q.1)), (2, .long (q.2.1)), (0, .int a1), (1, .int a2)] [] (pic g ad q.2.2)) (lp_Od_power_5 a1 a2 fu v3 v4 h5) (Vw (kx_Od_power l g Q) 0 0 5 [(4, .int v3), (2, .long v4), (0, .int a1), (1, .int a2)] [] (pic g ad h5)) := by
  intro fu
  induction fu with
  | zero =>
    intro v3 v4 h5
    exact J_none
  | succ fu ih =>
    intro v3 v4 h5
    rw [lp_Od_power_5]
    refine J_iload 0 rfl d_Od_power_5 ?_
    refine J_iload_n 3 rfl d_Od_power_7 ?_
    refine J_icmp_ge 22 rfl d_Od_power_8 (fun c6 => ?_) (fun c6 => ?_)
    · exact J_exit [0, 1, 2, 3] rfl (fun hx => hx)
    · refine J_lload_n 1 rfl d_Od_power_11 ?_
      refine J_iload_n 2 rfl d_Od_power_12 ?_
      refine J_i2l d_Od_power_13 ?_
      refine J_lmul d_Od_power_14 ?_
      refine P_lst_n (lv' := fun v7 => [(2, .long v7), (4, .int v3), (0, .int a1), (1, .int a2)]) 2 rfl (Nat.le_of_ble_eq_true rfl) (fun _ => rfl) d_Od_power_15 (fun v7 => ?_)
      refine P_inc (w := 1) (lv' := fun v8 => [(4, .int v8), (2, .long v7), (0, .int a1), (1, .int a2)]) 1 rfl rfl (Nat.le_of_ble_eq_true rfl) (fun _ => rfl) d_Od_power_16 (fun v8 => ?_)
      refine J_goto 5 rfl d_Od_power_19 ?_
      exact J_sub [0, 1, 2, 3] rfl (ih _ _ _)
set_option maxRecDepth 20000 in
set_option maxHeartbeats 4000000 in
theorem m_Od_power (l : Launch) (g : GG) (ad : Nat → Nat) (a1 : Int32) (a2 : Int32) (h0 : HP) : CM l g ad y_Od_power b_Od_power 5 (some .long) rm_Od_power [.int a1, .int a2] h0 enL (f_Od_power a1 a2 h0) := by
  refine CM.of (by decide) (Nat.le_of_ble_eq_true rfl) (fun Q => ?_)
  show Jj _ _ (Vw (kx_Od_power l g Q) 0 0 0 _ _ _)
  refine J_sub [0, 1] (lv' := [(0, .int a1), (1, .int a2)]) rfl ?_
  unfold f_Od_power
  refine J_lconst (v := 1) rfl d_Od_power_0 ?_
  refine J_lstore_n (lv' := [(2, .long 1), (0, .int a1), (1, .int a2)]) 2 rfl (Nat.le_of_ble_eq_true rfl) rfl d_Od_power_1 ?_
  refine J_iconst (v := 0) rfl d_Od_power_2 ?_
  refine J_istore (lv' := [(4, .int 0), (2, .long 1), (0, .int a1), (1, .int a2)]) (Nat.le_of_ble_eq_true rfl) rfl d_Od_power_3 ?_
  refine J_bd3 (fun (v9 : Int32) (v10 : Int64) (h11 : HP) => Vw (kx_Od_power l g Q) 0 0 22 [(4, .int v9), (2, .long v10), (0, .int a1), (1, .int a2)] [] (pic g ad h11)) ?_ (fun v9 v10 h11 => ?_)
  · exact J_sub [0, 1, 2, 3] rfl (mlp_Od_power_5 l g ad Q a1 a2 400 _ _ _)
  · refine J_lload_n 1 rfl d_Od_power_22 ?_
    exact J_lret (Nat.le_refl _) (Nat.le_refl _) d_Od_power_23 rfl (fun hx => hx)
