def lp_Od_reduce_2 : Nat → Int32 → HP → Option (Int32 × HP)
 | 0, _, _ => none
 | fu + 1, v1, h2 =>
 (if 64 ≤ v1 then
 some (v1, h2)
 else
 ltt (rL h2 44 2) (fun (v4 : Int64) =>
 (if lg_cmp v4 1 ≤ 0 then
 some (v1, h2)
 else
 ltt (rL h2 44 1) (fun (v6 : Int64) =>
 (if lg_cmp (v6 - v6 / 2 * 2) 0 = 0 then
 ltt (rL h2 44 1) (fun (v8 : Int64) =>
 ltt (sL h2 44 1 (v8 / 2)) (fun (h9 : HP) =>
 ltt (rL h9 44 2) (fun (v10 : Int64) =>
 ltt (sL h9 44 2 (v10 / 2)) (fun (h11 : HP) =>
 ltt (v1 + 1) (fun (v12 : Int32) =>
 lp_Od_reduce_2 fu v12 h11)))))
 else
 some (v1, h2))))))
def f_Od_reduce (h0 : HP) : Option (HP) :=
 bd2 (lp_Od_reduce_2 400 0 h0) (fun (v13 : Int32) (h14 : HP) =>
 some h14)
set_option maxRecDepth 20000 in
set_option maxHeartbeats 4000000 in
theorem mlp_Od_reduce_2 (l : Launch) (g : GG) (ad : Nat → Nat) (Q : Option Value → va_W → Prop) : ∀ (fu : Nat) (v1 : Int32) (h2 : HP), Jj (fun q : Int32 × HP => Vw (kx_Od_reduce l g Q) 0 0 60 [(1, .int (q.1)), (0, .ref (ad 44))] [] (pic g ad q.2)) (lp_Od_reduce_2 fu v1 h2) (Vw (kx_Od_reduce l g Q) 0 0 2 [(1, .int v1), (0, .ref (ad 44))] [] (pic g ad h2)) := by
  intro fu
  induction fu with
  | zero =>
    intro v1 h2
    exact J_none
  | succ fu ih =>
    intro v1 h2
    rw [lp_Od_reduce_2]
    refine J_iload_n 0 rfl d_Od_reduce_2 ?_
    refine J_bipush (v := 64) rfl d_Od_reduce_3 ?_
    refine J_icmp_ge 60 rfl d_Od_reduce_5 (fun c3 => ?_) (fun c3 => ?_)
    · exact J_exit [0, 1] rfl (fun hx => hx)
    · refine J_aload_n 1 rfl d_Od_reduce_8 ?_
      refine P_gL fo_Od_44_44 rfl d_Od_reduce_9 (fun v4 => ?_)
      refine J_lconst (v := 1) rfl d_Od_reduce_12 ?_
      refine J_lcmp d_Od_reduce_13 ?_
      refine J_if_le 60 rfl d_Od_reduce_14 (fun c5 => ?_) (fun c5 => ?_)
      · exact J_exit [0, 1] rfl (fun hx => hx)
      · refine J_aload_n 1 rfl d_Od_reduce_17 ?_
        refine P_gL fo_Od_27_44 rfl d_Od_reduce_18 (fun v6 => ?_)
        refine J_ldc2 (v := 2) kl_Od_63 d_Od_reduce_21 ?_
        refine J_lrem (by decide) d_Od_reduce_24 ?_
        refine J_lconst (v := 0) rfl d_Od_reduce_25 ?_
        refine J_lcmp d_Od_reduce_26 ?_
        refine J_if_ne 60 rfl d_Od_reduce_27 (fun c7 => ?_) (fun c7 => ?_)
        · exact J_exit [0, 1] rfl (fun hx => hx)
        · refine J_aload_n 1 rfl d_Od_reduce_30 ?_
          refine J_dup rfl d_Od_reduce_31 ?_
          refine P_gL fo_Od_27_44 rfl d_Od_reduce_32 (fun v8 => ?_)
          refine J_ldc2 (v := 2) kl_Od_63 d_Od_reduce_35 ?_
          refine J_ldiv (by decide) d_Od_reduce_38 ?_
          refine P_wL fo_Od_27_44 rfl d_Od_reduce_39 (fun h9 => ?_)
          refine J_aload_n 1 rfl d_Od_reduce_42 ?_
          refine J_dup rfl d_Od_reduce_43 ?_
          refine P_gL fo_Od_44_44 rfl d_Od_reduce_44 (fun v10 => ?_)
          refine J_ldc2 (v := 2) kl_Od_63 d_Od_reduce_47 ?_
          refine J_ldiv (by decide) d_Od_reduce_50 ?_
          refine P_wL fo_Od_44_44 rfl d_Od_reduce_51 (fun h11 => ?_)
          refine P_inc (w := 1) (lv' := fun v12 => [(1, .int v12), (0, .ref (ad 44))]) 0 rfl rfl (Nat.le_of_ble_eq_true rfl) (fun _ => rfl) d_Od_reduce_54 (fun v12 => ?_)
          refine J_goto 2 rfl d_Od_reduce_57 ?_
          exact J_sub [0, 1] rfl (ih _ _)
set_option maxRecDepth 20000 in
set_option maxHeartbeats 4000000 in
theorem m_Od_reduce (l : Launch) (g : GG) (ad : Nat → Nat) (h0 : HP) : CM l g ad y_Od_reduce b_Od_reduce 2 none rm_Od_reduce [.ref (ad 44)] h0 enV (f_Od_reduce h0) := by
  refine CM.of (by decide) (Nat.le_of_ble_eq_true rfl) (fun Q => ?_)
  show Jj _ _ (Vw (kx_Od_reduce l g Q) 0 0 0 _ _ _)
  refine J_sub [0] (lv' := [(0, .ref (ad 44))]) rfl ?_
  unfold f_Od_reduce
  refine J_iconst (v := 0) rfl d_Od_reduce_0 ?_
  refine J_istore_n (lv' := [(1, .int 0), (0, .ref (ad 44))]) 1 rfl (Nat.le_of_ble_eq_true rfl) rfl d_Od_reduce_1 ?_
  refine J_bd2 (fun (v13 : Int32) (h14 : HP) => Vw (kx_Od_reduce l g Q) 0 0 60 [(1, .int v13), (0, .ref (ad 44))] [] (pic g ad h14)) ?_ (fun v13 h14 => ?_)
  · exact J_sub [0, 1] rfl (mlp_Od_reduce_2 l g ad Q 400 _ _)
  · exact J_vret (Nat.le_refl _) (Nat.le_refl _) d_Od_reduce_60 rfl (fun hx => hx)
def lp_Od_ofBreaking_20 (v4 : Int32) (a1 : Int32) (a2 : Int32) : Nat → Int32 → HP → Option (Int32 × HP)
 | 0, _, _ => none
 | fu + 1, v7, h8 =>
 (if 256 ≤ v7 then
 some (v7, h8)
 else
 bd1 ((if v7 &&& (v4 ^^^ (-1)) = 0 then
 some (1)
 else
 some (0)) : Option (Int32)) (fun (v10 : Int32) =>
 bd1 ((if v10 = 0 then
 some (h8)
 else
 bd2 (f_Od_breaksWithout (v4 &&& (v7 ^^^ (-1))) a2 h8) (fun (v14 : Int32) (h15 : HP) =>
 (if v14 = 0 then
 some (h15)
 else
 ltt (rL h15 44 1) (fun (v17 : Int64) =>
 bd2 (f_In_bitCount v7 h15) (fun (v18 : Int32) (h19 : HP) =>
 bd2 (f_Od_power a1 v18 h19) (fun (v20 : Int64) (h21 : HP) =>
 bd2 (f_In_bitCount (v4 &&& (v7 ^^^ (-1))) h21) (fun (v22 : Int32) (h23 : HP) =>
 bd2 (f_Od_power (16 - a1) v22 h23) (fun (v24 : Int64) (h25 : HP) =>
 ltt (sL h25 44 1 (v17 + (v20 * v24))) (fun (h26 : HP) =>
 some (h26)))))))))) : Option (HP)) (fun (h12 : HP) =>
 ltt (v7 + 1) (fun (v27 : Int32) =>
 lp_Od_ofBreaking_20 v4 a1 a2 fu v27 h12))))
def f_Od_ofBreaking (a1 : Int32) (a2 : Int32) (h0 : HP) : Option (HP) :=
 ckk ([60, 57].contains h0.2.2) (ltt h0.2.2 (fun (o3 : Nat) =>
 bd2 (f_St_onCamel o3 a2 h0) (fun (v4 : Int32) (h5 : HP) =>
 ltt (sL h5 44 1 0) (fun (h6 : HP) =>
 bd2 (lp_Od_ofBreaking_20 v4 a1 a2 400 0 h6) (fun (v28 : Int32) (h29 : HP) =>
 bd2 (f_In_bitCount v4 h29) (fun (v30 : Int32) (h31 : HP) =>
 bd2 (f_Od_power 16 v30 h31) (fun (v32 : Int64) (h33 : HP) =>
 ltt (sL h33 44 2 v32) (fun (h34 : HP) =>
 bd1 (f_Od_reduce h34) (fun (h35 : HP) =>
 some h35)))))))))
set_option maxRecDepth 20000 in
set_option maxHeartbeats 4000000 in
theorem mlp_Od_ofBreaking_20 (l : Launch) (g : GG) (ad : Nat → Nat) (Q : Option Value → va_W → Prop) (v4 : Int32) (a1 : Int32) (a2 : Int32) : ∀ (fu : Nat) (v7 : Int32) (h8 : HP), Jj (fun q : Int32 × HP => Vw (kx_Od_ofBreaking l g Q) 0 0 104 [(4, .int (q.1)), (3, .int v4), (0, .ref (ad 44)), (1, .int a1), (2, .int a2)] [] (pic g ad q.2)) (lp_Od_ofBreaking_20 v4 a1 a2 fu v7 h8) (Vw (kx_Od_ofBreaking l g Q) 0 0 20 [(4, .int v7), (3, .int v4), (0, .ref (ad 44)), (1, .int a1), (2, .int a2)] [] (pic g ad h8)) := by
  intro fu
  induction fu with
  | zero =>
    intro v7 h8
    exact J_none
  | succ fu ih =>
    intro v7 h8
    rw [lp_Od_ofBreaking_20]
    refine J_iload 0 rfl d_Od_ofBreaking_20 ?_
    refine J_sipush (v := 256) rfl d_Od_ofBreaking_22 ?_
    refine J_icmp_ge 104 rfl d_Od_ofBreaking_25 (fun c9 => ?_) (fun c9 => ?_)
    · exact J_exit [0, 1, 2, 3, 4] rfl (fun hx => hx)
    · refine J_iload 0 rfl d_Od_ofBreaking_28 ?_
      refine J_iload_n 1 rfl d_Od_ofBreaking_30 ?_
      refine J_iconst (v := (-1)) rfl d_Od_ofBreaking_31 ?_
      refine J_ixor d_Od_ofBreaking_32 ?_
      refine J_iand d_Od_ofBreaking_33 ?_
      refine J_bd1 (fun (v10 : Int32) => Vw (kx_Od_ofBreaking l g Q) 0 0 42 [(4, .int v7), (3, .int v4), (0, .ref (ad 44)), (1, .int a1), (2, .int a2)] [.int v10] (pic g ad h8)) ?_ (fun v10 => ?_)
      · refine J_if_ne 41 rfl d_Od_ofBreaking_34 (fun c11 => ?_) (fun c11 => ?_)
        · refine J_iconst (v := 0) rfl d_Od_ofBreaking_41 ?_
          exact J_exit [0, 1, 2, 3, 4] rfl (fun hx => hx)
        · refine J_iconst (v := 1) rfl d_Od_ofBreaking_37 ?_
          refine J_goto 42 rfl d_Od_ofBreaking_38 ?_
          exact J_exit [0, 1, 2, 3, 4] rfl (fun hx => hx)
      · refine J_istore (lv' := [(5, .int v10), (4, .int v7), (3, .int v4), (0, .ref (ad 44)), (1, .int a1), (2, .int a2)]) (Nat.le_of_ble_eq_true rfl) rfl d_Od_ofBreaking_42 ?_
        refine J_iload 0 rfl d_Od_ofBreaking_44 ?_
        refine J_bd1 (fun (h12 : HP) => Vw (kx_Od_ofBreaking l g Q) 0 0 98 [(5, .int v10), (4, .int v7), (3, .int v4), (0, .ref (ad 44)), (1, .int a1), (2, .int a2)] [] (pic g ad h12)) ?_ (fun h12 => ?_)
        · refine J_if_eq 98 rfl d_Od_ofBreaking_46 (fun c13 => ?_) (fun c13 => ?_)
          · exact J_exit [0, 1, 2, 3, 4, 5] rfl (fun hx => hx)
          · refine J_aload_n 3 rfl d_Od_ofBreaking_49 ?_
            refine J_iload_n 2 rfl d_Od_ofBreaking_50 ?_
            refine J_iload 1 rfl d_Od_ofBreaking_51 ?_
            refine J_iconst (v := (-1)) rfl d_Od_ofBreaking_53 ?_
            refine J_ixor d_Od_ofBreaking_54 ?_
            refine J_iand d_Od_ofBreaking_55 ?_
            refine J_iload_n 5 rfl d_Od_ofBreaking_56 ?_
            refine J_callVi (m_Od_breaksWithout l g ad _ _ _) ok_Od_breaksWithout rc_44 wi_Od_breaksWithout wl_Od_Od_breaksWithout wk_Od_31 ⟨rfl, rfl, Nat.le_of_ble_eq_true rfl, Nat.le_of_ble_eq_true rfl⟩ ⟨Nat.zero_le _, Nat.zero_le _⟩ (rest := []) rfl rfl (Nat.le_of_ble_eq_true rfl) d_Od_ofBreaking_57 (fun v14 h15 => ?_)
            refine J_if_eq 98 rfl d_Od_ofBreaking_60 (fun c16 => ?_) (fun c16 => ?_)
            · exact J_exit [0, 1, 2, 3, 4, 5] rfl (fun hx => hx)
            · refine J_aload_n 3 rfl d_Od_ofBreaking_63 ?_
              refine J_dup rfl d_Od_ofBreaking_64 ?_
              refine P_gL fo_Od_27_44 rfl d_Od_ofBreaking_65 (fun v17 => ?_)
              refine J_iload_n 4 rfl d_Od_ofBreaking_68 ?_
              refine J_iload 1 rfl d_Od_ofBreaking_69 ?_
              refine J_callSi (m_In_bitCount l g ad _ _) ok_In_bitCount ws_In_bitCount wk_Od_35 ⟨rfl, rfl, Nat.le_of_ble_eq_true rfl, Nat.le_of_ble_eq_true rfl⟩ ⟨Nat.zero_le _, Nat.zero_le _⟩ (rest := [.int a1, .long v17, .ref (ad 44)]) rfl rfl (Nat.le_of_ble_eq_true rfl) d_Od_ofBreaking_71 (fun v18 h19 => ?_)
              refine J_callSl (m_Od_power l g ad _ _ _) ok_Od_power ws_Od_power wk_Od_40 ⟨rfl, rfl, Nat.le_of_ble_eq_true rfl, Nat.le_of_ble_eq_true rfl⟩ ⟨Nat.zero_le _, Nat.zero_le _⟩ (rest := [.long v17, .ref (ad 44)]) rfl rfl (Nat.le_of_ble_eq_true rfl) d_Od_ofBreaking_74 (fun v20 h21 => ?_)
              refine J_bipush (v := 16) rfl d_Od_ofBreaking_77 ?_
              refine J_iload_n 4 rfl d_Od_ofBreaking_79 ?_
              refine J_isub d_Od_ofBreaking_80 ?_
              refine J_iload_n 2 rfl d_Od_ofBreaking_81 ?_
              refine J_iload 1 rfl d_Od_ofBreaking_82 ?_
              refine J_iconst (v := (-1)) rfl d_Od_ofBreaking_84 ?_
              refine J_ixor d_Od_ofBreaking_85 ?_
              refine J_iand d_Od_ofBreaking_86 ?_
              refine J_callSi (m_In_bitCount l g ad _ _) ok_In_bitCount ws_In_bitCount wk_Od_35 ⟨rfl, rfl, Nat.le_of_ble_eq_true rfl, Nat.le_of_ble_eq_true rfl⟩ ⟨Nat.zero_le _, Nat.zero_le _⟩ (rest := [.int (16 - a1), .long v20, .long v17, .ref (ad 44)]) rfl rfl (Nat.le_of_ble_eq_true rfl) d_Od_ofBreaking_87 (fun v22 h23 => ?_)
              refine J_callSl (m_Od_power l g ad _ _ _) ok_Od_power ws_Od_power wk_Od_40 ⟨rfl, rfl, Nat.le_of_ble_eq_true rfl, Nat.le_of_ble_eq_true rfl⟩ ⟨Nat.zero_le _, Nat.zero_le _⟩ (rest := [.long v20, .long v17, .ref (ad 44)]) rfl rfl (Nat.le_of_ble_eq_true rfl) d_Od_ofBreaking_90 (fun v24 h25 => ?_)
              refine J_lmul d_Od_ofBreaking_93 ?_
              refine J_ladd d_Od_ofBreaking_94 ?_
              refine P_wL fo_Od_27_44 rfl d_Od_ofBreaking_95 (fun h26 => ?_)
              exact J_exit [0, 1, 2, 3, 4, 5] rfl (fun hx => hx)
        · refine P_inc (w := 1) (lv' := fun v27 => [(4, .int v27), (5, .int v10), (3, .int v4), (0, .ref (ad 44)), (1, .int a1), (2, .int a2)]) 1 rfl rfl (Nat.le_of_ble_eq_true rfl) (fun _ => rfl) d_Od_ofBreaking_98 (fun v27 => ?_)
          refine J_goto 20 rfl d_Od_ofBreaking_101 ?_
          exact J_sub [0, 2, 3, 4, 5] rfl (ih _ _)
set_option maxRecDepth 20000 in
set_option maxHeartbeats 4000000 in
theorem m_Od_ofBreaking (l : Launch) (g : GG) (ad : Nat → Nat) (a1 : Int32) (a2 : Int32) (h0 : HP) : CM l g ad y_Od_ofBreaking b_Od_ofBreaking 6 none rm_Od_ofBreaking [.ref (ad 44), .int a1, .int a2] h0 enV (f_Od_ofBreaking a1 a2 h0) := by
  refine CM.of (by decide) (Nat.le_of_ble_eq_true rfl) (fun Q => ?_)
  show Jj _ _ (Vw (kx_Od_ofBreaking l g Q) 0 0 0 _ _ _)
  refine J_sub [0, 1, 2] (lv' := [(0, .ref (ad 44)), (1, .int a1), (2, .int a2)]) rfl ?_
  unfold f_Od_ofBreaking
  refine J_aload_n 0 rfl d_Od_ofBreaking_0 ?_
  refine J_getR fo_Od_9_44 rfl d_Od_ofBreaking_1 ?_
  refine P_gM (cs := [60, 57]) fo_Od_15_54 rfl d_Od_ofBreaking_4 (fun o3 ho3 => ?_)
  refine J_iload_n 2 rfl d_Od_ofBreaking_7 ?_
  refine J_callVi (m_St_onCamel l g ad o3 ho3 _ _) ok_St_onCamel (rc_s60_57 _ ho3) wi_St_onCamel wl_St_St_onCamel wk_Od_21 ⟨rfl, rfl, Nat.le_of_ble_eq_true rfl, Nat.le_of_ble_eq_true rfl⟩ ⟨Nat.zero_le _, Nat.zero_le _⟩ (rest := []) rfl rfl (Nat.le_of_ble_eq_true rfl) d_Od_ofBreaking_8 (fun v4 h5 => ?_)
  refine J_istore_n (lv' := [(3, .int v4), (0, .ref (ad 44)), (1, .int a1), (2, .int a2)]) 3 rfl (Nat.le_of_ble_eq_true rfl) rfl d_Od_ofBreaking_11 ?_
  refine J_aload_n 1 rfl d_Od_ofBreaking_12 ?_
  refine J_lconst (v := 0) rfl d_Od_ofBreaking_13 ?_
  refine P_wL fo_Od_27_44 rfl d_Od_ofBreaking_14 (fun h6 => ?_)
  refine J_iconst (v := 0) rfl d_Od_ofBreaking_17 ?_
  refine J_istore (lv' := [(4, .int 0), (3, .int v4), (0, .ref (ad 44)), (1, .int a1), (2, .int a2)]) (Nat.le_of_ble_eq_true rfl) rfl d_Od_ofBreaking_18 ?_
  refine J_bd2 (fun (v28 : Int32) (h29 : HP) => Vw (kx_Od_ofBreaking l g Q) 0 0 104 [(4, .int v28), (3, .int v4), (0, .ref (ad 44)), (1, .int a1), (2, .int a2)] [] (pic g ad h29)) ?_ (fun v28 h29 => ?_)
  · exact J_sub [0, 1, 2, 3, 4] rfl (mlp_Od_ofBreaking_20 l g ad Q v4 a1 a2 400 _ _)
  · refine J_aload_n 2 rfl d_Od_ofBreaking_104 ?_
    refine J_bipush (v := 16) rfl d_Od_ofBreaking_105 ?_
    refine J_iload_n 1 rfl d_Od_ofBreaking_107 ?_
    refine J_callSi (m_In_bitCount l g ad _ _) ok_In_bitCount ws_In_bitCount wk_Od_35 ⟨rfl, rfl, Nat.le_of_ble_eq_true rfl, Nat.le_of_ble_eq_true rfl⟩ ⟨Nat.zero_le _, Nat.zero_le _⟩ (rest := [.int 16, .ref (ad 44)]) rfl rfl (Nat.le_of_ble_eq_true rfl) d_Od_ofBreaking_108 (fun v30 h31 => ?_)
    refine J_callSl (m_Od_power l g ad _ _ _) ok_Od_power ws_Od_power wk_Od_40 ⟨rfl, rfl, Nat.le_of_ble_eq_true rfl, Nat.le_of_ble_eq_true rfl⟩ ⟨Nat.zero_le _, Nat.zero_le _⟩ (rest := [.ref (ad 44)]) rfl rfl (Nat.le_of_ble_eq_true rfl) d_Od_ofBreaking_111 (fun v32 h33 => ?_)
    refine P_wL fo_Od_44_44 rfl d_Od_ofBreaking_114 (fun h34 => ?_)
    refine J_aload_n 2 rfl d_Od_ofBreaking_117 ?_
    refine J_callVv (m_Od_reduce l g ad _) ok_Od_reduce rc_44 wi_Od_reduce wl_Od_Od_reduce wk_Od_47 ⟨rfl, rfl, Nat.le_of_ble_eq_true rfl, Nat.le_of_ble_eq_true rfl⟩ ⟨Nat.zero_le _, Nat.zero_le _⟩ (rest := []) rfl rfl (Nat.le_of_ble_eq_true rfl) d_Od_ofBreaking_118 (fun h35 => ?_)
    exact J_vret (Nat.le_refl _) (Nat.le_refl _) d_Od_ofBreaking_121 rfl (fun hx => hx)
def f_CS_chance (a1 : Int32) (a2 : Int32) (a3 : Int32) (h0 : HP) : Option (Int64 × HP) :=
 (if a1 < 0 then
 some ((-9223372036854775806), h0)
 else
 (if 16 < a1 then
 some ((-9223372036854775806), h0)
 else
 bd2 (f_CS_isCamel a2 h0) (fun (v6 : Int32) (h7 : HP) =>
 (if v6 = 0 then
 some ((-9223372036854775806), h7)
 else
 (if a3 < 0 then
 some ((-9223372036854775806), h7)
 else
 (if a3 ≤ 1 then
 bd1 (f_Od_ofBreaking a1 a2 h7) (fun (h11 : HP) =>
 (if a3 = 0 then
 ltt (rL h11 44 1) (fun (v14 : Int64) =>
 some (v14, h11))
 else
 ltt (rL h11 44 2) (fun (v13 : Int64) =>
 some (v13, h11))))
 else
 some ((-9223372036854775806), h7)))))))
set_option maxRecDepth 20000 in
set_option maxHeartbeats 4000000 in
theorem m_CS_chance (l : Launch) (g : GG) (ad : Nat → Nat) (a1 : Int32) (a2 : Int32) (a3 : Int32) (h0 : HP) : CM l g ad y_CS_chance b_CS_chance 4 (some .long) rm_CS_chance [.ref (ad 71), .int a1, .int a2, .int a3] h0 enL (f_CS_chance a1 a2 a3 h0) := by
  refine CM.of (by decide) (Nat.le_of_ble_eq_true rfl) (fun Q => ?_)
  show Jj _ _ (Vw (kx_CS_chance l g Q) 0 0 0 _ _ _)
  refine J_sub [0, 1, 2, 3] (lv' := [(0, .ref (ad 71)), (1, .int a1), (2, .int a2), (3, .int a3)]) rfl ?_
  unfold f_CS_chance
  refine J_iload_n 1 rfl d_CS_chance_0 ?_
  refine J_if_lt 27 rfl d_CS_chance_1 (fun c4 => ?_) (fun c4 => ?_)
  · refine J_ldc2 (v := (-9223372036854775806)) kl_CS_216 d_CS_chance_27 ?_
    exact J_lret (Nat.le_refl _) (Nat.le_refl _) d_CS_chance_30 rfl (fun hx => hx)
  · refine J_iload_n 1 rfl d_CS_chance_4 ?_
    refine J_bipush (v := 16) rfl d_CS_chance_5 ?_
    refine J_icmp_gt 27 rfl d_CS_chance_7 (fun c5 => ?_) (fun c5 => ?_)
    · refine J_ldc2 (v := (-9223372036854775806)) kl_CS_216 d_CS_chance_27 ?_
      exact J_lret (Nat.le_refl _) (Nat.le_refl _) d_CS_chance_30 rfl (fun hx => hx)
    · refine J_aload_n 0 rfl d_CS_chance_10 ?_
      refine J_iload_n 2 rfl d_CS_chance_11 ?_
      refine J_callVi (m_CS_isCamel l g ad _ _) ok_CS_isCamel rc_71 wi_CS_isCamel wl_CS_CS_isCamel wk_CS_96 ⟨rfl, rfl, Nat.le_of_ble_eq_true rfl, Nat.le_of_ble_eq_true rfl⟩ ⟨Nat.zero_le _, Nat.zero_le _⟩ (rest := []) rfl rfl (Nat.le_of_ble_eq_true rfl) d_CS_chance_12 (fun v6 h7 => ?_)
      refine J_if_eq 27 rfl d_CS_chance_15 (fun c8 => ?_) (fun c8 => ?_)
      · refine J_ldc2 (v := (-9223372036854775806)) kl_CS_216 d_CS_chance_27 ?_
        exact J_lret (Nat.le_refl _) (Nat.le_refl _) d_CS_chance_30 rfl (fun hx => hx)
      · refine J_iload_n 3 rfl d_CS_chance_18 ?_
        refine J_if_lt 27 rfl d_CS_chance_19 (fun c9 => ?_) (fun c9 => ?_)
        · refine J_ldc2 (v := (-9223372036854775806)) kl_CS_216 d_CS_chance_27 ?_
          exact J_lret (Nat.le_refl _) (Nat.le_refl _) d_CS_chance_30 rfl (fun hx => hx)
        · refine J_iload_n 3 rfl d_CS_chance_22 ?_
          refine J_iconst (v := 1) rfl d_CS_chance_23 ?_
          refine J_icmp_le 31 rfl d_CS_chance_24 (fun c10 => ?_) (fun c10 => ?_)
          · refine J_aload_n 0 rfl d_CS_chance_31 ?_
            refine J_getR fo_CS_67_71 rfl d_CS_chance_32 ?_
            refine J_iload_n 1 rfl d_CS_chance_35 ?_
            refine J_iload_n 2 rfl d_CS_chance_36 ?_
            refine J_callVv (m_Od_ofBreaking l g ad _ _ _) ok_Od_ofBreaking rc_44 wi_Od_ofBreaking wl_Od_Od_ofBreaking wk_CS_218 ⟨rfl, rfl, Nat.le_of_ble_eq_true rfl, Nat.le_of_ble_eq_true rfl⟩ ⟨Nat.zero_le _, Nat.zero_le _⟩ (rest := []) rfl rfl (Nat.le_of_ble_eq_true rfl) d_CS_chance_37 (fun h11 => ?_)
            refine J_iload_n 3 rfl d_CS_chance_40 ?_
            refine J_if_ne 54 rfl d_CS_chance_41 (fun c12 => ?_) (fun c12 => ?_)
            · refine J_aload_n 0 rfl d_CS_chance_54 ?_
              refine J_getR fo_CS_67_71 rfl d_CS_chance_55 ?_
              refine P_gL fo_CS_226_44 rfl d_CS_chance_58 (fun v13 => ?_)
              exact J_lret (Nat.le_refl _) (Nat.le_refl _) d_CS_chance_61 rfl (fun hx => hx)
            · refine J_aload_n 0 rfl d_CS_chance_44 ?_
              refine J_getR fo_CS_67_71 rfl d_CS_chance_45 ?_
              refine P_gL fo_CS_222_44 rfl d_CS_chance_48 (fun v14 => ?_)
              refine J_goto 61 rfl d_CS_chance_51 ?_
              exact J_lret (Nat.le_refl _) (Nat.le_refl _) d_CS_chance_61 rfl (fun hx => hx)
          · refine J_ldc2 (v := (-9223372036854775806)) kl_CS_216 d_CS_chance_27 ?_
            exact J_lret (Nat.le_refl _) (Nat.le_refl _) d_CS_chance_30 rfl (fun hx => hx)
def f_St_nextSeed (a1 : Int32) (h0 : HP) : Option (Int32 × HP) :=
 some ((1103515245 * a1) + 12345, h0)
set_option maxRecDepth 20000 in
set_option maxHeartbeats 4000000 in
theorem m_St_nextSeed (l : Launch) (g : GG) (ad : Nat → Nat) (a1 : Int32) (h0 : HP) : CM l g ad y_St_nextSeed b_St_nextSeed 1 (some .int) rm_St_nextSeed [.int a1] h0 enI (f_St_nextSeed a1 h0) := by
  refine CM.of (by decide) (Nat.le_of_ble_eq_true rfl) (fun Q => ?_)
  show Jj _ _ (Vw (kx_St_nextSeed l g Q) 0 0 0 _ _ _)
  refine J_sub [0] (lv' := [(0, .int a1)]) rfl ?_
  unfold f_St_nextSeed
  refine J_ldc (v := 1103515245) kc_St_30 d_St_nextSeed_0 ?_
  refine J_iload_n 0 rfl d_St_nextSeed_2 ?_
  refine J_imul d_St_nextSeed_3 ?_
  refine J_sipush (v := 12345) rfl d_St_nextSeed_4 ?_
  refine J_iadd d_St_nextSeed_7 ?_
  exact J_iret (Nat.le_refl _) (Nat.le_refl _) d_St_nextSeed_8 rfl (fun hx => hx)
def lp_St_draw_16 (o1 : Nat) (a2 : Int32) (a3 : Int32) (a4 : Int32) : Nat → Int32 → Int32 → HP → Option (Int32 × Int32 × HP)
 | 0, _, _, _ => none
 | fu + 1, v7, v8, h9 =>
 (if a3 ≤ v7 then
 some (v7, v8, h9)
 else
 bd2 (f_St_nextSeed v8 h9) (fun (v11 : Int32) (h12 : HP) =>
 ltt (((Int32.toUInt32 v11 >>> (Int32.toUInt32 16 &&& Int32.toUInt32 31)).toInt32) - ((Int32.toUInt32 v11 >>> (Int32.toUInt32 16 &&& Int32.toUInt32 31)).toInt32) / 24 * 24) (fun (v13 : Int32) =>
 bd2 (f_St_nextSeed v11 h12) (fun (v14 : Int32) (h15 : HP) =>
 ckk (decide (¬ a4 = 0)) (bd2 (f_St_append o1 v13 (((Int32.toUInt32 v14 >>> (Int32.toUInt32 16 &&& Int32.toUInt32 31)).toInt32) - ((Int32.toUInt32 v14 >>> (Int32.toUInt32 16 &&& Int32.toUInt32 31)).toInt32) / a4 * a4) h15) (fun (v16 : Int32) (h17 : HP) =>
 ltt (v7 + 1) (fun (v18 : Int32) =>
 lp_St_draw_16 o1 a2 a3 a4 fu v18 v14 h17)))))))
def f_St_draw (o1 : Nat) (a2 : Int32) (a3 : Int32) (a4 : Int32) (h0 : HP) : Option (HP) :=
 ltt (sI h0 o1 2 0) (fun (h5 : HP) =>
 (if 0 < a4 then
 bd3 (lp_St_draw_16 o1 a2 a3 a4 400 0 a2 h5) (fun (v19 : Int32) (v20 : Int32) (h21 : HP) =>
 some h21)
 else
 some h5))
set_option maxRecDepth 20000 in
set_option maxHeartbeats 4000000 in
theorem mlp_St_draw_16 (l : Launch) (g : GG) (ad : Nat → Nat) (Q : Option Value → va_W → Prop) (o1 : Nat) (a2 : Int32) (a3 : Int32) (a4 : Int32) (ho1 : o1 ∈ [60, 57]) : ∀ (fu : Nat) (v7 : Int32) (v8 : Int32) (h9 : HP), Jj (fun q : Int32 × Int32 × HP => Vw (kx_St_draw l g Q) 0 0 66 [(5, .int (q.1)), (4, .int (q.2.1)), (0, .ref (ad o1)), (1, .int a2), (2, .int a3), (3, .int a4)] [] (pic g ad q.2.2)) (lp_St_draw_16 o1 a2 a3 a4 fu v7 v8 h9) (Vw (kx_St_draw l g Q) 0 0 16 [(5, .int v7), (4, .int v8), (0, .ref (ad o1)), (1, .int a2), (2, .int a3), (3, .int a4)] [] (pic g ad h9)) := by
  intro fu
  induction fu with
  | zero =>
    intro v7 v8 h9
    exact J_none
  | succ fu ih =>
    intro v7 v8 h9
    rw [lp_St_draw_16]
    refine J_iload 0 rfl d_St_draw_16 ?_
    refine J_iload_n 4 rfl d_St_draw_18 ?_
    refine J_icmp_ge 66 rfl d_St_draw_19 (fun c10 => ?_) (fun c10 => ?_)
    · exact J_exit [0, 1, 2, 3, 4, 5] rfl (fun hx => hx)
    · refine J_iload 1 rfl d_St_draw_22 ?_
      refine J_callSi (m_St_nextSeed l g ad _ _) ok_St_nextSeed ws_St_nextSeed wk_St_22 ⟨rfl, rfl, Nat.le_of_ble_eq_true rfl, Nat.le_of_ble_eq_true rfl⟩ ⟨Nat.zero_le _, Nat.zero_le _⟩ (rest := []) rfl rfl (Nat.le_of_ble_eq_true rfl) d_St_draw_24 (fun v11 h12 => ?_)
      refine J_istore (lv' := [(4, .int v11), (5, .int v7), (0, .ref (ad o1)), (1, .int a2), (2, .int a3), (3, .int a4)]) (Nat.le_of_ble_eq_true rfl) rfl d_St_draw_27 ?_
      refine J_iload 0 rfl d_St_draw_29 ?_
      refine J_bipush (v := 16) rfl d_St_draw_31 ?_
      refine J_iushr d_St_draw_33 ?_
      refine J_bipush (v := 24) rfl d_St_draw_34 ?_
      refine J_irem (by decide) d_St_draw_36 ?_
      refine P_ist (lv' := fun v13 => [(6, .int v13), (4, .int v11), (5, .int v7), (0, .ref (ad o1)), (1, .int a2), (2, .int a3), (3, .int a4)]) (Nat.le_of_ble_eq_true rfl) (fun _ => rfl) d_St_draw_37 (fun v13 => ?_)
      refine J_iload 1 rfl d_St_draw_39 ?_
      refine J_callSi (m_St_nextSeed l g ad _ _) ok_St_nextSeed ws_St_nextSeed wk_St_22 ⟨rfl, rfl, Nat.le_of_ble_eq_true rfl, Nat.le_of_ble_eq_true rfl⟩ ⟨Nat.zero_le _, Nat.zero_le _⟩ (rest := []) rfl rfl (Nat.le_of_ble_eq_true rfl) d_St_draw_41 (fun v14 h15 => ?_)
      refine J_istore (lv' := [(4, .int v14), (6, .int v13), (5, .int v7), (0, .ref (ad o1)), (1, .int a2), (2, .int a3), (3, .int a4)]) (Nat.le_of_ble_eq_true rfl) rfl d_St_draw_44 ?_
      refine J_aload_n 3 rfl d_St_draw_46 ?_
      refine J_iload 1 rfl d_St_draw_47 ?_
      refine J_iload 0 rfl d_St_draw_49 ?_
      refine J_bipush (v := 16) rfl d_St_draw_51 ?_
      refine J_iushr d_St_draw_53 ?_
      refine J_iload_n 6 rfl d_St_draw_54 ?_
      refine P_irem d_St_draw_55 ?_
      refine J_callVi (m_St_append l g ad o1 ho1 _ _ _) ok_St_append (rc_s60_57 _ ho1) wi_St_append wl_St_St_append wk_St_26 ⟨rfl, rfl, Nat.le_of_ble_eq_true rfl, Nat.le_of_ble_eq_true rfl⟩ ⟨Nat.zero_le _, Nat.zero_le _⟩ (rest := []) rfl rfl (Nat.le_of_ble_eq_true rfl) d_St_draw_56 (fun v16 h17 => ?_)
      refine J_pop rfl d_St_draw_59 ?_
      refine P_inc (w := 1) (lv' := fun v18 => [(5, .int v18), (4, .int v14), (6, .int v13), (0, .ref (ad o1)), (1, .int a2), (2, .int a3), (3, .int a4)]) 2 rfl rfl (Nat.le_of_ble_eq_true rfl) (fun _ => rfl) d_St_draw_60 (fun v18 => ?_)
      refine J_goto 16 rfl d_St_draw_63 ?_
      exact J_sub [0, 1, 3, 4, 5, 6] rfl (ih _ _ _)
set_option maxRecDepth 20000 in
set_option maxHeartbeats 4000000 in
theorem m_St_draw (l : Launch) (g : GG) (ad : Nat → Nat) (o1 : Nat) (ho1 : o1 ∈ [60, 57]) (a2 : Int32) (a3 : Int32) (a4 : Int32) (h0 : HP) : CM l g ad y_St_draw b_St_draw 7 none rm_St_draw [.ref (ad o1), .int a2, .int a3, .int a4] h0 enV (f_St_draw o1 a2 a3 a4 h0) := by
  refine CM.of (by decide) (Nat.le_of_ble_eq_true rfl) (fun Q => ?_)
  show Jj _ _ (Vw (kx_St_draw l g Q) 0 0 0 _ _ _)
  refine J_sub [0, 1, 2, 3] (lv' := [(0, .ref (ad o1)), (1, .int a2), (2, .int a3), (3, .int a4)]) rfl ?_
  unfold f_St_draw
  refine J_aload_n 0 rfl d_St_draw_0 ?_
  refine J_iconst (v := 0) rfl d_St_draw_1 ?_
  refine P_wI (fo_St_18_s60_57 _ ho1) (fd_s60_57_2 _ ho1) d_St_draw_2 (fun h5 => ?_)
  refine J_iload_n 3 rfl d_St_draw_5 ?_
  refine J_if_gt 10 rfl d_St_draw_6 (fun c6 => ?_) (fun c6 => ?_)
  · refine J_iload_n 1 rfl d_St_draw_10 ?_
    refine J_istore (lv' := [(4, .int a2), (0, .ref (ad o1)), (1, .int a2), (2, .int a3), (3, .int a4)]) (Nat.le_of_ble_eq_true rfl) rfl d_St_draw_11 ?_
    refine J_iconst (v := 0) rfl d_St_draw_13 ?_
    refine J_istore (lv' := [(5, .int 0), (4, .int a2), (0, .ref (ad o1)), (1, .int a2), (2, .int a3), (3, .int a4)]) (Nat.le_of_ble_eq_true rfl) rfl d_St_draw_14 ?_
    refine J_bd3 (fun (v19 : Int32) (v20 : Int32) (h21 : HP) => Vw (kx_St_draw l g Q) 0 0 66 [(5, .int v19), (4, .int v20), (0, .ref (ad o1)), (1, .int a2), (2, .int a3), (3, .int a4)] [] (pic g ad h21)) ?_ (fun v19 v20 h21 => ?_)
    · exact J_sub [0, 1, 2, 3, 4, 5] rfl (mlp_St_draw_16 l g ad Q o1 a2 a3 a4 ho1 400 _ _ _)
    · exact J_vret (Nat.le_refl _) (Nat.le_refl _) d_St_draw_66 rfl (fun hx => hx)
  · exact J_vret (Nat.le_refl _) (Nat.le_refl _) d_St_draw_9 rfl (fun hx => hx)
def f_CS_years (a1 : Int32) (a2 : Int32) (a3 : Int32) (h0 : HP) : Option (Int32 × HP) :=
 (if a2 < 0 then
 some ((-2), h0)
 else
 (if 8 < a2 then
 some ((-2), h0)
 else
 (if a3 < 0 then
 some ((-2), h0)
 else
 (if a3 ≤ 1 then
 ltt (rI h0 70 4) (fun (v8 : Int32) =>
 bd1 (f_St_draw 57 a1 a2 v8 h0) (fun (h9 : HP) =>
 ltt (sR h9 57) (fun (h10 : HP) =>
 bd1 ((if a3 = 0 then
 some (5)
 else
 some (4)) : Option (Int32)) (fun (v11 : Int32) =>
 bd2 (f_Cv_inAll v11 h10) (fun (v13 : Int32) (h14 : HP) =>
 ltt (sR h14 60) (fun (h15 : HP) =>
 some (v13, h15)))))))
 else
 some ((-2), h0)))))
set_option maxRecDepth 20000 in
set_option maxHeartbeats 4000000 in
theorem m_CS_years (l : Launch) (g : GG) (ad : Nat → Nat) (a1 : Int32) (a2 : Int32) (a3 : Int32) (h0 : HP) : CM l g ad y_CS_years b_CS_years 5 (some .int) rm_CS_years [.ref (ad 71), .int a1, .int a2, .int a3] h0 enI (f_CS_years a1 a2 a3 h0) := by
  refine CM.of (by decide) (Nat.le_of_ble_eq_true rfl) (fun Q => ?_)
  show Jj _ _ (Vw (kx_CS_years l g Q) 0 0 0 _ _ _)
  refine J_sub [0, 1, 2, 3] (lv' := [(0, .ref (ad 71)), (1, .int a1), (2, .int a2), (3, .int a3)]) rfl ?_
  unfold f_CS_years
  refine J_iload_n 2 rfl d_CS_years_0 ?_
  refine J_if_lt 19 rfl d_CS_years_1 (fun c4 => ?_) (fun c4 => ?_)
  · refine J_bipush (v := (-2)) rfl d_CS_years_19 ?_
    exact J_iret (Nat.le_refl _) (Nat.le_refl _) d_CS_years_21 rfl (fun hx => hx)
  · refine J_iload_n 2 rfl d_CS_years_4 ?_
    refine J_bipush (v := 8) rfl d_CS_years_5 ?_
    refine J_icmp_gt 19 rfl d_CS_years_7 (fun c5 => ?_) (fun c5 => ?_)
    · refine J_bipush (v := (-2)) rfl d_CS_years_19 ?_
      exact J_iret (Nat.le_refl _) (Nat.le_refl _) d_CS_years_21 rfl (fun hx => hx)
    · refine J_iload_n 3 rfl d_CS_years_10 ?_
      refine J_if_lt 19 rfl d_CS_years_11 (fun c6 => ?_) (fun c6 => ?_)
      · refine J_bipush (v := (-2)) rfl d_CS_years_19 ?_
        exact J_iret (Nat.le_refl _) (Nat.le_refl _) d_CS_years_21 rfl (fun hx => hx)
      · refine J_iload_n 3 rfl d_CS_years_14 ?_
        refine J_iconst (v := 1) rfl d_CS_years_15 ?_
        refine J_icmp_le 22 rfl d_CS_years_16 (fun c7 => ?_) (fun c7 => ?_)
        · refine J_aload_n 0 rfl d_CS_years_22 ?_
          refine J_getR fo_CS_36_71 rfl d_CS_years_23 ?_
          refine J_iload_n 1 rfl d_CS_years_26 ?_
          refine J_iload_n 2 rfl d_CS_years_27 ?_
          refine J_aload_n 0 rfl d_CS_years_28 ?_
          refine J_getR fo_CS_10_71 rfl d_CS_years_29 ?_
          refine P_gI fo_CS_229_70 rfl d_CS_years_32 (fun v8 => ?_)
          refine J_callVv (m_St_draw l g ad 57 (by decide) _ _ _ _) ok_St_draw rc_57 wi_St_draw wl_St_St_draw wk_CS_231 ⟨rfl, rfl, Nat.le_of_ble_eq_true rfl, Nat.le_of_ble_eq_true rfl⟩ ⟨Nat.zero_le _, Nat.zero_le _⟩ (rest := []) rfl rfl (Nat.le_of_ble_eq_true rfl) d_CS_years_35 (fun h9 => ?_)
          refine J_aload_n 0 rfl d_CS_years_38 ?_
          refine J_getR fo_CS_44_71 rfl d_CS_years_39 ?_
          refine J_aload_n 0 rfl d_CS_years_42 ?_
          refine J_getR fo_CS_36_71 rfl d_CS_years_43 ?_
          refine P_wM fo_CS_235_54 rfl d_CS_years_46 (fun h10 => ?_)
          refine J_aload_n 0 rfl d_CS_years_49 ?_
          refine J_getR fo_CS_44_71 rfl d_CS_years_50 ?_
          refine J_iload_n 3 rfl d_CS_years_53 ?_
          refine J_bd1 (fun (v11 : Int32) => Vw (kx_CS_years l g Q) 0 0 62 [(0, .ref (ad 71)), (1, .int a1), (2, .int a2), (3, .int a3)] [.int v11, .ref (ad 54)] (pic g ad h10)) ?_ (fun v11 => ?_)
          · refine J_if_ne 61 rfl d_CS_years_54 (fun c12 => ?_) (fun c12 => ?_)
            · refine J_iconst (v := 4) rfl d_CS_years_61 ?_
              exact J_exit [0, 1, 2, 3] rfl (fun hx => hx)
            · refine J_iconst (v := 5) rfl d_CS_years_57 ?_
              refine J_goto 62 rfl d_CS_years_58 ?_
              exact J_exit [0, 1, 2, 3] rfl (fun hx => hx)
          · refine J_callVi (m_Cv_inAll l g ad _ _) ok_Cv_inAll rc_54 wi_Cv_inAll wl_Cv_Cv_inAll wk_CS_160 ⟨rfl, rfl, Nat.le_of_ble_eq_true rfl, Nat.le_of_ble_eq_true rfl⟩ ⟨Nat.zero_le _, Nat.zero_le _⟩ (rest := []) rfl rfl (Nat.le_of_ble_eq_true rfl) d_CS_years_62 (fun v13 h14 => ?_)
            refine J_istore (lv' := [(4, .int v13), (0, .ref (ad 71)), (1, .int a1), (2, .int a2), (3, .int a3)]) (Nat.le_of_ble_eq_true rfl) rfl d_CS_years_65 ?_
            refine J_aload_n 1 rfl d_CS_years_67 ?_
            refine J_getR fo_CS_44_71 rfl d_CS_years_68 ?_
            refine J_aload_n 1 rfl d_CS_years_71 ?_
            refine J_getR fo_CS_32_71 rfl d_CS_years_72 ?_
            refine P_wM fo_CS_235_54 rfl d_CS_years_75 (fun h15 => ?_)
            refine J_iload 0 rfl d_CS_years_78 ?_
            exact J_iret (Nat.le_refl _) (Nat.le_refl _) d_CS_years_80 rfl (fun hx => hx)
        · refine J_bipush (v := (-2)) rfl d_CS_years_19 ?_
          exact J_iret (Nat.le_refl _) (Nat.le_refl _) d_CS_years_21 rfl (fun hx => hx)
def f_CS_isForm (a1 : Int32) (h0 : HP) : Option (Int32 × HP) :=
 (if a1 < 0 then
 some (0, h0)
 else
 (if 3 ≤ a1 then
 some (0, h0)
 else
 some (1, h0)))
set_option maxRecDepth 20000 in
set_option maxHeartbeats 4000000 in
theorem m_CS_isForm (l : Launch) (g : GG) (ad : Nat → Nat) (a1 : Int32) (h0 : HP) : CM l g ad y_CS_isForm b_CS_isForm 1 (some .boolean) rm_CS_isForm [.int a1] h0 enI (f_CS_isForm a1 h0) := by
  refine CM.of (by decide) (Nat.le_of_ble_eq_true rfl) (fun Q => ?_)
  show Jj _ _ (Vw (kx_CS_isForm l g Q) 0 0 0 _ _ _)
  refine J_sub [0] (lv' := [(0, .int a1)]) rfl ?_
  unfold f_CS_isForm
  refine J_iload_n 0 rfl d_CS_isForm_0 ?_
  refine J_if_lt 13 rfl d_CS_isForm_1 (fun c2 => ?_) (fun c2 => ?_)
  · refine J_iconst (v := 0) rfl d_CS_isForm_13 ?_
    exact J_zret (Nat.le_refl _) (Nat.le_refl _) d_CS_isForm_14 rfl (zfit (Or.inl rfl)).1 (fun hx => hx)
  · refine J_iload_n 0 rfl d_CS_isForm_4 ?_
    refine J_iconst (v := 3) rfl d_CS_isForm_5 ?_
    refine J_icmp_ge 13 rfl d_CS_isForm_6 (fun c3 => ?_) (fun c3 => ?_)
    · refine J_iconst (v := 0) rfl d_CS_isForm_13 ?_
      exact J_zret (Nat.le_refl _) (Nat.le_refl _) d_CS_isForm_14 rfl (zfit (Or.inl rfl)).1 (fun hx => hx)
    · refine J_iconst (v := 1) rfl d_CS_isForm_9 ?_
      refine J_goto 14 rfl d_CS_isForm_10 ?_
      exact J_zret (Nat.le_refl _) (Nat.le_refl _) d_CS_isForm_14 rfl (zfit (Or.inr rfl)).1 (fun hx => hx)
def f_Sh_renew (o1 : Nat) (a2 : Int32) (a3 : Int32) (h0 : HP) : Option (HP) :=
 ltt (sI h0 o1 1 a2) (fun (h4 : HP) =>
 ltt (sI h4 o1 2 a3) (fun (h5 : HP) =>
 ltt (rf1 o1 0) (fun (o6 : Nat) =>
 bd1 (f_Ar_fill o6 0 h5) (fun (h7 : HP) =>
 some h7))))
set_option maxRecDepth 20000 in
set_option maxHeartbeats 4000000 in
theorem m_Sh_renew (l : Launch) (g : GG) (ad : Nat → Nat) (o1 : Nat) (ho1 : o1 ∈ [42, 40, 38, 36]) (a2 : Int32) (a3 : Int32) (h0 : HP) : CM l g ad y_Sh_renew b_Sh_renew 3 none rm_Sh_renew [.ref (ad o1), .int a2, .int a3] h0 enV (f_Sh_renew o1 a2 a3 h0) := by
  refine CM.of (by decide) (Nat.le_of_ble_eq_true rfl) (fun Q => ?_)
  show Jj _ _ (Vw (kx_Sh_renew l g Q) 0 0 0 _ _ _)
  refine J_sub [0, 1, 2] (lv' := [(0, .ref (ad o1)), (1, .int a2), (2, .int a3)]) rfl ?_
  unfold f_Sh_renew
  refine J_aload_n 0 rfl d_Sh_renew_0 ?_
  refine J_iload_n 1 rfl d_Sh_renew_1 ?_
  refine P_wI (fo_Sh_15_s42_40_38_36 _ ho1) (fd_s42_40_38_36_1 _ ho1) d_Sh_renew_2 (fun h4 => ?_)
  refine J_aload_n 0 rfl d_Sh_renew_5 ?_
  refine J_iload_n 2 rfl d_Sh_renew_6 ?_
  refine P_wI (fo_Sh_19_s42_40_38_36 _ ho1) (fd_s42_40_38_36_2 _ ho1) d_Sh_renew_7 (fun h5 => ?_)
  refine J_aload_n 0 rfl d_Sh_renew_10 ?_
  refine P_gRv (rm_s42_40_38_36_0 _ ho1) (fo_Sh_9_s42_40_38_36 _ ho1) (fd_s42_40_38_36_0 _ ho1) d_Sh_renew_11 (fun o6 ho6 => ?_)
  refine J_iconst (v := 0) rfl d_Sh_renew_14 ?_
  refine J_callSv (m_Ar_fill l g ad o6 (sb_s41_39_37_35_s51_41_39_37_35 _ ho6) _ _) ok_Ar_fill ws_Ar_fill wk_Sh_22 ⟨rfl, rfl, Nat.le_of_ble_eq_true rfl, Nat.le_of_ble_eq_true rfl⟩ ⟨Nat.zero_le _, Nat.zero_le _⟩ (rest := []) rfl rfl (Nat.le_of_ble_eq_true rfl) d_Sh_renew_15 (fun h7 => ?_)
  exact J_vret (Nat.le_refl _) (Nat.le_refl _) d_Sh_renew_18 rfl (fun hx => hx)
def f_CS_sheet (a1 : Int32) (a2 : Int32) (a3 : Int32) (h0 : HP) : Option (Int32 × HP) :=
 bd2 (f_CS_isSheet a1 h0) (fun (v4 : Int32) (h5 : HP) =>
 (if v4 = 0 then
 some ((-2), h5)
 else
 bd2 (f_CS_isForm a2 h5) (fun (v7 : Int32) (h8 : HP) =>
 (if v7 = 0 then
 some ((-2), h8)
 else
 (if a3 ≤ 60 then
 (if 0 ≤ a3 then
 ckk (inb a1 4) (ltt (rfx 43 (Int32.toNatClampNeg a1)) (fun (o12 : Nat) =>
 bd1 (f_Sh_renew o12 a2 a3 h8) (fun (h13 : HP) =>
 some (a3, h13))))
 else
 bd2 (f_CS_finding 5 h8) (fun (v14 : Int32) (h15 : HP) =>
 some (v14, h15)))
 else
 some ((-2), h8))))))
set_option maxRecDepth 20000 in
set_option maxHeartbeats 4000000 in
theorem m_CS_sheet (l : Launch) (g : GG) (ad : Nat → Nat) (a1 : Int32) (a2 : Int32) (a3 : Int32) (h0 : HP) : CM l g ad y_CS_sheet b_CS_sheet 4 (some .int) rm_CS_sheet [.ref (ad 71), .int a1, .int a2, .int a3] h0 enI (f_CS_sheet a1 a2 a3 h0) := by
  refine CM.of (by decide) (Nat.le_of_ble_eq_true rfl) (fun Q => ?_)
  show Jj _ _ (Vw (kx_CS_sheet l g Q) 0 0 0 _ _ _)
  refine J_sub [0, 1, 2, 3] (lv' := [(0, .ref (ad 71)), (1, .int a1), (2, .int a2), (3, .int a3)]) rfl ?_
  unfold f_CS_sheet
  refine J_iload_n 1 rfl d_CS_sheet_0 ?_
  refine J_callSi (m_CS_isSheet l g ad _ _) ok_CS_isSheet ws_CS_isSheet wk_CS_133 ⟨rfl, rfl, Nat.le_of_ble_eq_true rfl, Nat.le_of_ble_eq_true rfl⟩ ⟨Nat.zero_le _, Nat.zero_le _⟩ (rest := []) rfl rfl (Nat.le_of_ble_eq_true rfl) d_CS_sheet_1 (fun v4 h5 => ?_)
  refine J_if_eq 20 rfl d_CS_sheet_4 (fun c6 => ?_) (fun c6 => ?_)
  · refine J_bipush (v := (-2)) rfl d_CS_sheet_20 ?_
    exact J_iret (Nat.le_refl _) (Nat.le_refl _) d_CS_sheet_22 rfl (fun hx => hx)
  · refine J_iload_n 2 rfl d_CS_sheet_7 ?_
    refine J_callSi (m_CS_isForm l g ad _ _) ok_CS_isForm ws_CS_isForm wk_CS_236 ⟨rfl, rfl, Nat.le_of_ble_eq_true rfl, Nat.le_of_ble_eq_true rfl⟩ ⟨Nat.zero_le _, Nat.zero_le _⟩ (rest := []) rfl rfl (Nat.le_of_ble_eq_true rfl) d_CS_sheet_8 (fun v7 h8 => ?_)
    refine J_if_eq 20 rfl d_CS_sheet_11 (fun c9 => ?_) (fun c9 => ?_)
    · refine J_bipush (v := (-2)) rfl d_CS_sheet_20 ?_
      exact J_iret (Nat.le_refl _) (Nat.le_refl _) d_CS_sheet_22 rfl (fun hx => hx)
    · refine J_iload_n 3 rfl d_CS_sheet_14 ?_
      refine J_bipush (v := 60) rfl d_CS_sheet_15 ?_
      refine J_icmp_le 23 rfl d_CS_sheet_17 (fun c10 => ?_) (fun c10 => ?_)
      · refine J_iload_n 3 rfl d_CS_sheet_23 ?_
        refine J_if_ge 33 rfl d_CS_sheet_24 (fun c11 => ?_) (fun c11 => ?_)
        · refine J_aload_n 0 rfl d_CS_sheet_33 ?_
          refine J_getR fo_CS_74_71 rfl d_CS_sheet_34 ?_
          refine J_iload_n 1 rfl d_CS_sheet_37 ?_
          refine P_aaS rx_43 (by decide) rfl rfl d_CS_sheet_38 (fun o12 ho12 => ?_)
          refine J_iload_n 2 rfl d_CS_sheet_39 ?_
          refine J_iload_n 3 rfl d_CS_sheet_40 ?_
          refine J_callVv (m_Sh_renew l g ad o12 ho12 _ _ _) ok_Sh_renew (rc_s42_40_38_36 _ ho12) wi_Sh_renew wl_Sh_Sh_renew wk_CS_239 ⟨rfl, rfl, Nat.le_of_ble_eq_true rfl, Nat.le_of_ble_eq_true rfl⟩ ⟨Nat.zero_le _, Nat.zero_le _⟩ (rest := []) rfl rfl (Nat.le_of_ble_eq_true rfl) d_CS_sheet_41 (fun h13 => ?_)
          refine J_iload_n 3 rfl d_CS_sheet_44 ?_
          exact J_iret (Nat.le_refl _) (Nat.le_refl _) d_CS_sheet_45 rfl (fun hx => hx)
        · refine J_aload_n 0 rfl d_CS_sheet_27 ?_
          refine J_iconst (v := 5) rfl d_CS_sheet_28 ?_
          refine J_callVi (m_CS_finding l g ad _ _) ok_CS_finding rc_71 wi_CS_finding wl_CS_CS_finding wk_CS_140 ⟨rfl, rfl, Nat.le_of_ble_eq_true rfl, Nat.le_of_ble_eq_true rfl⟩ ⟨Nat.zero_le _, Nat.zero_le _⟩ (rest := []) rfl rfl (Nat.le_of_ble_eq_true rfl) d_CS_sheet_29 (fun v14 h15 => ?_)
          exact J_iret (Nat.le_refl _) (Nat.le_refl _) d_CS_sheet_32 rfl (fun hx => hx)
      · refine J_bipush (v := (-2)) rfl d_CS_sheet_20 ?_
        exact J_iret (Nat.le_refl _) (Nat.le_refl _) d_CS_sheet_22 rfl (fun hx => hx)
def f_CS_lose (a1 : Int32) (h0 : HP) : Option (Int32 × HP) :=
 bd2 (f_CS_isSheet a1 h0) (fun (v2 : Int32) (h3 : HP) =>
 (if v2 = 0 then
 some ((-2), h3)
 else
 ckk (inb a1 4) (ltt (rfx 43 (Int32.toNatClampNeg a1)) (fun (o5 : Nat) =>
 bd2 (f_Sh_isLost o5 h3) (fun (v6 : Int32) (h7 : HP) =>
 (if v6 = 0 then
 ckk (inb a1 4) (ltt (rfx 43 (Int32.toNatClampNeg a1)) (fun (o9 : Nat) =>
 ltt (rI h7 o9 2) (fun (v10 : Int32) =>
 ckk (inb a1 4) (ltt (rfx 43 (Int32.toNatClampNeg a1)) (fun (o11 : Nat) =>
 bd1 (f_Sh_renew o11 (-1) 0 h7) (fun (h12 : HP) =>
 some (v10, h12)))))))
 else
 bd2 (f_CS_finding 1 h7) (fun (v13 : Int32) (h14 : HP) =>
 some (v13, h14))))))))
set_option maxRecDepth 20000 in
set_option maxHeartbeats 4000000 in
theorem m_CS_lose (l : Launch) (g : GG) (ad : Nat → Nat) (a1 : Int32) (h0 : HP) : CM l g ad y_CS_lose b_CS_lose 3 (some .int) rm_CS_lose [.ref (ad 71), .int a1] h0 enI (f_CS_lose a1 h0) := by
  refine CM.of (by decide) (Nat.le_of_ble_eq_true rfl) (fun Q => ?_)
  show Jj _ _ (Vw (kx_CS_lose l g Q) 0 0 0 _ _ _)
  refine J_sub [0, 1] (lv' := [(0, .ref (ad 71)), (1, .int a1)]) rfl ?_
  unfold f_CS_lose
  refine J_iload_n 1 rfl d_CS_lose_0 ?_
  refine J_callSi (m_CS_isSheet l g ad _ _) ok_CS_isSheet ws_CS_isSheet wk_CS_133 ⟨rfl, rfl, Nat.le_of_ble_eq_true rfl, Nat.le_of_ble_eq_true rfl⟩ ⟨Nat.zero_le _, Nat.zero_le _⟩ (rest := []) rfl rfl (Nat.le_of_ble_eq_true rfl) d_CS_lose_1 (fun v2 h3 => ?_)
  refine J_if_ne 10 rfl d_CS_lose_4 (fun c4 => ?_) (fun c4 => ?_)
  · refine J_aload_n 0 rfl d_CS_lose_10 ?_
    refine J_getR fo_CS_74_71 rfl d_CS_lose_11 ?_
    refine J_iload_n 1 rfl d_CS_lose_14 ?_
    refine P_aaS rx_43 (by decide) rfl rfl d_CS_lose_15 (fun o5 ho5 => ?_)
    refine J_callVi (m_Sh_isLost l g ad o5 ho5 _) ok_Sh_isLost (rc_s42_40_38_36 _ ho5) wi_Sh_isLost wl_Sh_Sh_isLost wk_CS_136 ⟨rfl, rfl, Nat.le_of_ble_eq_true rfl, Nat.le_of_ble_eq_true rfl⟩ ⟨Nat.zero_le _, Nat.zero_le _⟩ (rest := []) rfl rfl (Nat.le_of_ble_eq_true rfl) d_CS_lose_16 (fun v6 h7 => ?_)
    refine J_if_eq 28 rfl d_CS_lose_19 (fun c8 => ?_) (fun c8 => ?_)
    · refine J_aload_n 0 rfl d_CS_lose_28 ?_
      refine J_getR fo_CS_74_71 rfl d_CS_lose_29 ?_
      refine J_iload_n 1 rfl d_CS_lose_32 ?_
      refine P_aaS rx_43 (by decide) rfl rfl d_CS_lose_33 (fun o9 ho9 => ?_)
      refine P_gI (fo_CS_143_s42_40_38_36 _ ho9) (fd_s42_40_38_36_2 _ ho9) d_CS_lose_34 (fun v10 => ?_)
      refine J_istore_n (lv' := [(2, .int v10), (0, .ref (ad 71)), (1, .int a1)]) 2 rfl (Nat.le_of_ble_eq_true rfl) rfl d_CS_lose_37 ?_
      refine J_aload_n 1 rfl d_CS_lose_38 ?_
      refine J_getR fo_CS_74_71 rfl d_CS_lose_39 ?_
      refine J_iload_n 2 rfl d_CS_lose_42 ?_
      refine P_aaS rx_43 (by decide) rfl rfl d_CS_lose_43 (fun o11 ho11 => ?_)
      refine J_iconst (v := (-1)) rfl d_CS_lose_44 ?_
      refine J_iconst (v := 0) rfl d_CS_lose_45 ?_
      refine J_callVv (m_Sh_renew l g ad o11 ho11 _ _ _) ok_Sh_renew (rc_s42_40_38_36 _ ho11) wi_Sh_renew wl_Sh_Sh_renew wk_CS_239 ⟨rfl, rfl, Nat.le_of_ble_eq_true rfl, Nat.le_of_ble_eq_true rfl⟩ ⟨Nat.zero_le _, Nat.zero_le _⟩ (rest := []) rfl rfl (Nat.le_of_ble_eq_true rfl) d_CS_lose_46 (fun h12 => ?_)
      refine J_iload_n 0 rfl d_CS_lose_49 ?_
      exact J_iret (Nat.le_refl _) (Nat.le_refl _) d_CS_lose_50 rfl (fun hx => hx)
    · refine J_aload_n 0 rfl d_CS_lose_22 ?_
      refine J_iconst (v := 1) rfl d_CS_lose_23 ?_
      refine J_callVi (m_CS_finding l g ad _ _) ok_CS_finding rc_71 wi_CS_finding wl_CS_CS_finding wk_CS_140 ⟨rfl, rfl, Nat.le_of_ble_eq_true rfl, Nat.le_of_ble_eq_true rfl⟩ ⟨Nat.zero_le _, Nat.zero_le _⟩ (rest := []) rfl rfl (Nat.le_of_ble_eq_true rfl) d_CS_lose_24 (fun v13 h14 => ?_)
      exact J_iret (Nat.le_refl _) (Nat.le_refl _) d_CS_lose_27 rfl (fun hx => hx)
  · refine J_bipush (v := (-2)) rfl d_CS_lose_7 ?_
    exact J_iret (Nat.le_refl _) (Nat.le_refl _) d_CS_lose_9 rfl (fun hx => hx)
def f_Sh_hasItems (o1 : Nat) (a2 : Int32) (a3 : Int32) (h0 : HP) : Option (Int32 × HP) :=
 (if a2 < 0 then
 some (0, h0)
 else
 (if a3 < 0 then
 some (0, h0)
 else
 ltt (rI h0 o1 2) (fun (v6 : Int32) =>
 (if v6 < a2 then
 some (0, h0)
 else
 ltt (rI h0 o1 2) (fun (v8 : Int32) =>
 (if v8 - a2 < a3 then
 some (0, h0)
 else
 some (1, h0)))))))
set_option maxRecDepth 20000 in
set_option maxHeartbeats 4000000 in
theorem m_Sh_hasItems (l : Launch) (g : GG) (ad : Nat → Nat) (o1 : Nat) (ho1 : o1 ∈ [42, 40, 38, 36]) (a2 : Int32) (a3 : Int32) (h0 : HP) : CM l g ad y_Sh_hasItems b_Sh_hasItems 3 (some .boolean) rm_Sh_hasItems [.ref (ad o1), .int a2, .int a3] h0 enI (f_Sh_hasItems o1 a2 a3 h0) := by
  refine CM.of (by decide) (Nat.le_of_ble_eq_true rfl) (fun Q => ?_)
  show Jj _ _ (Vw (kx_Sh_hasItems l g Q) 0 0 0 _ _ _)
  refine J_sub [0, 1, 2] (lv' := [(0, .ref (ad o1)), (1, .int a2), (2, .int a3)]) rfl ?_
  unfold f_Sh_hasItems
  refine J_iload_n 1 rfl d_Sh_hasItems_0 ?_
  refine J_if_lt 30 rfl d_Sh_hasItems_1 (fun c4 => ?_) (fun c4 => ?_)
  · refine J_iconst (v := 0) rfl d_Sh_hasItems_30 ?_
    exact J_zret (Nat.le_refl _) (Nat.le_refl _) d_Sh_hasItems_31 rfl (zfit (Or.inl rfl)).1 (fun hx => hx)
  · refine J_iload_n 2 rfl d_Sh_hasItems_4 ?_
    refine J_if_lt 30 rfl d_Sh_hasItems_5 (fun c5 => ?_) (fun c5 => ?_)
    · refine J_iconst (v := 0) rfl d_Sh_hasItems_30 ?_
      exact J_zret (Nat.le_refl _) (Nat.le_refl _) d_Sh_hasItems_31 rfl (zfit (Or.inl rfl)).1 (fun hx => hx)
    · refine J_iload_n 1 rfl d_Sh_hasItems_8 ?_
      refine J_aload_n 0 rfl d_Sh_hasItems_9 ?_
      refine P_gI (fo_Sh_19_s42_40_38_36 _ ho1) (fd_s42_40_38_36_2 _ ho1) d_Sh_hasItems_10 (fun v6 => ?_)
      refine J_icmp_gt 30 rfl d_Sh_hasItems_13 (fun c7 => ?_) (fun c7 => ?_)
      · refine J_iconst (v := 0) rfl d_Sh_hasItems_30 ?_
        exact J_zret (Nat.le_refl _) (Nat.le_refl _) d_Sh_hasItems_31 rfl (zfit (Or.inl rfl)).1 (fun hx => hx)
      · refine J_iload_n 2 rfl d_Sh_hasItems_16 ?_
        refine J_aload_n 0 rfl d_Sh_hasItems_17 ?_
        refine P_gI (fo_Sh_19_s42_40_38_36 _ ho1) (fd_s42_40_38_36_2 _ ho1) d_Sh_hasItems_18 (fun v8 => ?_)
        refine J_iload_n 1 rfl d_Sh_hasItems_21 ?_
        refine J_isub d_Sh_hasItems_22 ?_
        refine J_icmp_gt 30 rfl d_Sh_hasItems_23 (fun c9 => ?_) (fun c9 => ?_)
        · refine J_iconst (v := 0) rfl d_Sh_hasItems_30 ?_
          exact J_zret (Nat.le_refl _) (Nat.le_refl _) d_Sh_hasItems_31 rfl (zfit (Or.inl rfl)).1 (fun hx => hx)
        · refine J_iconst (v := 1) rfl d_Sh_hasItems_26 ?_
          refine J_goto 31 rfl d_Sh_hasItems_27 ?_
          exact J_zret (Nat.le_refl _) (Nat.le_refl _) d_Sh_hasItems_31 rfl (zfit (Or.inr rfl)).1 (fun hx => hx)
def f_Sh_whatForbids (o1 : Nat) (a2 : Int32) (a3 : Int32) (h0 : HP) : Option (Int32 × HP) :=
 bd2 (f_Sh_isLost o1 h0) (fun (v4 : Int32) (h5 : HP) =>
 (if v4 = 0 then
 ltt (rI h5 o1 1) (fun (v7 : Int32) =>
 (if v7 = a2 then
 bd2 (f_Sh_hasItems o1 a3 1 h5) (fun (v9 : Int32) (h10 : HP) =>
 (if v9 = 0 then
 some (2, h10)
 else
 some (0, h10)))
 else
 some (3, h5)))
 else
 some (1, h5)))
set_option maxRecDepth 20000 in
set_option maxHeartbeats 4000000 in
theorem m_Sh_whatForbids (l : Launch) (g : GG) (ad : Nat → Nat) (o1 : Nat) (ho1 : o1 ∈ [42, 40, 38, 36]) (a2 : Int32) (a3 : Int32) (h0 : HP) : CM l g ad y_Sh_whatForbids b_Sh_whatForbids 3 (some .int) rm_Sh_whatForbids [.ref (ad o1), .int a2, .int a3] h0 enI (f_Sh_whatForbids o1 a2 a3 h0) := by
  refine CM.of (by decide) (Nat.le_of_ble_eq_true rfl) (fun Q => ?_)
  show Jj _ _ (Vw (kx_Sh_whatForbids l g Q) 0 0 0 _ _ _)
  refine J_sub [0, 1, 2] (lv' := [(0, .ref (ad o1)), (1, .int a2), (2, .int a3)]) rfl ?_
  unfold f_Sh_whatForbids
  refine J_aload_n 0 rfl d_Sh_whatForbids_0 ?_
  refine J_callVi (m_Sh_isLost l g ad o1 ho1 _) ok_Sh_isLost (rc_s42_40_38_36 _ ho1) wi_Sh_isLost wl_Sh_Sh_isLost wk_Sh_28 ⟨rfl, rfl, Nat.le_of_ble_eq_true rfl, Nat.le_of_ble_eq_true rfl⟩ ⟨Nat.zero_le _, Nat.zero_le _⟩ (rest := []) rfl rfl (Nat.le_of_ble_eq_true rfl) d_Sh_whatForbids_1 (fun v4 h5 => ?_)
  refine J_if_eq 9 rfl d_Sh_whatForbids_4 (fun c6 => ?_) (fun c6 => ?_)
  · refine J_aload_n 0 rfl d_Sh_whatForbids_9 ?_
    refine P_gI (fo_Sh_15_s42_40_38_36 _ ho1) (fd_s42_40_38_36_1 _ ho1) d_Sh_whatForbids_10 (fun v7 => ?_)
    refine J_iload_n 1 rfl d_Sh_whatForbids_13 ?_
    refine J_icmp_eq 19 rfl d_Sh_whatForbids_14 (fun c8 => ?_) (fun c8 => ?_)
    · refine J_aload_n 0 rfl d_Sh_whatForbids_19 ?_
      refine J_iload_n 2 rfl d_Sh_whatForbids_20 ?_
      refine J_iconst (v := 1) rfl d_Sh_whatForbids_21 ?_
      refine J_callVi (m_Sh_hasItems l g ad o1 ho1 _ _ _) ok_Sh_hasItems (rc_s42_40_38_36 _ ho1) wi_Sh_hasItems wl_Sh_Sh_hasItems wk_Sh_32 ⟨rfl, rfl, Nat.le_of_ble_eq_true rfl, Nat.le_of_ble_eq_true rfl⟩ ⟨Nat.zero_le _, Nat.zero_le _⟩ (rest := []) rfl rfl (Nat.le_of_ble_eq_true rfl) d_Sh_whatForbids_22 (fun v9 h10 => ?_)
      refine J_if_eq 32 rfl d_Sh_whatForbids_25 (fun c11 => ?_) (fun c11 => ?_)
      · refine J_iconst (v := 2) rfl d_Sh_whatForbids_32 ?_
        exact J_iret (Nat.le_refl _) (Nat.le_refl _) d_Sh_whatForbids_33 rfl (fun hx => hx)
      · refine J_iconst (v := 0) rfl d_Sh_whatForbids_28 ?_
        refine J_goto 33 rfl d_Sh_whatForbids_29 ?_
        exact J_iret (Nat.le_refl _) (Nat.le_refl _) d_Sh_whatForbids_33 rfl (fun hx => hx)
    · refine J_iconst (v := 3) rfl d_Sh_whatForbids_17 ?_
      exact J_iret (Nat.le_refl _) (Nat.le_refl _) d_Sh_whatForbids_18 rfl (fun hx => hx)
  · refine J_iconst (v := 1) rfl d_Sh_whatForbids_7 ?_
    exact J_iret (Nat.le_refl _) (Nat.le_refl _) d_Sh_whatForbids_8 rfl (fun hx => hx)
def f_CS_lowestBits (a1 : Int32) (a2 : Int32) (h0 : HP) : Option (Int32 × HP) :=
 (if a1 = 0 then
 some ((Int32.toInt8 a2).toInt32, h0)
 else
 (if a1 = 1 then
 some ((Int32.toInt16 a2).toInt32, h0)
 else
 some (a2, h0)))
set_option maxRecDepth 20000 in
set_option maxHeartbeats 4000000 in
theorem m_CS_lowestBits (l : Launch) (g : GG) (ad : Nat → Nat) (a1 : Int32) (a2 : Int32) (h0 : HP) : CM l g ad y_CS_lowestBits b_CS_lowestBits 2 (some .int) rm_CS_lowestBits [.int a1, .int a2] h0 enI (f_CS_lowestBits a1 a2 h0) := by
  refine CM.of (by decide) (Nat.le_of_ble_eq_true rfl) (fun Q => ?_)
  show Jj _ _ (Vw (kx_CS_lowestBits l g Q) 0 0 0 _ _ _)
  refine J_sub [0, 1] (lv' := [(0, .int a1), (1, .int a2)]) rfl ?_
  unfold f_CS_lowestBits
  refine J_iload_n 0 rfl d_CS_lowestBits_0 ?_
  refine J_if_ne 7 rfl d_CS_lowestBits_1 (fun c3 => ?_) (fun c3 => ?_)
  · refine J_iload_n 0 rfl d_CS_lowestBits_7 ?_
    refine J_iconst (v := 1) rfl d_CS_lowestBits_8 ?_
    refine J_icmp_ne 17 rfl d_CS_lowestBits_9 (fun c4 => ?_) (fun c4 => ?_)
    · refine J_iload_n 1 rfl d_CS_lowestBits_17 ?_
      exact J_iret (Nat.le_refl _) (Nat.le_refl _) d_CS_lowestBits_18 rfl (fun hx => hx)
    · refine J_iload_n 1 rfl d_CS_lowestBits_12 ?_
      refine J_i2s d_CS_lowestBits_13 ?_
      refine J_goto 18 rfl d_CS_lowestBits_14 ?_
      exact J_iret (Nat.le_refl _) (Nat.le_refl _) d_CS_lowestBits_18 rfl (fun hx => hx)
  · refine J_iload_n 1 rfl d_CS_lowestBits_4 ?_
    refine J_i2b d_CS_lowestBits_5 ?_
    exact J_iret (Nat.le_refl _) (Nat.le_refl _) d_CS_lowestBits_6 rfl (fun hx => hx)
def f_CS_put (a1 : Int32) (a2 : Int32) (a3 : Int32) (a4 : Int32) (h0 : HP) : Option (Int32 × HP) :=
 bd2 (f_CS_isSheet a1 h0) (fun (v5 : Int32) (h6 : HP) =>
 (if v5 = 0 then
 some ((-2), h6)
 else
 bd2 (f_CS_isForm a2 h6) (fun (v8 : Int32) (h9 : HP) =>
 (if v8 = 0 then
 some ((-2), h9)
 else
 ckk (inb a1 4) (ltt (rfx 43 (Int32.toNatClampNeg a1)) (fun (o11 : Nat) =>
 bd2 (f_Sh_whatForbids o11 a2 a3 h9) (fun (v12 : Int32) (h13 : HP) =>
 (if v12 = 0 then
 ckk (inb a1 4) (ltt (rfx 43 (Int32.toNatClampNeg a1)) (fun (o15 : Nat) =>
 ltt (rf1 o15 0) (fun (o16 : Nat) =>
 bd2 (f_CS_lowestBits a2 a4 h13) (fun (v17 : Int32) (h18 : HP) =>
 ckk (inb a3 60) (ltt (wA h18 o16 a3 v17) (fun (h19 : HP) =>
 some (1, h19)))))))
 else
 bd2 (f_CS_finding v12 h13) (fun (v20 : Int32) (h21 : HP) =>
 some (v20, h21))))))))))
set_option maxRecDepth 20000 in
set_option maxHeartbeats 4000000 in
theorem m_CS_put (l : Launch) (g : GG) (ad : Nat → Nat) (a1 : Int32) (a2 : Int32) (a3 : Int32) (a4 : Int32) (h0 : HP) : CM l g ad y_CS_put b_CS_put 6 (some .int) rm_CS_put [.ref (ad 71), .int a1, .int a2, .int a3, .int a4] h0 enI (f_CS_put a1 a2 a3 a4 h0) := by
  refine CM.of (by decide) (Nat.le_of_ble_eq_true rfl) (fun Q => ?_)
  show Jj _ _ (Vw (kx_CS_put l g Q) 0 0 0 _ _ _)
  refine J_sub [0, 1, 2, 3, 4] (lv' := [(0, .ref (ad 71)), (1, .int a1), (2, .int a2), (3, .int a3), (4, .int a4)]) rfl ?_
  unfold f_CS_put
  refine J_iload_n 1 rfl d_CS_put_0 ?_
  refine J_callSi (m_CS_isSheet l g ad _ _) ok_CS_isSheet ws_CS_isSheet wk_CS_133 ⟨rfl, rfl, Nat.le_of_ble_eq_true rfl, Nat.le_of_ble_eq_true rfl⟩ ⟨Nat.zero_le _, Nat.zero_le _⟩ (rest := []) rfl rfl (Nat.le_of_ble_eq_true rfl) d_CS_put_1 (fun v5 h6 => ?_)
  refine J_if_eq 14 rfl d_CS_put_4 (fun c7 => ?_) (fun c7 => ?_)
  · refine J_bipush (v := (-2)) rfl d_CS_put_14 ?_
    exact J_iret (Nat.le_refl _) (Nat.le_refl _) d_CS_put_16 rfl (fun hx => hx)
  · refine J_iload_n 2 rfl d_CS_put_7 ?_
    refine J_callSi (m_CS_isForm l g ad _ _) ok_CS_isForm ws_CS_isForm wk_CS_236 ⟨rfl, rfl, Nat.le_of_ble_eq_true rfl, Nat.le_of_ble_eq_true rfl⟩ ⟨Nat.zero_le _, Nat.zero_le _⟩ (rest := []) rfl rfl (Nat.le_of_ble_eq_true rfl) d_CS_put_8 (fun v8 h9 => ?_)
    refine J_if_ne 17 rfl d_CS_put_11 (fun c10 => ?_) (fun c10 => ?_)
    · refine J_aload_n 0 rfl d_CS_put_17 ?_
      refine J_getR fo_CS_74_71 rfl d_CS_put_18 ?_
      refine J_iload_n 1 rfl d_CS_put_21 ?_
      refine P_aaS rx_43 (by decide) rfl rfl d_CS_put_22 (fun o11 ho11 => ?_)
      refine J_iload_n 2 rfl d_CS_put_23 ?_
      refine J_iload_n 3 rfl d_CS_put_24 ?_
      refine J_callVi (m_Sh_whatForbids l g ad o11 ho11 _ _ _) ok_Sh_whatForbids (rc_s42_40_38_36 _ ho11) wi_Sh_whatForbids wl_Sh_Sh_whatForbids wk_CS_242 ⟨rfl, rfl, Nat.le_of_ble_eq_true rfl, Nat.le_of_ble_eq_true rfl⟩ ⟨Nat.zero_le _, Nat.zero_le _⟩ (rest := []) rfl rfl (Nat.le_of_ble_eq_true rfl) d_CS_put_25 (fun v12 h13 => ?_)
      refine J_istore (lv' := [(5, .int v12), (0, .ref (ad 71)), (1, .int a1), (2, .int a2), (3, .int a3), (4, .int a4)]) (Nat.le_of_ble_eq_true rfl) rfl d_CS_put_28 ?_
      refine J_iload 0 rfl d_CS_put_30 ?_
      refine J_if_eq 42 rfl d_CS_put_32 (fun c14 => ?_) (fun c14 => ?_)
      · refine J_aload_n 1 rfl d_CS_put_42 ?_
        refine J_getR fo_CS_74_71 rfl d_CS_put_43 ?_
        refine J_iload_n 2 rfl d_CS_put_46 ?_
        refine P_aaS rx_43 (by decide) rfl rfl d_CS_put_47 (fun o15 ho15 => ?_)
        refine P_gRv (rm_s42_40_38_36_0 _ ho15) (fo_CS_144_s42_40_38_36 _ ho15) (fd_s42_40_38_36_0 _ ho15) d_CS_put_48 (fun o16 ho16 => ?_)
        refine J_iload_n 4 rfl d_CS_put_51 ?_
        refine J_iload_n 3 rfl d_CS_put_52 ?_
        refine J_iload 5 rfl d_CS_put_53 ?_
        refine J_callSi (m_CS_lowestBits l g ad _ _ _) ok_CS_lowestBits ws_CS_lowestBits wk_CS_245 ⟨rfl, rfl, Nat.le_of_ble_eq_true rfl, Nat.le_of_ble_eq_true rfl⟩ ⟨Nat.zero_le _, Nat.zero_le _⟩ (rest := [.int a3, .ref (ad o16)]) rfl rfl (Nat.le_of_ble_eq_true rfl) d_CS_put_55 (fun v17 h18 => ?_)
        refine P_wa (al_s41_39_37_35 _ ho16) (ak_s41_39_37_35 _ ho16) (an_s41_39_37_35 _ ho16) d_CS_put_58 (fun h19 => ?_)
        refine J_iconst (v := 1) rfl d_CS_put_59 ?_
        exact J_iret (Nat.le_refl _) (Nat.le_refl _) d_CS_put_60 rfl (fun hx => hx)
      · refine J_aload_n 1 rfl d_CS_put_35 ?_
        refine J_iload 0 rfl d_CS_put_36 ?_
        refine J_callVi (m_CS_finding l g ad _ _) ok_CS_finding rc_71 wi_CS_finding wl_CS_CS_finding wk_CS_140 ⟨rfl, rfl, Nat.le_of_ble_eq_true rfl, Nat.le_of_ble_eq_true rfl⟩ ⟨Nat.zero_le _, Nat.zero_le _⟩ (rest := []) rfl rfl (Nat.le_of_ble_eq_true rfl) d_CS_put_38 (fun v20 h21 => ?_)
        exact J_iret (Nat.le_refl _) (Nat.le_refl _) d_CS_put_41 rfl (fun hx => hx)
    · refine J_bipush (v := (-2)) rfl d_CS_put_14 ?_
      exact J_iret (Nat.le_refl _) (Nat.le_refl _) d_CS_put_16 rfl (fun hx => hx)
def f_CS_get (a1 : Int32) (a2 : Int32) (a3 : Int32) (h0 : HP) : Option (Int32 × HP) :=
 bd2 (f_CS_isSheet a1 h0) (fun (v4 : Int32) (h5 : HP) =>
 (if v4 = 0 then
 some ((-2147483648), h5)
 else
 bd2 (f_CS_isForm a2 h5) (fun (v7 : Int32) (h8 : HP) =>
 (if v7 = 0 then
 some ((-2147483648), h8)
 else
 ckk (inb a1 4) (ltt (rfx 43 (Int32.toNatClampNeg a1)) (fun (o10 : Nat) =>
 bd2 (f_Sh_whatForbids o10 a2 a3 h8) (fun (v11 : Int32) (h12 : HP) =>
 (if v11 = 0 then
 ckk (inb a1 4) (ltt (rfx 43 (Int32.toNatClampNeg a1)) (fun (o14 : Nat) =>
 ltt (rf1 o14 0) (fun (o15 : Nat) =>
 ckk (inb a3 60) (ltt (rA h12 o15 a3) (fun (v16 : Int32) =>
 some (v16, h12))))))
 else
 ltt (sI h12 71 10 v11) (fun (h17 : HP) =>
 some ((-2147483648), h17))))))))))
set_option maxRecDepth 20000 in
set_option maxHeartbeats 4000000 in
theorem m_CS_get (l : Launch) (g : GG) (ad : Nat → Nat) (a1 : Int32) (a2 : Int32) (a3 : Int32) (h0 : HP) : CM l g ad y_CS_get b_CS_get 5 (some .int) rm_CS_get [.ref (ad 71), .int a1, .int a2, .int a3] h0 enI (f_CS_get a1 a2 a3 h0) := by
  refine CM.of (by decide) (Nat.le_of_ble_eq_true rfl) (fun Q => ?_)
  show Jj _ _ (Vw (kx_CS_get l g Q) 0 0 0 _ _ _)
  refine J_sub [0, 1, 2, 3] (lv' := [(0, .ref (ad 71)), (1, .int a1), (2, .int a2), (3, .int a3)]) rfl ?_
  unfold f_CS_get
  refine J_iload_n 1 rfl d_CS_get_0 ?_
  refine J_callSi (m_CS_isSheet l g ad _ _) ok_CS_isSheet ws_CS_isSheet wk_CS_133 ⟨rfl, rfl, Nat.le_of_ble_eq_true rfl, Nat.le_of_ble_eq_true rfl⟩ ⟨Nat.zero_le _, Nat.zero_le _⟩ (rest := []) rfl rfl (Nat.le_of_ble_eq_true rfl) d_CS_get_1 (fun v4 h5 => ?_)
  refine J_if_eq 14 rfl d_CS_get_4 (fun c6 => ?_) (fun c6 => ?_)
  · refine J_ldc (v := (-2147483648)) kc_CS_248 d_CS_get_14 ?_
    exact J_iret (Nat.le_refl _) (Nat.le_refl _) d_CS_get_16 rfl (fun hx => hx)
  · refine J_iload_n 2 rfl d_CS_get_7 ?_
    refine J_callSi (m_CS_isForm l g ad _ _) ok_CS_isForm ws_CS_isForm wk_CS_236 ⟨rfl, rfl, Nat.le_of_ble_eq_true rfl, Nat.le_of_ble_eq_true rfl⟩ ⟨Nat.zero_le _, Nat.zero_le _⟩ (rest := []) rfl rfl (Nat.le_of_ble_eq_true rfl) d_CS_get_8 (fun v7 h8 => ?_)
    refine J_if_ne 17 rfl d_CS_get_11 (fun c9 => ?_) (fun c9 => ?_)
    · refine J_aload_n 0 rfl d_CS_get_17 ?_
      refine J_getR fo_CS_74_71 rfl d_CS_get_18 ?_
      refine J_iload_n 1 rfl d_CS_get_21 ?_
      refine P_aaS rx_43 (by decide) rfl rfl d_CS_get_22 (fun o10 ho10 => ?_)
      refine J_iload_n 2 rfl d_CS_get_23 ?_
      refine J_iload_n 3 rfl d_CS_get_24 ?_
      refine J_callVi (m_Sh_whatForbids l g ad o10 ho10 _ _ _) ok_Sh_whatForbids (rc_s42_40_38_36 _ ho10) wi_Sh_whatForbids wl_Sh_Sh_whatForbids wk_CS_242 ⟨rfl, rfl, Nat.le_of_ble_eq_true rfl, Nat.le_of_ble_eq_true rfl⟩ ⟨Nat.zero_le _, Nat.zero_le _⟩ (rest := []) rfl rfl (Nat.le_of_ble_eq_true rfl) d_CS_get_25 (fun v11 h12 => ?_)
      refine J_istore (lv' := [(4, .int v11), (0, .ref (ad 71)), (1, .int a1), (2, .int a2), (3, .int a3)]) (Nat.le_of_ble_eq_true rfl) rfl d_CS_get_28 ?_
      refine J_iload 0 rfl d_CS_get_30 ?_
      refine J_if_eq 44 rfl d_CS_get_32 (fun c13 => ?_) (fun c13 => ?_)
      · refine J_aload_n 1 rfl d_CS_get_44 ?_
        refine J_getR fo_CS_74_71 rfl d_CS_get_45 ?_
        refine J_iload_n 2 rfl d_CS_get_48 ?_
        refine P_aaS rx_43 (by decide) rfl rfl d_CS_get_49 (fun o14 ho14 => ?_)
        refine P_gRv (rm_s42_40_38_36_0 _ ho14) (fo_CS_144_s42_40_38_36 _ ho14) (fd_s42_40_38_36_0 _ ho14) d_CS_get_50 (fun o15 ho15 => ?_)
        refine J_iload_n 4 rfl d_CS_get_53 ?_
        refine P_ia (al_s41_39_37_35 _ ho15) (ak_s41_39_37_35 _ ho15) (an_s41_39_37_35 _ ho15) d_CS_get_54 (fun v16 => ?_)
        exact J_iret (Nat.le_refl _) (Nat.le_refl _) d_CS_get_55 rfl (fun hx => hx)
      · refine J_aload_n 1 rfl d_CS_get_35 ?_
        refine J_iload 0 rfl d_CS_get_36 ?_
        refine P_wI fo_CS_249_71 rfl d_CS_get_38 (fun h17 => ?_)
        refine J_ldc (v := (-2147483648)) kc_CS_248 d_CS_get_41 ?_
        exact J_iret (Nat.le_refl _) (Nat.le_refl _) d_CS_get_43 rfl (fun hx => hx)
    · refine J_ldc (v := (-2147483648)) kc_CS_248 d_CS_get_14 ?_
      exact J_iret (Nat.le_refl _) (Nat.le_refl _) d_CS_get_16 rfl (fun hx => hx)
def f_CS_copy (a1 : Int32) (a2 : Int32) (a3 : Int32) (a4 : Int32) (a5 : Int32) (h0 : HP) : Option (Int32 × HP) :=
 bd2 (f_CS_isSheet a1 h0) (fun (v6 : Int32) (h7 : HP) =>
 (if v6 = 0 then
 some ((-2), h7)
 else
 bd2 (f_CS_isSheet a3 h7) (fun (v9 : Int32) (h10 : HP) =>
 (if v9 = 0 then
 some ((-2), h10)
 else
 ckk (inb a1 4) (ltt (rfx 43 (Int32.toNatClampNeg a1)) (fun (o12 : Nat) =>
 ckk (inb a3 4) (ltt (rfx 43 (Int32.toNatClampNeg a3)) (fun (o13 : Nat) =>
 bd2 (f_Sh_isLost o12 h10) (fun (v14 : Int32) (h15 : HP) =>
 (if v14 = 0 then
 bd2 (f_Sh_isLost o13 h15) (fun (v19 : Int32) (h20 : HP) =>
 (if v19 = 0 then
 ltt (rI h20 o12 1) (fun (v22 : Int32) =>
 ltt (rI h20 o13 1) (fun (v23 : Int32) =>
 (if v22 = v23 then
 bd2 (f_Sh_hasItems o12 a2 a5 h20) (fun (v25 : Int32) (h26 : HP) =>
 (if v25 = 0 then
 bd2 (f_CS_finding 2 h26) (fun (v28 : Int32) (h29 : HP) =>
 some (v28, h29))
 else
 bd2 (f_Sh_hasItems o13 a4 a5 h26) (fun (v30 : Int32) (h31 : HP) =>
 (if v30 = 0 then
 bd2 (f_CS_finding 2 h31) (fun (v36 : Int32) (h37 : HP) =>
 some (v36, h37))
 else
 ltt (rf1 o12 0) (fun (o33 : Nat) =>
 ltt (rf1 o13 0) (fun (o34 : Nat) =>
 ckk (cpk a2 a4 a5 60 60) (ltt (wC h31 o33 o34 a2 a4 a5) (fun (h35 : HP) =>
 some (1, h35)))))))))
 else
 bd2 (f_CS_finding 4 h20) (fun (v38 : Int32) (h39 : HP) =>
 some (v38, h39)))))
 else
 bd2 (f_CS_finding 1 h20) (fun (v40 : Int32) (h41 : HP) =>
 some (v40, h41))))
 else
 bd2 (f_CS_finding 1 h15) (fun (v17 : Int32) (h18 : HP) =>
 some (v17, h18))))))))))))
set_option maxRecDepth 20000 in
set_option maxHeartbeats 4000000 in
theorem m_CS_copy (l : Launch) (g : GG) (ad : Nat → Nat) (a1 : Int32) (a2 : Int32) (a3 : Int32) (a4 : Int32) (a5 : Int32) (h0 : HP) : CM l g ad y_CS_copy b_CS_copy 8 (some .int) rm_CS_copy [.ref (ad 71), .int a1, .int a2, .int a3, .int a4, .int a5] h0 enI (f_CS_copy a1 a2 a3 a4 a5 h0) := by
  refine CM.of (by decide) (Nat.le_of_ble_eq_true rfl) (fun Q => ?_)
  show Jj _ _ (Vw (kx_CS_copy l g Q) 0 0 0 _ _ _)
  refine J_sub [0, 1, 2, 3, 4, 5] (lv' := [(0, .ref (ad 71)), (1, .int a1), (2, .int a2), (3, .int a3), (4, .int a4), (5, .int a5)]) rfl ?_
  unfold f_CS_copy
  refine J_iload_n 1 rfl d_CS_copy_0 ?_
  refine J_callSi (m_CS_isSheet l g ad _ _) ok_CS_isSheet ws_CS_isSheet wk_CS_133 ⟨rfl, rfl, Nat.le_of_ble_eq_true rfl, Nat.le_of_ble_eq_true rfl⟩ ⟨Nat.zero_le _, Nat.zero_le _⟩ (rest := []) rfl rfl (Nat.le_of_ble_eq_true rfl) d_CS_copy_1 (fun v6 h7 => ?_)
  refine J_if_eq 14 rfl d_CS_copy_4 (fun c8 => ?_) (fun c8 => ?_)
  · refine J_bipush (v := (-2)) rfl d_CS_copy_14 ?_
    exact J_iret (Nat.le_refl _) (Nat.le_refl _) d_CS_copy_16 rfl (fun hx => hx)
  · refine J_iload_n 3 rfl d_CS_copy_7 ?_
    refine J_callSi (m_CS_isSheet l g ad _ _) ok_CS_isSheet ws_CS_isSheet wk_CS_133 ⟨rfl, rfl, Nat.le_of_ble_eq_true rfl, Nat.le_of_ble_eq_true rfl⟩ ⟨Nat.zero_le _, Nat.zero_le _⟩ (rest := []) rfl rfl (Nat.le_of_ble_eq_true rfl) d_CS_copy_8 (fun v9 h10 => ?_)
    refine J_if_ne 17 rfl d_CS_copy_11 (fun c11 => ?_) (fun c11 => ?_)
    · refine J_aload_n 0 rfl d_CS_copy_17 ?_
      refine J_getR fo_CS_74_71 rfl d_CS_copy_18 ?_
      refine J_iload_n 1 rfl d_CS_copy_21 ?_
      refine P_aaS rx_43 (by decide) rfl rfl d_CS_copy_22 (fun o12 ho12 => ?_)
      refine J_astore (lv' := [(6, .ref (ad o12)), (0, .ref (ad 71)), (1, .int a1), (2, .int a2), (3, .int a3), (4, .int a4), (5, .int a5)]) (Nat.le_of_ble_eq_true rfl) rfl d_CS_copy_23 ?_
      refine J_aload_n 1 rfl d_CS_copy_25 ?_
      refine J_getR fo_CS_74_71 rfl d_CS_copy_26 ?_
      refine J_iload_n 4 rfl d_CS_copy_29 ?_
      refine P_aaS rx_43 (by decide) rfl rfl d_CS_copy_30 (fun o13 ho13 => ?_)
      refine J_astore (lv' := [(7, .ref (ad o13)), (6, .ref (ad o12)), (0, .ref (ad 71)), (1, .int a1), (2, .int a2), (3, .int a3), (4, .int a4), (5, .int a5)]) (Nat.le_of_ble_eq_true rfl) rfl d_CS_copy_31 ?_
      refine J_aload 1 rfl d_CS_copy_33 ?_
      refine J_callVi (m_Sh_isLost l g ad o12 ho12 _) ok_Sh_isLost (rc_s42_40_38_36 _ ho12) wi_Sh_isLost wl_Sh_Sh_isLost wk_CS_136 ⟨rfl, rfl, Nat.le_of_ble_eq_true rfl, Nat.le_of_ble_eq_true rfl⟩ ⟨Nat.zero_le _, Nat.zero_le _⟩ (rest := []) rfl rfl (Nat.le_of_ble_eq_true rfl) d_CS_copy_35 (fun v14 h15 => ?_)
      refine J_if_ne 49 rfl d_CS_copy_38 (fun c16 => ?_) (fun c16 => ?_)
      · refine J_aload_n 2 rfl d_CS_copy_49 ?_
        refine J_iconst (v := 1) rfl d_CS_copy_50 ?_
        refine J_callVi (m_CS_finding l g ad _ _) ok_CS_finding rc_71 wi_CS_finding wl_CS_CS_finding wk_CS_140 ⟨rfl, rfl, Nat.le_of_ble_eq_true rfl, Nat.le_of_ble_eq_true rfl⟩ ⟨Nat.zero_le _, Nat.zero_le _⟩ (rest := []) rfl rfl (Nat.le_of_ble_eq_true rfl) d_CS_copy_51 (fun v17 h18 => ?_)
        exact J_iret (Nat.le_refl _) (Nat.le_refl _) d_CS_copy_54 rfl (fun hx => hx)
      · refine J_aload 0 rfl d_CS_copy_41 ?_
        refine J_callVi (m_Sh_isLost l g ad o13 ho13 _) ok_Sh_isLost (rc_s42_40_38_36 _ ho13) wi_Sh_isLost wl_Sh_Sh_isLost wk_CS_136 ⟨rfl, rfl, Nat.le_of_ble_eq_true rfl, Nat.le_of_ble_eq_true rfl⟩ ⟨Nat.zero_le _, Nat.zero_le _⟩ (rest := []) rfl rfl (Nat.le_of_ble_eq_true rfl) d_CS_copy_43 (fun v19 h20 => ?_)
        refine J_if_eq 55 rfl d_CS_copy_46 (fun c21 => ?_) (fun c21 => ?_)
        · refine J_aload 1 rfl d_CS_copy_55 ?_
          refine P_gI (fo_CS_252_s42_40_38_36 _ ho12) (fd_s42_40_38_36_1 _ ho12) d_CS_copy_57 (fun v22 => ?_)
          refine J_aload 0 rfl d_CS_copy_60 ?_
          refine P_gI (fo_CS_252_s42_40_38_36 _ ho13) (fd_s42_40_38_36_1 _ ho13) d_CS_copy_62 (fun v23 => ?_)
          refine J_icmp_eq 74 rfl d_CS_copy_65 (fun c24 => ?_) (fun c24 => ?_)
          · refine J_aload 1 rfl d_CS_copy_74 ?_
            refine J_iload_n 4 rfl d_CS_copy_76 ?_
            refine J_iload 7 rfl d_CS_copy_77 ?_
            refine J_callVi (m_Sh_hasItems l g ad o12 ho12 _ _ _) ok_Sh_hasItems (rc_s42_40_38_36 _ ho12) wi_Sh_hasItems wl_Sh_Sh_hasItems wk_CS_255 ⟨rfl, rfl, Nat.le_of_ble_eq_true rfl, Nat.le_of_ble_eq_true rfl⟩ ⟨Nat.zero_le _, Nat.zero_le _⟩ (rest := []) rfl rfl (Nat.le_of_ble_eq_true rfl) d_CS_copy_79 (fun v25 h26 => ?_)
            refine J_if_eq 97 rfl d_CS_copy_82 (fun c27 => ?_) (fun c27 => ?_)
            · refine J_aload_n 2 rfl d_CS_copy_97 ?_
              refine J_iconst (v := 2) rfl d_CS_copy_98 ?_
              refine J_callVi (m_CS_finding l g ad _ _) ok_CS_finding rc_71 wi_CS_finding wl_CS_CS_finding wk_CS_140 ⟨rfl, rfl, Nat.le_of_ble_eq_true rfl, Nat.le_of_ble_eq_true rfl⟩ ⟨Nat.zero_le _, Nat.zero_le _⟩ (rest := []) rfl rfl (Nat.le_of_ble_eq_true rfl) d_CS_copy_99 (fun v28 h29 => ?_)
              exact J_iret (Nat.le_refl _) (Nat.le_refl _) d_CS_copy_102 rfl (fun hx => hx)
            · refine J_aload 0 rfl d_CS_copy_85 ?_
              refine J_iload 6 rfl d_CS_copy_87 ?_
              refine J_iload 7 rfl d_CS_copy_89 ?_
              refine J_callVi (m_Sh_hasItems l g ad o13 ho13 _ _ _) ok_Sh_hasItems (rc_s42_40_38_36 _ ho13) wi_Sh_hasItems wl_Sh_Sh_hasItems wk_CS_255 ⟨rfl, rfl, Nat.le_of_ble_eq_true rfl, Nat.le_of_ble_eq_true rfl⟩ ⟨Nat.zero_le _, Nat.zero_le _⟩ (rest := []) rfl rfl (Nat.le_of_ble_eq_true rfl) d_CS_copy_91 (fun v30 h31 => ?_)
              refine J_if_ne 103 rfl d_CS_copy_94 (fun c32 => ?_) (fun c32 => ?_)
              · refine J_aload 1 rfl d_CS_copy_103 ?_
                refine P_gRv (rm_s42_40_38_36_0 _ ho12) (fo_CS_144_s42_40_38_36 _ ho12) (fd_s42_40_38_36_0 _ ho12) d_CS_copy_105 (fun o33 ho33 => ?_)
                refine J_iload_n 4 rfl d_CS_copy_108 ?_
                refine J_aload 0 rfl d_CS_copy_109 ?_
                refine P_gRv (rm_s42_40_38_36_0 _ ho13) (fo_CS_144_s42_40_38_36 _ ho13) (fd_s42_40_38_36_0 _ ho13) d_CS_copy_111 (fun o34 ho34 => ?_)
                refine J_iload 6 rfl d_CS_copy_114 ?_
                refine J_iload 7 rfl d_CS_copy_116 ?_
                refine J_copy wk_CS_258 wn_copy.1 wn_copy.2.1 wn_copy.2.2 (al_s41_39_37_35 _ ho33) (ak_s41_39_37_35 _ ho33) (an_s41_39_37_35 _ ho33) (al_s41_39_37_35 _ ho34) (ak_s41_39_37_35 _ ho34) (an_s41_39_37_35 _ ho34) (Nat.le_of_ble_eq_true rfl) (Nat.le_of_ble_eq_true rfl) d_CS_copy_118 ?_
                refine J_hp (fun h35 => ?_)
                refine J_iconst (v := 1) rfl d_CS_copy_121 ?_
                exact J_iret (Nat.le_refl _) (Nat.le_refl _) d_CS_copy_122 rfl (fun hx => hx)
              · refine J_aload_n 2 rfl d_CS_copy_97 ?_
                refine J_iconst (v := 2) rfl d_CS_copy_98 ?_
                refine J_callVi (m_CS_finding l g ad _ _) ok_CS_finding rc_71 wi_CS_finding wl_CS_CS_finding wk_CS_140 ⟨rfl, rfl, Nat.le_of_ble_eq_true rfl, Nat.le_of_ble_eq_true rfl⟩ ⟨Nat.zero_le _, Nat.zero_le _⟩ (rest := []) rfl rfl (Nat.le_of_ble_eq_true rfl) d_CS_copy_99 (fun v36 h37 => ?_)
                exact J_iret (Nat.le_refl _) (Nat.le_refl _) d_CS_copy_102 rfl (fun hx => hx)
          · refine J_aload_n 2 rfl d_CS_copy_68 ?_
            refine J_iconst (v := 4) rfl d_CS_copy_69 ?_
            refine J_callVi (m_CS_finding l g ad _ _) ok_CS_finding rc_71 wi_CS_finding wl_CS_CS_finding wk_CS_140 ⟨rfl, rfl, Nat.le_of_ble_eq_true rfl, Nat.le_of_ble_eq_true rfl⟩ ⟨Nat.zero_le _, Nat.zero_le _⟩ (rest := []) rfl rfl (Nat.le_of_ble_eq_true rfl) d_CS_copy_70 (fun v38 h39 => ?_)
            exact J_iret (Nat.le_refl _) (Nat.le_refl _) d_CS_copy_73 rfl (fun hx => hx)
        · refine J_aload_n 2 rfl d_CS_copy_49 ?_
          refine J_iconst (v := 1) rfl d_CS_copy_50 ?_
          refine J_callVi (m_CS_finding l g ad _ _) ok_CS_finding rc_71 wi_CS_finding wl_CS_CS_finding wk_CS_140 ⟨rfl, rfl, Nat.le_of_ble_eq_true rfl, Nat.le_of_ble_eq_true rfl⟩ ⟨Nat.zero_le _, Nat.zero_le _⟩ (rest := []) rfl rfl (Nat.le_of_ble_eq_true rfl) d_CS_copy_51 (fun v40 h41 => ?_)
          exact J_iret (Nat.le_refl _) (Nat.le_refl _) d_CS_copy_54 rfl (fun hx => hx)
    · refine J_bipush (v := (-2)) rfl d_CS_copy_14 ?_
      exact J_iret (Nat.le_refl _) (Nat.le_refl _) d_CS_copy_16 rfl (fun hx => hx)
def lp_CS_write_62 (v14 : Int32) (o9 : Nat) (a1 : Int32) (a2 : Int32) : Nat → Int32 → HP → Option (Int32 × HP)
 | 0, _, _ => none
 | fu + 1, v16, h17 =>
 (if v14 ≤ v16 then
 some (v16, h17)
 else
 ltt (rf1 o9 0) (fun (o19 : Nat) =>
 ltt (rI h17 o9 1) (fun (v20 : Int32) =>
 bd2 (f_Wa_behind v16 1 h17) (fun (v21 : Int32) (h22 : HP) =>
 bd2 (f_CS_lowestBits v20 v21 h22) (fun (v23 : Int32) (h24 : HP) =>
 ckk (inb v16 60) (ltt (wA h24 o19 v16 v23) (fun (h25 : HP) =>
 ltt (v16 + 1) (fun (v26 : Int32) =>
 lp_CS_write_62 v14 o9 a1 a2 fu v26 h25))))))))
def f_CS_write (a1 : Int32) (a2 : Int32) (h0 : HP) : Option (Int32 × HP) :=
 bd2 (f_CS_isCamel a1 h0) (fun (v3 : Int32) (h4 : HP) =>
 (if v3 = 0 then
 some ((-2), h4)
 else
 bd2 (f_CS_isSheet a2 h4) (fun (v6 : Int32) (h7 : HP) =>
 (if v6 = 0 then
 some ((-2), h7)
 else
 ckk (inb a2 4) (ltt (rfx 43 (Int32.toNatClampNeg a2)) (fun (o9 : Nat) =>
 bd2 (f_Sh_isLost o9 h7) (fun (v10 : Int32) (h11 : HP) =>
 (if v10 = 0 then
 ltt (rI h11 o9 2) (fun (v13 : Int32) =>
 ltt (mnI v13 24) (fun (v14 : Int32) =>
 bd1 (f_Cv_march a1 h11) (fun (h15 : HP) =>
 bd2 (lp_CS_write_62 v14 o9 a1 a2 400 0 h15) (fun (v27 : Int32) (h28 : HP) =>
 some (v14, h28)))))
 else
 bd2 (f_CS_finding 1 h11) (fun (v29 : Int32) (h30 : HP) =>
 some (v29, h30))))))))))
set_option maxRecDepth 20000 in
set_option maxHeartbeats 4000000 in
theorem mlp_CS_write_62 (l : Launch) (g : GG) (ad : Nat → Nat) (Q : Option Value → va_W → Prop) (v14 : Int32) (o9 : Nat) (a1 : Int32) (a2 : Int32) (ho9 : o9 ∈ [42, 40, 38, 36]) : ∀ (fu : Nat) (v16 : Int32) (h17 : HP), Jj (fun q : Int32 × HP => Vw (kx_CS_write l g Q) 0 0 97 [(6, .int (q.1)), (5, .ref (ad 53)), (4, .int v14), (3, .ref (ad o9)), (0, .ref (ad 71)), (1, .int a1), (2, .int a2)] [] (pic g ad q.2)) (lp_CS_write_62 v14 o9 a1 a2 fu v16 h17) (Vw (kx_CS_write l g Q) 0 0 62 [(6, .int v16), (5, .ref (ad 53)), (4, .int v14), (3, .ref (ad o9)), (0, .ref (ad 71)), (1, .int a1), (2, .int a2)] [] (pic g ad h17)) := by
  intro fu
  induction fu with
  | zero =>
    intro v16 h17
    exact J_none
  | succ fu ih =>
    intro v16 h17
    rw [lp_CS_write_62]
    refine J_iload 0 rfl d_CS_write_62 ?_
    refine J_iload 2 rfl d_CS_write_64 ?_
    refine J_icmp_ge 97 rfl d_CS_write_66 (fun c18 => ?_) (fun c18 => ?_)
    · exact J_exit [0, 1, 2, 3, 4, 5, 6] rfl (fun hx => hx)
    · refine J_aload_n 3 rfl d_CS_write_69 ?_
      refine P_gRv (rm_s42_40_38_36_0 _ ho9) (fo_CS_144_s42_40_38_36 _ ho9) (fd_s42_40_38_36_0 _ ho9) d_CS_write_70 (fun o19 ho19 => ?_)
      refine J_iload 0 rfl d_CS_write_73 ?_
      refine J_aload_n 3 rfl d_CS_write_75 ?_
      refine P_gI (fo_CS_252_s42_40_38_36 _ ho9) (fd_s42_40_38_36_1 _ ho9) d_CS_write_76 (fun v20 => ?_)
      refine J_aload 1 rfl d_CS_write_79 ?_
      refine J_iload 0 rfl d_CS_write_81 ?_
      refine J_iconst (v := 1) rfl d_CS_write_83 ?_
      refine J_callVi (m_Wa_behind l g ad _ _ _) ok_Wa_behind rc_53 wi_Wa_behind wl_Wa_Wa_behind wk_CS_155 ⟨rfl, rfl, Nat.le_of_ble_eq_true rfl, Nat.le_of_ble_eq_true rfl⟩ ⟨Nat.zero_le _, Nat.zero_le _⟩ (rest := [.int v20, .int v16, .ref (ad o19)]) rfl rfl (Nat.le_of_ble_eq_true rfl) d_CS_write_84 (fun v21 h22 => ?_)
      refine J_callSi (m_CS_lowestBits l g ad _ _ _) ok_CS_lowestBits ws_CS_lowestBits wk_CS_245 ⟨rfl, rfl, Nat.le_of_ble_eq_true rfl, Nat.le_of_ble_eq_true rfl⟩ ⟨Nat.zero_le _, Nat.zero_le _⟩ (rest := [.int v16, .ref (ad o19)]) rfl rfl (Nat.le_of_ble_eq_true rfl) d_CS_write_87 (fun v23 h24 => ?_)
      refine P_wa (al_s41_39_37_35 _ ho19) (ak_s41_39_37_35 _ ho19) (an_s41_39_37_35 _ ho19) d_CS_write_90 (fun h25 => ?_)
      refine P_inc (w := 1) (lv' := fun v26 => [(6, .int v26), (5, .ref (ad 53)), (4, .int v14), (3, .ref (ad o9)), (0, .ref (ad 71)), (1, .int a1), (2, .int a2)]) 0 rfl rfl (Nat.le_of_ble_eq_true rfl) (fun _ => rfl) d_CS_write_91 (fun v26 => ?_)
      refine J_goto 62 rfl d_CS_write_94 ?_
      exact J_sub [0, 1, 2, 3, 4, 5, 6] rfl (ih _ _)
set_option maxRecDepth 20000 in
set_option maxHeartbeats 4000000 in
theorem m_CS_write (l : Launch) (g : GG) (ad : Nat → Nat) (a1 : Int32) (a2 : Int32) (h0 : HP) : CM l g ad y_CS_write b_CS_write 7 (some .int) rm_CS_write [.ref (ad 71), .int a1, .int a2] h0 enI (f_CS_write a1 a2 h0) := by
  refine CM.of (by decide) (Nat.le_of_ble_eq_true rfl) (fun Q => ?_)
  show Jj _ _ (Vw (kx_CS_write l g Q) 0 0 0 _ _ _)
  refine J_sub [0, 1, 2] (lv' := [(0, .ref (ad 71)), (1, .int a1), (2, .int a2)]) rfl ?_
  unfold f_CS_write
  refine J_aload_n 0 rfl d_CS_write_0 ?_
  refine J_iload_n 1 rfl d_CS_write_1 ?_
  refine J_callVi (m_CS_isCamel l g ad _ _) ok_CS_isCamel rc_71 wi_CS_isCamel wl_CS_CS_isCamel wk_CS_96 ⟨rfl, rfl, Nat.le_of_ble_eq_true rfl, Nat.le_of_ble_eq_true rfl⟩ ⟨Nat.zero_le _, Nat.zero_le _⟩ (rest := []) rfl rfl (Nat.le_of_ble_eq_true rfl) d_CS_write_2 (fun v3 h4 => ?_)
  refine J_if_eq 15 rfl d_CS_write_5 (fun c5 => ?_) (fun c5 => ?_)
  · refine J_bipush (v := (-2)) rfl d_CS_write_15 ?_
    exact J_iret (Nat.le_refl _) (Nat.le_refl _) d_CS_write_17 rfl (fun hx => hx)
  · refine J_iload_n 2 rfl d_CS_write_8 ?_
    refine J_callSi (m_CS_isSheet l g ad _ _) ok_CS_isSheet ws_CS_isSheet wk_CS_133 ⟨rfl, rfl, Nat.le_of_ble_eq_true rfl, Nat.le_of_ble_eq_true rfl⟩ ⟨Nat.zero_le _, Nat.zero_le _⟩ (rest := []) rfl rfl (Nat.le_of_ble_eq_true rfl) d_CS_write_9 (fun v6 h7 => ?_)
    refine J_if_ne 18 rfl d_CS_write_12 (fun c8 => ?_) (fun c8 => ?_)
    · refine J_aload_n 0 rfl d_CS_write_18 ?_
      refine J_getR fo_CS_74_71 rfl d_CS_write_19 ?_
      refine J_iload_n 2 rfl d_CS_write_22 ?_
      refine P_aaS rx_43 (by decide) rfl rfl d_CS_write_23 (fun o9 ho9 => ?_)
      refine J_astore_n (lv' := [(3, .ref (ad o9)), (0, .ref (ad 71)), (1, .int a1), (2, .int a2)]) 3 rfl (Nat.le_of_ble_eq_true rfl) rfl d_CS_write_24 ?_
      refine J_aload_n 0 rfl d_CS_write_25 ?_
      refine J_callVi (m_Sh_isLost l g ad o9 ho9 _) ok_Sh_isLost (rc_s42_40_38_36 _ ho9) wi_Sh_isLost wl_Sh_Sh_isLost wk_CS_136 ⟨rfl, rfl, Nat.le_of_ble_eq_true rfl, Nat.le_of_ble_eq_true rfl⟩ ⟨Nat.zero_le _, Nat.zero_le _⟩ (rest := []) rfl rfl (Nat.le_of_ble_eq_true rfl) d_CS_write_26 (fun v10 h11 => ?_)
      refine J_if_eq 38 rfl d_CS_write_29 (fun c12 => ?_) (fun c12 => ?_)
      · refine J_aload_n 0 rfl d_CS_write_38 ?_
        refine P_gI (fo_CS_143_s42_40_38_36 _ ho9) (fd_s42_40_38_36_2 _ ho9) d_CS_write_39 (fun v13 => ?_)
        refine J_bipush (v := 24) rfl d_CS_write_42 ?_
        refine P_min wk_CS_264 wm_min.1 wm_min.2.1 wm_min.2.2 (Nat.le_of_ble_eq_true rfl) (Nat.le_of_ble_eq_true rfl) ⟨Nat.zero_le _, Nat.zero_le _⟩ d_CS_write_44 (fun v14 => ?_)
        refine J_istore (lv' := [(4, .int v14), (3, .ref (ad o9)), (0, .ref (ad 71)), (1, .int a1), (2, .int a2)]) (Nat.le_of_ble_eq_true rfl) rfl d_CS_write_47 ?_
        refine J_aload_n 2 rfl d_CS_write_49 ?_
        refine J_getR fo_CS_44_71 rfl d_CS_write_50 ?_
        refine J_iload_n 3 rfl d_CS_write_53 ?_
        refine J_callVa (m_Cv_march l g ad _ _) ok_Cv_march rc_54 wi_Cv_march wl_Cv_Cv_march wk_CS_151 ⟨rfl, rfl, Nat.le_of_ble_eq_true rfl, Nat.le_of_ble_eq_true rfl⟩ ⟨Nat.zero_le _, Nat.zero_le _⟩ (rest := []) rfl rfl (Nat.le_of_ble_eq_true rfl) d_CS_write_54 (fun h15 => ?_)
        refine J_astore (lv' := [(5, .ref (ad 53)), (4, .int v14), (3, .ref (ad o9)), (0, .ref (ad 71)), (1, .int a1), (2, .int a2)]) (Nat.le_of_ble_eq_true rfl) rfl d_CS_write_57 ?_
        refine J_iconst (v := 0) rfl d_CS_write_59 ?_
        refine J_istore (lv' := [(6, .int 0), (5, .ref (ad 53)), (4, .int v14), (3, .ref (ad o9)), (0, .ref (ad 71)), (1, .int a1), (2, .int a2)]) (Nat.le_of_ble_eq_true rfl) rfl d_CS_write_60 ?_
        refine J_bd2 (fun (v27 : Int32) (h28 : HP) => Vw (kx_CS_write l g Q) 0 0 97 [(6, .int v27), (5, .ref (ad 53)), (4, .int v14), (3, .ref (ad o9)), (0, .ref (ad 71)), (1, .int a1), (2, .int a2)] [] (pic g ad h28)) ?_ (fun v27 h28 => ?_)
        · exact J_sub [0, 1, 2, 3, 4, 5, 6] rfl (mlp_CS_write_62 l g ad Q v14 o9 a1 a2 ho9 400 _ _)
        · refine J_iload 2 rfl d_CS_write_97 ?_
          exact J_iret (Nat.le_refl _) (Nat.le_refl _) d_CS_write_99 rfl (fun hx => hx)
      · refine J_aload_n 1 rfl d_CS_write_32 ?_
        refine J_iconst (v := 1) rfl d_CS_write_33 ?_
        refine J_callVi (m_CS_finding l g ad _ _) ok_CS_finding rc_71 wi_CS_finding wl_CS_CS_finding wk_CS_140 ⟨rfl, rfl, Nat.le_of_ble_eq_true rfl, Nat.le_of_ble_eq_true rfl⟩ ⟨Nat.zero_le _, Nat.zero_le _⟩ (rest := []) rfl rfl (Nat.le_of_ble_eq_true rfl) d_CS_write_34 (fun v29 h30 => ?_)
        exact J_iret (Nat.le_refl _) (Nat.le_refl _) d_CS_write_37 rfl (fun hx => hx)
    · refine J_bipush (v := (-2)) rfl d_CS_write_15 ?_
      exact J_iret (Nat.le_refl _) (Nat.le_refl _) d_CS_write_17 rfl (fun hx => hx)
def f_CS_count (a1 : Int32) (h0 : HP) : Option (Int32 × HP) :=
 (if a1 = 0 then
 ltt (rI h0 70 4) (fun (v3 : Int32) =>
 some (v3, h0))
 else
 (if a1 = 1 then
 ltt (rI h0 66 4) (fun (v5 : Int32) =>
 some (v5, h0))
 else
 (if a1 = 2 then
 ltt (rI h0 70 2) (fun (v7 : Int32) =>
 some (v7, h0))
 else
 (if a1 = 3 then
 ltt (rI h0 66 2) (fun (v9 : Int32) =>
 some (v9, h0))
 else
 (if a1 = 4 then
 ltt (rI h0 60 2) (fun (v11 : Int32) =>
 some (v11, h0))
 else
 (if a1 = 5 then
 bd2 (f_Cv_inAll 3 h0) (fun (v13 : Int32) (h14 : HP) =>
 some (v13, h14))
 else
 (if a1 = 6 then
 bd2 (f_Cv_inAll 5 h0) (fun (v16 : Int32) (h17 : HP) =>
 some (v16, h17))
 else
 (if a1 = 7 then
 ltt (rI h0 49 4) (fun (v19 : Int32) =>
 some (v19, h0))
 else
 (if a1 = 8 then
 ltt (rI h0 71 10) (fun (v21 : Int32) =>
 some (v21, h0))
 else
 some ((-2), h0))))))))))
set_option maxRecDepth 20000 in
set_option maxHeartbeats 4000000 in
theorem m_CS_count (l : Launch) (g : GG) (ad : Nat → Nat) (a1 : Int32) (h0 : HP) : CM l g ad y_CS_count b_CS_count 2 (some .int) rm_CS_count [.ref (ad 71), .int a1] h0 enI (f_CS_count a1 h0) := by
  refine CM.of (by decide) (Nat.le_of_ble_eq_true rfl) (fun Q => ?_)
  show Jj _ _ (Vw (kx_CS_count l g Q) 0 0 0 _ _ _)
  refine J_sub [0, 1] (lv' := [(0, .ref (ad 71)), (1, .int a1)]) rfl ?_
  unfold f_CS_count
  refine J_iload_n 1 rfl d_CS_count_0 ?_
  refine J_ite (fun c2 => ?_) (fun c2 => ?_)
  · refine J_tswIn 52 (by rw [c2]; decide) (by rw [c2]; decide) (by rw [c2]; try rfl) rfl d_CS_count_1 ?_
    refine J_aload_n 0 rfl d_CS_count_52 ?_
    refine J_getR fo_CS_10_71 rfl d_CS_count_53 ?_
    refine P_gI fo_CS_229_70 rfl d_CS_count_56 (fun v3 => ?_)
    exact J_iret (Nat.le_refl _) (Nat.le_refl _) d_CS_count_59 rfl (fun hx => hx)
  · refine J_ite (fun c4 => ?_) (fun c4 => ?_)
    · refine J_tswIn 60 (by rw [c4]; decide) (by rw [c4]; decide) (by rw [c4]; try rfl) rfl d_CS_count_1 ?_
      refine J_aload_n 0 rfl d_CS_count_60 ?_
      refine J_getR fo_CS_19_71 rfl d_CS_count_61 ?_
      refine P_gI fo_CS_269_66 rfl d_CS_count_64 (fun v5 => ?_)
      exact J_iret (Nat.le_refl _) (Nat.le_refl _) d_CS_count_67 rfl (fun hx => hx)
    · refine J_ite (fun c6 => ?_) (fun c6 => ?_)
      · refine J_tswIn 68 (by rw [c6]; decide) (by rw [c6]; decide) (by rw [c6]; try rfl) rfl d_CS_count_1 ?_
        refine J_aload_n 0 rfl d_CS_count_68 ?_
        refine J_getR fo_CS_10_71 rfl d_CS_count_69 ?_
        refine P_gI fo_CS_270_70 rfl d_CS_count_72 (fun v7 => ?_)
        exact J_iret (Nat.le_refl _) (Nat.le_refl _) d_CS_count_75 rfl (fun hx => hx)
      · refine J_ite (fun c8 => ?_) (fun c8 => ?_)
        · refine J_tswIn 76 (by rw [c8]; decide) (by rw [c8]; decide) (by rw [c8]; try rfl) rfl d_CS_count_1 ?_
          refine J_aload_n 0 rfl d_CS_count_76 ?_
          refine J_getR fo_CS_19_71 rfl d_CS_count_77 ?_
          refine P_gI fo_CS_271_66 rfl d_CS_count_80 (fun v9 => ?_)
          exact J_iret (Nat.le_refl _) (Nat.le_refl _) d_CS_count_83 rfl (fun hx => hx)
        · refine J_ite (fun c10 => ?_) (fun c10 => ?_)
          · refine J_tswIn 84 (by rw [c10]; decide) (by rw [c10]; decide) (by rw [c10]; try rfl) rfl d_CS_count_1 ?_
            refine J_aload_n 0 rfl d_CS_count_84 ?_
            refine J_getR fo_CS_32_71 rfl d_CS_count_85 ?_
            refine P_gI fo_CS_130_60 rfl d_CS_count_88 (fun v11 => ?_)
            exact J_iret (Nat.le_refl _) (Nat.le_refl _) d_CS_count_91 rfl (fun hx => hx)
          · refine J_ite (fun c12 => ?_) (fun c12 => ?_)
            · refine J_tswIn 92 (by rw [c12]; decide) (by rw [c12]; decide) (by rw [c12]; try rfl) rfl d_CS_count_1 ?_
              refine J_aload_n 0 rfl d_CS_count_92 ?_
              refine J_getR fo_CS_44_71 rfl d_CS_count_93 ?_
              refine J_iconst (v := 3) rfl d_CS_count_96 ?_
              refine J_callVi (m_Cv_inAll l g ad _ _) ok_Cv_inAll rc_54 wi_Cv_inAll wl_Cv_Cv_inAll wk_CS_160 ⟨rfl, rfl, Nat.le_of_ble_eq_true rfl, Nat.le_of_ble_eq_true rfl⟩ ⟨Nat.zero_le _, Nat.zero_le _⟩ (rest := []) rfl rfl (Nat.le_of_ble_eq_true rfl) d_CS_count_97 (fun v13 h14 => ?_)
              exact J_iret (Nat.le_refl _) (Nat.le_refl _) d_CS_count_100 rfl (fun hx => hx)
            · refine J_ite (fun c15 => ?_) (fun c15 => ?_)
              · refine J_tswIn 101 (by rw [c15]; decide) (by rw [c15]; decide) (by rw [c15]; try rfl) rfl d_CS_count_1 ?_
                refine J_aload_n 0 rfl d_CS_count_101 ?_
                refine J_getR fo_CS_44_71 rfl d_CS_count_102 ?_
                refine J_iconst (v := 5) rfl d_CS_count_105 ?_
                refine J_callVi (m_Cv_inAll l g ad _ _) ok_Cv_inAll rc_54 wi_Cv_inAll wl_Cv_Cv_inAll wk_CS_160 ⟨rfl, rfl, Nat.le_of_ble_eq_true rfl, Nat.le_of_ble_eq_true rfl⟩ ⟨Nat.zero_le _, Nat.zero_le _⟩ (rest := []) rfl rfl (Nat.le_of_ble_eq_true rfl) d_CS_count_106 (fun v16 h17 => ?_)
                exact J_iret (Nat.le_refl _) (Nat.le_refl _) d_CS_count_109 rfl (fun hx => hx)
              · refine J_ite (fun c18 => ?_) (fun c18 => ?_)
                · refine J_tswIn 110 (by rw [c18]; decide) (by rw [c18]; decide) (by rw [c18]; try rfl) rfl d_CS_count_1 ?_
                  refine J_aload_n 0 rfl d_CS_count_110 ?_
                  refine J_getR fo_CS_60_71 rfl d_CS_count_111 ?_
                  refine P_gI fo_CS_205_49 rfl d_CS_count_114 (fun v19 => ?_)
                  exact J_iret (Nat.le_refl _) (Nat.le_refl _) d_CS_count_117 rfl (fun hx => hx)
                · refine J_ite (fun c20 => ?_) (fun c20 => ?_)
                  · refine J_tswIn 118 (by rw [c20]; decide) (by rw [c20]; decide) (by rw [c20]; try rfl) rfl d_CS_count_1 ?_
                    refine J_aload_n 0 rfl d_CS_count_118 ?_
                    refine P_gI fo_CS_249_71 rfl d_CS_count_119 (fun v21 => ?_)
                    exact J_iret (Nat.le_refl _) (Nat.le_refl _) d_CS_count_122 rfl (fun hx => hx)
                  · refine J_tswOut 123 (by have e0 := lv_neT (a := 0) c2 rfl; have e1 := lv_neT (a := 1) c4 rfl; have e2 := lv_neT (a := 2) c6 rfl; have e3 := lv_neT (a := 3) c8 rfl; have e4 := lv_neT (a := 4) c10 rfl; have e5 := lv_neT (a := 5) c12 rfl; have e6 := lv_neT (a := 6) c15 rfl; have e7 := lv_neT (a := 7) c18 rfl; have e8 := lv_neT (a := 8) c20 rfl; omega) rfl d_CS_count_1 ?_
                    refine J_bipush (v := (-2)) rfl d_CS_count_123 ?_
                    exact J_iret (Nat.le_refl _) (Nat.le_refl _) d_CS_count_125 rfl (fun hx => hx)
def f_CS_mix (a1 : Int64) (a2 : Int64) (h0 : HP) : Option (Int64 × HP) :=
 some ((31 * a1) + a2, h0)
set_option maxRecDepth 20000 in
set_option maxHeartbeats 4000000 in
theorem m_CS_mix (l : Launch) (g : GG) (ad : Nat → Nat) (a1 : Int64) (a2 : Int64) (h0 : HP) : CM l g ad y_CS_mix b_CS_mix 4 (some .long) rm_CS_mix [.long a1, .long a2] h0 enL (f_CS_mix a1 a2 h0) := by
  refine CM.of (by decide) (Nat.le_of_ble_eq_true rfl) (fun Q => ?_)
  show Jj _ _ (Vw (kx_CS_mix l g Q) 0 0 0 _ _ _)
  refine J_sub [0, 1] (lv' := [(0, .long a1), (2, .long a2)]) rfl ?_
  unfold f_CS_mix
  refine J_ldc2 (v := 31) kl_CS_351 d_CS_mix_0 ?_
  refine J_lload_n 0 rfl d_CS_mix_3 ?_
  refine J_lmul d_CS_mix_4 ?_
  refine J_lload_n 1 rfl d_CS_mix_5 ?_
  refine J_ladd d_CS_mix_6 ?_
  exact J_lret (Nat.le_refl _) (Nat.le_refl _) d_CS_mix_7 rfl (fun hx => hx)
