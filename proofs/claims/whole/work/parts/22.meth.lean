def lp_Cv_busyDaysOf_4 (a1 : Int32) : Nat → Int32 → Int32 → HP → Option (Int32 × Int32 × HP)
 | 0, _, _, _ => none
 | fu + 1, v2, v3, h4 =>
 ltt (rI h4 66 4) (fun (v5 : Int32) =>
 (if v5 ≤ v2 then
 some (v2, v3, h4)
 else
 ckk (inb v2 10) (ltt (rA h4 64 v2) (fun (v7 : Int32) =>
 bd1 ((if v7 = a1 then
 ckk (inb v2 10) (ltt (rA h4 62 v2) (fun (v10 : Int32) =>
 ltt (v3 ||| (1 <<< (v10 &&& 31))) (fun (v11 : Int32) =>
 some (v11))))
 else
 some (v3)) : Option (Int32)) (fun (v8 : Int32) =>
 ltt (v2 + 1) (fun (v12 : Int32) =>
 lp_Cv_busyDaysOf_4 a1 fu v12 v8 h4))))))
def lp_Cv_busyDaysOf_50 (a1 : Int32) : Nat → Int32 → Int32 → HP → Option (Int32 × Int32 × HP)
 | 0, _, _, _ => none
 | fu + 1, v16, v17, h18 =>
 ckk ([60, 57].contains h18.2.2) (ltt h18.2.2 (fun (o19 : Nat) =>
 ltt (rI h18 o19 2) (fun (v20 : Int32) =>
 (if v20 ≤ v16 then
 some (v16, v17, h18)
 else
 ckk ([60, 57].contains h18.2.2) (ltt h18.2.2 (fun (o22 : Nat) =>
 ltt (rf1 o22 1) (fun (o23 : Nat) =>
 ckk (inb v16 8) (ltt (rA h18 o23 v16) (fun (v24 : Int32) =>
 bd1 ((if v24 = a1 then
 ckk ([60, 57].contains h18.2.2) (ltt h18.2.2 (fun (o27 : Nat) =>
 ltt (rf1 o27 0) (fun (o28 : Nat) =>
 ckk (inb v16 8) (ltt (rA h18 o28 v16) (fun (v29 : Int32) =>
 ltt (v17 ||| (1 <<< (v29 &&& 31))) (fun (v30 : Int32) =>
 some (v30)))))))
 else
 some (v17)) : Option (Int32)) (fun (v25 : Int32) =>
 ltt (v16 + 1) (fun (v31 : Int32) =>
 lp_Cv_busyDaysOf_50 a1 fu v31 v25 h18)))))))))))
def f_Cv_busyDaysOf (a1 : Int32) (h0 : HP) : Option (Int32 × HP) :=
 bd3 (lp_Cv_busyDaysOf_4 a1 400 0 0 h0) (fun (v13 : Int32) (v14 : Int32) (h15 : HP) =>
 bd3 (lp_Cv_busyDaysOf_50 a1 400 0 v14 h15) (fun (v32 : Int32) (v33 : Int32) (h34 : HP) =>
 some (v33, h34)))
set_option maxRecDepth 20000 in
set_option maxHeartbeats 4000000 in
theorem mlp_Cv_busyDaysOf_4 (l : Launch) (g : GG) (ad : Nat → Nat) (Q : Option Value → va_W → Prop) (a1 : Int32) : ∀ (fu : Nat) (v2 : Int32) (v3 : Int32) (h4 : HP), Jj (fun q : Int32 × Int32 × HP => Vw (kx_Cv_busyDaysOf l g Q) 0 0 48 [(3, .int (q.1)), (2, .int (q.2.1)), (0, .ref (ad 54)), (1, .int a1)] [] (pic g ad q.2.2)) (lp_Cv_busyDaysOf_4 a1 fu v2 v3 h4) (Vw (kx_Cv_busyDaysOf l g Q) 0 0 4 [(3, .int v2), (2, .int v3), (0, .ref (ad 54)), (1, .int a1)] [] (pic g ad h4)) := by
  intro fu
  induction fu with
  | zero =>
    intro v2 v3 h4
    exact J_none
  | succ fu ih =>
    intro v2 v3 h4
    rw [lp_Cv_busyDaysOf_4]
    refine J_iload_n 0 rfl d_Cv_busyDaysOf_4 ?_
    refine J_aload_n 2 rfl d_Cv_busyDaysOf_5 ?_
    refine J_getR fo_Cv_26_54 rfl d_Cv_busyDaysOf_6 ?_
    refine P_gI fo_Cv_57_66 rfl d_Cv_busyDaysOf_9 (fun v5 => ?_)
    refine J_icmp_ge 48 rfl d_Cv_busyDaysOf_12 (fun c6 => ?_) (fun c6 => ?_)
    · exact J_exit [0, 1, 2, 3] rfl (fun hx => hx)
    · refine J_aload_n 2 rfl d_Cv_busyDaysOf_15 ?_
      refine J_getR fo_Cv_26_54 rfl d_Cv_busyDaysOf_16 ?_
      refine J_getR fo_Cv_66_66 rfl d_Cv_busyDaysOf_19 ?_
      refine J_iload_n 0 rfl d_Cv_busyDaysOf_22 ?_
      refine P_ia (by decide) rfl rfl d_Cv_busyDaysOf_23 (fun v7 => ?_)
      refine J_iload_n 3 rfl d_Cv_busyDaysOf_24 ?_
      refine J_bd1 (fun (v8 : Int32) => Vw (kx_Cv_busyDaysOf l g Q) 0 0 42 [(3, .int v2), (2, .int v8), (0, .ref (ad 54)), (1, .int a1)] [] (pic g ad h4)) ?_ (fun v8 => ?_)
      · refine J_icmp_ne 42 rfl d_Cv_busyDaysOf_25 (fun c9 => ?_) (fun c9 => ?_)
        · exact J_exit [0, 1, 2, 3] rfl (fun hx => hx)
        · refine J_iload_n 1 rfl d_Cv_busyDaysOf_28 ?_
          refine J_iconst (v := 1) rfl d_Cv_busyDaysOf_29 ?_
          refine J_aload_n 2 rfl d_Cv_busyDaysOf_30 ?_
          refine J_getR fo_Cv_26_54 rfl d_Cv_busyDaysOf_31 ?_
          refine J_getR fo_Cv_63_66 rfl d_Cv_busyDaysOf_34 ?_
          refine J_iload_n 0 rfl d_Cv_busyDaysOf_37 ?_
          refine P_ia (by decide) rfl rfl d_Cv_busyDaysOf_38 (fun v10 => ?_)
          refine J_ishl d_Cv_busyDaysOf_39 ?_
          refine J_ior d_Cv_busyDaysOf_40 ?_
          refine P_ist_n (lv' := fun v11 => [(2, .int v11), (3, .int v2), (0, .ref (ad 54)), (1, .int a1)]) 2 rfl (Nat.le_of_ble_eq_true rfl) (fun _ => rfl) d_Cv_busyDaysOf_41 (fun v11 => ?_)
          exact J_exit [1, 0, 2, 3] rfl (fun hx => hx)
      · refine P_inc (w := 1) (lv' := fun v12 => [(3, .int v12), (2, .int v8), (0, .ref (ad 54)), (1, .int a1)]) 0 rfl rfl (Nat.le_of_ble_eq_true rfl) (fun _ => rfl) d_Cv_busyDaysOf_42 (fun v12 => ?_)
        refine J_goto 4 rfl d_Cv_busyDaysOf_45 ?_
        exact J_sub [0, 1, 2, 3] rfl (ih _ _ _)
set_option maxRecDepth 20000 in
set_option maxHeartbeats 4000000 in
theorem mlp_Cv_busyDaysOf_50 (l : Launch) (g : GG) (ad : Nat → Nat) (Q : Option Value → va_W → Prop) (a1 : Int32) : ∀ (fu : Nat) (v16 : Int32) (v17 : Int32) (h18 : HP), Jj (fun q : Int32 × Int32 × HP => Vw (kx_Cv_busyDaysOf l g Q) 0 0 94 [(3, .int (q.1)), (2, .int (q.2.1)), (0, .ref (ad 54)), (1, .int a1)] [] (pic g ad q.2.2)) (lp_Cv_busyDaysOf_50 a1 fu v16 v17 h18) (Vw (kx_Cv_busyDaysOf l g Q) 0 0 50 [(3, .int v16), (2, .int v17), (0, .ref (ad 54)), (1, .int a1)] [] (pic g ad h18)) := by
  intro fu
  induction fu with
  | zero =>
    intro v16 v17 h18
    exact J_none
  | succ fu ih =>
    intro v16 v17 h18
    rw [lp_Cv_busyDaysOf_50]
    refine J_iload_n 0 rfl d_Cv_busyDaysOf_50 ?_
    refine J_aload_n 2 rfl d_Cv_busyDaysOf_51 ?_
    refine P_gM (cs := [60, 57]) fo_Cv_30_54 rfl d_Cv_busyDaysOf_52 (fun o19 ho19 => ?_)
    refine P_gI (fo_Cv_77_s60_57 _ ho19) (fd_s60_57_2 _ ho19) d_Cv_busyDaysOf_55 (fun v20 => ?_)
    refine J_icmp_ge 94 rfl d_Cv_busyDaysOf_58 (fun c21 => ?_) (fun c21 => ?_)
    · exact J_exit [0, 1, 2, 3] rfl (fun hx => hx)
    · refine J_aload_n 2 rfl d_Cv_busyDaysOf_61 ?_
      refine P_gM (cs := [60, 57]) fo_Cv_30_54 rfl d_Cv_busyDaysOf_62 (fun o22 ho22 => ?_)
      refine P_gRv (rm_s60_57_1 _ ho22) (fo_Cv_83_s60_57 _ ho22) (fd_s60_57_1 _ ho22) d_Cv_busyDaysOf_65 (fun o23 ho23 => ?_)
      refine J_iload_n 0 rfl d_Cv_busyDaysOf_68 ?_
      refine P_ia (al_s58_55 _ ho23) (ak_s58_55 _ ho23) (an_s58_55 _ ho23) d_Cv_busyDaysOf_69 (fun v24 => ?_)
      refine J_iload_n 3 rfl d_Cv_busyDaysOf_70 ?_
      refine J_bd1 (fun (v25 : Int32) => Vw (kx_Cv_busyDaysOf l g Q) 0 0 88 [(3, .int v16), (2, .int v25), (0, .ref (ad 54)), (1, .int a1)] [] (pic g ad h18)) ?_ (fun v25 => ?_)
      · refine J_icmp_ne 88 rfl d_Cv_busyDaysOf_71 (fun c26 => ?_) (fun c26 => ?_)
        · exact J_exit [0, 1, 2, 3] rfl (fun hx => hx)
        · refine J_iload_n 1 rfl d_Cv_busyDaysOf_74 ?_
          refine J_iconst (v := 1) rfl d_Cv_busyDaysOf_75 ?_
          refine J_aload_n 2 rfl d_Cv_busyDaysOf_76 ?_
          refine P_gM (cs := [60, 57]) fo_Cv_30_54 rfl d_Cv_busyDaysOf_77 (fun o27 ho27 => ?_)
          refine P_gRv (rm_s60_57_0 _ ho27) (fo_Cv_82_s60_57 _ ho27) (fd_s60_57_0 _ ho27) d_Cv_busyDaysOf_80 (fun o28 ho28 => ?_)
          refine J_iload_n 0 rfl d_Cv_busyDaysOf_83 ?_
          refine P_ia (al_s59_56 _ ho28) (ak_s59_56 _ ho28) (an_s59_56 _ ho28) d_Cv_busyDaysOf_84 (fun v29 => ?_)
          refine J_ishl d_Cv_busyDaysOf_85 ?_
          refine J_ior d_Cv_busyDaysOf_86 ?_
          refine P_ist_n (lv' := fun v30 => [(2, .int v30), (3, .int v16), (0, .ref (ad 54)), (1, .int a1)]) 2 rfl (Nat.le_of_ble_eq_true rfl) (fun _ => rfl) d_Cv_busyDaysOf_87 (fun v30 => ?_)
          exact J_exit [1, 0, 2, 3] rfl (fun hx => hx)
      · refine P_inc (w := 1) (lv' := fun v31 => [(3, .int v31), (2, .int v25), (0, .ref (ad 54)), (1, .int a1)]) 0 rfl rfl (Nat.le_of_ble_eq_true rfl) (fun _ => rfl) d_Cv_busyDaysOf_88 (fun v31 => ?_)
        refine J_goto 50 rfl d_Cv_busyDaysOf_91 ?_
        exact J_sub [0, 1, 2, 3] rfl (ih _ _ _)
set_option maxRecDepth 20000 in
set_option maxHeartbeats 4000000 in
theorem m_Cv_busyDaysOf (l : Launch) (g : GG) (ad : Nat → Nat) (a1 : Int32) (h0 : HP) : CM l g ad y_Cv_busyDaysOf b_Cv_busyDaysOf 4 (some .int) rm_Cv_busyDaysOf [.ref (ad 54), .int a1] h0 enI (f_Cv_busyDaysOf a1 h0) := by
  refine CM.of (by decide) (Nat.le_of_ble_eq_true rfl) (fun Q => ?_)
  show Jj _ _ (Vw (kx_Cv_busyDaysOf l g Q) 0 0 0 _ _ _)
  refine J_sub [0, 1] (lv' := [(0, .ref (ad 54)), (1, .int a1)]) rfl ?_
  unfold f_Cv_busyDaysOf
  refine J_iconst (v := 0) rfl d_Cv_busyDaysOf_0 ?_
  refine J_istore_n (lv' := [(2, .int 0), (0, .ref (ad 54)), (1, .int a1)]) 2 rfl (Nat.le_of_ble_eq_true rfl) rfl d_Cv_busyDaysOf_1 ?_
  refine J_iconst (v := 0) rfl d_Cv_busyDaysOf_2 ?_
  refine J_istore_n (lv' := [(3, .int 0), (2, .int 0), (0, .ref (ad 54)), (1, .int a1)]) 3 rfl (Nat.le_of_ble_eq_true rfl) rfl d_Cv_busyDaysOf_3 ?_
  refine J_bd3 (fun (v13 : Int32) (v14 : Int32) (h15 : HP) => Vw (kx_Cv_busyDaysOf l g Q) 0 0 48 [(3, .int v13), (2, .int v14), (0, .ref (ad 54)), (1, .int a1)] [] (pic g ad h15)) ?_ (fun v13 v14 h15 => ?_)
  · exact J_sub [0, 1, 2, 3] rfl (mlp_Cv_busyDaysOf_4 l g ad Q a1 400 _ _ _)
  · refine J_iconst (v := 0) rfl d_Cv_busyDaysOf_48 ?_
    refine J_istore_n (lv' := [(3, .int 0), (2, .int v14), (0, .ref (ad 54)), (1, .int a1)]) 3 rfl (Nat.le_of_ble_eq_true rfl) rfl d_Cv_busyDaysOf_49 ?_
    refine J_bd3 (fun (v32 : Int32) (v33 : Int32) (h34 : HP) => Vw (kx_Cv_busyDaysOf l g Q) 0 0 94 [(3, .int v32), (2, .int v33), (0, .ref (ad 54)), (1, .int a1)] [] (pic g ad h34)) ?_ (fun v32 v33 h34 => ?_)
    · exact J_sub [0, 1, 2, 3] rfl (mlp_Cv_busyDaysOf_50 l g ad Q a1 400 _ _ _)
    · refine J_iload_n 1 rfl d_Cv_busyDaysOf_94 ?_
      exact J_iret (Nat.le_refl _) (Nat.le_refl _) d_Cv_busyDaysOf_95 rfl (fun hx => hx)
def f_Wa_start (a1 : Int32) (a2 : Int32) (h0 : HP) : Option (HP) :=
 ltt (sI h0 53 1 a1) (fun (h3 : HP) =>
 ltt (sI h3 53 2 a2) (fun (h4 : HP) =>
 ltt (sI h4 53 4 a2) (fun (h5 : HP) =>
 ltt (sI h5 53 3 0) (fun (h6 : HP) =>
 ltt (sI h6 53 10 0) (fun (h7 : HP) =>
 ltt (sI h7 53 6 0) (fun (h8 : HP) =>
 ltt (sI h8 53 7 0) (fun (h9 : HP) =>
 ltt (sI h9 53 8 0) (fun (h10 : HP) =>
 ltt (sI h10 53 11 0) (fun (h11 : HP) =>
 ltt (sI h11 53 12 (-1)) (fun (h12 : HP) =>
 some h12))))))))))
set_option maxRecDepth 20000 in
set_option maxHeartbeats 4000000 in
theorem m_Wa_start (l : Launch) (g : GG) (ad : Nat → Nat) (a1 : Int32) (a2 : Int32) (h0 : HP) : CM l g ad y_Wa_start b_Wa_start 3 none rm_Wa_start [.ref (ad 53), .int a1, .int a2] h0 enV (f_Wa_start a1 a2 h0) := by
  refine CM.of (by decide) (Nat.le_of_ble_eq_true rfl) (fun Q => ?_)
  show Jj _ _ (Vw (kx_Wa_start l g Q) 0 0 0 _ _ _)
  refine J_sub [0, 1, 2] (lv' := [(0, .ref (ad 53)), (1, .int a1), (2, .int a2)]) rfl ?_
  unfold f_Wa_start
  refine J_aload_n 0 rfl d_Wa_start_0 ?_
  refine J_iload_n 1 rfl d_Wa_start_1 ?_
  refine P_wI fo_Wa_15_53 rfl d_Wa_start_2 (fun h3 => ?_)
  refine J_aload_n 0 rfl d_Wa_start_5 ?_
  refine J_iload_n 2 rfl d_Wa_start_6 ?_
  refine P_wI fo_Wa_19_53 rfl d_Wa_start_7 (fun h4 => ?_)
  refine J_aload_n 0 rfl d_Wa_start_10 ?_
  refine J_iload_n 2 rfl d_Wa_start_11 ?_
  refine P_wI fo_Wa_22_53 rfl d_Wa_start_12 (fun h5 => ?_)
  refine J_aload_n 0 rfl d_Wa_start_15 ?_
  refine J_iconst (v := 0) rfl d_Wa_start_16 ?_
  refine P_wI fo_Wa_25_53 rfl d_Wa_start_17 (fun h6 => ?_)
  refine J_aload_n 0 rfl d_Wa_start_20 ?_
  refine J_iconst (v := 0) rfl d_Wa_start_21 ?_
  refine P_wZ (Or.inl rfl) fo_Wa_28_53 rfl d_Wa_start_22 (fun h7 => ?_)
  refine J_aload_n 0 rfl d_Wa_start_25 ?_
  refine J_iconst (v := 0) rfl d_Wa_start_26 ?_
  refine P_wI fo_Wa_32_53 rfl d_Wa_start_27 (fun h8 => ?_)
  refine J_aload_n 0 rfl d_Wa_start_30 ?_
  refine J_iconst (v := 0) rfl d_Wa_start_31 ?_
  refine P_wI fo_Wa_35_53 rfl d_Wa_start_32 (fun h9 => ?_)
  refine J_aload_n 0 rfl d_Wa_start_35 ?_
  refine J_iconst (v := 0) rfl d_Wa_start_36 ?_
  refine P_wI fo_Wa_38_53 rfl d_Wa_start_37 (fun h10 => ?_)
  refine J_aload_n 0 rfl d_Wa_start_40 ?_
  refine J_iconst (v := 0) rfl d_Wa_start_41 ?_
  refine P_wI fo_Wa_41_53 rfl d_Wa_start_42 (fun h11 => ?_)
  refine J_aload_n 0 rfl d_Wa_start_45 ?_
  refine J_iconst (v := (-1)) rfl d_Wa_start_46 ?_
  refine P_wI fo_Wa_44_53 rfl d_Wa_start_47 (fun h12 => ?_)
  exact J_vret (Nat.le_refl _) (Nat.le_refl _) d_Wa_start_50 rfl (fun hx => hx)
def f_Wa_rise (a1 : Int32) (h0 : HP) : Option (HP) :=
 ltt (rI h0 53 10) (fun (v2 : Int32) =>
 (if v2 = 0 then
 some h0
 else
 ltt (rI h0 53 5) (fun (v4 : Int32) =>
 (if a1 - v4 < 3 then
 some h0
 else
 ltt (sI h0 53 10 0) (fun (h6 : HP) =>
 some h6)))))
set_option maxRecDepth 20000 in
set_option maxHeartbeats 4000000 in
theorem m_Wa_rise (l : Launch) (g : GG) (ad : Nat → Nat) (a1 : Int32) (h0 : HP) : CM l g ad y_Wa_rise b_Wa_rise 2 none rm_Wa_rise [.ref (ad 53), .int a1] h0 enV (f_Wa_rise a1 h0) := by
  refine CM.of (by decide) (Nat.le_of_ble_eq_true rfl) (fun Q => ?_)
  show Jj _ _ (Vw (kx_Wa_rise l g Q) 0 0 0 _ _ _)
  refine J_sub [0, 1] (lv' := [(0, .ref (ad 53)), (1, .int a1)]) rfl ?_
  unfold f_Wa_rise
  refine J_aload_n 0 rfl d_Wa_rise_0 ?_
  refine P_gZ fo_Wa_28_53 rfl d_Wa_rise_1 (fun v2 => ?_)
  refine J_if_eq 22 rfl d_Wa_rise_4 (fun c3 => ?_) (fun c3 => ?_)
  · exact J_vret (Nat.le_refl _) (Nat.le_refl _) d_Wa_rise_22 rfl (fun hx => hx)
  · refine J_iload_n 1 rfl d_Wa_rise_7 ?_
    refine J_aload_n 0 rfl d_Wa_rise_8 ?_
    refine P_gI fo_Wa_47_53 rfl d_Wa_rise_9 (fun v4 => ?_)
    refine J_isub d_Wa_rise_12 ?_
    refine J_iconst (v := 3) rfl d_Wa_rise_13 ?_
    refine J_icmp_lt 22 rfl d_Wa_rise_14 (fun c5 => ?_) (fun c5 => ?_)
    · exact J_vret (Nat.le_refl _) (Nat.le_refl _) d_Wa_rise_22 rfl (fun hx => hx)
    · refine J_aload_n 0 rfl d_Wa_rise_17 ?_
      refine J_iconst (v := 0) rfl d_Wa_rise_18 ?_
      refine P_wZ (Or.inl rfl) fo_Wa_28_53 rfl d_Wa_rise_19 (fun h6 => ?_)
      exact J_vret (Nat.le_refl _) (Nat.le_refl _) d_Wa_rise_22 rfl (fun hx => hx)
def f_Wa_take (a1 : Int32) (h0 : HP) : Option (HP) :=
 ltt (rI h0 53 10) (fun (v2 : Int32) =>
 (if v2 = 0 then
 ltt (rI h0 53 3) (fun (v4 : Int32) =>
 ltt (sI h0 53 3 (v4 + a1)) (fun (h5 : HP) =>
 some h5))
 else
 some h0))
set_option maxRecDepth 20000 in
set_option maxHeartbeats 4000000 in
theorem m_Wa_take (l : Launch) (g : GG) (ad : Nat → Nat) (a1 : Int32) (h0 : HP) : CM l g ad y_Wa_take b_Wa_take 2 none rm_Wa_take [.ref (ad 53), .int a1] h0 enV (f_Wa_take a1 h0) := by
  refine CM.of (by decide) (Nat.le_of_ble_eq_true rfl) (fun Q => ?_)
  show Jj _ _ (Vw (kx_Wa_take l g Q) 0 0 0 _ _ _)
  refine J_sub [0, 1] (lv' := [(0, .ref (ad 53)), (1, .int a1)]) rfl ?_
  unfold f_Wa_take
  refine J_aload_n 0 rfl d_Wa_take_0 ?_
  refine P_gZ fo_Wa_28_53 rfl d_Wa_take_1 (fun v2 => ?_)
  refine J_if_ne 17 rfl d_Wa_take_4 (fun c3 => ?_) (fun c3 => ?_)
  · exact J_vret (Nat.le_refl _) (Nat.le_refl _) d_Wa_take_17 rfl (fun hx => hx)
  · refine J_aload_n 0 rfl d_Wa_take_7 ?_
    refine J_dup rfl d_Wa_take_8 ?_
    refine P_gI fo_Wa_25_53 rfl d_Wa_take_9 (fun v4 => ?_)
    refine J_iload_n 1 rfl d_Wa_take_12 ?_
    refine J_iadd d_Wa_take_13 ?_
    refine P_wI fo_Wa_25_53 rfl d_Wa_take_14 (fun h5 => ?_)
    exact J_vret (Nat.le_refl _) (Nat.le_refl _) d_Wa_take_17 rfl (fun hx => hx)
def f_Wa_breakIfOver (a1 : Int32) (h0 : HP) : Option (HP) :=
 ltt (rI h0 53 3) (fun (v2 : Int32) =>
 ltt (rI h0 53 4) (fun (v3 : Int32) =>
 (if v3 < v2 then
 ltt (sI h0 53 10 1) (fun (h5 : HP) =>
 ltt (sI h5 53 5 a1) (fun (h6 : HP) =>
 ltt (rI h6 53 12) (fun (v7 : Int32) =>
 bd1 ((if v7 = (-1) then
 ltt (sI h6 53 12 a1) (fun (h10 : HP) =>
 some (h10))
 else
 some (h6)) : Option (HP)) (fun (h8 : HP) =>
 ltt (rI h8 53 11) (fun (v11 : Int32) =>
 ltt (sI h8 53 11 (v11 + 1)) (fun (h12 : HP) =>
 ltt (rI h12 53 8) (fun (v13 : Int32) =>
 ltt (rI h12 53 3) (fun (v14 : Int32) =>
 ltt (sI h12 53 8 (v13 + v14)) (fun (h15 : HP) =>
 ltt (sI h15 53 3 0) (fun (h16 : HP) =>
 ltt (rI h16 53 4) (fun (v17 : Int32) =>
 bd1 ((if v17 ≤ 3 then
 some (0)
 else
 ltt (rI h16 53 4) (fun (v20 : Int32) =>
 some (v20 - 3))) : Option (Int32)) (fun (v18 : Int32) =>
 ltt (sI h16 53 4 v18) (fun (h21 : HP) =>
 some h21)))))))))))))
 else
 some h0)))
set_option maxRecDepth 20000 in
set_option maxHeartbeats 4000000 in
theorem m_Wa_breakIfOver (l : Launch) (g : GG) (ad : Nat → Nat) (a1 : Int32) (h0 : HP) : CM l g ad y_Wa_breakIfOver b_Wa_breakIfOver 2 none rm_Wa_breakIfOver [.ref (ad 53), .int a1] h0 enV (f_Wa_breakIfOver a1 h0) := by
  refine CM.of (by decide) (Nat.le_of_ble_eq_true rfl) (fun Q => ?_)
  show Jj _ _ (Vw (kx_Wa_breakIfOver l g Q) 0 0 0 _ _ _)
  refine J_sub [0, 1] (lv' := [(0, .ref (ad 53)), (1, .int a1)]) rfl ?_
  unfold f_Wa_breakIfOver
  refine J_aload_n 0 rfl d_Wa_breakIfOver_0 ?_
  refine P_gI fo_Wa_25_53 rfl d_Wa_breakIfOver_1 (fun v2 => ?_)
  refine J_aload_n 0 rfl d_Wa_breakIfOver_4 ?_
  refine P_gI fo_Wa_22_53 rfl d_Wa_breakIfOver_5 (fun v3 => ?_)
  refine J_icmp_gt 12 rfl d_Wa_breakIfOver_8 (fun c4 => ?_) (fun c4 => ?_)
  · refine J_aload_n 0 rfl d_Wa_breakIfOver_12 ?_
    refine J_iconst (v := 1) rfl d_Wa_breakIfOver_13 ?_
    refine P_wZ (Or.inr rfl) fo_Wa_28_53 rfl d_Wa_breakIfOver_14 (fun h5 => ?_)
    refine J_aload_n 0 rfl d_Wa_breakIfOver_17 ?_
    refine J_iload_n 1 rfl d_Wa_breakIfOver_18 ?_
    refine P_wI fo_Wa_47_53 rfl d_Wa_breakIfOver_19 (fun h6 => ?_)
    refine J_aload_n 0 rfl d_Wa_breakIfOver_22 ?_
    refine P_gI fo_Wa_44_53 rfl d_Wa_breakIfOver_23 (fun v7 => ?_)
    refine J_iconst (v := (-1)) rfl d_Wa_breakIfOver_26 ?_
    refine J_bd1 (fun (h8 : HP) => Vw (kx_Wa_breakIfOver l g Q) 0 0 35 [(0, .ref (ad 53)), (1, .int a1)] [] (pic g ad h8)) ?_ (fun h8 => ?_)
    · refine J_icmp_ne 35 rfl d_Wa_breakIfOver_27 (fun c9 => ?_) (fun c9 => ?_)
      · exact J_exit [0, 1] rfl (fun hx => hx)
      · refine J_aload_n 0 rfl d_Wa_breakIfOver_30 ?_
        refine J_iload_n 1 rfl d_Wa_breakIfOver_31 ?_
        refine P_wI fo_Wa_44_53 rfl d_Wa_breakIfOver_32 (fun h10 => ?_)
        exact J_exit [0, 1] rfl (fun hx => hx)
    · refine J_aload_n 0 rfl d_Wa_breakIfOver_35 ?_
      refine J_dup rfl d_Wa_breakIfOver_36 ?_
      refine P_gI fo_Wa_41_53 rfl d_Wa_breakIfOver_37 (fun v11 => ?_)
      refine J_iconst (v := 1) rfl d_Wa_breakIfOver_40 ?_
      refine J_iadd d_Wa_breakIfOver_41 ?_
      refine P_wI fo_Wa_41_53 rfl d_Wa_breakIfOver_42 (fun h12 => ?_)
      refine J_aload_n 0 rfl d_Wa_breakIfOver_45 ?_
      refine J_dup rfl d_Wa_breakIfOver_46 ?_
      refine P_gI fo_Wa_38_53 rfl d_Wa_breakIfOver_47 (fun v13 => ?_)
      refine J_aload_n 0 rfl d_Wa_breakIfOver_50 ?_
      refine P_gI fo_Wa_25_53 rfl d_Wa_breakIfOver_51 (fun v14 => ?_)
      refine J_iadd d_Wa_breakIfOver_54 ?_
      refine P_wI fo_Wa_38_53 rfl d_Wa_breakIfOver_55 (fun h15 => ?_)
      refine J_aload_n 0 rfl d_Wa_breakIfOver_58 ?_
      refine J_iconst (v := 0) rfl d_Wa_breakIfOver_59 ?_
      refine P_wI fo_Wa_25_53 rfl d_Wa_breakIfOver_60 (fun h16 => ?_)
      refine J_aload_n 0 rfl d_Wa_breakIfOver_63 ?_
      refine J_aload_n 0 rfl d_Wa_breakIfOver_64 ?_
      refine P_gI fo_Wa_22_53 rfl d_Wa_breakIfOver_65 (fun v17 => ?_)
      refine J_iconst (v := 3) rfl d_Wa_breakIfOver_68 ?_
      refine J_bd1 (fun (v18 : Int32) => Vw (kx_Wa_breakIfOver l g Q) 0 0 82 [(0, .ref (ad 53)), (1, .int a1)] [.int v18, .ref (ad 53)] (pic g ad h16)) ?_ (fun v18 => ?_)
      · refine J_icmp_le 81 rfl d_Wa_breakIfOver_69 (fun c19 => ?_) (fun c19 => ?_)
        · refine J_iconst (v := 0) rfl d_Wa_breakIfOver_81 ?_
          exact J_exit [0, 1] rfl (fun hx => hx)
        · refine J_aload_n 0 rfl d_Wa_breakIfOver_72 ?_
          refine P_gI fo_Wa_22_53 rfl d_Wa_breakIfOver_73 (fun v20 => ?_)
          refine J_iconst (v := 3) rfl d_Wa_breakIfOver_76 ?_
          refine J_isub d_Wa_breakIfOver_77 ?_
          refine J_goto 82 rfl d_Wa_breakIfOver_78 ?_
          exact J_exit [0, 1] rfl (fun hx => hx)
      · refine P_wI fo_Wa_22_53 rfl d_Wa_breakIfOver_82 (fun h21 => ?_)
        exact J_vret (Nat.le_refl _) (Nat.le_refl _) d_Wa_breakIfOver_85 rfl (fun hx => hx)
  · exact J_vret (Nat.le_refl _) (Nat.le_refl _) d_Wa_breakIfOver_11 rfl (fun hx => hx)
def f_Wa_payIfLast (h0 : HP) : Option (HP) :=
 ltt (rI h0 53 10) (fun (v1 : Int32) =>
 (if v1 = 0 then
 ltt (rI h0 53 3) (fun (v3 : Int32) =>
 ltt (rI h0 53 4) (fun (v4 : Int32) =>
 (if v3 = v4 then
 ltt (rI h0 53 6) (fun (v6 : Int32) =>
 ltt (rI h0 53 3) (fun (v7 : Int32) =>
 ltt (sI h0 53 6 (v6 + v7)) (fun (h8 : HP) =>
 some h8)))
 else
 some h0)))
 else
 some h0))
set_option maxRecDepth 20000 in
set_option maxHeartbeats 4000000 in
theorem m_Wa_payIfLast (l : Launch) (g : GG) (ad : Nat → Nat) (h0 : HP) : CM l g ad y_Wa_payIfLast b_Wa_payIfLast 1 none rm_Wa_payIfLast [.ref (ad 53)] h0 enV (f_Wa_payIfLast h0) := by
  refine CM.of (by decide) (Nat.le_of_ble_eq_true rfl) (fun Q => ?_)
  show Jj _ _ (Vw (kx_Wa_payIfLast l g Q) 0 0 0 _ _ _)
  refine J_sub [0] (lv' := [(0, .ref (ad 53))]) rfl ?_
  unfold f_Wa_payIfLast
  refine J_aload_n 0 rfl d_Wa_payIfLast_0 ?_
  refine P_gZ fo_Wa_28_53 rfl d_Wa_payIfLast_1 (fun v1 => ?_)
  refine J_if_ne 31 rfl d_Wa_payIfLast_4 (fun c2 => ?_) (fun c2 => ?_)
  · exact J_vret (Nat.le_refl _) (Nat.le_refl _) d_Wa_payIfLast_31 rfl (fun hx => hx)
  · refine J_aload_n 0 rfl d_Wa_payIfLast_7 ?_
    refine P_gI fo_Wa_25_53 rfl d_Wa_payIfLast_8 (fun v3 => ?_)
    refine J_aload_n 0 rfl d_Wa_payIfLast_11 ?_
    refine P_gI fo_Wa_22_53 rfl d_Wa_payIfLast_12 (fun v4 => ?_)
    refine J_icmp_ne 31 rfl d_Wa_payIfLast_15 (fun c5 => ?_) (fun c5 => ?_)
    · exact J_vret (Nat.le_refl _) (Nat.le_refl _) d_Wa_payIfLast_31 rfl (fun hx => hx)
    · refine J_aload_n 0 rfl d_Wa_payIfLast_18 ?_
      refine J_dup rfl d_Wa_payIfLast_19 ?_
      refine P_gI fo_Wa_32_53 rfl d_Wa_payIfLast_20 (fun v6 => ?_)
      refine J_aload_n 0 rfl d_Wa_payIfLast_23 ?_
      refine P_gI fo_Wa_25_53 rfl d_Wa_payIfLast_24 (fun v7 => ?_)
      refine J_iadd d_Wa_payIfLast_27 ?_
      refine P_wI fo_Wa_32_53 rfl d_Wa_payIfLast_28 (fun h8 => ?_)
      exact J_vret (Nat.le_refl _) (Nat.le_refl _) d_Wa_payIfLast_31 rfl (fun hx => hx)
def f_Wa_measureRoom (h0 : HP) : Option (HP) :=
 ltt (rI h0 53 10) (fun (v1 : Int32) =>
 bd1 ((if v1 = 0 then
 ltt (rI h0 53 4) (fun (v4 : Int32) =>
 ltt (rI h0 53 3) (fun (v5 : Int32) =>
 some (v4 - v5)))
 else
 some (0)) : Option (Int32)) (fun (v2 : Int32) =>
 ltt (sI h0 53 9 v2) (fun (h6 : HP) =>
 some h6)))
set_option maxRecDepth 20000 in
set_option maxHeartbeats 4000000 in
theorem m_Wa_measureRoom (l : Launch) (g : GG) (ad : Nat → Nat) (h0 : HP) : CM l g ad y_Wa_measureRoom b_Wa_measureRoom 1 none rm_Wa_measureRoom [.ref (ad 53)] h0 enV (f_Wa_measureRoom h0) := by
  refine CM.of (by decide) (Nat.le_of_ble_eq_true rfl) (fun Q => ?_)
  show Jj _ _ (Vw (kx_Wa_measureRoom l g Q) 0 0 0 _ _ _)
  refine J_sub [0] (lv' := [(0, .ref (ad 53))]) rfl ?_
  unfold f_Wa_measureRoom
  refine J_aload_n 0 rfl d_Wa_measureRoom_0 ?_
  refine J_aload_n 0 rfl d_Wa_measureRoom_1 ?_
  refine P_gZ fo_Wa_28_53 rfl d_Wa_measureRoom_2 (fun v1 => ?_)
  refine J_bd1 (fun (v2 : Int32) => Vw (kx_Wa_measureRoom l g Q) 0 0 21 [(0, .ref (ad 53))] [.int v2, .ref (ad 53)] (pic g ad h0)) ?_ (fun v2 => ?_)
  · refine J_if_eq 12 rfl d_Wa_measureRoom_5 (fun c3 => ?_) (fun c3 => ?_)
    · refine J_aload_n 0 rfl d_Wa_measureRoom_12 ?_
      refine P_gI fo_Wa_22_53 rfl d_Wa_measureRoom_13 (fun v4 => ?_)
      refine J_aload_n 0 rfl d_Wa_measureRoom_16 ?_
      refine P_gI fo_Wa_25_53 rfl d_Wa_measureRoom_17 (fun v5 => ?_)
      refine J_isub d_Wa_measureRoom_20 ?_
      exact J_exit [0] rfl (fun hx => hx)
    · refine J_iconst (v := 0) rfl d_Wa_measureRoom_8 ?_
      refine J_goto 21 rfl d_Wa_measureRoom_9 ?_
      exact J_exit [0] rfl (fun hx => hx)
  · refine P_wI fo_Wa_50_53 rfl d_Wa_measureRoom_21 (fun h6 => ?_)
    exact J_vret (Nat.le_refl _) (Nat.le_refl _) d_Wa_measureRoom_24 rfl (fun hx => hx)
def f_Wa_wear (a1 : Int32) (h0 : HP) : Option (HP) :=
 ltt (rI h0 53 10) (fun (v2 : Int32) =>
 (if v2 = 0 then
 ltt (rI h0 53 3) (fun (v4 : Int32) =>
 (if v4 = 0 then
 ltt (rI h0 53 4) (fun (v27 : Int32) =>
 ltt (rI h0 53 2) (fun (v28 : Int32) =>
 bd1 ((if v28 ≤ v27 then
 ltt (rI h0 53 2) (fun (v31 : Int32) =>
 some (v31))
 else
 ltt (rI h0 53 4) (fun (v32 : Int32) =>
 some (v32 + 1))) : Option (Int32)) (fun (v29 : Int32) =>
 ltt (sI h0 53 4 v29) (fun (h33 : HP) =>
 some h33))))
 else
 ltt (rI h0 53 1) (fun (v6 : Int32) =>
 bd1 ((if v6 = 2 then
 some (1)
 else
 ltt (rI h0 53 1) (fun (v9 : Int32) =>
 (if v9 = 0 then
 (if a1 - a1 / 3 * 3 = 2 then
 some (1)
 else
 ltt (rI h0 53 1) (fun (v17 : Int32) =>
 (if v17 = 1 then
 ltt (rI h0 53 3) (fun (v19 : Int32) =>
 ltt (rI h0 53 4) (fun (v20 : Int32) =>
 (if 2 * v19 ≤ v20 then
 some (0)
 else
 some (1))))
 else
 some (0))))
 else
 ltt (rI h0 53 1) (fun (v11 : Int32) =>
 (if v11 = 1 then
 ltt (rI h0 53 3) (fun (v13 : Int32) =>
 ltt (rI h0 53 4) (fun (v14 : Int32) =>
 (if 2 * v13 ≤ v14 then
 some (0)
 else
 some (1))))
 else
 some (0)))))) : Option (Int32)) (fun (v7 : Int32) =>
 (if v7 = 0 then
 some h0
 else
 ltt (rI h0 53 4) (fun (v23 : Int32) =>
 (if v23 ≤ 0 then
 some h0
 else
 ltt (rI h0 53 4) (fun (v25 : Int32) =>
 ltt (sI h0 53 4 (v25 - 1)) (fun (h26 : HP) =>
 some h26)))))))))
 else
 some h0))
set_option maxRecDepth 20000 in
set_option maxHeartbeats 4000000 in
theorem m_Wa_wear (l : Launch) (g : GG) (ad : Nat → Nat) (a1 : Int32) (h0 : HP) : CM l g ad y_Wa_wear b_Wa_wear 3 none rm_Wa_wear [.ref (ad 53), .int a1] h0 enV (f_Wa_wear a1 h0) := by
  refine CM.of (by decide) (Nat.le_of_ble_eq_true rfl) (fun Q => ?_)
  show Jj _ _ (Vw (kx_Wa_wear l g Q) 0 0 0 _ _ _)
  refine J_sub [0, 1] (lv' := [(0, .ref (ad 53)), (1, .int a1)]) rfl ?_
  unfold f_Wa_wear
  refine J_aload_n 0 rfl d_Wa_wear_0 ?_
  refine P_gZ fo_Wa_28_53 rfl d_Wa_wear_1 (fun v2 => ?_)
  refine J_if_eq 8 rfl d_Wa_wear_4 (fun c3 => ?_) (fun c3 => ?_)
  · refine J_aload_n 0 rfl d_Wa_wear_8 ?_
    refine P_gI fo_Wa_25_53 rfl d_Wa_wear_9 (fun v4 => ?_)
    refine J_if_ne 44 rfl d_Wa_wear_12 (fun c5 => ?_) (fun c5 => ?_)
    · refine J_aload_n 0 rfl d_Wa_wear_44 ?_
      refine P_gI fo_Wa_15_53 rfl d_Wa_wear_45 (fun v6 => ?_)
      refine J_iconst (v := 2) rfl d_Wa_wear_48 ?_
      refine J_bd1 (fun (v7 : Int32) => Vw (kx_Wa_wear l g Q) 0 0 92 [(0, .ref (ad 53)), (1, .int a1)] [.int v7] (pic g ad h0)) ?_ (fun v7 => ?_)
      · refine J_icmp_eq 87 rfl d_Wa_wear_49 (fun c8 => ?_) (fun c8 => ?_)
        · refine J_iconst (v := 1) rfl d_Wa_wear_87 ?_
          refine J_goto 92 rfl d_Wa_wear_88 ?_
          exact J_exit [0, 1] rfl (fun hx => hx)
        · refine J_aload_n 0 rfl d_Wa_wear_52 ?_
          refine P_gI fo_Wa_15_53 rfl d_Wa_wear_53 (fun v9 => ?_)
          refine J_if_ne 66 rfl d_Wa_wear_56 (fun c10 => ?_) (fun c10 => ?_)
          · refine J_aload_n 0 rfl d_Wa_wear_66 ?_
            refine P_gI fo_Wa_15_53 rfl d_Wa_wear_67 (fun v11 => ?_)
            refine J_iconst (v := 1) rfl d_Wa_wear_70 ?_
            refine J_icmp_ne 91 rfl d_Wa_wear_71 (fun c12 => ?_) (fun c12 => ?_)
            · refine J_iconst (v := 0) rfl d_Wa_wear_91 ?_
              exact J_exit [0, 1] rfl (fun hx => hx)
            · refine J_iconst (v := 2) rfl d_Wa_wear_74 ?_
              refine J_aload_n 0 rfl d_Wa_wear_75 ?_
              refine P_gI fo_Wa_25_53 rfl d_Wa_wear_76 (fun v13 => ?_)
              refine J_imul d_Wa_wear_79 ?_
              refine J_aload_n 0 rfl d_Wa_wear_80 ?_
              refine P_gI fo_Wa_22_53 rfl d_Wa_wear_81 (fun v14 => ?_)
              refine J_icmp_le 91 rfl d_Wa_wear_84 (fun c15 => ?_) (fun c15 => ?_)
              · refine J_iconst (v := 0) rfl d_Wa_wear_91 ?_
                exact J_exit [0, 1] rfl (fun hx => hx)
              · refine J_iconst (v := 1) rfl d_Wa_wear_87 ?_
                refine J_goto 92 rfl d_Wa_wear_88 ?_
                exact J_exit [0, 1] rfl (fun hx => hx)
          · refine J_iload_n 1 rfl d_Wa_wear_59 ?_
            refine J_iconst (v := 3) rfl d_Wa_wear_60 ?_
            refine J_irem (by decide) d_Wa_wear_61 ?_
            refine J_iconst (v := 2) rfl d_Wa_wear_62 ?_
            refine J_icmp_eq 87 rfl d_Wa_wear_63 (fun c16 => ?_) (fun c16 => ?_)
            · refine J_iconst (v := 1) rfl d_Wa_wear_87 ?_
              refine J_goto 92 rfl d_Wa_wear_88 ?_
              exact J_exit [0, 1] rfl (fun hx => hx)
            · refine J_aload_n 0 rfl d_Wa_wear_66 ?_
              refine P_gI fo_Wa_15_53 rfl d_Wa_wear_67 (fun v17 => ?_)
              refine J_iconst (v := 1) rfl d_Wa_wear_70 ?_
              refine J_icmp_ne 91 rfl d_Wa_wear_71 (fun c18 => ?_) (fun c18 => ?_)
              · refine J_iconst (v := 0) rfl d_Wa_wear_91 ?_
                exact J_exit [0, 1] rfl (fun hx => hx)
              · refine J_iconst (v := 2) rfl d_Wa_wear_74 ?_
                refine J_aload_n 0 rfl d_Wa_wear_75 ?_
                refine P_gI fo_Wa_25_53 rfl d_Wa_wear_76 (fun v19 => ?_)
                refine J_imul d_Wa_wear_79 ?_
                refine J_aload_n 0 rfl d_Wa_wear_80 ?_
                refine P_gI fo_Wa_22_53 rfl d_Wa_wear_81 (fun v20 => ?_)
                refine J_icmp_le 91 rfl d_Wa_wear_84 (fun c21 => ?_) (fun c21 => ?_)
                · refine J_iconst (v := 0) rfl d_Wa_wear_91 ?_
                  exact J_exit [0, 1] rfl (fun hx => hx)
                · refine J_iconst (v := 1) rfl d_Wa_wear_87 ?_
                  refine J_goto 92 rfl d_Wa_wear_88 ?_
                  exact J_exit [0, 1] rfl (fun hx => hx)
      · refine J_istore_n (lv' := [(2, .int v7), (0, .ref (ad 53)), (1, .int a1)]) 2 rfl (Nat.le_of_ble_eq_true rfl) rfl d_Wa_wear_92 ?_
        refine J_iload_n 0 rfl d_Wa_wear_93 ?_
        refine J_if_eq 114 rfl d_Wa_wear_94 (fun c22 => ?_) (fun c22 => ?_)
        · exact J_vret (Nat.le_refl _) (Nat.le_refl _) d_Wa_wear_114 rfl (fun hx => hx)
        · refine J_aload_n 1 rfl d_Wa_wear_97 ?_
          refine P_gI fo_Wa_22_53 rfl d_Wa_wear_98 (fun v23 => ?_)
          refine J_if_le 114 rfl d_Wa_wear_101 (fun c24 => ?_) (fun c24 => ?_)
          · exact J_vret (Nat.le_refl _) (Nat.le_refl _) d_Wa_wear_114 rfl (fun hx => hx)
          · refine J_aload_n 1 rfl d_Wa_wear_104 ?_
            refine J_dup rfl d_Wa_wear_105 ?_
            refine P_gI fo_Wa_22_53 rfl d_Wa_wear_106 (fun v25 => ?_)
            refine J_iconst (v := 1) rfl d_Wa_wear_109 ?_
            refine J_isub d_Wa_wear_110 ?_
            refine P_wI fo_Wa_22_53 rfl d_Wa_wear_111 (fun h26 => ?_)
            exact J_vret (Nat.le_refl _) (Nat.le_refl _) d_Wa_wear_114 rfl (fun hx => hx)
    · refine J_aload_n 0 rfl d_Wa_wear_15 ?_
      refine J_aload_n 0 rfl d_Wa_wear_16 ?_
      refine P_gI fo_Wa_22_53 rfl d_Wa_wear_17 (fun v27 => ?_)
      refine J_aload_n 0 rfl d_Wa_wear_20 ?_
      refine P_gI fo_Wa_19_53 rfl d_Wa_wear_21 (fun v28 => ?_)
      refine J_bd1 (fun (v29 : Int32) => Vw (kx_Wa_wear l g Q) 0 0 40 [(0, .ref (ad 53)), (1, .int a1)] [.int v29, .ref (ad 53)] (pic g ad h0)) ?_ (fun v29 => ?_)
      · refine J_icmp_ge 36 rfl d_Wa_wear_24 (fun c30 => ?_) (fun c30 => ?_)
        · refine J_aload_n 0 rfl d_Wa_wear_36 ?_
          refine P_gI fo_Wa_19_53 rfl d_Wa_wear_37 (fun v31 => ?_)
          exact J_exit [0, 1] rfl (fun hx => hx)
        · refine J_aload_n 0 rfl d_Wa_wear_27 ?_
          refine P_gI fo_Wa_22_53 rfl d_Wa_wear_28 (fun v32 => ?_)
          refine J_iconst (v := 1) rfl d_Wa_wear_31 ?_
          refine J_iadd d_Wa_wear_32 ?_
          refine J_goto 40 rfl d_Wa_wear_33 ?_
          exact J_exit [0, 1] rfl (fun hx => hx)
      · refine P_wI fo_Wa_22_53 rfl d_Wa_wear_40 (fun h33 => ?_)
        exact J_vret (Nat.le_refl _) (Nat.le_refl _) d_Wa_wear_43 rfl (fun hx => hx)
  · exact J_vret (Nat.le_refl _) (Nat.le_refl _) d_Wa_wear_7 rfl (fun hx => hx)
def f_Wa_unloadAtWell (a1 : Int32) (h0 : HP) : Option (HP) :=
 (if a1 - a1 / 8 * 8 = 7 then
 ltt (rI h0 53 7) (fun (v3 : Int32) =>
 ltt (rI h0 53 3) (fun (v4 : Int32) =>
 ltt (sI h0 53 7 (v3 + v4)) (fun (h5 : HP) =>
 ltt (sI h5 53 3 0) (fun (h6 : HP) =>
 some h6))))
 else
 some h0)
set_option maxRecDepth 20000 in
set_option maxHeartbeats 4000000 in
theorem m_Wa_unloadAtWell (l : Launch) (g : GG) (ad : Nat → Nat) (a1 : Int32) (h0 : HP) : CM l g ad y_Wa_unloadAtWell b_Wa_unloadAtWell 2 none rm_Wa_unloadAtWell [.ref (ad 53), .int a1] h0 enV (f_Wa_unloadAtWell a1 h0) := by
  refine CM.of (by decide) (Nat.le_of_ble_eq_true rfl) (fun Q => ?_)
  show Jj _ _ (Vw (kx_Wa_unloadAtWell l g Q) 0 0 0 _ _ _)
  refine J_sub [0, 1] (lv' := [(0, .ref (ad 53)), (1, .int a1)]) rfl ?_
  unfold f_Wa_unloadAtWell
  refine J_iload_n 1 rfl d_Wa_unloadAtWell_0 ?_
  refine J_bipush (v := 8) rfl d_Wa_unloadAtWell_1 ?_
  refine J_irem (by decide) d_Wa_unloadAtWell_3 ?_
  refine J_bipush (v := 7) rfl d_Wa_unloadAtWell_4 ?_
  refine J_icmp_ne 27 rfl d_Wa_unloadAtWell_6 (fun c2 => ?_) (fun c2 => ?_)
  · exact J_vret (Nat.le_refl _) (Nat.le_refl _) d_Wa_unloadAtWell_27 rfl (fun hx => hx)
  · refine J_aload_n 0 rfl d_Wa_unloadAtWell_9 ?_
    refine J_dup rfl d_Wa_unloadAtWell_10 ?_
    refine P_gI fo_Wa_35_53 rfl d_Wa_unloadAtWell_11 (fun v3 => ?_)
    refine J_aload_n 0 rfl d_Wa_unloadAtWell_14 ?_
    refine P_gI fo_Wa_25_53 rfl d_Wa_unloadAtWell_15 (fun v4 => ?_)
    refine J_iadd d_Wa_unloadAtWell_18 ?_
    refine P_wI fo_Wa_35_53 rfl d_Wa_unloadAtWell_19 (fun h5 => ?_)
    refine J_aload_n 0 rfl d_Wa_unloadAtWell_22 ?_
    refine J_iconst (v := 0) rfl d_Wa_unloadAtWell_23 ?_
    refine P_wI fo_Wa_25_53 rfl d_Wa_unloadAtWell_24 (fun h6 => ?_)
    exact J_vret (Nat.le_refl _) (Nat.le_refl _) d_Wa_unloadAtWell_27 rfl (fun hx => hx)
def f_Wa_keep (a1 : Int32) (h0 : HP) : Option (HP) :=
 ltt (a1 * 8) (fun (v2 : Int32) =>
 ltt (rI h0 53 3) (fun (v3 : Int32) =>
 ckk (inb (v2 + 0) 192) (ltt (wA h0 52 (v2 + 0) v3) (fun (h4 : HP) =>
 ltt (rI h4 53 4) (fun (v5 : Int32) =>
 ckk (inb (v2 + 1) 192) (ltt (wA h4 52 (v2 + 1) v5) (fun (h6 : HP) =>
 ltt (rI h6 53 10) (fun (v7 : Int32) =>
 bd1 ((if v7 = 0 then
 some (0)
 else
 some (1)) : Option (Int32)) (fun (v8 : Int32) =>
 ckk (inb (v2 + 2) 192) (ltt (wA h6 52 (v2 + 2) v8) (fun (h10 : HP) =>
 ltt (rI h10 53 6) (fun (v11 : Int32) =>
 ckk (inb (v2 + 3) 192) (ltt (wA h10 52 (v2 + 3) v11) (fun (h12 : HP) =>
 ltt (rI h12 53 7) (fun (v13 : Int32) =>
 ckk (inb (v2 + 4) 192) (ltt (wA h12 52 (v2 + 4) v13) (fun (h14 : HP) =>
 ltt (rI h14 53 11) (fun (v15 : Int32) =>
 ckk (inb (v2 + 5) 192) (ltt (wA h14 52 (v2 + 5) v15) (fun (h16 : HP) =>
 ltt (rI h16 53 9) (fun (v17 : Int32) =>
 ckk (inb (v2 + 6) 192) (ltt (wA h16 52 (v2 + 6) v17) (fun (h18 : HP) =>
 ltt (rI h18 53 8) (fun (v19 : Int32) =>
 ckk (inb (v2 + 7) 192) (ltt (wA h18 52 (v2 + 7) v19) (fun (h20 : HP) =>
 some h20))))))))))))))))))))))))))
set_option maxRecDepth 20000 in
set_option maxHeartbeats 4000000 in
theorem m_Wa_keep (l : Launch) (g : GG) (ad : Nat → Nat) (a1 : Int32) (h0 : HP) : CM l g ad y_Wa_keep b_Wa_keep 3 none rm_Wa_keep [.ref (ad 53), .int a1] h0 enV (f_Wa_keep a1 h0) := by
  refine CM.of (by decide) (Nat.le_of_ble_eq_true rfl) (fun Q => ?_)
  show Jj _ _ (Vw (kx_Wa_keep l g Q) 0 0 0 _ _ _)
  refine J_sub [0, 1] (lv' := [(0, .ref (ad 53)), (1, .int a1)]) rfl ?_
  unfold f_Wa_keep
  refine J_iload_n 1 rfl d_Wa_keep_0 ?_
  refine J_bipush (v := 8) rfl d_Wa_keep_1 ?_
  refine J_imul d_Wa_keep_3 ?_
  refine P_ist_n (lv' := fun v2 => [(2, .int v2), (0, .ref (ad 53)), (1, .int a1)]) 2 rfl (Nat.le_of_ble_eq_true rfl) (fun _ => rfl) d_Wa_keep_4 (fun v2 => ?_)
  refine J_aload_n 1 rfl d_Wa_keep_5 ?_
  refine J_getR fo_Wa_9_53 rfl d_Wa_keep_6 ?_
  refine J_iload_n 0 rfl d_Wa_keep_9 ?_
  refine J_iconst (v := 0) rfl d_Wa_keep_10 ?_
  refine J_iadd d_Wa_keep_11 ?_
  refine J_aload_n 1 rfl d_Wa_keep_12 ?_
  refine P_gI fo_Wa_25_53 rfl d_Wa_keep_13 (fun v3 => ?_)
  refine P_wa (by decide) rfl rfl d_Wa_keep_16 (fun h4 => ?_)
  refine J_aload_n 1 rfl d_Wa_keep_17 ?_
  refine J_getR fo_Wa_9_53 rfl d_Wa_keep_18 ?_
  refine J_iload_n 0 rfl d_Wa_keep_21 ?_
  refine J_iconst (v := 1) rfl d_Wa_keep_22 ?_
  refine J_iadd d_Wa_keep_23 ?_
  refine J_aload_n 1 rfl d_Wa_keep_24 ?_
  refine P_gI fo_Wa_22_53 rfl d_Wa_keep_25 (fun v5 => ?_)
  refine P_wa (by decide) rfl rfl d_Wa_keep_28 (fun h6 => ?_)
  refine J_aload_n 1 rfl d_Wa_keep_29 ?_
  refine J_getR fo_Wa_9_53 rfl d_Wa_keep_30 ?_
  refine J_iload_n 0 rfl d_Wa_keep_33 ?_
  refine J_iconst (v := 2) rfl d_Wa_keep_34 ?_
  refine J_iadd d_Wa_keep_35 ?_
  refine J_aload_n 1 rfl d_Wa_keep_36 ?_
  refine P_gZ fo_Wa_28_53 rfl d_Wa_keep_37 (fun v7 => ?_)
  refine J_bd1 (fun (v8 : Int32) => Vw (kx_Wa_keep l g Q) 0 0 48 [(2, .int v2), (0, .ref (ad 53)), (1, .int a1)] [.int v8, .int (v2 + 2), .ref (ad 52)] (pic g ad h6)) ?_ (fun v8 => ?_)
  · refine J_if_eq 47 rfl d_Wa_keep_40 (fun c9 => ?_) (fun c9 => ?_)
    · refine J_iconst (v := 0) rfl d_Wa_keep_47 ?_
      exact J_exit [0, 1, 2] rfl (fun hx => hx)
    · refine J_iconst (v := 1) rfl d_Wa_keep_43 ?_
      refine J_goto 48 rfl d_Wa_keep_44 ?_
      exact J_exit [0, 1, 2] rfl (fun hx => hx)
  · refine P_wa (by decide) rfl rfl d_Wa_keep_48 (fun h10 => ?_)
    refine J_aload_n 1 rfl d_Wa_keep_49 ?_
    refine J_getR fo_Wa_9_53 rfl d_Wa_keep_50 ?_
    refine J_iload_n 0 rfl d_Wa_keep_53 ?_
    refine J_iconst (v := 3) rfl d_Wa_keep_54 ?_
    refine J_iadd d_Wa_keep_55 ?_
    refine J_aload_n 1 rfl d_Wa_keep_56 ?_
    refine P_gI fo_Wa_32_53 rfl d_Wa_keep_57 (fun v11 => ?_)
    refine P_wa (by decide) rfl rfl d_Wa_keep_60 (fun h12 => ?_)
    refine J_aload_n 1 rfl d_Wa_keep_61 ?_
    refine J_getR fo_Wa_9_53 rfl d_Wa_keep_62 ?_
    refine J_iload_n 0 rfl d_Wa_keep_65 ?_
    refine J_iconst (v := 4) rfl d_Wa_keep_66 ?_
    refine J_iadd d_Wa_keep_67 ?_
    refine J_aload_n 1 rfl d_Wa_keep_68 ?_
    refine P_gI fo_Wa_35_53 rfl d_Wa_keep_69 (fun v13 => ?_)
    refine P_wa (by decide) rfl rfl d_Wa_keep_72 (fun h14 => ?_)
    refine J_aload_n 1 rfl d_Wa_keep_73 ?_
    refine J_getR fo_Wa_9_53 rfl d_Wa_keep_74 ?_
    refine J_iload_n 0 rfl d_Wa_keep_77 ?_
    refine J_iconst (v := 5) rfl d_Wa_keep_78 ?_
    refine J_iadd d_Wa_keep_79 ?_
    refine J_aload_n 1 rfl d_Wa_keep_80 ?_
    refine P_gI fo_Wa_41_53 rfl d_Wa_keep_81 (fun v15 => ?_)
    refine P_wa (by decide) rfl rfl d_Wa_keep_84 (fun h16 => ?_)
    refine J_aload_n 1 rfl d_Wa_keep_85 ?_
    refine J_getR fo_Wa_9_53 rfl d_Wa_keep_86 ?_
    refine J_iload_n 0 rfl d_Wa_keep_89 ?_
    refine J_bipush (v := 6) rfl d_Wa_keep_90 ?_
    refine J_iadd d_Wa_keep_92 ?_
    refine J_aload_n 1 rfl d_Wa_keep_93 ?_
    refine P_gI fo_Wa_50_53 rfl d_Wa_keep_94 (fun v17 => ?_)
    refine P_wa (by decide) rfl rfl d_Wa_keep_97 (fun h18 => ?_)
    refine J_aload_n 1 rfl d_Wa_keep_98 ?_
    refine J_getR fo_Wa_9_53 rfl d_Wa_keep_99 ?_
    refine J_iload_n 0 rfl d_Wa_keep_102 ?_
    refine J_bipush (v := 7) rfl d_Wa_keep_103 ?_
    refine J_iadd d_Wa_keep_105 ?_
    refine J_aload_n 1 rfl d_Wa_keep_106 ?_
    refine P_gI fo_Wa_38_53 rfl d_Wa_keep_107 (fun v19 => ?_)
    refine P_wa (by decide) rfl rfl d_Wa_keep_110 (fun h20 => ?_)
    exact J_vret (Nat.le_refl _) (Nat.le_refl _) d_Wa_keep_111 rfl (fun hx => hx)
def lp_Cv_march_68 (v13 : Int32) (v9 : Int32) (v2 : Int32) (a1 : Int32) : Nat → Int32 → HP → Option (Int32 × HP)
 | 0, _, _ => none
 | fu + 1, v15, h16 =>
 (if v13 = 0 then
 some (v15, h16)
 else
 ltt (rI h16 66 4) (fun (v18 : Int32) =>
 (if v18 ≤ v15 then
 some (v15, h16)
 else
 ckk (inb v15 10) (ltt (rA h16 62 v15) (fun (v20 : Int32) =>
 bd1 ((if v20 = v9 then
 ckk (inb v15 10) (ltt (rA h16 64 v15) (fun (v23 : Int32) =>
 (if v23 = a1 then
 ckk (inb v15 10) (ltt (rA h16 63 v15) (fun (v25 : Int32) =>
 bd1 (f_Wa_take v25 h16) (fun (h26 : HP) =>
 bd1 (f_Wa_breakIfOver v9 h26) (fun (h27 : HP) =>
 some (h27)))))
 else
 some (h16))))
 else
 some (h16)) : Option (HP)) (fun (h21 : HP) =>
 ltt (v15 + 1) (fun (v28 : Int32) =>
 lp_Cv_march_68 v13 v9 v2 a1 fu v28 h21)))))))
def lp_Cv_march_147 (v13 : Int32) (v9 : Int32) (v2 : Int32) (a1 : Int32) : Nat → Int32 → HP → Option (Int32 × HP)
 | 0, _, _ => none
 | fu + 1, v31, h32 =>
 (if v13 = 0 then
 some (v31, h32)
 else
 ckk ([60, 57].contains h32.2.2) (ltt h32.2.2 (fun (o34 : Nat) =>
 ltt (rI h32 o34 2) (fun (v35 : Int32) =>
 (if v35 ≤ v31 then
 some (v31, h32)
 else
 ckk ([60, 57].contains h32.2.2) (ltt h32.2.2 (fun (o37 : Nat) =>
 ltt (rf1 o37 0) (fun (o38 : Nat) =>
 ckk (inb v31 8) (ltt (rA h32 o38 v31) (fun (v39 : Int32) =>
 bd1 ((if v39 = v9 then
 ckk ([60, 57].contains h32.2.2) (ltt h32.2.2 (fun (o42 : Nat) =>
 ltt (rf1 o42 1) (fun (o43 : Nat) =>
 ckk (inb v31 8) (ltt (rA h32 o43 v31) (fun (v44 : Int32) =>
 (if v44 = a1 then
 ltt (rI h32 54 3) (fun (v46 : Int32) =>
 (if (v46 >>> (v31 &&& 31)) &&& 1 = 0 then
 bd1 (f_Wa_take 1 h32) (fun (h48 : HP) =>
 bd1 (f_Wa_breakIfOver v9 h48) (fun (h49 : HP) =>
 bd1 (f_Wa_payIfLast h49) (fun (h50 : HP) =>
 some (h50))))
 else
 some (h32)))
 else
 some (h32)))))))
 else
 some (h32)) : Option (HP)) (fun (h40 : HP) =>
 ltt (v31 + 1) (fun (v51 : Int32) =>
 lp_Cv_march_147 v13 v9 v2 a1 fu v51 h40))))))))))))
def lp_Cv_march_36 (v2 : Int32) (a1 : Int32) : Nat → Int32 → HP → Option (Int32 × HP)
 | 0, _, _ => none
 | fu + 1, v9, h10 =>
 (if 24 ≤ v9 then
 some (v9, h10)
 else
 bd1 (f_Wa_rise v9 h10) (fun (h12 : HP) =>
 bd1 ((if (v2 >>> (v9 &&& 31)) &&& 1 = 0 then
 some (0)
 else
 some (1)) : Option (Int32)) (fun (v13 : Int32) =>
 bd2 (lp_Cv_march_68 v13 v9 v2 a1 400 0 h12) (fun (v29 : Int32) (h30 : HP) =>
 bd2 (lp_Cv_march_147 v13 v9 v2 a1 400 0 h30) (fun (v52 : Int32) (h53 : HP) =>
 bd1 (f_Wa_measureRoom h53) (fun (h54 : HP) =>
 bd1 (f_Wa_wear v9 h54) (fun (h55 : HP) =>
 bd1 (f_Wa_breakIfOver v9 h55) (fun (h56 : HP) =>
 bd1 (f_Wa_unloadAtWell v9 h56) (fun (h57 : HP) =>
 bd1 (f_Wa_keep v9 h57) (fun (h58 : HP) =>
 ltt (v9 + 1) (fun (v59 : Int32) =>
 lp_Cv_march_36 v2 a1 fu v59 h58)))))))))))
def f_Cv_march (a1 : Int32) (h0 : HP) : Option (HP) :=
 bd2 (f_Cv_busyDaysOf a1 h0) (fun (v2 : Int32) (h3 : HP) =>
 ckk (inb a1 8) (ltt (rA h3 68 a1) (fun (v4 : Int32) =>
 ckk (inb a1 8) (ltt (rA h3 67 a1) (fun (v5 : Int32) =>
 bd2 (f_CS_strengthOf v5 h3) (fun (v6 : Int32) (h7 : HP) =>
 bd1 (f_Wa_start v4 v6 h7) (fun (h8 : HP) =>
 bd2 (lp_Cv_march_36 v2 a1 400 0 h8) (fun (v60 : Int32) (h61 : HP) =>
 some h61))))))))
set_option maxRecDepth 20000 in
set_option maxHeartbeats 4000000 in
theorem mlp_Cv_march_68 (l : Launch) (g : GG) (ad : Nat → Nat) (Q : Option Value → va_W → Prop) (v13 : Int32) (v9 : Int32) (v2 : Int32) (a1 : Int32) : ∀ (fu : Nat) (v15 : Int32) (h16 : HP), Jj (fun q : Int32 × HP => Vw (kx_Cv_march l g Q) 0 0 144 [(5, .int (q.1)), (4, .int v13), (3, .int v9), (2, .int v2), (0, .ref (ad 54)), (1, .int a1)] [] (pic g ad q.2)) (lp_Cv_march_68 v13 v9 v2 a1 fu v15 h16) (Vw (kx_Cv_march l g Q) 0 0 68 [(5, .int v15), (4, .int v13), (3, .int v9), (2, .int v2), (0, .ref (ad 54)), (1, .int a1)] [] (pic g ad h16)) := by
  intro fu
  induction fu with
  | zero =>
    intro v15 h16
    exact J_none
  | succ fu ih =>
    intro v15 h16
    rw [lp_Cv_march_68]
    refine J_iload 1 rfl d_Cv_march_68 ?_
    refine J_if_eq 144 rfl d_Cv_march_70 (fun c17 => ?_) (fun c17 => ?_)
    · exact J_exit [0, 1, 2, 3, 4, 5] rfl (fun hx => hx)
    · refine J_iload 0 rfl d_Cv_march_73 ?_
      refine J_aload_n 4 rfl d_Cv_march_75 ?_
      refine J_getR fo_Cv_26_54 rfl d_Cv_march_76 ?_
      refine P_gI fo_Cv_57_66 rfl d_Cv_march_79 (fun v18 => ?_)
      refine J_icmp_ge 144 rfl d_Cv_march_82 (fun c19 => ?_) (fun c19 => ?_)
      · exact J_exit [0, 1, 2, 3, 4, 5] rfl (fun hx => hx)
      · refine J_aload_n 4 rfl d_Cv_march_85 ?_
        refine J_getR fo_Cv_26_54 rfl d_Cv_march_86 ?_
        refine J_getR fo_Cv_63_66 rfl d_Cv_march_89 ?_
        refine J_iload 0 rfl d_Cv_march_92 ?_
        refine P_ia (by decide) rfl rfl d_Cv_march_94 (fun v20 => ?_)
        refine J_iload_n 2 rfl d_Cv_march_95 ?_
        refine J_bd1 (fun (h21 : HP) => Vw (kx_Cv_march l g Q) 0 0 138 [(5, .int v15), (4, .int v13), (3, .int v9), (2, .int v2), (0, .ref (ad 54)), (1, .int a1)] [] (pic g ad h21)) ?_ (fun h21 => ?_)
        · refine J_icmp_ne 138 rfl d_Cv_march_96 (fun c22 => ?_) (fun c22 => ?_)
          · exact J_exit [0, 1, 2, 3, 4, 5] rfl (fun hx => hx)
          · refine J_aload_n 4 rfl d_Cv_march_99 ?_
            refine J_getR fo_Cv_26_54 rfl d_Cv_march_100 ?_
            refine J_getR fo_Cv_66_66 rfl d_Cv_march_103 ?_
            refine J_iload 0 rfl d_Cv_march_106 ?_
            refine P_ia (by decide) rfl rfl d_Cv_march_108 (fun v23 => ?_)
            refine J_iload_n 5 rfl d_Cv_march_109 ?_
            refine J_icmp_ne 138 rfl d_Cv_march_110 (fun c24 => ?_) (fun c24 => ?_)
            · exact J_exit [0, 1, 2, 3, 4, 5] rfl (fun hx => hx)
            · refine J_aload_n 4 rfl d_Cv_march_113 ?_
              refine J_getR fo_Cv_12_54 rfl d_Cv_march_114 ?_
              refine J_aload_n 4 rfl d_Cv_march_117 ?_
              refine J_getR fo_Cv_26_54 rfl d_Cv_march_118 ?_
              refine J_getR fo_Cv_68_66 rfl d_Cv_march_121 ?_
              refine J_iload 0 rfl d_Cv_march_124 ?_
              refine P_ia (by decide) rfl rfl d_Cv_march_126 (fun v25 => ?_)
              refine J_callVv (m_Wa_take l g ad _ _) ok_Wa_take rc_53 wi_Wa_take wl_Wa_Wa_take wk_Cv_71 ⟨rfl, rfl, Nat.le_of_ble_eq_true rfl, Nat.le_of_ble_eq_true rfl⟩ ⟨Nat.zero_le _, Nat.zero_le _⟩ (rest := []) rfl rfl (Nat.le_of_ble_eq_true rfl) d_Cv_march_127 (fun h26 => ?_)
              refine J_aload_n 4 rfl d_Cv_march_130 ?_
              refine J_getR fo_Cv_12_54 rfl d_Cv_march_131 ?_
              refine J_iload_n 2 rfl d_Cv_march_134 ?_
              refine J_callVv (m_Wa_breakIfOver l g ad _ _) ok_Wa_breakIfOver rc_53 wi_Wa_breakIfOver wl_Wa_Wa_breakIfOver wk_Cv_74 ⟨rfl, rfl, Nat.le_of_ble_eq_true rfl, Nat.le_of_ble_eq_true rfl⟩ ⟨Nat.zero_le _, Nat.zero_le _⟩ (rest := []) rfl rfl (Nat.le_of_ble_eq_true rfl) d_Cv_march_135 (fun h27 => ?_)
              exact J_exit [0, 1, 2, 3, 4, 5] rfl (fun hx => hx)
        · refine P_inc (w := 1) (lv' := fun v28 => [(5, .int v28), (4, .int v13), (3, .int v9), (2, .int v2), (0, .ref (ad 54)), (1, .int a1)]) 0 rfl rfl (Nat.le_of_ble_eq_true rfl) (fun _ => rfl) d_Cv_march_138 (fun v28 => ?_)
          refine J_goto 68 rfl d_Cv_march_141 ?_
          exact J_sub [0, 1, 2, 3, 4, 5] rfl (ih _ _)
set_option maxRecDepth 20000 in
set_option maxHeartbeats 4000000 in
theorem mlp_Cv_march_147 (l : Launch) (g : GG) (ad : Nat → Nat) (Q : Option Value → va_W → Prop) (v13 : Int32) (v9 : Int32) (v2 : Int32) (a1 : Int32) : ∀ (fu : Nat) (v31 : Int32) (h32 : HP), Jj (fun q : Int32 × HP => Vw (kx_Cv_march l g Q) 0 0 233 [(5, .int (q.1)), (4, .int v13), (3, .int v9), (2, .int v2), (0, .ref (ad 54)), (1, .int a1)] [] (pic g ad q.2)) (lp_Cv_march_147 v13 v9 v2 a1 fu v31 h32) (Vw (kx_Cv_march l g Q) 0 0 147 [(5, .int v31), (4, .int v13), (3, .int v9), (2, .int v2), (0, .ref (ad 54)), (1, .int a1)] [] (pic g ad h32)) := by
  intro fu
  induction fu with
  | zero =>
    intro v31 h32
    exact J_none
  | succ fu ih =>
    intro v31 h32
    rw [lp_Cv_march_147]
    refine J_iload 1 rfl d_Cv_march_147 ?_
    refine J_if_eq 233 rfl d_Cv_march_149 (fun c33 => ?_) (fun c33 => ?_)
    · exact J_exit [0, 1, 2, 3, 4, 5] rfl (fun hx => hx)
    · refine J_iload 0 rfl d_Cv_march_152 ?_
      refine J_aload_n 4 rfl d_Cv_march_154 ?_
      refine P_gM (cs := [60, 57]) fo_Cv_30_54 rfl d_Cv_march_155 (fun o34 ho34 => ?_)
      refine P_gI (fo_Cv_77_s60_57 _ ho34) (fd_s60_57_2 _ ho34) d_Cv_march_158 (fun v35 => ?_)
      refine J_icmp_ge 233 rfl d_Cv_march_161 (fun c36 => ?_) (fun c36 => ?_)
      · exact J_exit [0, 1, 2, 3, 4, 5] rfl (fun hx => hx)
      · refine J_aload_n 4 rfl d_Cv_march_164 ?_
        refine P_gM (cs := [60, 57]) fo_Cv_30_54 rfl d_Cv_march_165 (fun o37 ho37 => ?_)
        refine P_gRv (rm_s60_57_0 _ ho37) (fo_Cv_82_s60_57 _ ho37) (fd_s60_57_0 _ ho37) d_Cv_march_168 (fun o38 ho38 => ?_)
        refine J_iload 0 rfl d_Cv_march_171 ?_
        refine P_ia (al_s59_56 _ ho38) (ak_s59_56 _ ho38) (an_s59_56 _ ho38) d_Cv_march_173 (fun v39 => ?_)
        refine J_iload_n 2 rfl d_Cv_march_174 ?_
        refine J_bd1 (fun (h40 : HP) => Vw (kx_Cv_march l g Q) 0 0 227 [(5, .int v31), (4, .int v13), (3, .int v9), (2, .int v2), (0, .ref (ad 54)), (1, .int a1)] [] (pic g ad h40)) ?_ (fun h40 => ?_)
        · refine J_icmp_ne 227 rfl d_Cv_march_175 (fun c41 => ?_) (fun c41 => ?_)
          · exact J_exit [0, 1, 2, 3, 4, 5] rfl (fun hx => hx)
          · refine J_aload_n 4 rfl d_Cv_march_178 ?_
            refine P_gM (cs := [60, 57]) fo_Cv_30_54 rfl d_Cv_march_179 (fun o42 ho42 => ?_)
            refine P_gRv (rm_s60_57_1 _ ho42) (fo_Cv_83_s60_57 _ ho42) (fd_s60_57_1 _ ho42) d_Cv_march_182 (fun o43 ho43 => ?_)
            refine J_iload 0 rfl d_Cv_march_185 ?_
            refine P_ia (al_s58_55 _ ho43) (ak_s58_55 _ ho43) (an_s58_55 _ ho43) d_Cv_march_187 (fun v44 => ?_)
            refine J_iload_n 5 rfl d_Cv_march_188 ?_
            refine J_icmp_ne 227 rfl d_Cv_march_189 (fun c45 => ?_) (fun c45 => ?_)
            · exact J_exit [0, 1, 2, 3, 4, 5] rfl (fun hx => hx)
            · refine J_aload_n 4 rfl d_Cv_march_192 ?_
              refine P_gI fo_Cv_84_54 rfl d_Cv_march_193 (fun v46 => ?_)
              refine J_iload 0 rfl d_Cv_march_196 ?_
              refine J_ishr d_Cv_march_198 ?_
              refine J_iconst (v := 1) rfl d_Cv_march_199 ?_
              refine J_iand d_Cv_march_200 ?_
              refine J_if_ne 227 rfl d_Cv_march_201 (fun c47 => ?_) (fun c47 => ?_)
              · exact J_exit [0, 1, 2, 3, 4, 5] rfl (fun hx => hx)
              · refine J_aload_n 4 rfl d_Cv_march_204 ?_
                refine J_getR fo_Cv_12_54 rfl d_Cv_march_205 ?_
                refine J_iconst (v := 1) rfl d_Cv_march_208 ?_
                refine J_callVv (m_Wa_take l g ad _ _) ok_Wa_take rc_53 wi_Wa_take wl_Wa_Wa_take wk_Cv_71 ⟨rfl, rfl, Nat.le_of_ble_eq_true rfl, Nat.le_of_ble_eq_true rfl⟩ ⟨Nat.zero_le _, Nat.zero_le _⟩ (rest := []) rfl rfl (Nat.le_of_ble_eq_true rfl) d_Cv_march_209 (fun h48 => ?_)
                refine J_aload_n 4 rfl d_Cv_march_212 ?_
                refine J_getR fo_Cv_12_54 rfl d_Cv_march_213 ?_
                refine J_iload_n 2 rfl d_Cv_march_216 ?_
                refine J_callVv (m_Wa_breakIfOver l g ad _ _) ok_Wa_breakIfOver rc_53 wi_Wa_breakIfOver wl_Wa_Wa_breakIfOver wk_Cv_74 ⟨rfl, rfl, Nat.le_of_ble_eq_true rfl, Nat.le_of_ble_eq_true rfl⟩ ⟨Nat.zero_le _, Nat.zero_le _⟩ (rest := []) rfl rfl (Nat.le_of_ble_eq_true rfl) d_Cv_march_217 (fun h49 => ?_)
                refine J_aload_n 4 rfl d_Cv_march_220 ?_
                refine J_getR fo_Cv_12_54 rfl d_Cv_march_221 ?_
                refine J_callVv (m_Wa_payIfLast l g ad _) ok_Wa_payIfLast rc_53 wi_Wa_payIfLast wl_Wa_Wa_payIfLast wk_Cv_87 ⟨rfl, rfl, Nat.le_of_ble_eq_true rfl, Nat.le_of_ble_eq_true rfl⟩ ⟨Nat.zero_le _, Nat.zero_le _⟩ (rest := []) rfl rfl (Nat.le_of_ble_eq_true rfl) d_Cv_march_224 (fun h50 => ?_)
                exact J_exit [0, 1, 2, 3, 4, 5] rfl (fun hx => hx)
        · refine P_inc (w := 1) (lv' := fun v51 => [(5, .int v51), (4, .int v13), (3, .int v9), (2, .int v2), (0, .ref (ad 54)), (1, .int a1)]) 0 rfl rfl (Nat.le_of_ble_eq_true rfl) (fun _ => rfl) d_Cv_march_227 (fun v51 => ?_)
          refine J_goto 147 rfl d_Cv_march_230 ?_
          exact J_sub [0, 1, 2, 3, 4, 5] rfl (ih _ _)
set_option maxRecDepth 20000 in
set_option maxHeartbeats 4000000 in
theorem mlp_Cv_march_36 (l : Launch) (g : GG) (ad : Nat → Nat) (Q : Option Value → va_W → Prop) (v2 : Int32) (a1 : Int32) : ∀ (fu : Nat) (v9 : Int32) (h10 : HP), Jj (fun q : Int32 × HP => Vw (kx_Cv_march l g Q) 0 0 278 [(3, .int (q.1)), (2, .int v2), (0, .ref (ad 54)), (1, .int a1)] [] (pic g ad q.2)) (lp_Cv_march_36 v2 a1 fu v9 h10) (Vw (kx_Cv_march l g Q) 0 0 36 [(3, .int v9), (2, .int v2), (0, .ref (ad 54)), (1, .int a1)] [] (pic g ad h10)) := by
  intro fu
  induction fu with
  | zero =>
    intro v9 h10
    exact J_none
  | succ fu ih =>
    intro v9 h10
    rw [lp_Cv_march_36]
    refine J_iload_n 0 rfl d_Cv_march_36 ?_
    refine J_bipush (v := 24) rfl d_Cv_march_37 ?_
    refine J_icmp_ge 278 rfl d_Cv_march_39 (fun c11 => ?_) (fun c11 => ?_)
    · exact J_exit [0, 1, 2, 3] rfl (fun hx => hx)
    · refine J_aload_n 2 rfl d_Cv_march_42 ?_
      refine J_getR fo_Cv_12_54 rfl d_Cv_march_43 ?_
      refine J_iload_n 0 rfl d_Cv_march_46 ?_
      refine J_callVv (m_Wa_rise l g ad _ _) ok_Wa_rise rc_53 wi_Wa_rise wl_Wa_Wa_rise wk_Cv_53 ⟨rfl, rfl, Nat.le_of_ble_eq_true rfl, Nat.le_of_ble_eq_true rfl⟩ ⟨Nat.zero_le _, Nat.zero_le _⟩ (rest := []) rfl rfl (Nat.le_of_ble_eq_true rfl) d_Cv_march_47 (fun h12 => ?_)
      refine J_iload_n 1 rfl d_Cv_march_50 ?_
      refine J_iload_n 0 rfl d_Cv_march_51 ?_
      refine J_ishr d_Cv_march_52 ?_
      refine J_iconst (v := 1) rfl d_Cv_march_53 ?_
      refine J_iand d_Cv_march_54 ?_
      refine J_bd1 (fun (v13 : Int32) => Vw (kx_Cv_march l g Q) 0 0 63 [(3, .int v9), (2, .int v2), (0, .ref (ad 54)), (1, .int a1)] [.int v13] (pic g ad h12)) ?_ (fun v13 => ?_)
      · refine J_if_eq 62 rfl d_Cv_march_55 (fun c14 => ?_) (fun c14 => ?_)
        · refine J_iconst (v := 0) rfl d_Cv_march_62 ?_
          exact J_exit [0, 1, 2, 3] rfl (fun hx => hx)
        · refine J_iconst (v := 1) rfl d_Cv_march_58 ?_
          refine J_goto 63 rfl d_Cv_march_59 ?_
          exact J_exit [0, 1, 2, 3] rfl (fun hx => hx)
      · refine J_istore (lv' := [(4, .int v13), (3, .int v9), (2, .int v2), (0, .ref (ad 54)), (1, .int a1)]) (Nat.le_of_ble_eq_true rfl) rfl d_Cv_march_63 ?_
        refine J_iconst (v := 0) rfl d_Cv_march_65 ?_
        refine J_istore (lv' := [(5, .int 0), (4, .int v13), (3, .int v9), (2, .int v2), (0, .ref (ad 54)), (1, .int a1)]) (Nat.le_of_ble_eq_true rfl) rfl d_Cv_march_66 ?_
        refine J_bd2 (fun (v29 : Int32) (h30 : HP) => Vw (kx_Cv_march l g Q) 0 0 144 [(5, .int v29), (4, .int v13), (3, .int v9), (2, .int v2), (0, .ref (ad 54)), (1, .int a1)] [] (pic g ad h30)) ?_ (fun v29 h30 => ?_)
        · exact J_sub [0, 1, 2, 3, 4, 5] rfl (mlp_Cv_march_68 l g ad Q v13 v9 v2 a1 400 _ _)
        · refine J_iconst (v := 0) rfl d_Cv_march_144 ?_
          refine J_istore (lv' := [(5, .int 0), (4, .int v13), (3, .int v9), (2, .int v2), (0, .ref (ad 54)), (1, .int a1)]) (Nat.le_of_ble_eq_true rfl) rfl d_Cv_march_145 ?_
          refine J_bd2 (fun (v52 : Int32) (h53 : HP) => Vw (kx_Cv_march l g Q) 0 0 233 [(5, .int v52), (4, .int v13), (3, .int v9), (2, .int v2), (0, .ref (ad 54)), (1, .int a1)] [] (pic g ad h53)) ?_ (fun v52 h53 => ?_)
          · exact J_sub [0, 1, 2, 3, 4, 5] rfl (mlp_Cv_march_147 l g ad Q v13 v9 v2 a1 400 _ _)
          · refine J_aload_n 4 rfl d_Cv_march_233 ?_
            refine J_getR fo_Cv_12_54 rfl d_Cv_march_234 ?_
            refine J_callVv (m_Wa_measureRoom l g ad _) ok_Wa_measureRoom rc_53 wi_Wa_measureRoom wl_Wa_Wa_measureRoom wk_Cv_90 ⟨rfl, rfl, Nat.le_of_ble_eq_true rfl, Nat.le_of_ble_eq_true rfl⟩ ⟨Nat.zero_le _, Nat.zero_le _⟩ (rest := []) rfl rfl (Nat.le_of_ble_eq_true rfl) d_Cv_march_237 (fun h54 => ?_)
            refine J_aload_n 4 rfl d_Cv_march_240 ?_
            refine J_getR fo_Cv_12_54 rfl d_Cv_march_241 ?_
            refine J_iload_n 2 rfl d_Cv_march_244 ?_
            refine J_callVv (m_Wa_wear l g ad _ _) ok_Wa_wear rc_53 wi_Wa_wear wl_Wa_Wa_wear wk_Cv_93 ⟨rfl, rfl, Nat.le_of_ble_eq_true rfl, Nat.le_of_ble_eq_true rfl⟩ ⟨Nat.zero_le _, Nat.zero_le _⟩ (rest := []) rfl rfl (Nat.le_of_ble_eq_true rfl) d_Cv_march_245 (fun h55 => ?_)
            refine J_aload_n 4 rfl d_Cv_march_248 ?_
            refine J_getR fo_Cv_12_54 rfl d_Cv_march_249 ?_
            refine J_iload_n 2 rfl d_Cv_march_252 ?_
            refine J_callVv (m_Wa_breakIfOver l g ad _ _) ok_Wa_breakIfOver rc_53 wi_Wa_breakIfOver wl_Wa_Wa_breakIfOver wk_Cv_74 ⟨rfl, rfl, Nat.le_of_ble_eq_true rfl, Nat.le_of_ble_eq_true rfl⟩ ⟨Nat.zero_le _, Nat.zero_le _⟩ (rest := []) rfl rfl (Nat.le_of_ble_eq_true rfl) d_Cv_march_253 (fun h56 => ?_)
            refine J_aload_n 4 rfl d_Cv_march_256 ?_
            refine J_getR fo_Cv_12_54 rfl d_Cv_march_257 ?_
            refine J_iload_n 2 rfl d_Cv_march_260 ?_
            refine J_callVv (m_Wa_unloadAtWell l g ad _ _) ok_Wa_unloadAtWell rc_53 wi_Wa_unloadAtWell wl_Wa_Wa_unloadAtWell wk_Cv_96 ⟨rfl, rfl, Nat.le_of_ble_eq_true rfl, Nat.le_of_ble_eq_true rfl⟩ ⟨Nat.zero_le _, Nat.zero_le _⟩ (rest := []) rfl rfl (Nat.le_of_ble_eq_true rfl) d_Cv_march_261 (fun h57 => ?_)
            refine J_aload_n 4 rfl d_Cv_march_264 ?_
            refine J_getR fo_Cv_12_54 rfl d_Cv_march_265 ?_
            refine J_iload_n 2 rfl d_Cv_march_268 ?_
            refine J_callVv (m_Wa_keep l g ad _ _) ok_Wa_keep rc_53 wi_Wa_keep wl_Wa_Wa_keep wk_Cv_99 ⟨rfl, rfl, Nat.le_of_ble_eq_true rfl, Nat.le_of_ble_eq_true rfl⟩ ⟨Nat.zero_le _, Nat.zero_le _⟩ (rest := []) rfl rfl (Nat.le_of_ble_eq_true rfl) d_Cv_march_269 (fun h58 => ?_)
            refine P_inc (w := 1) (lv' := fun v59 => [(3, .int v59), (5, .int v52), (4, .int v13), (2, .int v2), (0, .ref (ad 54)), (1, .int a1)]) 2 rfl rfl (Nat.le_of_ble_eq_true rfl) (fun _ => rfl) d_Cv_march_272 (fun v59 => ?_)
            refine J_goto 36 rfl d_Cv_march_275 ?_
            exact J_sub [0, 3, 4, 5] rfl (ih _ _)
set_option maxRecDepth 20000 in
set_option maxHeartbeats 4000000 in
theorem m_Cv_march (l : Launch) (g : GG) (ad : Nat → Nat) (a1 : Int32) (h0 : HP) : CM l g ad y_Cv_march b_Cv_march 6 (some (.object "CamelStraws$Walk")) rm_Cv_march [.ref (ad 54), .int a1] h0 (enA (ad 53)) (f_Cv_march a1 h0) := by
  refine CM.of (by decide) (Nat.le_of_ble_eq_true rfl) (fun Q => ?_)
  show Jj _ _ (Vw (kx_Cv_march l g Q) 0 0 0 _ _ _)
  refine J_sub [0, 1] (lv' := [(0, .ref (ad 54)), (1, .int a1)]) rfl ?_
  unfold f_Cv_march
  refine J_aload_n 0 rfl d_Cv_march_0 ?_
  refine J_iload_n 1 rfl d_Cv_march_1 ?_
  refine J_callVi (m_Cv_busyDaysOf l g ad _ _) ok_Cv_busyDaysOf rc_54 wi_Cv_busyDaysOf wl_Cv_Cv_busyDaysOf wk_Cv_34 ⟨rfl, rfl, Nat.le_of_ble_eq_true rfl, Nat.le_of_ble_eq_true rfl⟩ ⟨Nat.zero_le _, Nat.zero_le _⟩ (rest := []) rfl rfl (Nat.le_of_ble_eq_true rfl) d_Cv_march_2 (fun v2 h3 => ?_)
  refine J_istore_n (lv' := [(2, .int v2), (0, .ref (ad 54)), (1, .int a1)]) 2 rfl (Nat.le_of_ble_eq_true rfl) rfl d_Cv_march_5 ?_
  refine J_aload_n 1 rfl d_Cv_march_6 ?_
  refine J_getR fo_Cv_12_54 rfl d_Cv_march_7 ?_
  refine J_aload_n 1 rfl d_Cv_march_10 ?_
  refine J_getR fo_Cv_22_54 rfl d_Cv_march_11 ?_
  refine J_getR fo_Cv_38_70 rfl d_Cv_march_14 ?_
  refine J_iload_n 2 rfl d_Cv_march_17 ?_
  refine P_ia (by decide) rfl rfl d_Cv_march_18 (fun v4 => ?_)
  refine J_aload_n 1 rfl d_Cv_march_19 ?_
  refine J_getR fo_Cv_22_54 rfl d_Cv_march_20 ?_
  refine J_getR fo_Cv_43_70 rfl d_Cv_march_23 ?_
  refine J_iload_n 2 rfl d_Cv_march_26 ?_
  refine P_ia (by decide) rfl rfl d_Cv_march_27 (fun v5 => ?_)
  refine J_callSNi (m_CS_strengthOf l g ad _ _) ok_CS_strengthOf ws_CS_strengthOf wk_Cv_46 ⟨rfl, rfl, Nat.le_of_ble_eq_true rfl, Nat.le_of_ble_eq_true rfl⟩ ⟨Nat.zero_le _, Nat.zero_le _⟩ (rest := [.int v4, .ref (ad 53)]) rfl rfl (Nat.le_of_ble_eq_true rfl) d_Cv_march_28 (fun v6 h7 => ?_)
  refine J_callVv (m_Wa_start l g ad _ _ _) ok_Wa_start rc_53 wi_Wa_start wl_Wa_Wa_start wk_Cv_49 ⟨rfl, rfl, Nat.le_of_ble_eq_true rfl, Nat.le_of_ble_eq_true rfl⟩ ⟨Nat.zero_le _, Nat.zero_le _⟩ (rest := []) rfl rfl (Nat.le_of_ble_eq_true rfl) d_Cv_march_31 (fun h8 => ?_)
  refine J_iconst (v := 0) rfl d_Cv_march_34 ?_
  refine J_istore_n (lv' := [(3, .int 0), (2, .int v2), (0, .ref (ad 54)), (1, .int a1)]) 3 rfl (Nat.le_of_ble_eq_true rfl) rfl d_Cv_march_35 ?_
  refine J_bd2 (fun (v60 : Int32) (h61 : HP) => Vw (kx_Cv_march l g Q) 0 0 278 [(3, .int v60), (2, .int v2), (0, .ref (ad 54)), (1, .int a1)] [] (pic g ad h61)) ?_ (fun v60 h61 => ?_)
  · exact J_sub [0, 1, 2, 3] rfl (mlp_Cv_march_36 l g ad Q v2 a1 400 _ _)
  · refine J_aload_n 2 rfl d_Cv_march_278 ?_
    refine J_getR fo_Cv_12_54 rfl d_Cv_march_279 ?_
    exact J_aret (Nat.le_refl _) (Nat.le_refl _) d_Cv_march_282 rfl (fun hx => hx)
def f_Wa_behind (a1 : Int32) (a2 : Int32) (h0 : HP) : Option (Int32 × HP) :=
 ckk (inb ((a1 * 8) + a2) 192) (ltt (rA h0 52 ((a1 * 8) + a2)) (fun (v3 : Int32) =>
 some (v3, h0)))
set_option maxRecDepth 20000 in
set_option maxHeartbeats 4000000 in
theorem m_Wa_behind (l : Launch) (g : GG) (ad : Nat → Nat) (a1 : Int32) (a2 : Int32) (h0 : HP) : CM l g ad y_Wa_behind b_Wa_behind 3 (some .int) rm_Wa_behind [.ref (ad 53), .int a1, .int a2] h0 enI (f_Wa_behind a1 a2 h0) := by
  refine CM.of (by decide) (Nat.le_of_ble_eq_true rfl) (fun Q => ?_)
  show Jj _ _ (Vw (kx_Wa_behind l g Q) 0 0 0 _ _ _)
  refine J_sub [0, 1, 2] (lv' := [(0, .ref (ad 53)), (1, .int a1), (2, .int a2)]) rfl ?_
  unfold f_Wa_behind
  refine J_aload_n 0 rfl d_Wa_behind_0 ?_
  refine J_getR fo_Wa_9_53 rfl d_Wa_behind_1 ?_
  refine J_iload_n 1 rfl d_Wa_behind_4 ?_
  refine J_bipush (v := 8) rfl d_Wa_behind_5 ?_
  refine J_imul d_Wa_behind_7 ?_
  refine J_iload_n 2 rfl d_Wa_behind_8 ?_
  refine J_iadd d_Wa_behind_9 ?_
  refine P_ia (by decide) rfl rfl d_Wa_behind_10 (fun v3 => ?_)
  exact J_iret (Nat.le_refl _) (Nat.le_refl _) d_Wa_behind_11 rfl (fun hx => hx)
def f_CS_at (a1 : Int32) (a2 : Int32) (a3 : Int32) (h0 : HP) : Option (Int32 × HP) :=
 bd2 (f_CS_isDay a1 h0) (fun (v4 : Int32) (h5 : HP) =>
 (if v4 = 0 then
 some ((-2), h5)
 else
 bd2 (f_CS_isCamel a2 h5) (fun (v7 : Int32) (h8 : HP) =>
 (if v7 = 0 then
 some ((-2), h8)
 else
 (if a3 < 0 then
 some ((-2), h8)
 else
 (if a3 < 6 then
 bd1 (f_Cv_march a2 h8) (fun (h12 : HP) =>
 bd2 (f_Wa_behind a1 a3 h12) (fun (v13 : Int32) (h14 : HP) =>
 some (v13, h14)))
 else
 some ((-2), h8)))))))
set_option maxRecDepth 20000 in
set_option maxHeartbeats 4000000 in
theorem m_CS_at (l : Launch) (g : GG) (ad : Nat → Nat) (a1 : Int32) (a2 : Int32) (a3 : Int32) (h0 : HP) : CM l g ad y_CS_at b_CS_at 4 (some .int) rm_CS_at [.ref (ad 71), .int a1, .int a2, .int a3] h0 enI (f_CS_at a1 a2 a3 h0) := by
  refine CM.of (by decide) (Nat.le_of_ble_eq_true rfl) (fun Q => ?_)
  show Jj _ _ (Vw (kx_CS_at l g Q) 0 0 0 _ _ _)
  refine J_sub [0, 1, 2, 3] (lv' := [(0, .ref (ad 71)), (1, .int a1), (2, .int a2), (3, .int a3)]) rfl ?_
  unfold f_CS_at
  refine J_iload_n 1 rfl d_CS_at_0 ?_
  refine J_callSi (m_CS_isDay l g ad _ _) ok_CS_isDay ws_CS_isDay wk_CS_121 ⟨rfl, rfl, Nat.le_of_ble_eq_true rfl, Nat.le_of_ble_eq_true rfl⟩ ⟨Nat.zero_le _, Nat.zero_le _⟩ (rest := []) rfl rfl (Nat.le_of_ble_eq_true rfl) d_CS_at_1 (fun v4 h5 => ?_)
  refine J_if_eq 25 rfl d_CS_at_4 (fun c6 => ?_) (fun c6 => ?_)
  · refine J_bipush (v := (-2)) rfl d_CS_at_25 ?_
    exact J_iret (Nat.le_refl _) (Nat.le_refl _) d_CS_at_27 rfl (fun hx => hx)
  · refine J_aload_n 0 rfl d_CS_at_7 ?_
    refine J_iload_n 2 rfl d_CS_at_8 ?_
    refine J_callVi (m_CS_isCamel l g ad _ _) ok_CS_isCamel rc_71 wi_CS_isCamel wl_CS_CS_isCamel wk_CS_96 ⟨rfl, rfl, Nat.le_of_ble_eq_true rfl, Nat.le_of_ble_eq_true rfl⟩ ⟨Nat.zero_le _, Nat.zero_le _⟩ (rest := []) rfl rfl (Nat.le_of_ble_eq_true rfl) d_CS_at_9 (fun v7 h8 => ?_)
    refine J_if_eq 25 rfl d_CS_at_12 (fun c9 => ?_) (fun c9 => ?_)
    · refine J_bipush (v := (-2)) rfl d_CS_at_25 ?_
      exact J_iret (Nat.le_refl _) (Nat.le_refl _) d_CS_at_27 rfl (fun hx => hx)
    · refine J_iload_n 3 rfl d_CS_at_15 ?_
      refine J_if_lt 25 rfl d_CS_at_16 (fun c10 => ?_) (fun c10 => ?_)
      · refine J_bipush (v := (-2)) rfl d_CS_at_25 ?_
        exact J_iret (Nat.le_refl _) (Nat.le_refl _) d_CS_at_27 rfl (fun hx => hx)
      · refine J_iload_n 3 rfl d_CS_at_19 ?_
        refine J_bipush (v := 6) rfl d_CS_at_20 ?_
        refine J_icmp_lt 28 rfl d_CS_at_22 (fun c11 => ?_) (fun c11 => ?_)
        · refine J_aload_n 0 rfl d_CS_at_28 ?_
          refine J_getR fo_CS_44_71 rfl d_CS_at_29 ?_
          refine J_iload_n 2 rfl d_CS_at_32 ?_
          refine J_callVa (m_Cv_march l g ad _ _) ok_Cv_march rc_54 wi_Cv_march wl_Cv_Cv_march wk_CS_151 ⟨rfl, rfl, Nat.le_of_ble_eq_true rfl, Nat.le_of_ble_eq_true rfl⟩ ⟨Nat.zero_le _, Nat.zero_le _⟩ (rest := []) rfl rfl (Nat.le_of_ble_eq_true rfl) d_CS_at_33 (fun h12 => ?_)
          refine J_iload_n 1 rfl d_CS_at_36 ?_
          refine J_iload_n 3 rfl d_CS_at_37 ?_
          refine J_callVi (m_Wa_behind l g ad _ _ _) ok_Wa_behind rc_53 wi_Wa_behind wl_Wa_Wa_behind wk_CS_155 ⟨rfl, rfl, Nat.le_of_ble_eq_true rfl, Nat.le_of_ble_eq_true rfl⟩ ⟨Nat.zero_le _, Nat.zero_le _⟩ (rest := []) rfl rfl (Nat.le_of_ble_eq_true rfl) d_CS_at_38 (fun v13 h14 => ?_)
          exact J_iret (Nat.le_refl _) (Nat.le_refl _) d_CS_at_41 rfl (fun hx => hx)
        · refine J_bipush (v := (-2)) rfl d_CS_at_25 ?_
          exact J_iret (Nat.le_refl _) (Nat.le_refl _) d_CS_at_27 rfl (fun hx => hx)
def lp_Cv_inAll_4 (a1 : Int32) : Nat → Int32 → Int32 → HP → Option (Int32 × Int32 × HP)
 | 0, _, _, _ => none
 | fu + 1, v2, v3, h4 =>
 ltt (rI h4 70 4) (fun (v5 : Int32) =>
 (if v5 ≤ v2 then
 some (v2, v3, h4)
 else
 bd1 (f_Cv_march v2 h4) (fun (h7 : HP) =>
 bd2 (f_Wa_behind 23 a1 h7) (fun (v8 : Int32) (h9 : HP) =>
 ltt (v3 + v8) (fun (v10 : Int32) =>
 ltt (v2 + 1) (fun (v11 : Int32) =>
 lp_Cv_inAll_4 a1 fu v11 v10 h9))))))
def f_Cv_inAll (a1 : Int32) (h0 : HP) : Option (Int32 × HP) :=
 bd3 (lp_Cv_inAll_4 a1 400 0 0 h0) (fun (v12 : Int32) (v13 : Int32) (h14 : HP) =>
 some (v13, h14))
set_option maxRecDepth 20000 in
set_option maxHeartbeats 4000000 in
theorem mlp_Cv_inAll_4 (l : Launch) (g : GG) (ad : Nat → Nat) (Q : Option Value → va_W → Prop) (a1 : Int32) : ∀ (fu : Nat) (v2 : Int32) (v3 : Int32) (h4 : HP), Jj (fun q : Int32 × Int32 × HP => Vw (kx_Cv_inAll l g Q) 0 0 35 [(3, .int (q.1)), (2, .int (q.2.1)), (0, .ref (ad 54)), (1, .int a1)] [] (pic g ad q.2.2)) (lp_Cv_inAll_4 a1 fu v2 v3 h4) (Vw (kx_Cv_inAll l g Q) 0 0 4 [(3, .int v2), (2, .int v3), (0, .ref (ad 54)), (1, .int a1)] [] (pic g ad h4)) := by
  intro fu
  induction fu with
  | zero =>
    intro v2 v3 h4
    exact J_none
  | succ fu ih =>
    intro v2 v3 h4
    rw [lp_Cv_inAll_4]
    refine J_iload_n 0 rfl d_Cv_inAll_4 ?_
    refine J_aload_n 2 rfl d_Cv_inAll_5 ?_
    refine J_getR fo_Cv_22_54 rfl d_Cv_inAll_6 ?_
    refine P_gI fo_Cv_102_70 rfl d_Cv_inAll_9 (fun v5 => ?_)
    refine J_icmp_ge 35 rfl d_Cv_inAll_12 (fun c6 => ?_) (fun c6 => ?_)
    · exact J_exit [0, 1, 2, 3] rfl (fun hx => hx)
    · refine J_iload_n 1 rfl d_Cv_inAll_15 ?_
      refine J_aload_n 2 rfl d_Cv_inAll_16 ?_
      refine J_iload_n 0 rfl d_Cv_inAll_17 ?_
      refine J_callVa (m_Cv_march l g ad _ _) ok_Cv_march rc_54 wi_Cv_march wl_Cv_Cv_march wk_Cv_103 ⟨rfl, rfl, Nat.le_of_ble_eq_true rfl, Nat.le_of_ble_eq_true rfl⟩ ⟨Nat.zero_le _, Nat.zero_le _⟩ (rest := [.int v3]) rfl rfl (Nat.le_of_ble_eq_true rfl) d_Cv_inAll_18 (fun h7 => ?_)
      refine J_bipush (v := 23) rfl d_Cv_inAll_21 ?_
      refine J_iload_n 3 rfl d_Cv_inAll_23 ?_
      refine J_callVi (m_Wa_behind l g ad _ _ _) ok_Wa_behind rc_53 wi_Wa_behind wl_Wa_Wa_behind wk_Cv_107 ⟨rfl, rfl, Nat.le_of_ble_eq_true rfl, Nat.le_of_ble_eq_true rfl⟩ ⟨Nat.zero_le _, Nat.zero_le _⟩ (rest := [.int v3]) rfl rfl (Nat.le_of_ble_eq_true rfl) d_Cv_inAll_24 (fun v8 h9 => ?_)
      refine J_iadd d_Cv_inAll_27 ?_
      refine P_ist_n (lv' := fun v10 => [(2, .int v10), (3, .int v2), (0, .ref (ad 54)), (1, .int a1)]) 2 rfl (Nat.le_of_ble_eq_true rfl) (fun _ => rfl) d_Cv_inAll_28 (fun v10 => ?_)
      refine P_inc (w := 1) (lv' := fun v11 => [(3, .int v11), (2, .int v10), (0, .ref (ad 54)), (1, .int a1)]) 1 rfl rfl (Nat.le_of_ble_eq_true rfl) (fun _ => rfl) d_Cv_inAll_29 (fun v11 => ?_)
      refine J_goto 4 rfl d_Cv_inAll_32 ?_
      exact J_sub [0, 1, 2, 3] rfl (ih _ _ _)
set_option maxRecDepth 20000 in
set_option maxHeartbeats 4000000 in
theorem m_Cv_inAll (l : Launch) (g : GG) (ad : Nat → Nat) (a1 : Int32) (h0 : HP) : CM l g ad y_Cv_inAll b_Cv_inAll 4 (some .int) rm_Cv_inAll [.ref (ad 54), .int a1] h0 enI (f_Cv_inAll a1 h0) := by
  refine CM.of (by decide) (Nat.le_of_ble_eq_true rfl) (fun Q => ?_)
  show Jj _ _ (Vw (kx_Cv_inAll l g Q) 0 0 0 _ _ _)
  refine J_sub [0, 1] (lv' := [(0, .ref (ad 54)), (1, .int a1)]) rfl ?_
  unfold f_Cv_inAll
  refine J_iconst (v := 0) rfl d_Cv_inAll_0 ?_
  refine J_istore_n (lv' := [(2, .int 0), (0, .ref (ad 54)), (1, .int a1)]) 2 rfl (Nat.le_of_ble_eq_true rfl) rfl d_Cv_inAll_1 ?_
  refine J_iconst (v := 0) rfl d_Cv_inAll_2 ?_
  refine J_istore_n (lv' := [(3, .int 0), (2, .int 0), (0, .ref (ad 54)), (1, .int a1)]) 3 rfl (Nat.le_of_ble_eq_true rfl) rfl d_Cv_inAll_3 ?_
  refine J_bd3 (fun (v12 : Int32) (v13 : Int32) (h14 : HP) => Vw (kx_Cv_inAll l g Q) 0 0 35 [(3, .int v12), (2, .int v13), (0, .ref (ad 54)), (1, .int a1)] [] (pic g ad h14)) ?_ (fun v12 v13 h14 => ?_)
  · exact J_sub [0, 1, 2, 3] rfl (mlp_Cv_inAll_4 l g ad Q a1 400 _ _ _)
  · refine J_iload_n 1 rfl d_Cv_inAll_35 ?_
    exact J_iret (Nat.le_refl _) (Nat.le_refl _) d_Cv_inAll_36 rfl (fun hx => hx)
def f_CS_through (h0 : HP) : Option (Int32 × HP) :=
 bd2 (f_Cv_inAll 4 h0) (fun (v1 : Int32) (h2 : HP) =>
 some (v1, h2))
set_option maxRecDepth 20000 in
set_option maxHeartbeats 4000000 in
theorem m_CS_through (l : Launch) (g : GG) (ad : Nat → Nat) (h0 : HP) : CM l g ad y_CS_through b_CS_through 1 (some .int) rm_CS_through [.ref (ad 71)] h0 enI (f_CS_through h0) := by
  refine CM.of (by decide) (Nat.le_of_ble_eq_true rfl) (fun Q => ?_)
  show Jj _ _ (Vw (kx_CS_through l g Q) 0 0 0 _ _ _)
  refine J_sub [0] (lv' := [(0, .ref (ad 71))]) rfl ?_
  unfold f_CS_through
  refine J_aload_n 0 rfl d_CS_through_0 ?_
  refine J_getR fo_CS_44_71 rfl d_CS_through_1 ?_
  refine J_iconst (v := 4) rfl d_CS_through_4 ?_
  refine J_callVi (m_Cv_inAll l g ad _ _) ok_Cv_inAll rc_54 wi_Cv_inAll wl_Cv_Cv_inAll wk_CS_160 ⟨rfl, rfl, Nat.le_of_ble_eq_true rfl, Nat.le_of_ble_eq_true rfl⟩ ⟨Nat.zero_le _, Nat.zero_le _⟩ (rest := []) rfl rfl (Nat.le_of_ble_eq_true rfl) d_CS_through_5 (fun v1 h2 => ?_)
  exact J_iret (Nat.le_refl _) (Nat.le_refl _) d_CS_through_8 rfl (fun hx => hx)
def f_CS_lost (h0 : HP) : Option (Int32 × HP) :=
 bd2 (f_Cv_inAll 7 h0) (fun (v1 : Int32) (h2 : HP) =>
 some (v1, h2))
set_option maxRecDepth 20000 in
set_option maxHeartbeats 4000000 in
theorem m_CS_lost (l : Launch) (g : GG) (ad : Nat → Nat) (h0 : HP) : CM l g ad y_CS_lost b_CS_lost 1 (some .int) rm_CS_lost [.ref (ad 71)] h0 enI (f_CS_lost h0) := by
  refine CM.of (by decide) (Nat.le_of_ble_eq_true rfl) (fun Q => ?_)
  show Jj _ _ (Vw (kx_CS_lost l g Q) 0 0 0 _ _ _)
  refine J_sub [0] (lv' := [(0, .ref (ad 71))]) rfl ?_
  unfold f_CS_lost
  refine J_aload_n 0 rfl d_CS_lost_0 ?_
  refine J_getR fo_CS_44_71 rfl d_CS_lost_1 ?_
  refine J_bipush (v := 7) rfl d_CS_lost_4 ?_
  refine J_callVi (m_Cv_inAll l g ad _ _) ok_Cv_inAll rc_54 wi_Cv_inAll wl_Cv_Cv_inAll wk_CS_160 ⟨rfl, rfl, Nat.le_of_ble_eq_true rfl, Nat.le_of_ble_eq_true rfl⟩ ⟨Nat.zero_le _, Nat.zero_le _⟩ (rest := []) rfl rfl (Nat.le_of_ble_eq_true rfl) d_CS_lost_6 (fun v1 h2 => ?_)
  exact J_iret (Nat.le_refl _) (Nat.le_refl _) d_CS_lost_9 rfl (fun hx => hx)
def lp_Cv_firstToBreak_7 : Nat → Int32 → Int32 → Int32 → HP → Option (Int32 × Int32 × Int32 × HP)
 | 0, _, _, _, _ => none
 | fu + 1, v1, v2, v3, h4 =>
 ltt (rI h4 70 4) (fun (v5 : Int32) =>
 (if v5 ≤ v1 then
 some (v1, v2, v3, h4)
 else
 bd1 (f_Cv_march v1 h4) (fun (h7 : HP) =>
 ltt (rI h7 53 12) (fun (v8 : Int32) =>
 bd2 ((if v8 = (-1) then
 some (v2, v3)
 else
 (if v2 ≤ v8 then
 some (v2, v3)
 else
 some (v8, v1))) : Option (Int32 × Int32)) (fun (v9 : Int32) (v10 : Int32) =>
 ltt (v1 + 1) (fun (v13 : Int32) =>
 lp_Cv_firstToBreak_7 fu v13 v9 v10 h7))))))
def f_Cv_firstToBreak (h0 : HP) : Option (Int32 × HP) :=
 bd4 (lp_Cv_firstToBreak_7 400 0 24 (-1) h0) (fun (v14 : Int32) (v15 : Int32) (v16 : Int32) (h17 : HP) =>
 some (v16, h17))
set_option maxRecDepth 20000 in
set_option maxHeartbeats 4000000 in
theorem mlp_Cv_firstToBreak_7 (l : Launch) (g : GG) (ad : Nat → Nat) (Q : Option Value → va_W → Prop) : ∀ (fu : Nat) (v1 : Int32) (v2 : Int32) (v3 : Int32) (h4 : HP), Jj (fun q : Int32 × Int32 × Int32 × HP => Vw (kx_Cv_firstToBreak l g Q) 0 0 51 [(3, .int (q.1)), (2, .int (q.2.1)), (1, .int (q.2.2.1)), (0, .ref (ad 54))] [] (pic g ad q.2.2.2)) (lp_Cv_firstToBreak_7 fu v1 v2 v3 h4) (Vw (kx_Cv_firstToBreak l g Q) 0 0 7 [(3, .int v1), (2, .int v2), (1, .int v3), (0, .ref (ad 54))] [] (pic g ad h4)) := by
  intro fu
  induction fu with
  | zero =>
    intro v1 v2 v3 h4
    exact J_none
  | succ fu ih =>
    intro v1 v2 v3 h4
    rw [lp_Cv_firstToBreak_7]
    refine J_iload_n 0 rfl d_Cv_firstToBreak_7 ?_
    refine J_aload_n 3 rfl d_Cv_firstToBreak_8 ?_
    refine J_getR fo_Cv_22_54 rfl d_Cv_firstToBreak_9 ?_
    refine P_gI fo_Cv_102_70 rfl d_Cv_firstToBreak_12 (fun v5 => ?_)
    refine J_icmp_ge 51 rfl d_Cv_firstToBreak_15 (fun c6 => ?_) (fun c6 => ?_)
    · exact J_exit [0, 1, 2, 3] rfl (fun hx => hx)
    · refine J_aload_n 3 rfl d_Cv_firstToBreak_18 ?_
      refine J_iload_n 0 rfl d_Cv_firstToBreak_19 ?_
      refine J_callVa (m_Cv_march l g ad _ _) ok_Cv_march rc_54 wi_Cv_march wl_Cv_Cv_march wk_Cv_103 ⟨rfl, rfl, Nat.le_of_ble_eq_true rfl, Nat.le_of_ble_eq_true rfl⟩ ⟨Nat.zero_le _, Nat.zero_le _⟩ (rest := []) rfl rfl (Nat.le_of_ble_eq_true rfl) d_Cv_firstToBreak_20 (fun h7 => ?_)
      refine P_gI fo_Cv_111_53 rfl d_Cv_firstToBreak_23 (fun v8 => ?_)
      refine J_istore (lv' := [(4, .int v8), (3, .int v1), (2, .int v2), (1, .int v3), (0, .ref (ad 54))]) (Nat.le_of_ble_eq_true rfl) rfl d_Cv_firstToBreak_26 ?_
      refine J_iload 0 rfl d_Cv_firstToBreak_28 ?_
      refine J_iconst (v := (-1)) rfl d_Cv_firstToBreak_30 ?_
      refine J_bd2 (fun (v9 : Int32) (v10 : Int32) => Vw (kx_Cv_firstToBreak l g Q) 0 0 45 [(4, .int v8), (3, .int v1), (2, .int v9), (1, .int v10), (0, .ref (ad 54))] [] (pic g ad h7)) ?_ (fun v9 v10 => ?_)
      · refine J_icmp_eq 45 rfl d_Cv_firstToBreak_31 (fun c11 => ?_) (fun c11 => ?_)
        · exact J_exit [0, 1, 2, 3, 4] rfl (fun hx => hx)
        · refine J_iload 0 rfl d_Cv_firstToBreak_34 ?_
          refine J_iload_n 2 rfl d_Cv_firstToBreak_36 ?_
          refine J_icmp_ge 45 rfl d_Cv_firstToBreak_37 (fun c12 => ?_) (fun c12 => ?_)
          · exact J_exit [0, 1, 2, 3, 4] rfl (fun hx => hx)
          · refine J_iload 0 rfl d_Cv_firstToBreak_40 ?_
            refine J_istore_n (lv' := [(2, .int v8), (4, .int v8), (3, .int v1), (1, .int v3), (0, .ref (ad 54))]) 2 rfl (Nat.le_of_ble_eq_true rfl) rfl d_Cv_firstToBreak_42 ?_
            refine J_iload_n 2 rfl d_Cv_firstToBreak_43 ?_
            refine J_istore_n (lv' := [(1, .int v1), (2, .int v8), (4, .int v8), (3, .int v1), (0, .ref (ad 54))]) 1 rfl (Nat.le_of_ble_eq_true rfl) rfl d_Cv_firstToBreak_44 ?_
            exact J_exit [2, 3, 1, 0, 4] rfl (fun hx => hx)
      · refine P_inc (w := 1) (lv' := fun v13 => [(3, .int v13), (4, .int v8), (2, .int v9), (1, .int v10), (0, .ref (ad 54))]) 1 rfl rfl (Nat.le_of_ble_eq_true rfl) (fun _ => rfl) d_Cv_firstToBreak_45 (fun v13 => ?_)
        refine J_goto 7 rfl d_Cv_firstToBreak_48 ?_
        exact J_sub [0, 2, 3, 4] rfl (ih _ _ _ _)
set_option maxRecDepth 20000 in
set_option maxHeartbeats 4000000 in
theorem m_Cv_firstToBreak (l : Launch) (g : GG) (ad : Nat → Nat) (h0 : HP) : CM l g ad y_Cv_firstToBreak b_Cv_firstToBreak 5 (some .int) rm_Cv_firstToBreak [.ref (ad 54)] h0 enI (f_Cv_firstToBreak h0) := by
  refine CM.of (by decide) (Nat.le_of_ble_eq_true rfl) (fun Q => ?_)
  show Jj _ _ (Vw (kx_Cv_firstToBreak l g Q) 0 0 0 _ _ _)
  refine J_sub [0] (lv' := [(0, .ref (ad 54))]) rfl ?_
  unfold f_Cv_firstToBreak
  refine J_iconst (v := (-1)) rfl d_Cv_firstToBreak_0 ?_
  refine J_istore_n (lv' := [(1, .int (-1)), (0, .ref (ad 54))]) 1 rfl (Nat.le_of_ble_eq_true rfl) rfl d_Cv_firstToBreak_1 ?_
  refine J_bipush (v := 24) rfl d_Cv_firstToBreak_2 ?_
  refine J_istore_n (lv' := [(2, .int 24), (1, .int (-1)), (0, .ref (ad 54))]) 2 rfl (Nat.le_of_ble_eq_true rfl) rfl d_Cv_firstToBreak_4 ?_
  refine J_iconst (v := 0) rfl d_Cv_firstToBreak_5 ?_
  refine J_istore_n (lv' := [(3, .int 0), (2, .int 24), (1, .int (-1)), (0, .ref (ad 54))]) 3 rfl (Nat.le_of_ble_eq_true rfl) rfl d_Cv_firstToBreak_6 ?_
  refine J_bd4 (fun (v14 : Int32) (v15 : Int32) (v16 : Int32) (h17 : HP) => Vw (kx_Cv_firstToBreak l g Q) 0 0 51 [(3, .int v14), (2, .int v15), (1, .int v16), (0, .ref (ad 54))] [] (pic g ad h17)) ?_ (fun v14 v15 v16 h17 => ?_)
  · exact J_sub [0, 1, 2, 3] rfl (mlp_Cv_firstToBreak_7 l g ad Q 400 _ _ _ _)
  · refine J_iload_n 2 rfl d_Cv_firstToBreak_51 ?_
    exact J_iret (Nat.le_refl _) (Nat.le_refl _) d_Cv_firstToBreak_52 rfl (fun hx => hx)
