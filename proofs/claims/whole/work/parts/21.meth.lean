def f_CS_isText (a1 : Int32) (h0 : HP) : Option (Int32 × HP) :=
 (if a1 < 0 then
 some (0, h0)
 else
 (if 2 ≤ a1 then
 some (0, h0)
 else
 some (1, h0)))
set_option maxRecDepth 20000 in
set_option maxHeartbeats 4000000 in
theorem m_CS_isText (l : Launch) (g : GG) (ad : Nat → Nat) (a1 : Int32) (h0 : HP) : CM l g ad y_CS_isText b_CS_isText 1 (some .boolean) rm_CS_isText [.int a1] h0 enI (f_CS_isText a1 h0) := by
  refine CM.of (by decide) (Nat.le_of_ble_eq_true rfl) (fun Q => ?_)
  show Jj _ _ (Vw (kx_CS_isText l g Q) 0 0 0 _ _ _)
  refine J_sub [0] (lv' := [(0, .int a1)]) rfl ?_
  unfold f_CS_isText
  refine J_iload_n 0 rfl d_CS_isText_0 ?_
  refine J_if_lt 13 rfl d_CS_isText_1 (fun c2 => ?_) (fun c2 => ?_)
  · refine J_iconst (v := 0) rfl d_CS_isText_13 ?_
    exact J_zret (Nat.le_refl _) (Nat.le_refl _) d_CS_isText_14 rfl (zfit (Or.inl rfl)).1 (fun hx => hx)
  · refine J_iload_n 0 rfl d_CS_isText_4 ?_
    refine J_iconst (v := 2) rfl d_CS_isText_5 ?_
    refine J_icmp_ge 13 rfl d_CS_isText_6 (fun c3 => ?_) (fun c3 => ?_)
    · refine J_iconst (v := 0) rfl d_CS_isText_13 ?_
      exact J_zret (Nat.le_refl _) (Nat.le_refl _) d_CS_isText_14 rfl (zfit (Or.inl rfl)).1 (fun hx => hx)
    · refine J_iconst (v := 1) rfl d_CS_isText_9 ?_
      refine J_goto 14 rfl d_CS_isText_10 ?_
      exact J_zret (Nat.le_refl _) (Nat.le_refl _) d_CS_isText_14 rfl (zfit (Or.inr rfl)).1 (fun hx => hx)
def f_CS_isBetween (a1 : Int32) (a2 : Int32) (a3 : Int32) (h0 : HP) : Option (Int32 × HP) :=
 (if a1 < a2 then
 some (0, h0)
 else
 (if a3 < a1 then
 some (0, h0)
 else
 some (1, h0)))
set_option maxRecDepth 20000 in
set_option maxHeartbeats 4000000 in
theorem m_CS_isBetween (l : Launch) (g : GG) (ad : Nat → Nat) (a1 : Int32) (a2 : Int32) (a3 : Int32) (h0 : HP) : CM l g ad y_CS_isBetween b_CS_isBetween 3 (some .boolean) rm_CS_isBetween [.int a1, .int a2, .int a3] h0 enI (f_CS_isBetween a1 a2 a3 h0) := by
  refine CM.of (by decide) (Nat.le_of_ble_eq_true rfl) (fun Q => ?_)
  show Jj _ _ (Vw (kx_CS_isBetween l g Q) 0 0 0 _ _ _)
  refine J_sub [0, 1, 2] (lv' := [(0, .int a1), (1, .int a2), (2, .int a3)]) rfl ?_
  unfold f_CS_isBetween
  refine J_iload_n 0 rfl d_CS_isBetween_0 ?_
  refine J_iload_n 1 rfl d_CS_isBetween_1 ?_
  refine J_icmp_lt 14 rfl d_CS_isBetween_2 (fun c4 => ?_) (fun c4 => ?_)
  · refine J_iconst (v := 0) rfl d_CS_isBetween_14 ?_
    exact J_zret (Nat.le_refl _) (Nat.le_refl _) d_CS_isBetween_15 rfl (zfit (Or.inl rfl)).1 (fun hx => hx)
  · refine J_iload_n 0 rfl d_CS_isBetween_5 ?_
    refine J_iload_n 2 rfl d_CS_isBetween_6 ?_
    refine J_icmp_gt 14 rfl d_CS_isBetween_7 (fun c5 => ?_) (fun c5 => ?_)
    · refine J_iconst (v := 0) rfl d_CS_isBetween_14 ?_
      exact J_zret (Nat.le_refl _) (Nat.le_refl _) d_CS_isBetween_15 rfl (zfit (Or.inl rfl)).1 (fun hx => hx)
    · refine J_iconst (v := 1) rfl d_CS_isBetween_10 ?_
      refine J_goto 15 rfl d_CS_isBetween_11 ?_
      exact J_zret (Nat.le_refl _) (Nat.le_refl _) d_CS_isBetween_15 rfl (zfit (Or.inr rfl)).1 (fun hx => hx)
def f_Ca_fits (a1 : Int32) (a2 : Int32) (h0 : HP) : Option (Int32 × HP) :=
 (if a1 = 0 then
 (if a2 = 121 then
 some (1, h0)
 else
 (if a2 = 111 then
 some (1, h0)
 else
 (if a2 = 115 then
 some (1, h0)
 else
 some (0, h0))))
 else
 (if a1 = 1 then
 bd2 (f_CS_isBetween a2 49 57 h0) (fun (v8 : Int32) (h9 : HP) =>
 ckk (z01 v8) (some (v8, h9)))
 else
 (if a2 = 59 then
 some (1, h0)
 else
 some (0, h0))))
set_option maxRecDepth 20000 in
set_option maxHeartbeats 4000000 in
theorem m_Ca_fits (l : Launch) (g : GG) (ad : Nat → Nat) (a1 : Int32) (a2 : Int32) (h0 : HP) : CM l g ad y_Ca_fits b_Ca_fits 3 (some .boolean) rm_Ca_fits [.ref (ad 70), .int a1, .int a2] h0 enI (f_Ca_fits a1 a2 h0) := by
  refine CM.of (by decide) (Nat.le_of_ble_eq_true rfl) (fun Q => ?_)
  show Jj _ _ (Vw (kx_Ca_fits l g Q) 0 0 0 _ _ _)
  refine J_sub [0, 1, 2] (lv' := [(0, .ref (ad 70)), (1, .int a1), (2, .int a2)]) rfl ?_
  unfold f_Ca_fits
  refine J_iload_n 1 rfl d_Ca_fits_0 ?_
  refine J_ite (fun c3 => ?_) (fun c3 => ?_)
  · refine J_lsw (off := 27) 28 (by decide) (by rw [c3]; try rfl) rfl d_Ca_fits_1 ?_
    refine J_iload_n 2 rfl d_Ca_fits_28 ?_
    refine J_bipush (v := 121) rfl d_Ca_fits_29 ?_
    refine J_icmp_eq 46 rfl d_Ca_fits_31 (fun c4 => ?_) (fun c4 => ?_)
    · refine J_iconst (v := 1) rfl d_Ca_fits_46 ?_
      refine J_goto 51 rfl d_Ca_fits_47 ?_
      exact J_zret (Nat.le_refl _) (Nat.le_refl _) d_Ca_fits_51 rfl (zfit (Or.inr rfl)).1 (fun hx => hx)
    · refine J_iload_n 2 rfl d_Ca_fits_34 ?_
      refine J_bipush (v := 111) rfl d_Ca_fits_35 ?_
      refine J_icmp_eq 46 rfl d_Ca_fits_37 (fun c5 => ?_) (fun c5 => ?_)
      · refine J_iconst (v := 1) rfl d_Ca_fits_46 ?_
        refine J_goto 51 rfl d_Ca_fits_47 ?_
        exact J_zret (Nat.le_refl _) (Nat.le_refl _) d_Ca_fits_51 rfl (zfit (Or.inr rfl)).1 (fun hx => hx)
      · refine J_iload_n 2 rfl d_Ca_fits_40 ?_
        refine J_bipush (v := 115) rfl d_Ca_fits_41 ?_
        refine J_icmp_ne 50 rfl d_Ca_fits_43 (fun c6 => ?_) (fun c6 => ?_)
        · refine J_iconst (v := 0) rfl d_Ca_fits_50 ?_
          exact J_zret (Nat.le_refl _) (Nat.le_refl _) d_Ca_fits_51 rfl (zfit (Or.inl rfl)).1 (fun hx => hx)
        · refine J_iconst (v := 1) rfl d_Ca_fits_46 ?_
          refine J_goto 51 rfl d_Ca_fits_47 ?_
          exact J_zret (Nat.le_refl _) (Nat.le_refl _) d_Ca_fits_51 rfl (zfit (Or.inr rfl)).1 (fun hx => hx)
  · refine J_ite (fun c7 => ?_) (fun c7 => ?_)
    · refine J_lsw (off := 51) 52 (by decide) (by rw [c7]; try rfl) rfl d_Ca_fits_1 ?_
      refine J_iload_n 2 rfl d_Ca_fits_52 ?_
      refine J_bipush (v := 49) rfl d_Ca_fits_53 ?_
      refine J_bipush (v := 57) rfl d_Ca_fits_55 ?_
      refine J_callSNi (m_CS_isBetween l g ad _ _ _ _) ok_CS_isBetween ws_CS_isBetween wk_Ca_18 ⟨rfl, rfl, Nat.le_of_ble_eq_true rfl, Nat.le_of_ble_eq_true rfl⟩ ⟨Nat.zero_le _, Nat.zero_le _⟩ (rest := []) rfl rfl (Nat.le_of_ble_eq_true rfl) d_Ca_fits_57 (fun v8 h9 => ?_)
      exact P_zret (Nat.le_refl _) (Nat.le_refl _) d_Ca_fits_60 rfl (fun hx => hx)
    · refine J_lsw (off := 60) 61 (by decide) (by show Op.lookupswitch.offset [(0, 27), (1, 51)] (60) a1.toInt = (60); rw [lv_osw (a := 0) c3 rfl]; rw [lv_osw (a := 1) c7 rfl]; try rfl) rfl d_Ca_fits_1 ?_
      refine J_iload_n 2 rfl d_Ca_fits_61 ?_
      refine J_bipush (v := 59) rfl d_Ca_fits_62 ?_
      refine J_icmp_ne 71 rfl d_Ca_fits_64 (fun c10 => ?_) (fun c10 => ?_)
      · refine J_iconst (v := 0) rfl d_Ca_fits_71 ?_
        exact J_zret (Nat.le_refl _) (Nat.le_refl _) d_Ca_fits_72 rfl (zfit (Or.inl rfl)).1 (fun hx => hx)
      · refine J_iconst (v := 1) rfl d_Ca_fits_67 ?_
        refine J_goto 72 rfl d_Ca_fits_68 ?_
        exact J_zret (Nat.le_refl _) (Nat.le_refl _) d_Ca_fits_72 rfl (zfit (Or.inr rfl)).1 (fun hx => hx)
def f_Ba_fits (a1 : Int32) (a2 : Int32) (h0 : HP) : Option (Int32 × HP) :=
 (if a1 = 0 then
 bd2 (f_CS_isBetween a2 97 104 h0) (fun (v4 : Int32) (h5 : HP) =>
 ckk (z01 v4) (some (v4, h5)))
 else
 (if a1 = 1 then
 bd2 (f_CS_isBetween a2 49 57 h0) (fun (v7 : Int32) (h8 : HP) =>
 ckk (z01 v7) (some (v7, h8)))
 else
 (if a1 = 2 then
 bd2 (f_CS_isBetween a2 97 120 h0) (fun (v10 : Int32) (h11 : HP) =>
 ckk (z01 v10) (some (v10, h11)))
 else
 (if a2 = 59 then
 some (1, h0)
 else
 some (0, h0)))))
set_option maxRecDepth 20000 in
set_option maxHeartbeats 4000000 in
theorem m_Ba_fits (l : Launch) (g : GG) (ad : Nat → Nat) (a1 : Int32) (a2 : Int32) (h0 : HP) : CM l g ad y_Ba_fits b_Ba_fits 3 (some .boolean) rm_Ba_fits [.ref (ad 66), .int a1, .int a2] h0 enI (f_Ba_fits a1 a2 h0) := by
  refine CM.of (by decide) (Nat.le_of_ble_eq_true rfl) (fun Q => ?_)
  show Jj _ _ (Vw (kx_Ba_fits l g Q) 0 0 0 _ _ _)
  refine J_sub [0, 1, 2] (lv' := [(0, .ref (ad 66)), (1, .int a1), (2, .int a2)]) rfl ?_
  unfold f_Ba_fits
  refine J_iload_n 1 rfl d_Ba_fits_0 ?_
  refine J_ite (fun c3 => ?_) (fun c3 => ?_)
  · refine J_tswIn 28 (by rw [c3]; decide) (by rw [c3]; decide) (by rw [c3]; try rfl) rfl d_Ba_fits_1 ?_
    refine J_iload_n 2 rfl d_Ba_fits_28 ?_
    refine J_bipush (v := 97) rfl d_Ba_fits_29 ?_
    refine J_bipush (v := 104) rfl d_Ba_fits_31 ?_
    refine J_callSNi (m_CS_isBetween l g ad _ _ _ _) ok_CS_isBetween ws_CS_isBetween wk_Ba_21 ⟨rfl, rfl, Nat.le_of_ble_eq_true rfl, Nat.le_of_ble_eq_true rfl⟩ ⟨Nat.zero_le _, Nat.zero_le _⟩ (rest := []) rfl rfl (Nat.le_of_ble_eq_true rfl) d_Ba_fits_33 (fun v4 h5 => ?_)
    exact P_zret (Nat.le_refl _) (Nat.le_refl _) d_Ba_fits_36 rfl (fun hx => hx)
  · refine J_ite (fun c6 => ?_) (fun c6 => ?_)
    · refine J_tswIn 37 (by rw [c6]; decide) (by rw [c6]; decide) (by rw [c6]; try rfl) rfl d_Ba_fits_1 ?_
      refine J_iload_n 2 rfl d_Ba_fits_37 ?_
      refine J_bipush (v := 49) rfl d_Ba_fits_38 ?_
      refine J_bipush (v := 57) rfl d_Ba_fits_40 ?_
      refine J_callSNi (m_CS_isBetween l g ad _ _ _ _) ok_CS_isBetween ws_CS_isBetween wk_Ba_21 ⟨rfl, rfl, Nat.le_of_ble_eq_true rfl, Nat.le_of_ble_eq_true rfl⟩ ⟨Nat.zero_le _, Nat.zero_le _⟩ (rest := []) rfl rfl (Nat.le_of_ble_eq_true rfl) d_Ba_fits_42 (fun v7 h8 => ?_)
      exact P_zret (Nat.le_refl _) (Nat.le_refl _) d_Ba_fits_45 rfl (fun hx => hx)
    · refine J_ite (fun c9 => ?_) (fun c9 => ?_)
      · refine J_tswIn 46 (by rw [c9]; decide) (by rw [c9]; decide) (by rw [c9]; try rfl) rfl d_Ba_fits_1 ?_
        refine J_iload_n 2 rfl d_Ba_fits_46 ?_
        refine J_bipush (v := 97) rfl d_Ba_fits_47 ?_
        refine J_bipush (v := 120) rfl d_Ba_fits_49 ?_
        refine J_callSNi (m_CS_isBetween l g ad _ _ _ _) ok_CS_isBetween ws_CS_isBetween wk_Ba_21 ⟨rfl, rfl, Nat.le_of_ble_eq_true rfl, Nat.le_of_ble_eq_true rfl⟩ ⟨Nat.zero_le _, Nat.zero_le _⟩ (rest := []) rfl rfl (Nat.le_of_ble_eq_true rfl) d_Ba_fits_51 (fun v10 h11 => ?_)
        exact P_zret (Nat.le_refl _) (Nat.le_refl _) d_Ba_fits_54 rfl (fun hx => hx)
      · refine J_tswOut 55 (by have e0 := lv_neT (a := 0) c3 rfl; have e1 := lv_neT (a := 1) c6 rfl; have e2 := lv_neT (a := 2) c9 rfl; omega) rfl d_Ba_fits_1 ?_
        refine J_iload_n 2 rfl d_Ba_fits_55 ?_
        refine J_bipush (v := 59) rfl d_Ba_fits_56 ?_
        refine J_icmp_ne 65 rfl d_Ba_fits_58 (fun c12 => ?_) (fun c12 => ?_)
        · refine J_iconst (v := 0) rfl d_Ba_fits_65 ?_
          exact J_zret (Nat.le_refl _) (Nat.le_refl _) d_Ba_fits_66 rfl (zfit (Or.inl rfl)).1 (fun hx => hx)
        · refine J_iconst (v := 1) rfl d_Ba_fits_61 ?_
          refine J_goto 66 rfl d_Ba_fits_62 ?_
          exact J_zret (Nat.le_refl _) (Nat.le_refl _) d_Ba_fits_66 rfl (zfit (Or.inr rfl)).1 (fun hx => hx)
def lp_Tx_findFault_4 (o1 : Nat) : Nat → Int32 → Int32 → HP → Option (Int32 × HP)
 | 0, _, _, _ => none
 | fu + 1, v2, v3, h4 =>
 ltt (rI h4 o1 2) (fun (v5 : Int32) =>
 (if v5 ≤ v2 then
 ltt (rI h4 o1 2) (fun (v7 : Int32) =>
 bd1 ((if v7 = 0 then
 some (1)
 else
 ltt (rI h4 o1 1) (fun (v10 : Int32) =>
 (if v3 = v10 - 1 then
 some (1)
 else
 some (0)))) : Option (Int32)) (fun (v8 : Int32) =>
 (if v8 = 0 then
 ltt (rI h4 o1 2) (fun (v13 : Int32) =>
 some (v13, h4))
 else
 some ((-1), h4))))
 else
 ltt (rf1 o1 0) (fun (o14 : Nat) =>
 ckk (inb v2 (ln o14)) (ltt (rA h4 o14 v2) (fun (v15 : Int32) =>
 bd2 (if o1 = 70 then f_Ca_fits v3 v15 h4 else f_Ba_fits v3 v15 h4) (fun (v16 : Int32) (h17 : HP) =>
 (if v16 = 0 then
 some (v2, h17)
 else
 ltt (rI h17 o1 1) (fun (v19 : Int32) =>
 bd1 ((if v3 = v19 - 1 then
 some (0)
 else
 some (v3 + 1)) : Option (Int32)) (fun (v20 : Int32) =>
 ltt (v2 + 1) (fun (v22 : Int32) =>
 lp_Tx_findFault_4 o1 fu v22 v20 h17))))))))))
def f_Tx_findFault (o1 : Nat) (h0 : HP) : Option (Int32 × HP) :=
 lp_Tx_findFault_4 o1 400 0 0 h0
set_option maxRecDepth 20000 in
set_option maxHeartbeats 4000000 in
theorem mlp_Tx_findFault_4 (l : Launch) (g : GG) (ad : Nat → Nat) (Q : Option Value → va_W → Prop) (o1 : Nat) (ho1 : o1 ∈ [70, 66]) : ∀ (fu : Nat) (v2 : Int32) (v3 : Int32) (h4 : HP), Jj (fun a : Int32 × HP => Q (enI a).1 (pic g ad (enI a).2)) (lp_Tx_findFault_4 o1 fu v2 v3 h4) (Vw (kx_Tx_findFault l g Q) 0 0 4 [(2, .int v2), (1, .int v3), (0, .ref (ad o1))] [] (pic g ad h4)) := by
  intro fu
  induction fu with
  | zero =>
    intro v2 v3 h4
    exact J_none
  | succ fu ih =>
    intro v2 v3 h4
    rw [lp_Tx_findFault_4]
    refine J_iload_n 0 rfl d_Tx_findFault_4 ?_
    refine J_aload_n 2 rfl d_Tx_findFault_5 ?_
    refine P_gI (fo_Tx_22_s70_66 _ ho1) (fd_s70_66_2 _ ho1) d_Tx_findFault_6 (fun v5 => ?_)
    refine J_icmp_ge 52 rfl d_Tx_findFault_9 (fun c6 => ?_) (fun c6 => ?_)
    · refine J_aload_n 2 rfl d_Tx_findFault_52 ?_
      refine P_gI (fo_Tx_22_s70_66 _ ho1) (fd_s70_66_2 _ ho1) d_Tx_findFault_53 (fun v7 => ?_)
      refine J_bd1 (fun (v8 : Int32) => Vw (kx_Tx_findFault l g Q) 0 0 74 [(2, .int v2), (1, .int v3), (0, .ref (ad o1))] [.int v8] (pic g ad h4)) ?_ (fun v8 => ?_)
      · refine J_if_eq 69 rfl d_Tx_findFault_56 (fun c9 => ?_) (fun c9 => ?_)
        · refine J_iconst (v := 1) rfl d_Tx_findFault_69 ?_
          refine J_goto 74 rfl d_Tx_findFault_70 ?_
          exact J_exit [0, 1, 2] rfl (fun hx => hx)
        · refine J_iload_n 1 rfl d_Tx_findFault_59 ?_
          refine J_aload_n 2 rfl d_Tx_findFault_60 ?_
          refine P_gI (fo_Tx_19_s70_66 _ ho1) (fd_s70_66_1 _ ho1) d_Tx_findFault_61 (fun v10 => ?_)
          refine J_iconst (v := 1) rfl d_Tx_findFault_64 ?_
          refine J_isub d_Tx_findFault_65 ?_
          refine J_icmp_ne 73 rfl d_Tx_findFault_66 (fun c11 => ?_) (fun c11 => ?_)
          · refine J_iconst (v := 0) rfl d_Tx_findFault_73 ?_
            exact J_exit [0, 1, 2] rfl (fun hx => hx)
          · refine J_iconst (v := 1) rfl d_Tx_findFault_69 ?_
            refine J_goto 74 rfl d_Tx_findFault_70 ?_
            exact J_exit [0, 1, 2] rfl (fun hx => hx)
      · refine J_istore_n (lv' := [(2, .int v8), (1, .int v3), (0, .ref (ad o1))]) 2 rfl (Nat.le_of_ble_eq_true rfl) rfl d_Tx_findFault_74 ?_
        refine J_iload_n 0 rfl d_Tx_findFault_75 ?_
        refine J_if_eq 83 rfl d_Tx_findFault_76 (fun c12 => ?_) (fun c12 => ?_)
        · refine J_aload_n 2 rfl d_Tx_findFault_83 ?_
          refine P_gI (fo_Tx_22_s70_66 _ ho1) (fd_s70_66_2 _ ho1) d_Tx_findFault_84 (fun v13 => ?_)
          exact J_iret (Nat.le_refl _) (Nat.le_refl _) d_Tx_findFault_87 rfl (fun hx => hx)
        · refine J_iconst (v := (-1)) rfl d_Tx_findFault_79 ?_
          refine J_goto 87 rfl d_Tx_findFault_80 ?_
          exact J_iret (Nat.le_refl _) (Nat.le_refl _) d_Tx_findFault_87 rfl (fun hx => hx)
    · refine J_aload_n 2 rfl d_Tx_findFault_12 ?_
      refine J_iload_n 1 rfl d_Tx_findFault_13 ?_
      refine J_aload_n 2 rfl d_Tx_findFault_14 ?_
      refine P_gRv (rm_s70_66_0 _ ho1) (fo_Tx_15_s70_66 _ ho1) (fd_s70_66_0 _ ho1) d_Tx_findFault_15 (fun o14 ho14 => ?_)
      refine J_iload_n 0 rfl d_Tx_findFault_18 ?_
      refine P_ia (al_s69_65 _ ho14) (ak_s69_65 _ ho14) rfl d_Tx_findFault_19 (fun v15 => ?_)
      refine P_callDi ho1 (m_Ca_fits l g ad _ _ _) (m_Ba_fits l g ad _ _ _) ok_Ca_fits ok_Ba_fits ⟨rc_70, uo_Ca_Ca_fits⟩ ⟨rc_66, uo_Ba_Ba_fits⟩ wk_Tx_39 ⟨rfl, rfl, Nat.le_of_ble_eq_true rfl, Nat.le_of_ble_eq_true rfl⟩ ⟨rfl, rfl, Nat.le_of_ble_eq_true rfl, Nat.le_of_ble_eq_true rfl⟩ ⟨Nat.zero_le _, Nat.zero_le _⟩ (rest := []) rfl rfl (Nat.le_of_ble_eq_true rfl) d_Tx_findFault_20 (fun v16 h17 => ?_)
      refine J_if_ne 28 rfl d_Tx_findFault_23 (fun c18 => ?_) (fun c18 => ?_)
      · refine J_iload_n 1 rfl d_Tx_findFault_28 ?_
        refine J_aload_n 2 rfl d_Tx_findFault_29 ?_
        refine P_gI (fo_Tx_19_s70_66 _ ho1) (fd_s70_66_1 _ ho1) d_Tx_findFault_30 (fun v19 => ?_)
        refine J_iconst (v := 1) rfl d_Tx_findFault_33 ?_
        refine J_isub d_Tx_findFault_34 ?_
        refine J_bd1 (fun (v20 : Int32) => Vw (kx_Tx_findFault l g Q) 0 0 45 [(2, .int v2), (1, .int v3), (0, .ref (ad o1))] [.int v20] (pic g ad h17)) ?_ (fun v20 => ?_)
        · refine J_icmp_ne 42 rfl d_Tx_findFault_35 (fun c21 => ?_) (fun c21 => ?_)
          · refine J_iload_n 1 rfl d_Tx_findFault_42 ?_
            refine J_iconst (v := 1) rfl d_Tx_findFault_43 ?_
            refine J_iadd d_Tx_findFault_44 ?_
            exact J_exit [0, 1, 2] rfl (fun hx => hx)
          · refine J_iconst (v := 0) rfl d_Tx_findFault_38 ?_
            refine J_goto 45 rfl d_Tx_findFault_39 ?_
            exact J_exit [0, 1, 2] rfl (fun hx => hx)
        · refine J_istore_n (lv' := [(1, .int v20), (2, .int v2), (0, .ref (ad o1))]) 1 rfl (Nat.le_of_ble_eq_true rfl) rfl d_Tx_findFault_45 ?_
          refine P_inc (w := 1) (lv' := fun v22 => [(2, .int v22), (1, .int v20), (0, .ref (ad o1))]) 1 rfl rfl (Nat.le_of_ble_eq_true rfl) (fun _ => rfl) d_Tx_findFault_46 (fun v22 => ?_)
          refine J_goto 4 rfl d_Tx_findFault_49 ?_
          exact J_sub [0, 1, 2] rfl (ih _ _ _)
      · refine J_iload_n 0 rfl d_Tx_findFault_26 ?_
        exact J_iret (Nat.le_refl _) (Nat.le_refl _) d_Tx_findFault_27 rfl (fun hx => hx)
set_option maxRecDepth 20000 in
set_option maxHeartbeats 4000000 in
theorem m_Tx_findFault (l : Launch) (g : GG) (ad : Nat → Nat) (o1 : Nat) (ho1 : o1 ∈ [70, 66]) (h0 : HP) : CM l g ad y_Tx_findFault b_Tx_findFault 3 (some .int) rm_Tx_findFault [.ref (ad o1)] h0 enI (f_Tx_findFault o1 h0) := by
  refine CM.of (by decide) (Nat.le_of_ble_eq_true rfl) (fun Q => ?_)
  show Jj _ _ (Vw (kx_Tx_findFault l g Q) 0 0 0 _ _ _)
  refine J_sub [0] (lv' := [(0, .ref (ad o1))]) rfl ?_
  unfold f_Tx_findFault
  refine J_iconst (v := 0) rfl d_Tx_findFault_0 ?_
  refine J_istore_n (lv' := [(1, .int 0), (0, .ref (ad o1))]) 1 rfl (Nat.le_of_ble_eq_true rfl) rfl d_Tx_findFault_1 ?_
  refine J_iconst (v := 0) rfl d_Tx_findFault_2 ?_
  refine J_istore_n (lv' := [(2, .int 0), (1, .int 0), (0, .ref (ad o1))]) 2 rfl (Nat.le_of_ble_eq_true rfl) rfl d_Tx_findFault_3 ?_
  exact J_sub [0, 1, 2] rfl (mlp_Tx_findFault_4 l g ad Q o1 ho1 400 _ _ _)
def f_Ca_learn (a1 : Int32) (a2 : Int32) (h0 : HP) : Option (HP) :=
 ckk (inb a2 23) (ltt (rA h0 69 a2) (fun (v3 : Int32) =>
 bd1 ((if v3 = 121 then
 some (0)
 else
 (if v3 = 111 then
 some (1)
 else
 some (2))) : Option (Int32)) (fun (v4 : Int32) =>
 ckk (inb a1 8) (ltt (wA h0 68 a1 v4) (fun (h7 : HP) =>
 ckk (inb (a2 + 1) 23) (ltt (rA h7 69 (a2 + 1)) (fun (v8 : Int32) =>
 ckk (inb a1 8) (ltt (wA h7 67 a1 (v8 - 48)) (fun (h9 : HP) =>
 some h9)))))))))
set_option maxRecDepth 20000 in
set_option maxHeartbeats 4000000 in
theorem m_Ca_learn (l : Launch) (g : GG) (ad : Nat → Nat) (a1 : Int32) (a2 : Int32) (h0 : HP) : CM l g ad y_Ca_learn b_Ca_learn 4 none rm_Ca_learn [.ref (ad 70), .int a1, .int a2] h0 enV (f_Ca_learn a1 a2 h0) := by
  refine CM.of (by decide) (Nat.le_of_ble_eq_true rfl) (fun Q => ?_)
  show Jj _ _ (Vw (kx_Ca_learn l g Q) 0 0 0 _ _ _)
  refine J_sub [0, 1, 2] (lv' := [(0, .ref (ad 70)), (1, .int a1), (2, .int a2)]) rfl ?_
  unfold f_Ca_learn
  refine J_aload_n 0 rfl d_Ca_learn_0 ?_
  refine J_getR fo_Ca_22_70 rfl d_Ca_learn_1 ?_
  refine J_iload_n 2 rfl d_Ca_learn_4 ?_
  refine P_ia (by decide) rfl rfl d_Ca_learn_5 (fun v3 => ?_)
  refine J_istore_n (lv' := [(3, .int v3), (0, .ref (ad 70)), (1, .int a1), (2, .int a2)]) 3 rfl (Nat.le_of_ble_eq_true rfl) rfl d_Ca_learn_6 ?_
  refine J_aload_n 1 rfl d_Ca_learn_7 ?_
  refine J_getR fo_Ca_9_70 rfl d_Ca_learn_8 ?_
  refine J_iload_n 2 rfl d_Ca_learn_11 ?_
  refine J_iload_n 0 rfl d_Ca_learn_12 ?_
  refine J_bipush (v := 121) rfl d_Ca_learn_13 ?_
  refine J_bd1 (fun (v4 : Int32) => Vw (kx_Ca_learn l g Q) 0 0 33 [(3, .int v3), (0, .ref (ad 70)), (1, .int a1), (2, .int a2)] [.int v4, .int a1, .ref (ad 68)] (pic g ad h0)) ?_ (fun v4 => ?_)
  · refine J_icmp_ne 22 rfl d_Ca_learn_15 (fun c5 => ?_) (fun c5 => ?_)
    · refine J_iload_n 0 rfl d_Ca_learn_22 ?_
      refine J_bipush (v := 111) rfl d_Ca_learn_23 ?_
      refine J_icmp_ne 32 rfl d_Ca_learn_25 (fun c6 => ?_) (fun c6 => ?_)
      · refine J_iconst (v := 2) rfl d_Ca_learn_32 ?_
        exact J_exit [0, 1, 2, 3] rfl (fun hx => hx)
      · refine J_iconst (v := 1) rfl d_Ca_learn_28 ?_
        refine J_goto 33 rfl d_Ca_learn_29 ?_
        exact J_exit [0, 1, 2, 3] rfl (fun hx => hx)
    · refine J_iconst (v := 0) rfl d_Ca_learn_18 ?_
      refine J_goto 33 rfl d_Ca_learn_19 ?_
      exact J_exit [0, 1, 2, 3] rfl (fun hx => hx)
  · refine P_wa (by decide) rfl rfl d_Ca_learn_33 (fun h7 => ?_)
    refine J_aload_n 1 rfl d_Ca_learn_34 ?_
    refine J_getR fo_Ca_15_70 rfl d_Ca_learn_35 ?_
    refine J_iload_n 2 rfl d_Ca_learn_38 ?_
    refine J_aload_n 1 rfl d_Ca_learn_39 ?_
    refine J_getR fo_Ca_22_70 rfl d_Ca_learn_40 ?_
    refine J_iload_n 3 rfl d_Ca_learn_43 ?_
    refine J_iconst (v := 1) rfl d_Ca_learn_44 ?_
    refine J_iadd d_Ca_learn_45 ?_
    refine P_ia (by decide) rfl rfl d_Ca_learn_46 (fun v8 => ?_)
    refine J_bipush (v := 48) rfl d_Ca_learn_47 ?_
    refine J_isub d_Ca_learn_49 ?_
    refine P_wa (by decide) rfl rfl d_Ca_learn_50 (fun h9 => ?_)
    exact J_vret (Nat.le_refl _) (Nat.le_refl _) d_Ca_learn_51 rfl (fun hx => hx)
def f_Ba_learn (a1 : Int32) (a2 : Int32) (h0 : HP) : Option (HP) :=
 ckk (inb a2 39) (ltt (rA h0 65 a2) (fun (v3 : Int32) =>
 ckk (inb a1 10) (ltt (wA h0 64 a1 (v3 - 97)) (fun (h4 : HP) =>
 ckk (inb (a2 + 1) 39) (ltt (rA h4 65 (a2 + 1)) (fun (v5 : Int32) =>
 ckk (inb a1 10) (ltt (wA h4 63 a1 (v5 - 48)) (fun (h6 : HP) =>
 ckk (inb (a2 + 2) 39) (ltt (rA h6 65 (a2 + 2)) (fun (v7 : Int32) =>
 ckk (inb a1 10) (ltt (wA h6 62 a1 (v7 - 97)) (fun (h8 : HP) =>
 some h8))))))))))))
set_option maxRecDepth 20000 in
set_option maxHeartbeats 4000000 in
theorem m_Ba_learn (l : Launch) (g : GG) (ad : Nat → Nat) (a1 : Int32) (a2 : Int32) (h0 : HP) : CM l g ad y_Ba_learn b_Ba_learn 3 none rm_Ba_learn [.ref (ad 66), .int a1, .int a2] h0 enV (f_Ba_learn a1 a2 h0) := by
  refine CM.of (by decide) (Nat.le_of_ble_eq_true rfl) (fun Q => ?_)
  show Jj _ _ (Vw (kx_Ba_learn l g Q) 0 0 0 _ _ _)
  refine J_sub [0, 1, 2] (lv' := [(0, .ref (ad 66)), (1, .int a1), (2, .int a2)]) rfl ?_
  unfold f_Ba_learn
  refine J_aload_n 0 rfl d_Ba_learn_0 ?_
  refine J_getR fo_Ba_9_66 rfl d_Ba_learn_1 ?_
  refine J_iload_n 1 rfl d_Ba_learn_4 ?_
  refine J_aload_n 0 rfl d_Ba_learn_5 ?_
  refine J_getR fo_Ba_25_66 rfl d_Ba_learn_6 ?_
  refine J_iload_n 2 rfl d_Ba_learn_9 ?_
  refine P_ia (by decide) rfl rfl d_Ba_learn_10 (fun v3 => ?_)
  refine J_bipush (v := 97) rfl d_Ba_learn_11 ?_
  refine J_isub d_Ba_learn_13 ?_
  refine P_wa (by decide) rfl rfl d_Ba_learn_14 (fun h4 => ?_)
  refine J_aload_n 0 rfl d_Ba_learn_15 ?_
  refine J_getR fo_Ba_15_66 rfl d_Ba_learn_16 ?_
  refine J_iload_n 1 rfl d_Ba_learn_19 ?_
  refine J_aload_n 0 rfl d_Ba_learn_20 ?_
  refine J_getR fo_Ba_25_66 rfl d_Ba_learn_21 ?_
  refine J_iload_n 2 rfl d_Ba_learn_24 ?_
  refine J_iconst (v := 1) rfl d_Ba_learn_25 ?_
  refine J_iadd d_Ba_learn_26 ?_
  refine P_ia (by decide) rfl rfl d_Ba_learn_27 (fun v5 => ?_)
  refine J_bipush (v := 48) rfl d_Ba_learn_28 ?_
  refine J_isub d_Ba_learn_30 ?_
  refine P_wa (by decide) rfl rfl d_Ba_learn_31 (fun h6 => ?_)
  refine J_aload_n 0 rfl d_Ba_learn_32 ?_
  refine J_getR fo_Ba_18_66 rfl d_Ba_learn_33 ?_
  refine J_iload_n 1 rfl d_Ba_learn_36 ?_
  refine J_aload_n 0 rfl d_Ba_learn_37 ?_
  refine J_getR fo_Ba_25_66 rfl d_Ba_learn_38 ?_
  refine J_iload_n 2 rfl d_Ba_learn_41 ?_
  refine J_iconst (v := 2) rfl d_Ba_learn_42 ?_
  refine J_iadd d_Ba_learn_43 ?_
  refine P_ia (by decide) rfl rfl d_Ba_learn_44 (fun v7 => ?_)
  refine J_bipush (v := 97) rfl d_Ba_learn_45 ?_
  refine J_isub d_Ba_learn_47 ?_
  refine P_wa (by decide) rfl rfl d_Ba_learn_48 (fun h8 => ?_)
  exact J_vret (Nat.le_refl _) (Nat.le_refl _) d_Ba_learn_49 rfl (fun hx => hx)
def lp_Tx_parse_23 (o1 : Nat) : Nat → Int32 → HP → Option (Int32 × HP)
 | 0, _, _ => none
 | fu + 1, v8, h9 =>
 ltt (rI h9 o1 2) (fun (v10 : Int32) =>
 (if v10 ≤ v8 then
 some (v8, h9)
 else
 ltt (rI h9 o1 4) (fun (v12 : Int32) =>
 bd1 (if o1 = 70 then f_Ca_learn v12 v8 h9 else f_Ba_learn v12 v8 h9) (fun (h13 : HP) =>
 ltt (rI h13 o1 4) (fun (v14 : Int32) =>
 ltt (sI h13 o1 4 (v14 + 1)) (fun (h15 : HP) =>
 ltt (rI h15 o1 1) (fun (v16 : Int32) =>
 ltt (v8 + v16) (fun (v17 : Int32) =>
 lp_Tx_parse_23 o1 fu v17 h15))))))))
def f_Tx_parse (o1 : Nat) (h0 : HP) : Option (HP) :=
 bd2 (f_Tx_findFault o1 h0) (fun (v2 : Int32) (h3 : HP) =>
 ltt (sI h3 o1 3 v2) (fun (h4 : HP) =>
 ltt (sI h4 o1 4 0) (fun (h5 : HP) =>
 ltt (rI h5 o1 3) (fun (v6 : Int32) =>
 (if v6 = (-1) then
 bd2 (lp_Tx_parse_23 o1 400 0 h5) (fun (v18 : Int32) (h19 : HP) =>
 some h19)
 else
 some h5)))))
set_option maxRecDepth 20000 in
set_option maxHeartbeats 4000000 in
theorem mlp_Tx_parse_23 (l : Launch) (g : GG) (ad : Nat → Nat) (Q : Option Value → va_W → Prop) (o1 : Nat) (ho1 : o1 ∈ [70, 66]) : ∀ (fu : Nat) (v8 : Int32) (h9 : HP), Jj (fun q : Int32 × HP => Vw (kx_Tx_parse l g Q) 0 0 60 [(1, .int (q.1)), (0, .ref (ad o1))] [] (pic g ad q.2)) (lp_Tx_parse_23 o1 fu v8 h9) (Vw (kx_Tx_parse l g Q) 0 0 23 [(1, .int v8), (0, .ref (ad o1))] [] (pic g ad h9)) := by
  intro fu
  induction fu with
  | zero =>
    intro v8 h9
    exact J_none
  | succ fu ih =>
    intro v8 h9
    rw [lp_Tx_parse_23]
    refine J_iload_n 0 rfl d_Tx_parse_23 ?_
    refine J_aload_n 1 rfl d_Tx_parse_24 ?_
    refine P_gI (fo_Tx_22_s70_66 _ ho1) (fd_s70_66_2 _ ho1) d_Tx_parse_25 (fun v10 => ?_)
    refine J_icmp_ge 60 rfl d_Tx_parse_28 (fun c11 => ?_) (fun c11 => ?_)
    · exact J_exit [0, 1] rfl (fun hx => hx)
    · refine J_aload_n 1 rfl d_Tx_parse_31 ?_
      refine J_aload_n 1 rfl d_Tx_parse_32 ?_
      refine P_gI (fo_Tx_32_s70_66 _ ho1) (fd_s70_66_4 _ ho1) d_Tx_parse_33 (fun v12 => ?_)
      refine J_iload_n 0 rfl d_Tx_parse_36 ?_
      refine P_callDv ho1 (m_Ca_learn l g ad _ _ _) (m_Ba_learn l g ad _ _ _) ok_Ca_learn ok_Ba_learn ⟨rc_70, uo_Ca_Ca_learn⟩ ⟨rc_66, uo_Ba_Ba_learn⟩ wk_Tx_35 ⟨rfl, rfl, Nat.le_of_ble_eq_true rfl, Nat.le_of_ble_eq_true rfl⟩ ⟨rfl, rfl, Nat.le_of_ble_eq_true rfl, Nat.le_of_ble_eq_true rfl⟩ ⟨Nat.zero_le _, Nat.zero_le _⟩ (rest := []) rfl rfl (Nat.le_of_ble_eq_true rfl) d_Tx_parse_37 (fun h13 => ?_)
      refine J_aload_n 1 rfl d_Tx_parse_40 ?_
      refine J_dup rfl d_Tx_parse_41 ?_
      refine P_gI (fo_Tx_32_s70_66 _ ho1) (fd_s70_66_4 _ ho1) d_Tx_parse_42 (fun v14 => ?_)
      refine J_iconst (v := 1) rfl d_Tx_parse_45 ?_
      refine J_iadd d_Tx_parse_46 ?_
      refine P_wI (fo_Tx_32_s70_66 _ ho1) (fd_s70_66_4 _ ho1) d_Tx_parse_47 (fun h15 => ?_)
      refine J_iload_n 0 rfl d_Tx_parse_50 ?_
      refine J_aload_n 1 rfl d_Tx_parse_51 ?_
      refine P_gI (fo_Tx_19_s70_66 _ ho1) (fd_s70_66_1 _ ho1) d_Tx_parse_52 (fun v16 => ?_)
      refine J_iadd d_Tx_parse_55 ?_
      refine P_ist_n (lv' := fun v17 => [(1, .int v17), (0, .ref (ad o1))]) 1 rfl (Nat.le_of_ble_eq_true rfl) (fun _ => rfl) d_Tx_parse_56 (fun v17 => ?_)
      refine J_goto 23 rfl d_Tx_parse_57 ?_
      exact J_sub [0, 1] rfl (ih _ _)
set_option maxRecDepth 20000 in
set_option maxHeartbeats 4000000 in
theorem m_Tx_parse (l : Launch) (g : GG) (ad : Nat → Nat) (o1 : Nat) (ho1 : o1 ∈ [70, 66]) (h0 : HP) : CM l g ad y_Tx_parse b_Tx_parse 2 none rm_Tx_parse [.ref (ad o1)] h0 enV (f_Tx_parse o1 h0) := by
  refine CM.of (by decide) (Nat.le_of_ble_eq_true rfl) (fun Q => ?_)
  show Jj _ _ (Vw (kx_Tx_parse l g Q) 0 0 0 _ _ _)
  refine J_sub [0] (lv' := [(0, .ref (ad o1))]) rfl ?_
  unfold f_Tx_parse
  refine J_aload_n 0 rfl d_Tx_parse_0 ?_
  refine J_aload_n 0 rfl d_Tx_parse_1 ?_
  refine P_callUi (m_Tx_findFault l g ad o1 ho1 _) ok_Tx_findFault (ru_s70_66_Tx_findFault _ ho1) wk_Tx_28 ⟨rfl, rfl, Nat.le_of_ble_eq_true rfl, Nat.le_of_ble_eq_true rfl⟩ ⟨Nat.zero_le _, Nat.zero_le _⟩ (rest := [.ref (ad o1)]) rfl rfl (Nat.le_of_ble_eq_true rfl) d_Tx_parse_2 (fun v2 h3 => ?_)
  refine P_wI (fo_Tx_9_s70_66 _ ho1) (fd_s70_66_3 _ ho1) d_Tx_parse_5 (fun h4 => ?_)
  refine J_aload_n 0 rfl d_Tx_parse_8 ?_
  refine J_iconst (v := 0) rfl d_Tx_parse_9 ?_
  refine P_wI (fo_Tx_32_s70_66 _ ho1) (fd_s70_66_4 _ ho1) d_Tx_parse_10 (fun h5 => ?_)
  refine J_aload_n 0 rfl d_Tx_parse_13 ?_
  refine P_gI (fo_Tx_9_s70_66 _ ho1) (fd_s70_66_3 _ ho1) d_Tx_parse_14 (fun v6 => ?_)
  refine J_iconst (v := (-1)) rfl d_Tx_parse_17 ?_
  refine J_icmp_ne 60 rfl d_Tx_parse_18 (fun c7 => ?_) (fun c7 => ?_)
  · exact J_vret (Nat.le_refl _) (Nat.le_refl _) d_Tx_parse_60 rfl (fun hx => hx)
  · refine J_iconst (v := 0) rfl d_Tx_parse_21 ?_
    refine J_istore_n (lv' := [(1, .int 0), (0, .ref (ad o1))]) 1 rfl (Nat.le_of_ble_eq_true rfl) rfl d_Tx_parse_22 ?_
    refine J_bd2 (fun (v18 : Int32) (h19 : HP) => Vw (kx_Tx_parse l g Q) 0 0 60 [(1, .int v18), (0, .ref (ad o1))] [] (pic g ad h19)) ?_ (fun v18 h19 => ?_)
    · exact J_sub [0, 1] rfl (mlp_Tx_parse_23 l g ad Q o1 ho1 400 _ _)
    · exact J_vret (Nat.le_refl _) (Nat.le_refl _) d_Tx_parse_60 rfl (fun hx => hx)
def f_Tx_append (o1 : Nat) (a2 : Int32) (h0 : HP) : Option (Int32 × HP) :=
 ltt (rI h0 o1 2) (fun (v3 : Int32) =>
 ltt (rf1 o1 0) (fun (o4 : Nat) =>
 (if v3 < Int32.ofNat (ln o4) then
 ltt (rf1 o1 0) (fun (o6 : Nat) =>
 ltt (rI h0 o1 2) (fun (v7 : Int32) =>
 ckk (inb v7 (ln o6)) (ltt (wA h0 o6 v7 a2) (fun (h8 : HP) =>
 ltt (rI h8 o1 2) (fun (v9 : Int32) =>
 ltt (sI h8 o1 2 (v9 + 1)) (fun (h10 : HP) =>
 bd1 (f_Tx_parse o1 h10) (fun (h11 : HP) =>
 some (1, h11))))))))
 else
 some (0, h0))))
set_option maxRecDepth 20000 in
set_option maxHeartbeats 4000000 in
theorem m_Tx_append (l : Launch) (g : GG) (ad : Nat → Nat) (o1 : Nat) (ho1 : o1 ∈ [70, 66]) (a2 : Int32) (h0 : HP) : CM l g ad y_Tx_append b_Tx_append 2 (some .boolean) rm_Tx_append [.ref (ad o1), .int a2] h0 enI (f_Tx_append o1 a2 h0) := by
  refine CM.of (by decide) (Nat.le_of_ble_eq_true rfl) (fun Q => ?_)
  show Jj _ _ (Vw (kx_Tx_append l g Q) 0 0 0 _ _ _)
  refine J_sub [0, 1] (lv' := [(0, .ref (ad o1)), (1, .int a2)]) rfl ?_
  unfold f_Tx_append
  refine J_aload_n 0 rfl d_Tx_append_0 ?_
  refine P_gI (fo_Tx_22_s70_66 _ ho1) (fd_s70_66_2 _ ho1) d_Tx_append_1 (fun v3 => ?_)
  refine J_aload_n 0 rfl d_Tx_append_4 ?_
  refine P_gRv (rm_s70_66_0 _ ho1) (fo_Tx_15_s70_66 _ ho1) (fd_s70_66_0 _ ho1) d_Tx_append_5 (fun o4 ho4 => ?_)
  refine J_alen (v := Int32.ofNat (ln o4)) (al_s69_65 _ ho4) (ak_s69_65 _ ho4) rfl d_Tx_append_8 ?_
  refine J_icmp_lt 14 rfl d_Tx_append_9 (fun c5 => ?_) (fun c5 => ?_)
  · refine J_aload_n 0 rfl d_Tx_append_14 ?_
    refine P_gRv (rm_s70_66_0 _ ho1) (fo_Tx_15_s70_66 _ ho1) (fd_s70_66_0 _ ho1) d_Tx_append_15 (fun o6 ho6 => ?_)
    refine J_aload_n 0 rfl d_Tx_append_18 ?_
    refine P_gI (fo_Tx_22_s70_66 _ ho1) (fd_s70_66_2 _ ho1) d_Tx_append_19 (fun v7 => ?_)
    refine J_iload_n 1 rfl d_Tx_append_22 ?_
    refine P_wa (al_s69_65 _ ho6) (ak_s69_65 _ ho6) rfl d_Tx_append_23 (fun h8 => ?_)
    refine J_aload_n 0 rfl d_Tx_append_24 ?_
    refine J_dup rfl d_Tx_append_25 ?_
    refine P_gI (fo_Tx_22_s70_66 _ ho1) (fd_s70_66_2 _ ho1) d_Tx_append_26 (fun v9 => ?_)
    refine J_iconst (v := 1) rfl d_Tx_append_29 ?_
    refine J_iadd d_Tx_append_30 ?_
    refine P_wI (fo_Tx_22_s70_66 _ ho1) (fd_s70_66_2 _ ho1) d_Tx_append_31 (fun h10 => ?_)
    refine J_aload_n 0 rfl d_Tx_append_34 ?_
    refine P_callUv (m_Tx_parse l g ad o1 ho1 _) ok_Tx_parse (ru_s70_66_Tx_parse _ ho1) wk_Tx_25 ⟨rfl, rfl, Nat.le_of_ble_eq_true rfl, Nat.le_of_ble_eq_true rfl⟩ ⟨Nat.zero_le _, Nat.zero_le _⟩ (rest := []) rfl rfl (Nat.le_of_ble_eq_true rfl) d_Tx_append_35 (fun h11 => ?_)
    refine J_iconst (v := 1) rfl d_Tx_append_38 ?_
    exact J_zret (Nat.le_refl _) (Nat.le_refl _) d_Tx_append_39 rfl (zfit (Or.inr rfl)).1 (fun hx => hx)
  · refine J_iconst (v := 0) rfl d_Tx_append_12 ?_
    exact J_zret (Nat.le_refl _) (Nat.le_refl _) d_Tx_append_13 rfl (zfit (Or.inl rfl)).1 (fun hx => hx)
def f_CS_type (a1 : Int32) (a2 : Int32) (h0 : HP) : Option (Int32 × HP) :=
 bd2 (f_CS_isText a1 h0) (fun (v3 : Int32) (h4 : HP) =>
 (if v3 = 0 then
 some ((-2), h4)
 else
 (if a2 < 0 then
 some ((-2), h4)
 else
 (if a2 ≤ 255 then
 ckk (inb a1 2) (ltt (rfx 61 (Int32.toNatClampNeg a1)) (fun (o8 : Nat) =>
 bd2 (f_Tx_append o8 a2 h4) (fun (v9 : Int32) (h10 : HP) =>
 (if v9 = 0 then
 some ((-4), h10)
 else
 ckk (inb a1 2) (ltt (rfx 61 (Int32.toNatClampNeg a1)) (fun (o12 : Nat) =>
 ltt (rI h10 o12 2) (fun (v13 : Int32) =>
 some (v13, h10))))))))
 else
 some ((-2), h4)))))
set_option maxRecDepth 20000 in
set_option maxHeartbeats 4000000 in
theorem m_CS_type (l : Launch) (g : GG) (ad : Nat → Nat) (a1 : Int32) (a2 : Int32) (h0 : HP) : CM l g ad y_CS_type b_CS_type 3 (some .int) rm_CS_type [.ref (ad 71), .int a1, .int a2] h0 enI (f_CS_type a1 a2 h0) := by
  refine CM.of (by decide) (Nat.le_of_ble_eq_true rfl) (fun Q => ?_)
  show Jj _ _ (Vw (kx_CS_type l g Q) 0 0 0 _ _ _)
  refine J_sub [0, 1, 2] (lv' := [(0, .ref (ad 71)), (1, .int a1), (2, .int a2)]) rfl ?_
  unfold f_CS_type
  refine J_iload_n 1 rfl d_CS_type_0 ?_
  refine J_callSi (m_CS_isText l g ad _ _) ok_CS_isText ws_CS_isText wk_CS_78 ⟨rfl, rfl, Nat.le_of_ble_eq_true rfl, Nat.le_of_ble_eq_true rfl⟩ ⟨Nat.zero_le _, Nat.zero_le _⟩ (rest := []) rfl rfl (Nat.le_of_ble_eq_true rfl) d_CS_type_1 (fun v3 h4 => ?_)
  refine J_if_eq 18 rfl d_CS_type_4 (fun c5 => ?_) (fun c5 => ?_)
  · refine J_bipush (v := (-2)) rfl d_CS_type_18 ?_
    exact J_iret (Nat.le_refl _) (Nat.le_refl _) d_CS_type_20 rfl (fun hx => hx)
  · refine J_iload_n 2 rfl d_CS_type_7 ?_
    refine J_if_lt 18 rfl d_CS_type_8 (fun c6 => ?_) (fun c6 => ?_)
    · refine J_bipush (v := (-2)) rfl d_CS_type_18 ?_
      exact J_iret (Nat.le_refl _) (Nat.le_refl _) d_CS_type_20 rfl (fun hx => hx)
    · refine J_iload_n 2 rfl d_CS_type_11 ?_
      refine J_sipush (v := 255) rfl d_CS_type_12 ?_
      refine J_icmp_le 21 rfl d_CS_type_15 (fun c7 => ?_) (fun c7 => ?_)
      · refine J_aload_n 0 rfl d_CS_type_21 ?_
        refine J_getR fo_CS_25_71 rfl d_CS_type_22 ?_
        refine J_iload_n 1 rfl d_CS_type_25 ?_
        refine P_aaT rx_61 (by decide) rfl rfl d_CS_type_26 (fun o8 ho8 => ?_)
        refine J_iload_n 2 rfl d_CS_type_27 ?_
        refine P_callUi (m_Tx_append l g ad o8 ho8 _ _) ok_Tx_append (ru_s70_66_Tx_append _ ho8) wk_CS_82 ⟨rfl, rfl, Nat.le_of_ble_eq_true rfl, Nat.le_of_ble_eq_true rfl⟩ ⟨Nat.zero_le _, Nat.zero_le _⟩ (rest := []) rfl rfl (Nat.le_of_ble_eq_true rfl) d_CS_type_28 (fun v9 h10 => ?_)
        refine J_if_eq 46 rfl d_CS_type_31 (fun c11 => ?_) (fun c11 => ?_)
        · refine J_bipush (v := (-4)) rfl d_CS_type_46 ?_
          exact J_iret (Nat.le_refl _) (Nat.le_refl _) d_CS_type_48 rfl (fun hx => hx)
        · refine J_aload_n 0 rfl d_CS_type_34 ?_
          refine J_getR fo_CS_25_71 rfl d_CS_type_35 ?_
          refine J_iload_n 1 rfl d_CS_type_38 ?_
          refine P_aaT rx_61 (by decide) rfl rfl d_CS_type_39 (fun o12 ho12 => ?_)
          refine P_gI (fo_CS_85_s70_66 _ ho12) (fd_s70_66_2 _ ho12) d_CS_type_40 (fun v13 => ?_)
          refine J_goto 48 rfl d_CS_type_43 ?_
          exact J_iret (Nat.le_refl _) (Nat.le_refl _) d_CS_type_48 rfl (fun hx => hx)
      · refine J_bipush (v := (-2)) rfl d_CS_type_18 ?_
        exact J_iret (Nat.le_refl _) (Nat.le_refl _) d_CS_type_20 rfl (fun hx => hx)
def f_Tx_cutTo (o1 : Nat) (a2 : Int32) (h0 : HP) : Option (HP) :=
 ltt (sI h0 o1 2 a2) (fun (h3 : HP) =>
 bd1 (f_Tx_parse o1 h3) (fun (h4 : HP) =>
 some h4))
set_option maxRecDepth 20000 in
set_option maxHeartbeats 4000000 in
theorem m_Tx_cutTo (l : Launch) (g : GG) (ad : Nat → Nat) (o1 : Nat) (ho1 : o1 ∈ [70, 66]) (a2 : Int32) (h0 : HP) : CM l g ad y_Tx_cutTo b_Tx_cutTo 2 none rm_Tx_cutTo [.ref (ad o1), .int a2] h0 enV (f_Tx_cutTo o1 a2 h0) := by
  refine CM.of (by decide) (Nat.le_of_ble_eq_true rfl) (fun Q => ?_)
  show Jj _ _ (Vw (kx_Tx_cutTo l g Q) 0 0 0 _ _ _)
  refine J_sub [0, 1] (lv' := [(0, .ref (ad o1)), (1, .int a2)]) rfl ?_
  unfold f_Tx_cutTo
  refine J_aload_n 0 rfl d_Tx_cutTo_0 ?_
  refine J_iload_n 1 rfl d_Tx_cutTo_1 ?_
  refine P_wI (fo_Tx_22_s70_66 _ ho1) (fd_s70_66_2 _ ho1) d_Tx_cutTo_2 (fun h3 => ?_)
  refine J_aload_n 0 rfl d_Tx_cutTo_5 ?_
  refine P_callUv (m_Tx_parse l g ad o1 ho1 _) ok_Tx_parse (ru_s70_66_Tx_parse _ ho1) wk_Tx_25 ⟨rfl, rfl, Nat.le_of_ble_eq_true rfl, Nat.le_of_ble_eq_true rfl⟩ ⟨Nat.zero_le _, Nat.zero_le _⟩ (rest := []) rfl rfl (Nat.le_of_ble_eq_true rfl) d_Tx_cutTo_6 (fun h4 => ?_)
  exact J_vret (Nat.le_refl _) (Nat.le_refl _) d_Tx_cutTo_9 rfl (fun hx => hx)
def f_CS_wipe (a1 : Int32) (h0 : HP) : Option (Int32 × HP) :=
 bd2 (f_CS_isText a1 h0) (fun (v2 : Int32) (h3 : HP) =>
 (if v2 = 0 then
 some ((-2), h3)
 else
 ckk (inb a1 2) (ltt (rfx 61 (Int32.toNatClampNeg a1)) (fun (o5 : Nat) =>
 ltt (rI h3 o5 2) (fun (v6 : Int32) =>
 ckk (inb a1 2) (ltt (rfx 61 (Int32.toNatClampNeg a1)) (fun (o7 : Nat) =>
 bd1 (f_Tx_cutTo o7 0 h3) (fun (h8 : HP) =>
 some (v6, h8)))))))))
set_option maxRecDepth 20000 in
set_option maxHeartbeats 4000000 in
theorem m_CS_wipe (l : Launch) (g : GG) (ad : Nat → Nat) (a1 : Int32) (h0 : HP) : CM l g ad y_CS_wipe b_CS_wipe 3 (some .int) rm_CS_wipe [.ref (ad 71), .int a1] h0 enI (f_CS_wipe a1 h0) := by
  refine CM.of (by decide) (Nat.le_of_ble_eq_true rfl) (fun Q => ?_)
  show Jj _ _ (Vw (kx_CS_wipe l g Q) 0 0 0 _ _ _)
  refine J_sub [0, 1] (lv' := [(0, .ref (ad 71)), (1, .int a1)]) rfl ?_
  unfold f_CS_wipe
  refine J_iload_n 1 rfl d_CS_wipe_0 ?_
  refine J_callSi (m_CS_isText l g ad _ _) ok_CS_isText ws_CS_isText wk_CS_78 ⟨rfl, rfl, Nat.le_of_ble_eq_true rfl, Nat.le_of_ble_eq_true rfl⟩ ⟨Nat.zero_le _, Nat.zero_le _⟩ (rest := []) rfl rfl (Nat.le_of_ble_eq_true rfl) d_CS_wipe_1 (fun v2 h3 => ?_)
  refine J_if_ne 10 rfl d_CS_wipe_4 (fun c4 => ?_) (fun c4 => ?_)
  · refine J_aload_n 0 rfl d_CS_wipe_10 ?_
    refine J_getR fo_CS_25_71 rfl d_CS_wipe_11 ?_
    refine J_iload_n 1 rfl d_CS_wipe_14 ?_
    refine P_aaT rx_61 (by decide) rfl rfl d_CS_wipe_15 (fun o5 ho5 => ?_)
    refine P_gI (fo_CS_85_s70_66 _ ho5) (fd_s70_66_2 _ ho5) d_CS_wipe_16 (fun v6 => ?_)
    refine J_istore_n (lv' := [(2, .int v6), (0, .ref (ad 71)), (1, .int a1)]) 2 rfl (Nat.le_of_ble_eq_true rfl) rfl d_CS_wipe_19 ?_
    refine J_aload_n 1 rfl d_CS_wipe_20 ?_
    refine J_getR fo_CS_25_71 rfl d_CS_wipe_21 ?_
    refine J_iload_n 2 rfl d_CS_wipe_24 ?_
    refine P_aaT rx_61 (by decide) rfl rfl d_CS_wipe_25 (fun o7 ho7 => ?_)
    refine J_iconst (v := 0) rfl d_CS_wipe_26 ?_
    refine P_callUv (m_Tx_cutTo l g ad o7 ho7 _ _) ok_Tx_cutTo (ru_s70_66_Tx_cutTo _ ho7) wk_CS_89 ⟨rfl, rfl, Nat.le_of_ble_eq_true rfl, Nat.le_of_ble_eq_true rfl⟩ ⟨Nat.zero_le _, Nat.zero_le _⟩ (rest := []) rfl rfl (Nat.le_of_ble_eq_true rfl) d_CS_wipe_27 (fun h8 => ?_)
    refine J_iload_n 0 rfl d_CS_wipe_30 ?_
    exact J_iret (Nat.le_refl _) (Nat.le_refl _) d_CS_wipe_31 rfl (fun hx => hx)
  · refine J_bipush (v := (-2)) rfl d_CS_wipe_7 ?_
    exact J_iret (Nat.le_refl _) (Nat.le_refl _) d_CS_wipe_9 rfl (fun hx => hx)
def f_CS_undo (a1 : Int32) (h0 : HP) : Option (Int32 × HP) :=
 bd2 (f_CS_isText a1 h0) (fun (v2 : Int32) (h3 : HP) =>
 (if v2 = 0 then
 some ((-2), h3)
 else
 ckk (inb a1 2) (ltt (rfx 61 (Int32.toNatClampNeg a1)) (fun (o5 : Nat) =>
 ltt (rI h3 o5 2) (fun (v6 : Int32) =>
 (if v6 = 0 then
 some ((-3), h3)
 else
 ckk (inb a1 2) (ltt (rfx 61 (Int32.toNatClampNeg a1)) (fun (o8 : Nat) =>
 bd1 (f_Tx_cutTo o8 (v6 - 1) h3) (fun (h9 : HP) =>
 some (v6 - 1, h9))))))))))
set_option maxRecDepth 20000 in
set_option maxHeartbeats 4000000 in
theorem m_CS_undo (l : Launch) (g : GG) (ad : Nat → Nat) (a1 : Int32) (h0 : HP) : CM l g ad y_CS_undo b_CS_undo 3 (some .int) rm_CS_undo [.ref (ad 71), .int a1] h0 enI (f_CS_undo a1 h0) := by
  refine CM.of (by decide) (Nat.le_of_ble_eq_true rfl) (fun Q => ?_)
  show Jj _ _ (Vw (kx_CS_undo l g Q) 0 0 0 _ _ _)
  refine J_sub [0, 1] (lv' := [(0, .ref (ad 71)), (1, .int a1)]) rfl ?_
  unfold f_CS_undo
  refine J_iload_n 1 rfl d_CS_undo_0 ?_
  refine J_callSi (m_CS_isText l g ad _ _) ok_CS_isText ws_CS_isText wk_CS_78 ⟨rfl, rfl, Nat.le_of_ble_eq_true rfl, Nat.le_of_ble_eq_true rfl⟩ ⟨Nat.zero_le _, Nat.zero_le _⟩ (rest := []) rfl rfl (Nat.le_of_ble_eq_true rfl) d_CS_undo_1 (fun v2 h3 => ?_)
  refine J_if_ne 10 rfl d_CS_undo_4 (fun c4 => ?_) (fun c4 => ?_)
  · refine J_aload_n 0 rfl d_CS_undo_10 ?_
    refine J_getR fo_CS_25_71 rfl d_CS_undo_11 ?_
    refine J_iload_n 1 rfl d_CS_undo_14 ?_
    refine P_aaT rx_61 (by decide) rfl rfl d_CS_undo_15 (fun o5 ho5 => ?_)
    refine P_gI (fo_CS_85_s70_66 _ ho5) (fd_s70_66_2 _ ho5) d_CS_undo_16 (fun v6 => ?_)
    refine J_istore_n (lv' := [(2, .int v6), (0, .ref (ad 71)), (1, .int a1)]) 2 rfl (Nat.le_of_ble_eq_true rfl) rfl d_CS_undo_19 ?_
    refine J_iload_n 0 rfl d_CS_undo_20 ?_
    refine J_if_ne 27 rfl d_CS_undo_21 (fun c7 => ?_) (fun c7 => ?_)
    · refine J_aload_n 1 rfl d_CS_undo_27 ?_
      refine J_getR fo_CS_25_71 rfl d_CS_undo_28 ?_
      refine J_iload_n 2 rfl d_CS_undo_31 ?_
      refine P_aaT rx_61 (by decide) rfl rfl d_CS_undo_32 (fun o8 ho8 => ?_)
      refine J_iload_n 0 rfl d_CS_undo_33 ?_
      refine J_iconst (v := 1) rfl d_CS_undo_34 ?_
      refine J_isub d_CS_undo_35 ?_
      refine P_callUv (m_Tx_cutTo l g ad o8 ho8 _ _) ok_Tx_cutTo (ru_s70_66_Tx_cutTo _ ho8) wk_CS_89 ⟨rfl, rfl, Nat.le_of_ble_eq_true rfl, Nat.le_of_ble_eq_true rfl⟩ ⟨Nat.zero_le _, Nat.zero_le _⟩ (rest := []) rfl rfl (Nat.le_of_ble_eq_true rfl) d_CS_undo_36 (fun h9 => ?_)
      refine J_iload_n 0 rfl d_CS_undo_39 ?_
      refine J_iconst (v := 1) rfl d_CS_undo_40 ?_
      refine J_isub d_CS_undo_41 ?_
      exact J_iret (Nat.le_refl _) (Nat.le_refl _) d_CS_undo_42 rfl (fun hx => hx)
    · refine J_bipush (v := (-3)) rfl d_CS_undo_24 ?_
      exact J_iret (Nat.le_refl _) (Nat.le_refl _) d_CS_undo_26 rfl (fun hx => hx)
  · refine J_bipush (v := (-2)) rfl d_CS_undo_7 ?_
    exact J_iret (Nat.le_refl _) (Nat.le_refl _) d_CS_undo_9 rfl (fun hx => hx)
def f_CS_fault (a1 : Int32) (h0 : HP) : Option (Int32 × HP) :=
 bd2 (f_CS_isText a1 h0) (fun (v2 : Int32) (h3 : HP) =>
 (if v2 = 0 then
 some ((-2), h3)
 else
 ckk (inb a1 2) (ltt (rfx 61 (Int32.toNatClampNeg a1)) (fun (o5 : Nat) =>
 ltt (rI h3 o5 3) (fun (v6 : Int32) =>
 some (v6, h3))))))
set_option maxRecDepth 20000 in
set_option maxHeartbeats 4000000 in
theorem m_CS_fault (l : Launch) (g : GG) (ad : Nat → Nat) (a1 : Int32) (h0 : HP) : CM l g ad y_CS_fault b_CS_fault 2 (some .int) rm_CS_fault [.ref (ad 71), .int a1] h0 enI (f_CS_fault a1 h0) := by
  refine CM.of (by decide) (Nat.le_of_ble_eq_true rfl) (fun Q => ?_)
  show Jj _ _ (Vw (kx_CS_fault l g Q) 0 0 0 _ _ _)
  refine J_sub [0, 1] (lv' := [(0, .ref (ad 71)), (1, .int a1)]) rfl ?_
  unfold f_CS_fault
  refine J_iload_n 1 rfl d_CS_fault_0 ?_
  refine J_callSi (m_CS_isText l g ad _ _) ok_CS_isText ws_CS_isText wk_CS_78 ⟨rfl, rfl, Nat.le_of_ble_eq_true rfl, Nat.le_of_ble_eq_true rfl⟩ ⟨Nat.zero_le _, Nat.zero_le _⟩ (rest := []) rfl rfl (Nat.le_of_ble_eq_true rfl) d_CS_fault_1 (fun v2 h3 => ?_)
  refine J_if_eq 19 rfl d_CS_fault_4 (fun c4 => ?_) (fun c4 => ?_)
  · refine J_bipush (v := (-2)) rfl d_CS_fault_19 ?_
    exact J_iret (Nat.le_refl _) (Nat.le_refl _) d_CS_fault_21 rfl (fun hx => hx)
  · refine J_aload_n 0 rfl d_CS_fault_7 ?_
    refine J_getR fo_CS_25_71 rfl d_CS_fault_8 ?_
    refine J_iload_n 1 rfl d_CS_fault_11 ?_
    refine P_aaT rx_61 (by decide) rfl rfl d_CS_fault_12 (fun o5 ho5 => ?_)
    refine P_gI (fo_CS_93_s70_66 _ ho5) (fd_s70_66_3 _ ho5) d_CS_fault_13 (fun v6 => ?_)
    refine J_goto 21 rfl d_CS_fault_16 ?_
    exact J_iret (Nat.le_refl _) (Nat.le_refl _) d_CS_fault_21 rfl (fun hx => hx)
def f_CS_isCamel (a1 : Int32) (h0 : HP) : Option (Int32 × HP) :=
 (if a1 < 0 then
 some (0, h0)
 else
 ltt (rI h0 70 4) (fun (v3 : Int32) =>
 (if v3 ≤ a1 then
 some (0, h0)
 else
 some (1, h0))))
set_option maxRecDepth 20000 in
set_option maxHeartbeats 4000000 in
theorem m_CS_isCamel (l : Launch) (g : GG) (ad : Nat → Nat) (a1 : Int32) (h0 : HP) : CM l g ad y_CS_isCamel b_CS_isCamel 2 (some .boolean) rm_CS_isCamel [.ref (ad 71), .int a1] h0 enI (f_CS_isCamel a1 h0) := by
  refine CM.of (by decide) (Nat.le_of_ble_eq_true rfl) (fun Q => ?_)
  show Jj _ _ (Vw (kx_CS_isCamel l g Q) 0 0 0 _ _ _)
  refine J_sub [0, 1] (lv' := [(0, .ref (ad 71)), (1, .int a1)]) rfl ?_
  unfold f_CS_isCamel
  refine J_iload_n 1 rfl d_CS_isCamel_0 ?_
  refine J_if_lt 19 rfl d_CS_isCamel_1 (fun c2 => ?_) (fun c2 => ?_)
  · refine J_iconst (v := 0) rfl d_CS_isCamel_19 ?_
    exact J_zret (Nat.le_refl _) (Nat.le_refl _) d_CS_isCamel_20 rfl (zfit (Or.inl rfl)).1 (fun hx => hx)
  · refine J_iload_n 1 rfl d_CS_isCamel_4 ?_
    refine J_aload_n 0 rfl d_CS_isCamel_5 ?_
    refine J_getR fo_CS_10_71 rfl d_CS_isCamel_6 ?_
    refine P_gI fo_CS_229_70 rfl d_CS_isCamel_9 (fun v3 => ?_)
    refine J_icmp_ge 19 rfl d_CS_isCamel_12 (fun c4 => ?_) (fun c4 => ?_)
    · refine J_iconst (v := 0) rfl d_CS_isCamel_19 ?_
      exact J_zret (Nat.le_refl _) (Nat.le_refl _) d_CS_isCamel_20 rfl (zfit (Or.inl rfl)).1 (fun hx => hx)
    · refine J_iconst (v := 1) rfl d_CS_isCamel_15 ?_
      refine J_goto 20 rfl d_CS_isCamel_16 ?_
      exact J_zret (Nat.le_refl _) (Nat.le_refl _) d_CS_isCamel_20 rfl (zfit (Or.inr rfl)).1 (fun hx => hx)
def f_CS_strengthOf (a1 : Int32) (h0 : HP) : Option (Int32 × HP) :=
 some (4 * a1, h0)
set_option maxRecDepth 20000 in
set_option maxHeartbeats 4000000 in
theorem m_CS_strengthOf (l : Launch) (g : GG) (ad : Nat → Nat) (a1 : Int32) (h0 : HP) : CM l g ad y_CS_strengthOf b_CS_strengthOf 1 (some .int) rm_CS_strengthOf [.int a1] h0 enI (f_CS_strengthOf a1 h0) := by
  refine CM.of (by decide) (Nat.le_of_ble_eq_true rfl) (fun Q => ?_)
  show Jj _ _ (Vw (kx_CS_strengthOf l g Q) 0 0 0 _ _ _)
  refine J_sub [0] (lv' := [(0, .int a1)]) rfl ?_
  unfold f_CS_strengthOf
  refine J_iconst (v := 4) rfl d_CS_strengthOf_0 ?_
  refine J_iload_n 0 rfl d_CS_strengthOf_1 ?_
  refine J_imul d_CS_strengthOf_2 ?_
  exact J_iret (Nat.le_refl _) (Nat.le_refl _) d_CS_strengthOf_3 rfl (fun hx => hx)
def f_CS_camel (a1 : Int32) (a2 : Int32) (h0 : HP) : Option (Int32 × HP) :=
 bd2 (f_CS_isCamel a1 h0) (fun (v3 : Int32) (h4 : HP) =>
 (if v3 = 0 then
 some ((-2), h4)
 else
 (if a2 < 0 then
 some ((-2), h4)
 else
 (if a2 ≤ 1 then
 (if a2 = 0 then
 ckk (inb a1 8) (ltt (rA h4 68 a1) (fun (v12 : Int32) =>
 some (v12, h4)))
 else
 ckk (inb a1 8) (ltt (rA h4 67 a1) (fun (v9 : Int32) =>
 bd2 (f_CS_strengthOf v9 h4) (fun (v10 : Int32) (h11 : HP) =>
 some (v10, h11)))))
 else
 some ((-2), h4)))))
set_option maxRecDepth 20000 in
set_option maxHeartbeats 4000000 in
theorem m_CS_camel (l : Launch) (g : GG) (ad : Nat → Nat) (a1 : Int32) (a2 : Int32) (h0 : HP) : CM l g ad y_CS_camel b_CS_camel 3 (some .int) rm_CS_camel [.ref (ad 71), .int a1, .int a2] h0 enI (f_CS_camel a1 a2 h0) := by
  refine CM.of (by decide) (Nat.le_of_ble_eq_true rfl) (fun Q => ?_)
  show Jj _ _ (Vw (kx_CS_camel l g Q) 0 0 0 _ _ _)
  refine J_sub [0, 1, 2] (lv' := [(0, .ref (ad 71)), (1, .int a1), (2, .int a2)]) rfl ?_
  unfold f_CS_camel
  refine J_aload_n 0 rfl d_CS_camel_0 ?_
  refine J_iload_n 1 rfl d_CS_camel_1 ?_
  refine J_callVi (m_CS_isCamel l g ad _ _) ok_CS_isCamel rc_71 wi_CS_isCamel wl_CS_CS_isCamel wk_CS_96 ⟨rfl, rfl, Nat.le_of_ble_eq_true rfl, Nat.le_of_ble_eq_true rfl⟩ ⟨Nat.zero_le _, Nat.zero_le _⟩ (rest := []) rfl rfl (Nat.le_of_ble_eq_true rfl) d_CS_camel_2 (fun v3 h4 => ?_)
  refine J_if_eq 17 rfl d_CS_camel_5 (fun c5 => ?_) (fun c5 => ?_)
  · refine J_bipush (v := (-2)) rfl d_CS_camel_17 ?_
    exact J_iret (Nat.le_refl _) (Nat.le_refl _) d_CS_camel_19 rfl (fun hx => hx)
  · refine J_iload_n 2 rfl d_CS_camel_8 ?_
    refine J_if_lt 17 rfl d_CS_camel_9 (fun c6 => ?_) (fun c6 => ?_)
    · refine J_bipush (v := (-2)) rfl d_CS_camel_17 ?_
      exact J_iret (Nat.le_refl _) (Nat.le_refl _) d_CS_camel_19 rfl (fun hx => hx)
    · refine J_iload_n 2 rfl d_CS_camel_12 ?_
      refine J_iconst (v := 1) rfl d_CS_camel_13 ?_
      refine J_icmp_le 20 rfl d_CS_camel_14 (fun c7 => ?_) (fun c7 => ?_)
      · refine J_iload_n 2 rfl d_CS_camel_20 ?_
        refine J_if_ne 36 rfl d_CS_camel_21 (fun c8 => ?_) (fun c8 => ?_)
        · refine J_aload_n 0 rfl d_CS_camel_36 ?_
          refine J_getR fo_CS_10_71 rfl d_CS_camel_37 ?_
          refine J_getR fo_CS_103_70 rfl d_CS_camel_40 ?_
          refine J_iload_n 1 rfl d_CS_camel_43 ?_
          refine P_ia (by decide) rfl rfl d_CS_camel_44 (fun v9 => ?_)
          refine J_callSi (m_CS_strengthOf l g ad _ _) ok_CS_strengthOf ws_CS_strengthOf wk_CS_106 ⟨rfl, rfl, Nat.le_of_ble_eq_true rfl, Nat.le_of_ble_eq_true rfl⟩ ⟨Nat.zero_le _, Nat.zero_le _⟩ (rest := []) rfl rfl (Nat.le_of_ble_eq_true rfl) d_CS_camel_45 (fun v10 h11 => ?_)
          exact J_iret (Nat.le_refl _) (Nat.le_refl _) d_CS_camel_48 rfl (fun hx => hx)
        · refine J_aload_n 0 rfl d_CS_camel_24 ?_
          refine J_getR fo_CS_10_71 rfl d_CS_camel_25 ?_
          refine J_getR fo_CS_99_70 rfl d_CS_camel_28 ?_
          refine J_iload_n 1 rfl d_CS_camel_31 ?_
          refine P_ia (by decide) rfl rfl d_CS_camel_32 (fun v12 => ?_)
          refine J_goto 48 rfl d_CS_camel_33 ?_
          exact J_iret (Nat.le_refl _) (Nat.le_refl _) d_CS_camel_48 rfl (fun hx => hx)
      · refine J_bipush (v := (-2)) rfl d_CS_camel_17 ?_
        exact J_iret (Nat.le_refl _) (Nat.le_refl _) d_CS_camel_19 rfl (fun hx => hx)
def f_CS_isBale (a1 : Int32) (h0 : HP) : Option (Int32 × HP) :=
 (if a1 < 0 then
 some (0, h0)
 else
 ltt (rI h0 66 4) (fun (v3 : Int32) =>
 (if v3 ≤ a1 then
 some (0, h0)
 else
 some (1, h0))))
set_option maxRecDepth 20000 in
set_option maxHeartbeats 4000000 in
theorem m_CS_isBale (l : Launch) (g : GG) (ad : Nat → Nat) (a1 : Int32) (h0 : HP) : CM l g ad y_CS_isBale b_CS_isBale 2 (some .boolean) rm_CS_isBale [.ref (ad 71), .int a1] h0 enI (f_CS_isBale a1 h0) := by
  refine CM.of (by decide) (Nat.le_of_ble_eq_true rfl) (fun Q => ?_)
  show Jj _ _ (Vw (kx_CS_isBale l g Q) 0 0 0 _ _ _)
  refine J_sub [0, 1] (lv' := [(0, .ref (ad 71)), (1, .int a1)]) rfl ?_
  unfold f_CS_isBale
  refine J_iload_n 1 rfl d_CS_isBale_0 ?_
  refine J_if_lt 19 rfl d_CS_isBale_1 (fun c2 => ?_) (fun c2 => ?_)
  · refine J_iconst (v := 0) rfl d_CS_isBale_19 ?_
    exact J_zret (Nat.le_refl _) (Nat.le_refl _) d_CS_isBale_20 rfl (zfit (Or.inl rfl)).1 (fun hx => hx)
  · refine J_iload_n 1 rfl d_CS_isBale_4 ?_
    refine J_aload_n 0 rfl d_CS_isBale_5 ?_
    refine J_getR fo_CS_19_71 rfl d_CS_isBale_6 ?_
    refine P_gI fo_CS_269_66 rfl d_CS_isBale_9 (fun v3 => ?_)
    refine J_icmp_ge 19 rfl d_CS_isBale_12 (fun c4 => ?_) (fun c4 => ?_)
    · refine J_iconst (v := 0) rfl d_CS_isBale_19 ?_
      exact J_zret (Nat.le_refl _) (Nat.le_refl _) d_CS_isBale_20 rfl (zfit (Or.inl rfl)).1 (fun hx => hx)
    · refine J_iconst (v := 1) rfl d_CS_isBale_15 ?_
      refine J_goto 20 rfl d_CS_isBale_16 ?_
      exact J_zret (Nat.le_refl _) (Nat.le_refl _) d_CS_isBale_20 rfl (zfit (Or.inr rfl)).1 (fun hx => hx)
def f_CS_bale (a1 : Int32) (a2 : Int32) (h0 : HP) : Option (Int32 × HP) :=
 bd2 (f_CS_isBale a1 h0) (fun (v3 : Int32) (h4 : HP) =>
 (if v3 = 0 then
 some ((-2), h4)
 else
 (if a2 = 0 then
 ckk (inb a1 10) (ltt (rA h4 64 a1) (fun (v7 : Int32) =>
 some (v7, h4)))
 else
 (if a2 = 1 then
 ckk (inb a1 10) (ltt (rA h4 63 a1) (fun (v9 : Int32) =>
 some (v9, h4)))
 else
 (if a2 = 2 then
 ckk (inb a1 10) (ltt (rA h4 62 a1) (fun (v11 : Int32) =>
 some (v11, h4)))
 else
 some ((-2), h4))))))
set_option maxRecDepth 20000 in
set_option maxHeartbeats 4000000 in
theorem m_CS_bale (l : Launch) (g : GG) (ad : Nat → Nat) (a1 : Int32) (a2 : Int32) (h0 : HP) : CM l g ad y_CS_bale b_CS_bale 3 (some .int) rm_CS_bale [.ref (ad 71), .int a1, .int a2] h0 enI (f_CS_bale a1 a2 h0) := by
  refine CM.of (by decide) (Nat.le_of_ble_eq_true rfl) (fun Q => ?_)
  show Jj _ _ (Vw (kx_CS_bale l g Q) 0 0 0 _ _ _)
  refine J_sub [0, 1, 2] (lv' := [(0, .ref (ad 71)), (1, .int a1), (2, .int a2)]) rfl ?_
  unfold f_CS_bale
  refine J_aload_n 0 rfl d_CS_bale_0 ?_
  refine J_iload_n 1 rfl d_CS_bale_1 ?_
  refine J_callVi (m_CS_isBale l g ad _ _) ok_CS_isBale rc_71 wi_CS_isBale wl_CS_CS_isBale wk_CS_110 ⟨rfl, rfl, Nat.le_of_ble_eq_true rfl, Nat.le_of_ble_eq_true rfl⟩ ⟨Nat.zero_le _, Nat.zero_le _⟩ (rest := []) rfl rfl (Nat.le_of_ble_eq_true rfl) d_CS_bale_2 (fun v3 h4 => ?_)
  refine J_if_ne 11 rfl d_CS_bale_5 (fun c5 => ?_) (fun c5 => ?_)
  · refine J_iload_n 2 rfl d_CS_bale_11 ?_
    refine J_ite (fun c6 => ?_) (fun c6 => ?_)
    · refine J_tswIn 40 (by rw [c6]; decide) (by rw [c6]; decide) (by rw [c6]; try rfl) rfl d_CS_bale_12 ?_
      refine J_aload_n 0 rfl d_CS_bale_40 ?_
      refine J_getR fo_CS_19_71 rfl d_CS_bale_41 ?_
      refine J_getR fo_CS_113_66 rfl d_CS_bale_44 ?_
      refine J_iload_n 1 rfl d_CS_bale_47 ?_
      refine P_ia (by decide) rfl rfl d_CS_bale_48 (fun v7 => ?_)
      exact J_iret (Nat.le_refl _) (Nat.le_refl _) d_CS_bale_49 rfl (fun hx => hx)
    · refine J_ite (fun c8 => ?_) (fun c8 => ?_)
      · refine J_tswIn 50 (by rw [c8]; decide) (by rw [c8]; decide) (by rw [c8]; try rfl) rfl d_CS_bale_12 ?_
        refine J_aload_n 0 rfl d_CS_bale_50 ?_
        refine J_getR fo_CS_19_71 rfl d_CS_bale_51 ?_
        refine J_getR fo_CS_115_66 rfl d_CS_bale_54 ?_
        refine J_iload_n 1 rfl d_CS_bale_57 ?_
        refine P_ia (by decide) rfl rfl d_CS_bale_58 (fun v9 => ?_)
        exact J_iret (Nat.le_refl _) (Nat.le_refl _) d_CS_bale_59 rfl (fun hx => hx)
      · refine J_ite (fun c10 => ?_) (fun c10 => ?_)
        · refine J_tswIn 60 (by rw [c10]; decide) (by rw [c10]; decide) (by rw [c10]; try rfl) rfl d_CS_bale_12 ?_
          refine J_aload_n 0 rfl d_CS_bale_60 ?_
          refine J_getR fo_CS_19_71 rfl d_CS_bale_61 ?_
          refine J_getR fo_CS_118_66 rfl d_CS_bale_64 ?_
          refine J_iload_n 1 rfl d_CS_bale_67 ?_
          refine P_ia (by decide) rfl rfl d_CS_bale_68 (fun v11 => ?_)
          exact J_iret (Nat.le_refl _) (Nat.le_refl _) d_CS_bale_69 rfl (fun hx => hx)
        · refine J_tswOut 70 (by have e0 := lv_neT (a := 0) c6 rfl; have e1 := lv_neT (a := 1) c8 rfl; have e2 := lv_neT (a := 2) c10 rfl; omega) rfl d_CS_bale_12 ?_
          refine J_bipush (v := (-2)) rfl d_CS_bale_70 ?_
          exact J_iret (Nat.le_refl _) (Nat.le_refl _) d_CS_bale_72 rfl (fun hx => hx)
  · refine J_bipush (v := (-2)) rfl d_CS_bale_8 ?_
    exact J_iret (Nat.le_refl _) (Nat.le_refl _) d_CS_bale_10 rfl (fun hx => hx)
def f_CS_isDay (a1 : Int32) (h0 : HP) : Option (Int32 × HP) :=
 (if a1 < 0 then
 some (0, h0)
 else
 (if 24 ≤ a1 then
 some (0, h0)
 else
 some (1, h0)))
set_option maxRecDepth 20000 in
set_option maxHeartbeats 4000000 in
theorem m_CS_isDay (l : Launch) (g : GG) (ad : Nat → Nat) (a1 : Int32) (h0 : HP) : CM l g ad y_CS_isDay b_CS_isDay 1 (some .boolean) rm_CS_isDay [.int a1] h0 enI (f_CS_isDay a1 h0) := by
  refine CM.of (by decide) (Nat.le_of_ble_eq_true rfl) (fun Q => ?_)
  show Jj _ _ (Vw (kx_CS_isDay l g Q) 0 0 0 _ _ _)
  refine J_sub [0] (lv' := [(0, .int a1)]) rfl ?_
  unfold f_CS_isDay
  refine J_iload_n 0 rfl d_CS_isDay_0 ?_
  refine J_if_lt 14 rfl d_CS_isDay_1 (fun c2 => ?_) (fun c2 => ?_)
  · refine J_iconst (v := 0) rfl d_CS_isDay_14 ?_
    exact J_zret (Nat.le_refl _) (Nat.le_refl _) d_CS_isDay_15 rfl (zfit (Or.inl rfl)).1 (fun hx => hx)
  · refine J_iload_n 0 rfl d_CS_isDay_4 ?_
    refine J_bipush (v := 24) rfl d_CS_isDay_5 ?_
    refine J_icmp_ge 14 rfl d_CS_isDay_7 (fun c3 => ?_) (fun c3 => ?_)
    · refine J_iconst (v := 0) rfl d_CS_isDay_14 ?_
      exact J_zret (Nat.le_refl _) (Nat.le_refl _) d_CS_isDay_15 rfl (zfit (Or.inl rfl)).1 (fun hx => hx)
    · refine J_iconst (v := 1) rfl d_CS_isDay_10 ?_
      refine J_goto 15 rfl d_CS_isDay_11 ?_
      exact J_zret (Nat.le_refl _) (Nat.le_refl _) d_CS_isDay_15 rfl (zfit (Or.inr rfl)).1 (fun hx => hx)
def f_CS_isPlaceOfCamel (a1 : Int32) (h0 : HP) : Option (Int32 × HP) :=
 (if a1 < 0 then
 some (0, h0)
 else
 (if 8 ≤ a1 then
 some (0, h0)
 else
 some (1, h0)))
set_option maxRecDepth 20000 in
set_option maxHeartbeats 4000000 in
theorem m_CS_isPlaceOfCamel (l : Launch) (g : GG) (ad : Nat → Nat) (a1 : Int32) (h0 : HP) : CM l g ad y_CS_isPlaceOfCamel b_CS_isPlaceOfCamel 1 (some .boolean) rm_CS_isPlaceOfCamel [.int a1] h0 enI (f_CS_isPlaceOfCamel a1 h0) := by
  refine CM.of (by decide) (Nat.le_of_ble_eq_true rfl) (fun Q => ?_)
  show Jj _ _ (Vw (kx_CS_isPlaceOfCamel l g Q) 0 0 0 _ _ _)
  refine J_sub [0] (lv' := [(0, .int a1)]) rfl ?_
  unfold f_CS_isPlaceOfCamel
  refine J_iload_n 0 rfl d_CS_isPlaceOfCamel_0 ?_
  refine J_if_lt 14 rfl d_CS_isPlaceOfCamel_1 (fun c2 => ?_) (fun c2 => ?_)
  · refine J_iconst (v := 0) rfl d_CS_isPlaceOfCamel_14 ?_
    exact J_zret (Nat.le_refl _) (Nat.le_refl _) d_CS_isPlaceOfCamel_15 rfl (zfit (Or.inl rfl)).1 (fun hx => hx)
  · refine J_iload_n 0 rfl d_CS_isPlaceOfCamel_4 ?_
    refine J_bipush (v := 8) rfl d_CS_isPlaceOfCamel_5 ?_
    refine J_icmp_ge 14 rfl d_CS_isPlaceOfCamel_7 (fun c3 => ?_) (fun c3 => ?_)
    · refine J_iconst (v := 0) rfl d_CS_isPlaceOfCamel_14 ?_
      exact J_zret (Nat.le_refl _) (Nat.le_refl _) d_CS_isPlaceOfCamel_15 rfl (zfit (Or.inl rfl)).1 (fun hx => hx)
    · refine J_iconst (v := 1) rfl d_CS_isPlaceOfCamel_10 ?_
      refine J_goto 15 rfl d_CS_isPlaceOfCamel_11 ?_
      exact J_zret (Nat.le_refl _) (Nat.le_refl _) d_CS_isPlaceOfCamel_15 rfl (zfit (Or.inr rfl)).1 (fun hx => hx)
def f_St_append (o1 : Nat) (a2 : Int32) (a3 : Int32) (h0 : HP) : Option (Int32 × HP) :=
 ltt (rI h0 o1 2) (fun (v4 : Int32) =>
 (if v4 < 8 then
 ltt (rf1 o1 0) (fun (o6 : Nat) =>
 ltt (rI h0 o1 2) (fun (v7 : Int32) =>
 ckk (inb v7 8) (ltt (wA h0 o6 v7 a2) (fun (h8 : HP) =>
 ltt (rf1 o1 1) (fun (o9 : Nat) =>
 ltt (rI h8 o1 2) (fun (v10 : Int32) =>
 ckk (inb v10 8) (ltt (wA h8 o9 v10 a3) (fun (h11 : HP) =>
 ltt (rI h11 o1 2) (fun (v12 : Int32) =>
 ltt (sI h11 o1 2 (v12 + 1)) (fun (h13 : HP) =>
 some (1, h13)))))))))))
 else
 some (0, h0)))
set_option maxRecDepth 20000 in
set_option maxHeartbeats 4000000 in
theorem m_St_append (l : Launch) (g : GG) (ad : Nat → Nat) (o1 : Nat) (ho1 : o1 ∈ [60, 57]) (a2 : Int32) (a3 : Int32) (h0 : HP) : CM l g ad y_St_append b_St_append 3 (some .boolean) rm_St_append [.ref (ad o1), .int a2, .int a3] h0 enI (f_St_append o1 a2 a3 h0) := by
  refine CM.of (by decide) (Nat.le_of_ble_eq_true rfl) (fun Q => ?_)
  show Jj _ _ (Vw (kx_St_append l g Q) 0 0 0 _ _ _)
  refine J_sub [0, 1, 2] (lv' := [(0, .ref (ad o1)), (1, .int a2), (2, .int a3)]) rfl ?_
  unfold f_St_append
  refine J_aload_n 0 rfl d_St_append_0 ?_
  refine P_gI (fo_St_18_s60_57 _ ho1) (fd_s60_57_2 _ ho1) d_St_append_1 (fun v4 => ?_)
  refine J_bipush (v := 8) rfl d_St_append_4 ?_
  refine J_icmp_lt 11 rfl d_St_append_6 (fun c5 => ?_) (fun c5 => ?_)
  · refine J_aload_n 0 rfl d_St_append_11 ?_
    refine P_gRv (rm_s60_57_0 _ ho1) (fo_St_9_s60_57 _ ho1) (fd_s60_57_0 _ ho1) d_St_append_12 (fun o6 ho6 => ?_)
    refine J_aload_n 0 rfl d_St_append_15 ?_
    refine P_gI (fo_St_18_s60_57 _ ho1) (fd_s60_57_2 _ ho1) d_St_append_16 (fun v7 => ?_)
    refine J_iload_n 1 rfl d_St_append_19 ?_
    refine P_wa (al_s59_56 _ ho6) (ak_s59_56 _ ho6) (an_s59_56 _ ho6) d_St_append_20 (fun h8 => ?_)
    refine J_aload_n 0 rfl d_St_append_21 ?_
    refine P_gRv (rm_s60_57_1 _ ho1) (fo_St_15_s60_57 _ ho1) (fd_s60_57_1 _ ho1) d_St_append_22 (fun o9 ho9 => ?_)
    refine J_aload_n 0 rfl d_St_append_25 ?_
    refine P_gI (fo_St_18_s60_57 _ ho1) (fd_s60_57_2 _ ho1) d_St_append_26 (fun v10 => ?_)
    refine J_iload_n 2 rfl d_St_append_29 ?_
    refine P_wa (al_s58_55 _ ho9) (ak_s58_55 _ ho9) (an_s58_55 _ ho9) d_St_append_30 (fun h11 => ?_)
    refine J_aload_n 0 rfl d_St_append_31 ?_
    refine J_dup rfl d_St_append_32 ?_
    refine P_gI (fo_St_18_s60_57 _ ho1) (fd_s60_57_2 _ ho1) d_St_append_33 (fun v12 => ?_)
    refine J_iconst (v := 1) rfl d_St_append_36 ?_
    refine J_iadd d_St_append_37 ?_
    refine P_wI (fo_St_18_s60_57 _ ho1) (fd_s60_57_2 _ ho1) d_St_append_38 (fun h13 => ?_)
    refine J_iconst (v := 1) rfl d_St_append_41 ?_
    exact J_zret (Nat.le_refl _) (Nat.le_refl _) d_St_append_42 rfl (zfit (Or.inr rfl)).1 (fun hx => hx)
  · refine J_iconst (v := 0) rfl d_St_append_9 ?_
    exact J_zret (Nat.le_refl _) (Nat.le_refl _) d_St_append_10 rfl (zfit (Or.inl rfl)).1 (fun hx => hx)
def f_CS_straw (a1 : Int32) (a2 : Int32) (h0 : HP) : Option (Int32 × HP) :=
 bd2 (f_CS_isDay a1 h0) (fun (v3 : Int32) (h4 : HP) =>
 (if v3 = 0 then
 some ((-2), h4)
 else
 bd2 (f_CS_isPlaceOfCamel a2 h4) (fun (v6 : Int32) (h7 : HP) =>
 (if v6 = 0 then
 some ((-2), h7)
 else
 bd2 (f_St_append 60 a1 a2 h7) (fun (v9 : Int32) (h10 : HP) =>
 (if v9 = 0 then
 some ((-4), h10)
 else
 ltt (rI h10 60 2) (fun (v12 : Int32) =>
 some (v12, h10))))))))
set_option maxRecDepth 20000 in
set_option maxHeartbeats 4000000 in
theorem m_CS_straw (l : Launch) (g : GG) (ad : Nat → Nat) (a1 : Int32) (a2 : Int32) (h0 : HP) : CM l g ad y_CS_straw b_CS_straw 3 (some .int) rm_CS_straw [.ref (ad 71), .int a1, .int a2] h0 enI (f_CS_straw a1 a2 h0) := by
  refine CM.of (by decide) (Nat.le_of_ble_eq_true rfl) (fun Q => ?_)
  show Jj _ _ (Vw (kx_CS_straw l g Q) 0 0 0 _ _ _)
  refine J_sub [0, 1, 2] (lv' := [(0, .ref (ad 71)), (1, .int a1), (2, .int a2)]) rfl ?_
  unfold f_CS_straw
  refine J_iload_n 1 rfl d_CS_straw_0 ?_
  refine J_callSi (m_CS_isDay l g ad _ _) ok_CS_isDay ws_CS_isDay wk_CS_121 ⟨rfl, rfl, Nat.le_of_ble_eq_true rfl, Nat.le_of_ble_eq_true rfl⟩ ⟨Nat.zero_le _, Nat.zero_le _⟩ (rest := []) rfl rfl (Nat.le_of_ble_eq_true rfl) d_CS_straw_1 (fun v3 h4 => ?_)
  refine J_if_eq 14 rfl d_CS_straw_4 (fun c5 => ?_) (fun c5 => ?_)
  · refine J_bipush (v := (-2)) rfl d_CS_straw_14 ?_
    exact J_iret (Nat.le_refl _) (Nat.le_refl _) d_CS_straw_16 rfl (fun hx => hx)
  · refine J_iload_n 2 rfl d_CS_straw_7 ?_
    refine J_callSi (m_CS_isPlaceOfCamel l g ad _ _) ok_CS_isPlaceOfCamel ws_CS_isPlaceOfCamel wk_CS_124 ⟨rfl, rfl, Nat.le_of_ble_eq_true rfl, Nat.le_of_ble_eq_true rfl⟩ ⟨Nat.zero_le _, Nat.zero_le _⟩ (rest := []) rfl rfl (Nat.le_of_ble_eq_true rfl) d_CS_straw_8 (fun v6 h7 => ?_)
    refine J_if_ne 17 rfl d_CS_straw_11 (fun c8 => ?_) (fun c8 => ?_)
    · refine J_aload_n 0 rfl d_CS_straw_17 ?_
      refine J_getR fo_CS_32_71 rfl d_CS_straw_18 ?_
      refine J_iload_n 1 rfl d_CS_straw_21 ?_
      refine J_iload_n 2 rfl d_CS_straw_22 ?_
      refine J_callVi (m_St_append l g ad 60 (by decide) _ _ _) ok_St_append rc_60 wi_St_append wl_St_St_append wk_CS_127 ⟨rfl, rfl, Nat.le_of_ble_eq_true rfl, Nat.le_of_ble_eq_true rfl⟩ ⟨Nat.zero_le _, Nat.zero_le _⟩ (rest := []) rfl rfl (Nat.le_of_ble_eq_true rfl) d_CS_straw_23 (fun v9 h10 => ?_)
      refine J_if_eq 39 rfl d_CS_straw_26 (fun c11 => ?_) (fun c11 => ?_)
      · refine J_bipush (v := (-4)) rfl d_CS_straw_39 ?_
        exact J_iret (Nat.le_refl _) (Nat.le_refl _) d_CS_straw_41 rfl (fun hx => hx)
      · refine J_aload_n 0 rfl d_CS_straw_29 ?_
        refine J_getR fo_CS_32_71 rfl d_CS_straw_30 ?_
        refine P_gI fo_CS_130_60 rfl d_CS_straw_33 (fun v12 => ?_)
        refine J_goto 41 rfl d_CS_straw_36 ?_
        exact J_iret (Nat.le_refl _) (Nat.le_refl _) d_CS_straw_41 rfl (fun hx => hx)
    · refine J_bipush (v := (-2)) rfl d_CS_straw_14 ?_
      exact J_iret (Nat.le_refl _) (Nat.le_refl _) d_CS_straw_16 rfl (fun hx => hx)
def f_CS_back (h0 : HP) : Option (Int32 × HP) :=
 ltt (rI h0 60 2) (fun (v1 : Int32) =>
 (if v1 = 0 then
 some ((-3), h0)
 else
 ltt (rI h0 60 2) (fun (v3 : Int32) =>
 ltt (sI h0 60 2 (v3 - 1)) (fun (h4 : HP) =>
 ltt (rI h4 60 2) (fun (v5 : Int32) =>
 some (v5, h4))))))
set_option maxRecDepth 20000 in
set_option maxHeartbeats 4000000 in
theorem m_CS_back (l : Launch) (g : GG) (ad : Nat → Nat) (h0 : HP) : CM l g ad y_CS_back b_CS_back 1 (some .int) rm_CS_back [.ref (ad 71)] h0 enI (f_CS_back h0) := by
  refine CM.of (by decide) (Nat.le_of_ble_eq_true rfl) (fun Q => ?_)
  show Jj _ _ (Vw (kx_CS_back l g Q) 0 0 0 _ _ _)
  refine J_sub [0] (lv' := [(0, .ref (ad 71))]) rfl ?_
  unfold f_CS_back
  refine J_aload_n 0 rfl d_CS_back_0 ?_
  refine J_getR fo_CS_32_71 rfl d_CS_back_1 ?_
  refine P_gI fo_CS_130_60 rfl d_CS_back_4 (fun v1 => ?_)
  refine J_if_ne 13 rfl d_CS_back_7 (fun c2 => ?_) (fun c2 => ?_)
  · refine J_aload_n 0 rfl d_CS_back_13 ?_
    refine J_getR fo_CS_32_71 rfl d_CS_back_14 ?_
    refine J_dup rfl d_CS_back_17 ?_
    refine P_gI fo_CS_130_60 rfl d_CS_back_18 (fun v3 => ?_)
    refine J_iconst (v := 1) rfl d_CS_back_21 ?_
    refine J_isub d_CS_back_22 ?_
    refine P_wI fo_CS_130_60 rfl d_CS_back_23 (fun h4 => ?_)
    refine J_aload_n 0 rfl d_CS_back_26 ?_
    refine J_getR fo_CS_32_71 rfl d_CS_back_27 ?_
    refine P_gI fo_CS_130_60 rfl d_CS_back_30 (fun v5 => ?_)
    exact J_iret (Nat.le_refl _) (Nat.le_refl _) d_CS_back_33 rfl (fun hx => hx)
  · refine J_bipush (v := (-3)) rfl d_CS_back_10 ?_
    exact J_iret (Nat.le_refl _) (Nat.le_refl _) d_CS_back_12 rfl (fun hx => hx)
def f_CS_isSheet (a1 : Int32) (h0 : HP) : Option (Int32 × HP) :=
 (if a1 < 0 then
 some (0, h0)
 else
 (if 4 ≤ a1 then
 some (0, h0)
 else
 some (1, h0)))
set_option maxRecDepth 20000 in
set_option maxHeartbeats 4000000 in
theorem m_CS_isSheet (l : Launch) (g : GG) (ad : Nat → Nat) (a1 : Int32) (h0 : HP) : CM l g ad y_CS_isSheet b_CS_isSheet 1 (some .boolean) rm_CS_isSheet [.int a1] h0 enI (f_CS_isSheet a1 h0) := by
  refine CM.of (by decide) (Nat.le_of_ble_eq_true rfl) (fun Q => ?_)
  show Jj _ _ (Vw (kx_CS_isSheet l g Q) 0 0 0 _ _ _)
  refine J_sub [0] (lv' := [(0, .int a1)]) rfl ?_
  unfold f_CS_isSheet
  refine J_iload_n 0 rfl d_CS_isSheet_0 ?_
  refine J_if_lt 13 rfl d_CS_isSheet_1 (fun c2 => ?_) (fun c2 => ?_)
  · refine J_iconst (v := 0) rfl d_CS_isSheet_13 ?_
    exact J_zret (Nat.le_refl _) (Nat.le_refl _) d_CS_isSheet_14 rfl (zfit (Or.inl rfl)).1 (fun hx => hx)
  · refine J_iload_n 0 rfl d_CS_isSheet_4 ?_
    refine J_iconst (v := 4) rfl d_CS_isSheet_5 ?_
    refine J_icmp_ge 13 rfl d_CS_isSheet_6 (fun c3 => ?_) (fun c3 => ?_)
    · refine J_iconst (v := 0) rfl d_CS_isSheet_13 ?_
      exact J_zret (Nat.le_refl _) (Nat.le_refl _) d_CS_isSheet_14 rfl (zfit (Or.inl rfl)).1 (fun hx => hx)
    · refine J_iconst (v := 1) rfl d_CS_isSheet_9 ?_
      refine J_goto 14 rfl d_CS_isSheet_10 ?_
      exact J_zret (Nat.le_refl _) (Nat.le_refl _) d_CS_isSheet_14 rfl (zfit (Or.inr rfl)).1 (fun hx => hx)
def f_Sh_isLost (o1 : Nat) (h0 : HP) : Option (Int32 × HP) :=
 ltt (rI h0 o1 1) (fun (v2 : Int32) =>
 (if v2 = (-1) then
 some (1, h0)
 else
 some (0, h0)))
set_option maxRecDepth 20000 in
set_option maxHeartbeats 4000000 in
theorem m_Sh_isLost (l : Launch) (g : GG) (ad : Nat → Nat) (o1 : Nat) (ho1 : o1 ∈ [42, 40, 38, 36]) (h0 : HP) : CM l g ad y_Sh_isLost b_Sh_isLost 1 (some .boolean) rm_Sh_isLost [.ref (ad o1)] h0 enI (f_Sh_isLost o1 h0) := by
  refine CM.of (by decide) (Nat.le_of_ble_eq_true rfl) (fun Q => ?_)
  show Jj _ _ (Vw (kx_Sh_isLost l g Q) 0 0 0 _ _ _)
  refine J_sub [0] (lv' := [(0, .ref (ad o1))]) rfl ?_
  unfold f_Sh_isLost
  refine J_aload_n 0 rfl d_Sh_isLost_0 ?_
  refine P_gI (fo_Sh_15_s42_40_38_36 _ ho1) (fd_s42_40_38_36_1 _ ho1) d_Sh_isLost_1 (fun v2 => ?_)
  refine J_iconst (v := (-1)) rfl d_Sh_isLost_4 ?_
  refine J_icmp_ne 12 rfl d_Sh_isLost_5 (fun c3 => ?_) (fun c3 => ?_)
  · refine J_iconst (v := 0) rfl d_Sh_isLost_12 ?_
    exact J_zret (Nat.le_refl _) (Nat.le_refl _) d_Sh_isLost_13 rfl (zfit (Or.inl rfl)).1 (fun hx => hx)
  · refine J_iconst (v := 1) rfl d_Sh_isLost_8 ?_
    refine J_goto 13 rfl d_Sh_isLost_9 ?_
    exact J_zret (Nat.le_refl _) (Nat.le_refl _) d_Sh_isLost_13 rfl (zfit (Or.inr rfl)).1 (fun hx => hx)
def f_CS_finding (a1 : Int32) (h0 : HP) : Option (Int32 × HP) :=
 ltt (sI h0 71 10 a1) (fun (h2 : HP) =>
 some ((-10) - a1, h2))
set_option maxRecDepth 20000 in
set_option maxHeartbeats 4000000 in
theorem m_CS_finding (l : Launch) (g : GG) (ad : Nat → Nat) (a1 : Int32) (h0 : HP) : CM l g ad y_CS_finding b_CS_finding 2 (some .int) rm_CS_finding [.ref (ad 71), .int a1] h0 enI (f_CS_finding a1 h0) := by
  refine CM.of (by decide) (Nat.le_of_ble_eq_true rfl) (fun Q => ?_)
  show Jj _ _ (Vw (kx_CS_finding l g Q) 0 0 0 _ _ _)
  refine J_sub [0, 1] (lv' := [(0, .ref (ad 71)), (1, .int a1)]) rfl ?_
  unfold f_CS_finding
  refine J_aload_n 0 rfl d_CS_finding_0 ?_
  refine J_iload_n 1 rfl d_CS_finding_1 ?_
  refine P_wI fo_CS_249_71 rfl d_CS_finding_2 (fun h2 => ?_)
  refine J_bipush (v := (-10)) rfl d_CS_finding_5 ?_
  refine J_iload_n 1 rfl d_CS_finding_7 ?_
  refine J_isub d_CS_finding_8 ?_
  exact J_iret (Nat.le_refl _) (Nat.le_refl _) d_CS_finding_9 rfl (fun hx => hx)
def lp_CS_read_35 (o5 : Nat) (a1 : Int32) : Nat → Int32 → Int32 → HP → Option (Int32 × HP)
 | 0, _, _, _ => none
 | fu + 1, v9, v10, h11 =>
 ltt (rI h11 o5 2) (fun (v12 : Int32) =>
 (if v12 ≤ v9 + 1 then
 some (v10, h11)
 else
 ltt (rf1 o5 0) (fun (o14 : Nat) =>
 ckk (inb v9 60) (ltt (rA h11 o14 v9) (fun (v15 : Int32) =>
 ltt (rf1 o5 0) (fun (o16 : Nat) =>
 ckk (inb (v9 + 1) 60) (ltt (rA h11 o16 (v9 + 1)) (fun (v17 : Int32) =>
 bd2 (f_CS_straw v15 v17 h11) (fun (v18 : Int32) (h19 : HP) =>
 (if 0 ≤ v18 then
 ltt (v10 + 1) (fun (v21 : Int32) =>
 ltt (v9 + 2) (fun (v22 : Int32) =>
 lp_CS_read_35 o5 a1 fu v22 v21 h19))
 else
 some (v10, h19)))))))))))
def f_CS_read (a1 : Int32) (h0 : HP) : Option (Int32 × HP) :=
 bd2 (f_CS_isSheet a1 h0) (fun (v2 : Int32) (h3 : HP) =>
 (if v2 = 0 then
 some ((-2), h3)
 else
 ckk (inb a1 4) (ltt (rfx 43 (Int32.toNatClampNeg a1)) (fun (o5 : Nat) =>
 bd2 (f_Sh_isLost o5 h3) (fun (v6 : Int32) (h7 : HP) =>
 (if v6 = 0 then
 lp_CS_read_35 o5 a1 400 0 0 h7
 else
 bd2 (f_CS_finding 1 h7) (fun (v23 : Int32) (h24 : HP) =>
 some (v23, h24))))))))
set_option maxRecDepth 20000 in
set_option maxHeartbeats 4000000 in
theorem mlp_CS_read_35 (l : Launch) (g : GG) (ad : Nat → Nat) (Q : Option Value → va_W → Prop) (o5 : Nat) (a1 : Int32) (ho5 : o5 ∈ [42, 40, 38, 36]) : ∀ (fu : Nat) (v9 : Int32) (v10 : Int32) (h11 : HP), Jj (fun a : Int32 × HP => Q (enI a).1 (pic g ad (enI a).2)) (lp_CS_read_35 o5 a1 fu v9 v10 h11) (Vw (kx_CS_read l g Q) 0 0 35 [(4, .int v9), (3, .int v10), (2, .ref (ad o5)), (0, .ref (ad 71)), (1, .int a1)] [] (pic g ad h11)) := by
  intro fu
  induction fu with
  | zero =>
    intro v9 v10 h11
    exact J_none
  | succ fu ih =>
    intro v9 v10 h11
    rw [lp_CS_read_35]
    refine J_iload 0 rfl d_CS_read_35 ?_
    refine J_iconst (v := 1) rfl d_CS_read_37 ?_
    refine J_iadd d_CS_read_38 ?_
    refine J_aload_n 2 rfl d_CS_read_39 ?_
    refine P_gI (fo_CS_143_s42_40_38_36 _ ho5) (fd_s42_40_38_36_2 _ ho5) d_CS_read_40 (fun v12 => ?_)
    refine J_icmp_ge 81 rfl d_CS_read_43 (fun c13 => ?_) (fun c13 => ?_)
    · refine J_iload_n 1 rfl d_CS_read_81 ?_
      exact J_iret (Nat.le_refl _) (Nat.le_refl _) d_CS_read_82 rfl (fun hx => hx)
    · refine J_aload_n 3 rfl d_CS_read_46 ?_
      refine J_aload_n 2 rfl d_CS_read_47 ?_
      refine P_gRv (rm_s42_40_38_36_0 _ ho5) (fo_CS_144_s42_40_38_36 _ ho5) (fd_s42_40_38_36_0 _ ho5) d_CS_read_48 (fun o14 ho14 => ?_)
      refine J_iload 0 rfl d_CS_read_51 ?_
      refine P_ia (al_s41_39_37_35 _ ho14) (ak_s41_39_37_35 _ ho14) (an_s41_39_37_35 _ ho14) d_CS_read_53 (fun v15 => ?_)
      refine J_aload_n 2 rfl d_CS_read_54 ?_
      refine P_gRv (rm_s42_40_38_36_0 _ ho5) (fo_CS_144_s42_40_38_36 _ ho5) (fd_s42_40_38_36_0 _ ho5) d_CS_read_55 (fun o16 ho16 => ?_)
      refine J_iload 0 rfl d_CS_read_58 ?_
      refine J_iconst (v := 1) rfl d_CS_read_60 ?_
      refine J_iadd d_CS_read_61 ?_
      refine P_ia (al_s41_39_37_35 _ ho16) (ak_s41_39_37_35 _ ho16) (an_s41_39_37_35 _ ho16) d_CS_read_62 (fun v17 => ?_)
      refine J_callVi (m_CS_straw l g ad _ _ _) ok_CS_straw rc_71 wi_CS_straw wl_CS_CS_straw wk_CS_147 ⟨rfl, rfl, Nat.le_of_ble_eq_true rfl, Nat.le_of_ble_eq_true rfl⟩ ⟨Nat.zero_le _, Nat.zero_le _⟩ (rest := []) rfl rfl (Nat.le_of_ble_eq_true rfl) d_CS_read_63 (fun v18 h19 => ?_)
      refine J_if_ge 72 rfl d_CS_read_66 (fun c20 => ?_) (fun c20 => ?_)
      · refine P_inc (w := 1) (lv' := fun v21 => [(3, .int v21), (4, .int v9), (2, .ref (ad o5)), (0, .ref (ad 71)), (1, .int a1)]) 1 rfl rfl (Nat.le_of_ble_eq_true rfl) (fun _ => rfl) d_CS_read_72 (fun v21 => ?_)
        refine P_inc (w := 2) (lv' := fun v22 => [(4, .int v22), (3, .int v21), (2, .ref (ad o5)), (0, .ref (ad 71)), (1, .int a1)]) 1 rfl rfl (Nat.le_of_ble_eq_true rfl) (fun _ => rfl) d_CS_read_75 (fun v22 => ?_)
        refine J_goto 35 rfl d_CS_read_78 ?_
        exact J_sub [0, 1, 2, 3, 4] rfl (ih _ _ _)
      · refine J_goto 81 rfl d_CS_read_69 ?_
        refine J_iload_n 1 rfl d_CS_read_81 ?_
        exact J_iret (Nat.le_refl _) (Nat.le_refl _) d_CS_read_82 rfl (fun hx => hx)
set_option maxRecDepth 20000 in
set_option maxHeartbeats 4000000 in
theorem m_CS_read (l : Launch) (g : GG) (ad : Nat → Nat) (a1 : Int32) (h0 : HP) : CM l g ad y_CS_read b_CS_read 5 (some .int) rm_CS_read [.ref (ad 71), .int a1] h0 enI (f_CS_read a1 h0) := by
  refine CM.of (by decide) (Nat.le_of_ble_eq_true rfl) (fun Q => ?_)
  show Jj _ _ (Vw (kx_CS_read l g Q) 0 0 0 _ _ _)
  refine J_sub [0, 1] (lv' := [(0, .ref (ad 71)), (1, .int a1)]) rfl ?_
  unfold f_CS_read
  refine J_iload_n 1 rfl d_CS_read_0 ?_
  refine J_callSi (m_CS_isSheet l g ad _ _) ok_CS_isSheet ws_CS_isSheet wk_CS_133 ⟨rfl, rfl, Nat.le_of_ble_eq_true rfl, Nat.le_of_ble_eq_true rfl⟩ ⟨Nat.zero_le _, Nat.zero_le _⟩ (rest := []) rfl rfl (Nat.le_of_ble_eq_true rfl) d_CS_read_1 (fun v2 h3 => ?_)
  refine J_if_ne 10 rfl d_CS_read_4 (fun c4 => ?_) (fun c4 => ?_)
  · refine J_aload_n 0 rfl d_CS_read_10 ?_
    refine J_getR fo_CS_74_71 rfl d_CS_read_11 ?_
    refine J_iload_n 1 rfl d_CS_read_14 ?_
    refine P_aaS rx_43 (by decide) rfl rfl d_CS_read_15 (fun o5 ho5 => ?_)
    refine J_astore_n (lv' := [(2, .ref (ad o5)), (0, .ref (ad 71)), (1, .int a1)]) 2 rfl (Nat.le_of_ble_eq_true rfl) rfl d_CS_read_16 ?_
    refine J_aload_n 0 rfl d_CS_read_17 ?_
    refine J_callVi (m_Sh_isLost l g ad o5 ho5 _) ok_Sh_isLost (rc_s42_40_38_36 _ ho5) wi_Sh_isLost wl_Sh_Sh_isLost wk_CS_136 ⟨rfl, rfl, Nat.le_of_ble_eq_true rfl, Nat.le_of_ble_eq_true rfl⟩ ⟨Nat.zero_le _, Nat.zero_le _⟩ (rest := []) rfl rfl (Nat.le_of_ble_eq_true rfl) d_CS_read_18 (fun v6 h7 => ?_)
    refine J_if_eq 30 rfl d_CS_read_21 (fun c8 => ?_) (fun c8 => ?_)
    · refine J_iconst (v := 0) rfl d_CS_read_30 ?_
      refine J_istore_n (lv' := [(3, .int 0), (2, .ref (ad o5)), (0, .ref (ad 71)), (1, .int a1)]) 3 rfl (Nat.le_of_ble_eq_true rfl) rfl d_CS_read_31 ?_
      refine J_iconst (v := 0) rfl d_CS_read_32 ?_
      refine J_istore (lv' := [(4, .int 0), (3, .int 0), (2, .ref (ad o5)), (0, .ref (ad 71)), (1, .int a1)]) (Nat.le_of_ble_eq_true rfl) rfl d_CS_read_33 ?_
      exact J_sub [0, 1, 2, 3, 4] rfl (mlp_CS_read_35 l g ad Q o5 a1 ho5 400 _ _ _)
    · refine J_aload_n 1 rfl d_CS_read_24 ?_
      refine J_iconst (v := 1) rfl d_CS_read_25 ?_
      refine J_callVi (m_CS_finding l g ad _ _) ok_CS_finding rc_71 wi_CS_finding wl_CS_CS_finding wk_CS_140 ⟨rfl, rfl, Nat.le_of_ble_eq_true rfl, Nat.le_of_ble_eq_true rfl⟩ ⟨Nat.zero_le _, Nat.zero_le _⟩ (rest := []) rfl rfl (Nat.le_of_ble_eq_true rfl) d_CS_read_26 (fun v23 h24 => ?_)
      exact J_iret (Nat.le_refl _) (Nat.le_refl _) d_CS_read_29 rfl (fun hx => hx)
  · refine J_bipush (v := (-2)) rfl d_CS_read_7 ?_
    exact J_iret (Nat.le_refl _) (Nat.le_refl _) d_CS_read_9 rfl (fun hx => hx)
