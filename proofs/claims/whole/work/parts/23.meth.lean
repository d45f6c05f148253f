def f_CS_first (a1 : Int32) (h0 : HP) : Option (Int32 × HP) :=
 (if a1 < 0 then
 some ((-2), h0)
 else
 (if a1 ≤ 1 then
 bd2 (f_Cv_firstToBreak h0) (fun (v4 : Int32) (h5 : HP) =>
 (if a1 = 1 then
 some (v4, h5)
 else
 (if v4 = (-1) then
 some (v4, h5)
 else
 bd1 (f_Cv_march v4 h5) (fun (h8 : HP) =>
 ltt (rI h8 53 12) (fun (v9 : Int32) =>
 some (v9, h8))))))
 else
 some ((-2), h0)))
set_option maxRecDepth 20000 in
set_option maxHeartbeats 4000000 in
theorem m_CS_first (l : Launch) (g : GG) (ad : Nat → Nat) (a1 : Int32) (h0 : HP) : CM l g ad y_CS_first b_CS_first 3 (some .int) rm_CS_first [.ref (ad 71), .int a1] h0 enI (f_CS_first a1 h0) := by
  refine CM.of (by decide) (Nat.le_of_ble_eq_true rfl) (fun Q => ?_)
  show Jj _ _ (Vw (kx_CS_first l g Q) 0 0 0 _ _ _)
  refine J_sub [0, 1] (lv' := [(0, .ref (ad 71)), (1, .int a1)]) rfl ?_
  unfold f_CS_first
  refine J_iload_n 1 rfl d_CS_first_0 ?_
  refine J_if_lt 9 rfl d_CS_first_1 (fun c2 => ?_) (fun c2 => ?_)
  · refine J_bipush (v := (-2)) rfl d_CS_first_9 ?_
    exact J_iret (Nat.le_refl _) (Nat.le_refl _) d_CS_first_11 rfl (fun hx => hx)
  · refine J_iload_n 1 rfl d_CS_first_4 ?_
    refine J_iconst (v := 1) rfl d_CS_first_5 ?_
    refine J_icmp_le 12 rfl d_CS_first_6 (fun c3 => ?_) (fun c3 => ?_)
    · refine J_aload_n 0 rfl d_CS_first_12 ?_
      refine J_getR fo_CS_44_71 rfl d_CS_first_13 ?_
      refine J_callVi (m_Cv_firstToBreak l g ad _) ok_Cv_firstToBreak rc_54 wi_Cv_firstToBreak wl_Cv_Cv_firstToBreak wk_CS_163 ⟨rfl, rfl, Nat.le_of_ble_eq_true rfl, Nat.le_of_ble_eq_true rfl⟩ ⟨Nat.zero_le _, Nat.zero_le _⟩ (rest := []) rfl rfl (Nat.le_of_ble_eq_true rfl) d_CS_first_16 (fun v4 h5 => ?_)
      refine J_istore_n (lv' := [(2, .int v4), (0, .ref (ad 71)), (1, .int a1)]) 2 rfl (Nat.le_of_ble_eq_true rfl) rfl d_CS_first_19 ?_
      refine J_iload_n 2 rfl d_CS_first_20 ?_
      refine J_iconst (v := 1) rfl d_CS_first_21 ?_
      refine J_icmp_eq 30 rfl d_CS_first_22 (fun c6 => ?_) (fun c6 => ?_)
      · refine J_iload_n 0 rfl d_CS_first_30 ?_
        refine J_goto 45 rfl d_CS_first_31 ?_
        exact J_iret (Nat.le_refl _) (Nat.le_refl _) d_CS_first_45 rfl (fun hx => hx)
      · refine J_iload_n 0 rfl d_CS_first_25 ?_
        refine J_iconst (v := (-1)) rfl d_CS_first_26 ?_
        refine J_icmp_ne 34 rfl d_CS_first_27 (fun c7 => ?_) (fun c7 => ?_)
        · refine J_aload_n 1 rfl d_CS_first_34 ?_
          refine J_getR fo_CS_44_71 rfl d_CS_first_35 ?_
          refine J_iload_n 0 rfl d_CS_first_38 ?_
          refine J_callVa (m_Cv_march l g ad _ _) ok_Cv_march rc_54 wi_Cv_march wl_Cv_Cv_march wk_CS_151 ⟨rfl, rfl, Nat.le_of_ble_eq_true rfl, Nat.le_of_ble_eq_true rfl⟩ ⟨Nat.zero_le _, Nat.zero_le _⟩ (rest := []) rfl rfl (Nat.le_of_ble_eq_true rfl) d_CS_first_39 (fun h8 => ?_)
          refine P_gI fo_CS_167_53 rfl d_CS_first_42 (fun v9 => ?_)
          exact J_iret (Nat.le_refl _) (Nat.le_refl _) d_CS_first_45 rfl (fun hx => hx)
        · refine J_iload_n 0 rfl d_CS_first_30 ?_
          refine J_goto 45 rfl d_CS_first_31 ?_
          exact J_iret (Nat.le_refl _) (Nat.le_refl _) d_CS_first_45 rfl (fun hx => hx)
    · refine J_bipush (v := (-2)) rfl d_CS_first_9 ?_
      exact J_iret (Nat.le_refl _) (Nat.le_refl _) d_CS_first_11 rfl (fun hx => hx)
def f_Cv_broughtBy (a1 : Int32) (h0 : HP) : Option (Int32 × HP) :=
 (if a1 < 0 then
 some (0, h0)
 else
 ltt (rI h0 70 4) (fun (v3 : Int32) =>
 (if v3 ≤ a1 then
 some (0, h0)
 else
 bd1 (f_Cv_march a1 h0) (fun (h5 : HP) =>
 bd2 (f_Wa_behind 23 4 h5) (fun (v6 : Int32) (h7 : HP) =>
 some (v6, h7))))))
set_option maxRecDepth 20000 in
set_option maxHeartbeats 4000000 in
theorem m_Cv_broughtBy (l : Launch) (g : GG) (ad : Nat → Nat) (a1 : Int32) (h0 : HP) : CM l g ad y_Cv_broughtBy b_Cv_broughtBy 2 (some .int) rm_Cv_broughtBy [.ref (ad 54), .int a1] h0 enI (f_Cv_broughtBy a1 h0) := by
  refine CM.of (by decide) (Nat.le_of_ble_eq_true rfl) (fun Q => ?_)
  show Jj _ _ (Vw (kx_Cv_broughtBy l g Q) 0 0 0 _ _ _)
  refine J_sub [0, 1] (lv' := [(0, .ref (ad 54)), (1, .int a1)]) rfl ?_
  unfold f_Cv_broughtBy
  refine J_iload_n 1 rfl d_Cv_broughtBy_0 ?_
  refine J_if_lt 29 rfl d_Cv_broughtBy_1 (fun c2 => ?_) (fun c2 => ?_)
  · refine J_iconst (v := 0) rfl d_Cv_broughtBy_29 ?_
    exact J_iret (Nat.le_refl _) (Nat.le_refl _) d_Cv_broughtBy_30 rfl (fun hx => hx)
  · refine J_iload_n 1 rfl d_Cv_broughtBy_4 ?_
    refine J_aload_n 0 rfl d_Cv_broughtBy_5 ?_
    refine J_getR fo_Cv_22_54 rfl d_Cv_broughtBy_6 ?_
    refine P_gI fo_Cv_102_70 rfl d_Cv_broughtBy_9 (fun v3 => ?_)
    refine J_icmp_ge 29 rfl d_Cv_broughtBy_12 (fun c4 => ?_) (fun c4 => ?_)
    · refine J_iconst (v := 0) rfl d_Cv_broughtBy_29 ?_
      exact J_iret (Nat.le_refl _) (Nat.le_refl _) d_Cv_broughtBy_30 rfl (fun hx => hx)
    · refine J_aload_n 0 rfl d_Cv_broughtBy_15 ?_
      refine J_iload_n 1 rfl d_Cv_broughtBy_16 ?_
      refine J_callVa (m_Cv_march l g ad _ _) ok_Cv_march rc_54 wi_Cv_march wl_Cv_Cv_march wk_Cv_103 ⟨rfl, rfl, Nat.le_of_ble_eq_true rfl, Nat.le_of_ble_eq_true rfl⟩ ⟨Nat.zero_le _, Nat.zero_le _⟩ (rest := []) rfl rfl (Nat.le_of_ble_eq_true rfl) d_Cv_broughtBy_17 (fun h5 => ?_)
      refine J_bipush (v := 23) rfl d_Cv_broughtBy_20 ?_
      refine J_iconst (v := 4) rfl d_Cv_broughtBy_22 ?_
      refine J_callVi (m_Wa_behind l g ad _ _ _) ok_Wa_behind rc_53 wi_Wa_behind wl_Wa_Wa_behind wk_Cv_107 ⟨rfl, rfl, Nat.le_of_ble_eq_true rfl, Nat.le_of_ble_eq_true rfl⟩ ⟨Nat.zero_le _, Nat.zero_le _⟩ (rest := []) rfl rfl (Nat.le_of_ble_eq_true rfl) d_Cv_broughtBy_23 (fun v6 h7 => ?_)
      refine J_goto 30 rfl d_Cv_broughtBy_26 ?_
      exact J_iret (Nat.le_refl _) (Nat.le_refl _) d_Cv_broughtBy_30 rfl (fun hx => hx)
def lp_Cv_bestCamel_6 : Nat → Int32 → Int32 → Int32 → HP → Option (Int32 × Int32 × Int32 × HP)
 | 0, _, _, _, _ => none
 | fu + 1, v1, v2, v3, h4 =>
 ltt (rI h4 70 4) (fun (v5 : Int32) =>
 (if v5 ≤ v1 then
 some (v1, v2, v3, h4)
 else
 bd2 (f_Cv_broughtBy v1 h4) (fun (v7 : Int32) (h8 : HP) =>
 bd2 ((if v7 ≤ v2 then
 some (v2, v3)
 else
 some (v7, v1)) : Option (Int32 × Int32)) (fun (v9 : Int32) (v10 : Int32) =>
 ltt (v1 + 1) (fun (v12 : Int32) =>
 lp_Cv_bestCamel_6 fu v12 v9 v10 h8)))))
def f_Cv_bestCamel (h0 : HP) : Option (Int32 × HP) :=
 bd4 (lp_Cv_bestCamel_6 400 0 (-1) (-1) h0) (fun (v13 : Int32) (v14 : Int32) (v15 : Int32) (h16 : HP) =>
 some (v15, h16))
set_option maxRecDepth 20000 in
set_option maxHeartbeats 4000000 in
theorem mlp_Cv_bestCamel_6 (l : Launch) (g : GG) (ad : Nat → Nat) (Q : Option Value → va_W → Prop) : ∀ (fu : Nat) (v1 : Int32) (v2 : Int32) (v3 : Int32) (h4 : HP), Jj (fun q : Int32 × Int32 × Int32 × HP => Vw (kx_Cv_bestCamel l g Q) 0 0 41 [(3, .int (q.1)), (2, .int (q.2.1)), (1, .int (q.2.2.1)), (0, .ref (ad 54))] [] (pic g ad q.2.2.2)) (lp_Cv_bestCamel_6 fu v1 v2 v3 h4) (Vw (kx_Cv_bestCamel l g Q) 0 0 6 [(3, .int v1), (2, .int v2), (1, .int v3), (0, .ref (ad 54))] [] (pic g ad h4)) := by
  intro fu
  induction fu with
  | zero =>
    intro v1 v2 v3 h4
    exact J_none
  | succ fu ih =>
    intro v1 v2 v3 h4
    rw [lp_Cv_bestCamel_6]
    refine J_iload_n 0 rfl d_Cv_bestCamel_6 ?_
    refine J_aload_n 3 rfl d_Cv_bestCamel_7 ?_
    refine J_getR fo_Cv_22_54 rfl d_Cv_bestCamel_8 ?_
    refine P_gI fo_Cv_102_70 rfl d_Cv_bestCamel_11 (fun v5 => ?_)
    refine J_icmp_ge 41 rfl d_Cv_bestCamel_14 (fun c6 => ?_) (fun c6 => ?_)
    · exact J_exit [0, 1, 2, 3] rfl (fun hx => hx)
    · refine J_aload_n 3 rfl d_Cv_bestCamel_17 ?_
      refine J_iload_n 0 rfl d_Cv_bestCamel_18 ?_
      refine J_callVi (m_Cv_broughtBy l g ad _ _) ok_Cv_broughtBy rc_54 wi_Cv_broughtBy wl_Cv_Cv_broughtBy wk_Cv_114 ⟨rfl, rfl, Nat.le_of_ble_eq_true rfl, Nat.le_of_ble_eq_true rfl⟩ ⟨Nat.zero_le _, Nat.zero_le _⟩ (rest := []) rfl rfl (Nat.le_of_ble_eq_true rfl) d_Cv_bestCamel_19 (fun v7 h8 => ?_)
      refine J_istore (lv' := [(4, .int v7), (3, .int v1), (2, .int v2), (1, .int v3), (0, .ref (ad 54))]) (Nat.le_of_ble_eq_true rfl) rfl d_Cv_bestCamel_22 ?_
      refine J_iload 0 rfl d_Cv_bestCamel_24 ?_
      refine J_iload_n 2 rfl d_Cv_bestCamel_26 ?_
      refine J_bd2 (fun (v9 : Int32) (v10 : Int32) => Vw (kx_Cv_bestCamel l g Q) 0 0 35 [(4, .int v7), (3, .int v1), (2, .int v9), (1, .int v10), (0, .ref (ad 54))] [] (pic g ad h8)) ?_ (fun v9 v10 => ?_)
      · refine J_icmp_le 35 rfl d_Cv_bestCamel_27 (fun c11 => ?_) (fun c11 => ?_)
        · exact J_exit [0, 1, 2, 3, 4] rfl (fun hx => hx)
        · refine J_iload 0 rfl d_Cv_bestCamel_30 ?_
          refine J_istore_n (lv' := [(2, .int v7), (4, .int v7), (3, .int v1), (1, .int v3), (0, .ref (ad 54))]) 2 rfl (Nat.le_of_ble_eq_true rfl) rfl d_Cv_bestCamel_32 ?_
          refine J_iload_n 2 rfl d_Cv_bestCamel_33 ?_
          refine J_istore_n (lv' := [(1, .int v1), (2, .int v7), (4, .int v7), (3, .int v1), (0, .ref (ad 54))]) 1 rfl (Nat.le_of_ble_eq_true rfl) rfl d_Cv_bestCamel_34 ?_
          exact J_exit [2, 3, 1, 0, 4] rfl (fun hx => hx)
      · refine P_inc (w := 1) (lv' := fun v12 => [(3, .int v12), (4, .int v7), (2, .int v9), (1, .int v10), (0, .ref (ad 54))]) 1 rfl rfl (Nat.le_of_ble_eq_true rfl) (fun _ => rfl) d_Cv_bestCamel_35 (fun v12 => ?_)
        refine J_goto 6 rfl d_Cv_bestCamel_38 ?_
        exact J_sub [0, 2, 3, 4] rfl (ih _ _ _ _)
set_option maxRecDepth 20000 in
set_option maxHeartbeats 4000000 in
theorem m_Cv_bestCamel (l : Launch) (g : GG) (ad : Nat → Nat) (h0 : HP) : CM l g ad y_Cv_bestCamel b_Cv_bestCamel 5 (some .int) rm_Cv_bestCamel [.ref (ad 54)] h0 enI (f_Cv_bestCamel h0) := by
  refine CM.of (by decide) (Nat.le_of_ble_eq_true rfl) (fun Q => ?_)
  show Jj _ _ (Vw (kx_Cv_bestCamel l g Q) 0 0 0 _ _ _)
  refine J_sub [0] (lv' := [(0, .ref (ad 54))]) rfl ?_
  unfold f_Cv_bestCamel
  refine J_iconst (v := (-1)) rfl d_Cv_bestCamel_0 ?_
  refine J_istore_n (lv' := [(1, .int (-1)), (0, .ref (ad 54))]) 1 rfl (Nat.le_of_ble_eq_true rfl) rfl d_Cv_bestCamel_1 ?_
  refine J_iconst (v := (-1)) rfl d_Cv_bestCamel_2 ?_
  refine J_istore_n (lv' := [(2, .int (-1)), (1, .int (-1)), (0, .ref (ad 54))]) 2 rfl (Nat.le_of_ble_eq_true rfl) rfl d_Cv_bestCamel_3 ?_
  refine J_iconst (v := 0) rfl d_Cv_bestCamel_4 ?_
  refine J_istore_n (lv' := [(3, .int 0), (2, .int (-1)), (1, .int (-1)), (0, .ref (ad 54))]) 3 rfl (Nat.le_of_ble_eq_true rfl) rfl d_Cv_bestCamel_5 ?_
  refine J_bd4 (fun (v13 : Int32) (v14 : Int32) (v15 : Int32) (h16 : HP) => Vw (kx_Cv_bestCamel l g Q) 0 0 41 [(3, .int v13), (2, .int v14), (1, .int v15), (0, .ref (ad 54))] [] (pic g ad h16)) ?_ (fun v13 v14 v15 h16 => ?_)
  · exact J_sub [0, 1, 2, 3] rfl (mlp_Cv_bestCamel_6 l g ad Q 400 _ _ _ _)
  · refine J_iload_n 2 rfl d_Cv_bestCamel_41 ?_
    exact J_iret (Nat.le_refl _) (Nat.le_refl _) d_Cv_bestCamel_42 rfl (fun hx => hx)
def f_CS_best (h0 : HP) : Option (Int32 × HP) :=
 bd2 (f_Cv_bestCamel h0) (fun (v1 : Int32) (h2 : HP) =>
 some (v1, h2))
set_option maxRecDepth 20000 in
set_option maxHeartbeats 4000000 in
theorem m_CS_best (l : Launch) (g : GG) (ad : Nat → Nat) (h0 : HP) : CM l g ad y_CS_best b_CS_best 1 (some .int) rm_CS_best [.ref (ad 71)] h0 enI (f_CS_best h0) := by
  refine CM.of (by decide) (Nat.le_of_ble_eq_true rfl) (fun Q => ?_)
  show Jj _ _ (Vw (kx_CS_best l g Q) 0 0 0 _ _ _)
  refine J_sub [0] (lv' := [(0, .ref (ad 71))]) rfl ?_
  unfold f_CS_best
  refine J_aload_n 0 rfl d_CS_best_0 ?_
  refine J_getR fo_CS_44_71 rfl d_CS_best_1 ?_
  refine J_callVi (m_Cv_bestCamel l g ad _) ok_Cv_bestCamel rc_54 wi_Cv_bestCamel wl_Cv_Cv_bestCamel wk_CS_170 ⟨rfl, rfl, Nat.le_of_ble_eq_true rfl, Nat.le_of_ble_eq_true rfl⟩ ⟨Nat.zero_le _, Nat.zero_le _⟩ (rest := []) rfl rfl (Nat.le_of_ble_eq_true rfl) d_CS_best_4 (fun v1 h2 => ?_)
  exact J_iret (Nat.le_refl _) (Nat.le_refl _) d_CS_best_7 rfl (fun hx => hx)
def lp_Cv_wholeCamels_4 : Nat → Int32 → Int32 → HP → Option (Int32 × Int32 × HP)
 | 0, _, _, _ => none
 | fu + 1, v1, v2, h3 =>
 ltt (rI h3 70 4) (fun (v4 : Int32) =>
 (if v4 ≤ v1 then
 some (v1, v2, h3)
 else
 bd1 (f_Cv_march v1 h3) (fun (h6 : HP) =>
 ltt (rI h6 53 11) (fun (v7 : Int32) =>
 bd1 ((if v7 = 0 then
 ltt (v2 ||| (1 <<< (v1 &&& 31))) (fun (v10 : Int32) =>
 some (v10))
 else
 some (v2)) : Option (Int32)) (fun (v8 : Int32) =>
 ltt (v1 + 1) (fun (v11 : Int32) =>
 lp_Cv_wholeCamels_4 fu v11 v8 h6))))))
def f_Cv_wholeCamels (h0 : HP) : Option (Int32 × HP) :=
 bd3 (lp_Cv_wholeCamels_4 400 0 0 h0) (fun (v12 : Int32) (v13 : Int32) (h14 : HP) =>
 some (v13, h14))
set_option maxRecDepth 20000 in
set_option maxHeartbeats 4000000 in
theorem mlp_Cv_wholeCamels_4 (l : Launch) (g : GG) (ad : Nat → Nat) (Q : Option Value → va_W → Prop) : ∀ (fu : Nat) (v1 : Int32) (v2 : Int32) (h3 : HP), Jj (fun q : Int32 × Int32 × HP => Vw (kx_Cv_wholeCamels l g Q) 0 0 38 [(2, .int (q.1)), (1, .int (q.2.1)), (0, .ref (ad 54))] [] (pic g ad q.2.2)) (lp_Cv_wholeCamels_4 fu v1 v2 h3) (Vw (kx_Cv_wholeCamels l g Q) 0 0 4 [(2, .int v1), (1, .int v2), (0, .ref (ad 54))] [] (pic g ad h3)) := by
  intro fu
  induction fu with
  | zero =>
    intro v1 v2 h3
    exact J_none
  | succ fu ih =>
    intro v1 v2 h3
    rw [lp_Cv_wholeCamels_4]
    refine J_iload_n 0 rfl d_Cv_wholeCamels_4 ?_
    refine J_aload_n 2 rfl d_Cv_wholeCamels_5 ?_
    refine J_getR fo_Cv_22_54 rfl d_Cv_wholeCamels_6 ?_
    refine P_gI fo_Cv_102_70 rfl d_Cv_wholeCamels_9 (fun v4 => ?_)
    refine J_icmp_ge 38 rfl d_Cv_wholeCamels_12 (fun c5 => ?_) (fun c5 => ?_)
    · exact J_exit [0, 1, 2] rfl (fun hx => hx)
    · refine J_aload_n 2 rfl d_Cv_wholeCamels_15 ?_
      refine J_iload_n 0 rfl d_Cv_wholeCamels_16 ?_
      refine J_callVa (m_Cv_march l g ad _ _) ok_Cv_march rc_54 wi_Cv_march wl_Cv_Cv_march wk_Cv_103 ⟨rfl, rfl, Nat.le_of_ble_eq_true rfl, Nat.le_of_ble_eq_true rfl⟩ ⟨Nat.zero_le _, Nat.zero_le _⟩ (rest := []) rfl rfl (Nat.le_of_ble_eq_true rfl) d_Cv_wholeCamels_17 (fun h6 => ?_)
      refine P_gI fo_Cv_117_53 rfl d_Cv_wholeCamels_20 (fun v7 => ?_)
      refine J_bd1 (fun (v8 : Int32) => Vw (kx_Cv_wholeCamels l g Q) 0 0 32 [(2, .int v1), (1, .int v8), (0, .ref (ad 54))] [] (pic g ad h6)) ?_ (fun v8 => ?_)
      · refine J_if_ne 32 rfl d_Cv_wholeCamels_23 (fun c9 => ?_) (fun c9 => ?_)
        · exact J_exit [0, 1, 2] rfl (fun hx => hx)
        · refine J_iload_n 1 rfl d_Cv_wholeCamels_26 ?_
          refine J_iconst (v := 1) rfl d_Cv_wholeCamels_27 ?_
          refine J_iload_n 0 rfl d_Cv_wholeCamels_28 ?_
          refine J_ishl d_Cv_wholeCamels_29 ?_
          refine J_ior d_Cv_wholeCamels_30 ?_
          refine P_ist_n (lv' := fun v10 => [(1, .int v10), (2, .int v1), (0, .ref (ad 54))]) 1 rfl (Nat.le_of_ble_eq_true rfl) (fun _ => rfl) d_Cv_wholeCamels_31 (fun v10 => ?_)
          exact J_exit [1, 0, 2] rfl (fun hx => hx)
      · refine P_inc (w := 1) (lv' := fun v11 => [(2, .int v11), (1, .int v8), (0, .ref (ad 54))]) 0 rfl rfl (Nat.le_of_ble_eq_true rfl) (fun _ => rfl) d_Cv_wholeCamels_32 (fun v11 => ?_)
        refine J_goto 4 rfl d_Cv_wholeCamels_35 ?_
        exact J_sub [0, 1, 2] rfl (ih _ _ _)
set_option maxRecDepth 20000 in
set_option maxHeartbeats 4000000 in
theorem m_Cv_wholeCamels (l : Launch) (g : GG) (ad : Nat → Nat) (h0 : HP) : CM l g ad y_Cv_wholeCamels b_Cv_wholeCamels 3 (some .int) rm_Cv_wholeCamels [.ref (ad 54)] h0 enI (f_Cv_wholeCamels h0) := by
  refine CM.of (by decide) (Nat.le_of_ble_eq_true rfl) (fun Q => ?_)
  show Jj _ _ (Vw (kx_Cv_wholeCamels l g Q) 0 0 0 _ _ _)
  refine J_sub [0] (lv' := [(0, .ref (ad 54))]) rfl ?_
  unfold f_Cv_wholeCamels
  refine J_iconst (v := 0) rfl d_Cv_wholeCamels_0 ?_
  refine J_istore_n (lv' := [(1, .int 0), (0, .ref (ad 54))]) 1 rfl (Nat.le_of_ble_eq_true rfl) rfl d_Cv_wholeCamels_1 ?_
  refine J_iconst (v := 0) rfl d_Cv_wholeCamels_2 ?_
  refine J_istore_n (lv' := [(2, .int 0), (1, .int 0), (0, .ref (ad 54))]) 2 rfl (Nat.le_of_ble_eq_true rfl) rfl d_Cv_wholeCamels_3 ?_
  refine J_bd3 (fun (v12 : Int32) (v13 : Int32) (h14 : HP) => Vw (kx_Cv_wholeCamels l g Q) 0 0 38 [(2, .int v12), (1, .int v13), (0, .ref (ad 54))] [] (pic g ad h14)) ?_ (fun v12 v13 h14 => ?_)
  · exact J_sub [0, 1, 2] rfl (mlp_Cv_wholeCamels_4 l g ad Q 400 _ _ _)
  · refine J_iload_n 1 rfl d_Cv_wholeCamels_38 ?_
    exact J_iret (Nat.le_refl _) (Nat.le_refl _) d_Cv_wholeCamels_39 rfl (fun hx => hx)
def f_CS_whole (h0 : HP) : Option (Int32 × HP) :=
 bd2 (f_Cv_wholeCamels h0) (fun (v1 : Int32) (h2 : HP) =>
 some (v1, h2))
set_option maxRecDepth 20000 in
set_option maxHeartbeats 4000000 in
theorem m_CS_whole (l : Launch) (g : GG) (ad : Nat → Nat) (h0 : HP) : CM l g ad y_CS_whole b_CS_whole 1 (some .int) rm_CS_whole [.ref (ad 71)] h0 enI (f_CS_whole h0) := by
  refine CM.of (by decide) (Nat.le_of_ble_eq_true rfl) (fun Q => ?_)
  show Jj _ _ (Vw (kx_CS_whole l g Q) 0 0 0 _ _ _)
  refine J_sub [0] (lv' := [(0, .ref (ad 71))]) rfl ?_
  unfold f_CS_whole
  refine J_aload_n 0 rfl d_CS_whole_0 ?_
  refine J_getR fo_CS_44_71 rfl d_CS_whole_1 ?_
  refine J_callVi (m_Cv_wholeCamels l g ad _) ok_Cv_wholeCamels rc_54 wi_Cv_wholeCamels wl_Cv_Cv_wholeCamels wk_CS_173 ⟨rfl, rfl, Nat.le_of_ble_eq_true rfl, Nat.le_of_ble_eq_true rfl⟩ ⟨Nat.zero_le _, Nat.zero_le _⟩ (rest := []) rfl rfl (Nat.le_of_ble_eq_true rfl) d_CS_whole_4 (fun v1 h2 => ?_)
  exact J_iret (Nat.le_refl _) (Nat.le_refl _) d_CS_whole_7 rfl (fun hx => hx)
def lp_Ar_fill_5 (v3 : Int32) (o1 : Nat) (a2 : Int32) : Nat → Int32 → HP → Option (Int32 × HP)
 | 0, _, _ => none
 | fu + 1, v4, h5 =>
 (if v3 ≤ v4 then
 some (v4, h5)
 else
 ckk (inb v4 (ln o1)) (ltt (wA h5 o1 v4 a2) (fun (h7 : HP) =>
 ltt (v4 + 1) (fun (v8 : Int32) =>
 lp_Ar_fill_5 v3 o1 a2 fu v8 h7))))
def f_Ar_fill (o1 : Nat) (a2 : Int32) (h0 : HP) : Option (HP) :=
 ltt (Int32.ofNat (ln o1)) (fun (v3 : Int32) =>
 bd2 (lp_Ar_fill_5 v3 o1 a2 400 0 h0) (fun (v9 : Int32) (h10 : HP) =>
 some h10))
set_option maxRecDepth 20000 in
set_option maxHeartbeats 4000000 in
theorem mlp_Ar_fill_5 (l : Launch) (g : GG) (ad : Nat → Nat) (Q : Option Value → va_W → Prop) (v3 : Int32) (o1 : Nat) (a2 : Int32) (ho1 : o1 ∈ [51, 41, 39, 37, 35]) : ∀ (fu : Nat) (v4 : Int32) (h5 : HP), Jj (fun q : Int32 × HP => Vw (kx_Ar_fill l g Q) 0 0 20 [(2, .int (q.1)), (3, .int v3), (0, .ref (ad o1)), (1, .int a2)] [] (pic g ad q.2)) (lp_Ar_fill_5 v3 o1 a2 fu v4 h5) (Vw (kx_Ar_fill l g Q) 0 0 5 [(2, .int v4), (3, .int v3), (0, .ref (ad o1)), (1, .int a2)] [] (pic g ad h5)) := by
  intro fu
  induction fu with
  | zero =>
    intro v4 h5
    exact J_none
  | succ fu ih =>
    intro v4 h5
    rw [lp_Ar_fill_5]
    refine J_iload_n 0 rfl d_Ar_fill_5 ?_
    refine J_iload_n 1 rfl d_Ar_fill_6 ?_
    refine J_icmp_ge 20 rfl d_Ar_fill_7 (fun c6 => ?_) (fun c6 => ?_)
    · exact J_exit [0, 1, 2, 3] rfl (fun hx => hx)
    · refine J_aload_n 2 rfl d_Ar_fill_10 ?_
      refine J_iload_n 0 rfl d_Ar_fill_11 ?_
      refine J_iload_n 3 rfl d_Ar_fill_12 ?_
      refine P_wa (al_s51_41_39_37_35 _ ho1) (ak_s51_41_39_37_35 _ ho1) rfl d_Ar_fill_13 (fun h7 => ?_)
      refine P_inc (w := 1) (lv' := fun v8 => [(2, .int v8), (3, .int v3), (0, .ref (ad o1)), (1, .int a2)]) 0 rfl rfl (Nat.le_of_ble_eq_true rfl) (fun _ => rfl) d_Ar_fill_14 (fun v8 => ?_)
      refine J_goto 5 rfl d_Ar_fill_17 ?_
      exact J_sub [0, 1, 2, 3] rfl (ih _ _)
set_option maxRecDepth 20000 in
set_option maxHeartbeats 4000000 in
theorem m_Ar_fill (l : Launch) (g : GG) (ad : Nat → Nat) (o1 : Nat) (ho1 : o1 ∈ [51, 41, 39, 37, 35]) (a2 : Int32) (h0 : HP) : CM l g ad y_Ar_fill b_Ar_fill 4 none rm_Ar_fill [.ref (ad o1), .int a2] h0 enV (f_Ar_fill o1 a2 h0) := by
  refine CM.of (by decide) (Nat.le_of_ble_eq_true rfl) (fun Q => ?_)
  show Jj _ _ (Vw (kx_Ar_fill l g Q) 0 0 0 _ _ _)
  refine J_sub [0, 1] (lv' := [(0, .ref (ad o1)), (1, .int a2)]) rfl ?_
  unfold f_Ar_fill
  refine J_iconst (v := 0) rfl d_Ar_fill_0 ?_
  refine J_istore_n (lv' := [(2, .int 0), (0, .ref (ad o1)), (1, .int a2)]) 2 rfl (Nat.le_of_ble_eq_true rfl) rfl d_Ar_fill_1 ?_
  refine J_aload_n 1 rfl d_Ar_fill_2 ?_
  refine J_alen (v := Int32.ofNat (ln o1)) (al_s51_41_39_37_35 _ ho1) (ak_s51_41_39_37_35 _ ho1) rfl d_Ar_fill_3 ?_
  refine P_ist_n (lv' := fun v3 => [(3, .int v3), (2, .int 0), (0, .ref (ad o1)), (1, .int a2)]) 3 rfl (Nat.le_of_ble_eq_true rfl) (fun _ => rfl) d_Ar_fill_4 (fun v3 => ?_)
  refine J_bd2 (fun (v9 : Int32) (h10 : HP) => Vw (kx_Ar_fill l g Q) 0 0 20 [(2, .int v9), (3, .int v3), (0, .ref (ad o1)), (1, .int a2)] [] (pic g ad h10)) ?_ (fun v9 h10 => ?_)
  · exact J_sub [1, 0, 2, 3] rfl (mlp_Ar_fill_5 l g ad Q v3 o1 a2 ho1 400 _ _)
  · exact J_vret (Nat.le_refl _) (Nat.le_refl _) d_Ar_fill_20 rfl (fun hx => hx)
def lp_Cv_tiredDay_29 (v2 : Int32) : Nat → Int32 → HP → Option (Int32 × HP)
 | 0, _, _ => none
 | fu + 1, v7, h8 =>
 (if 24 ≤ v7 then
 some (v7, h8)
 else
 ckk (inb v7 24) (ltt (rA h8 51 v7) (fun (v10 : Int32) =>
 bd2 (f_Wa_behind v7 1 h8) (fun (v11 : Int32) (h12 : HP) =>
 ckk (inb v7 24) (ltt (wA h12 51 v7 (v10 + v11)) (fun (h13 : HP) =>
 ltt (v7 + 1) (fun (v14 : Int32) =>
 lp_Cv_tiredDay_29 v2 fu v14 h13)))))))
def lp_Cv_tiredDay_10 : Nat → Int32 → HP → Option (Int32 × HP)
 | 0, _, _ => none
 | fu + 1, v2, h3 =>
 ltt (rI h3 70 4) (fun (v4 : Int32) =>
 (if v4 ≤ v2 then
 some (v2, h3)
 else
 bd1 (f_Cv_march v2 h3) (fun (h6 : HP) =>
 bd2 (lp_Cv_tiredDay_29 v2 400 0 h6) (fun (v15 : Int32) (h16 : HP) =>
 ltt (v2 + 1) (fun (v17 : Int32) =>
 lp_Cv_tiredDay_10 fu v17 h16)))))
def lp_Cv_tiredDay_69 : Nat → Int32 → Int32 → HP → Option (Int32 × Int32 × HP)
 | 0, _, _, _ => none
 | fu + 1, v20, v21, h22 =>
 (if 24 ≤ v20 then
 some (v20, v21, h22)
 else
 ckk (inb v20 24) (ltt (rA h22 51 v20) (fun (v24 : Int32) =>
 ckk (inb v21 24) (ltt (rA h22 51 v21) (fun (v25 : Int32) =>
 bd1 ((if v25 ≤ v24 then
 some (v21)
 else
 some (v20)) : Option (Int32)) (fun (v26 : Int32) =>
 ltt (v20 + 1) (fun (v28 : Int32) =>
 lp_Cv_tiredDay_69 fu v28 v26 h22)))))))
def f_Cv_tiredDay (h0 : HP) : Option (Int32 × HP) :=
 bd1 (f_Ar_fill 51 0 h0) (fun (h1 : HP) =>
 bd2 (lp_Cv_tiredDay_10 400 0 h1) (fun (v18 : Int32) (h19 : HP) =>
 bd3 (lp_Cv_tiredDay_69 400 1 0 h19) (fun (v29 : Int32) (v30 : Int32) (h31 : HP) =>
 some (v30, h31))))
set_option maxRecDepth 20000 in
set_option maxHeartbeats 4000000 in
theorem mlp_Cv_tiredDay_29 (l : Launch) (g : GG) (ad : Nat → Nat) (Q : Option Value → va_W → Prop) (v2 : Int32) : ∀ (fu : Nat) (v7 : Int32) (h8 : HP), Jj (fun q : Int32 × HP => Vw (kx_Cv_tiredDay l g Q) 0 0 59 [(2, .int (q.1)), (1, .int v2), (0, .ref (ad 54))] [] (pic g ad q.2)) (lp_Cv_tiredDay_29 v2 fu v7 h8) (Vw (kx_Cv_tiredDay l g Q) 0 0 29 [(2, .int v7), (1, .int v2), (0, .ref (ad 54))] [] (pic g ad h8)) := by
  intro fu
  induction fu with
  | zero =>
    intro v7 h8
    exact J_none
  | succ fu ih =>
    intro v7 h8
    rw [lp_Cv_tiredDay_29]
    refine J_iload_n 0 rfl d_Cv_tiredDay_29 ?_
    refine J_bipush (v := 24) rfl d_Cv_tiredDay_30 ?_
    refine J_icmp_ge 59 rfl d_Cv_tiredDay_32 (fun c9 => ?_) (fun c9 => ?_)
    · exact J_exit [0, 1, 2] rfl (fun hx => hx)
    · refine J_aload_n 2 rfl d_Cv_tiredDay_35 ?_
      refine J_getR fo_Cv_18_54 rfl d_Cv_tiredDay_36 ?_
      refine J_iload_n 0 rfl d_Cv_tiredDay_39 ?_
      refine J_dup2 rfl rfl d_Cv_tiredDay_40 ?_
      refine P_ia (by decide) rfl rfl d_Cv_tiredDay_41 (fun v10 => ?_)
      refine J_aload_n 2 rfl d_Cv_tiredDay_42 ?_
      refine J_getR fo_Cv_12_54 rfl d_Cv_tiredDay_43 ?_
      refine J_iload_n 0 rfl d_Cv_tiredDay_46 ?_
      refine J_iconst (v := 1) rfl d_Cv_tiredDay_47 ?_
      refine J_callVi (m_Wa_behind l g ad _ _ _) ok_Wa_behind rc_53 wi_Wa_behind wl_Wa_Wa_behind wk_Cv_107 ⟨rfl, rfl, Nat.le_of_ble_eq_true rfl, Nat.le_of_ble_eq_true rfl⟩ ⟨Nat.zero_le _, Nat.zero_le _⟩ (rest := [.int v10, .int v7, .ref (ad 51)]) rfl rfl (Nat.le_of_ble_eq_true rfl) d_Cv_tiredDay_48 (fun v11 h12 => ?_)
      refine J_iadd d_Cv_tiredDay_51 ?_
      refine P_wa (by decide) rfl rfl d_Cv_tiredDay_52 (fun h13 => ?_)
      refine P_inc (w := 1) (lv' := fun v14 => [(2, .int v14), (1, .int v2), (0, .ref (ad 54))]) 0 rfl rfl (Nat.le_of_ble_eq_true rfl) (fun _ => rfl) d_Cv_tiredDay_53 (fun v14 => ?_)
      refine J_goto 29 rfl d_Cv_tiredDay_56 ?_
      exact J_sub [0, 1, 2] rfl (ih _ _)
set_option maxRecDepth 20000 in
set_option maxHeartbeats 4000000 in
theorem mlp_Cv_tiredDay_10 (l : Launch) (g : GG) (ad : Nat → Nat) (Q : Option Value → va_W → Prop) : ∀ (fu : Nat) (v2 : Int32) (h3 : HP), Jj (fun q : Int32 × HP => Vw (kx_Cv_tiredDay l g Q) 0 0 65 [(1, .int (q.1)), (0, .ref (ad 54))] [] (pic g ad q.2)) (lp_Cv_tiredDay_10 fu v2 h3) (Vw (kx_Cv_tiredDay l g Q) 0 0 10 [(1, .int v2), (0, .ref (ad 54))] [] (pic g ad h3)) := by
  intro fu
  induction fu with
  | zero =>
    intro v2 h3
    exact J_none
  | succ fu ih =>
    intro v2 h3
    rw [lp_Cv_tiredDay_10]
    refine J_iload_n 0 rfl d_Cv_tiredDay_10 ?_
    refine J_aload_n 1 rfl d_Cv_tiredDay_11 ?_
    refine J_getR fo_Cv_22_54 rfl d_Cv_tiredDay_12 ?_
    refine P_gI fo_Cv_102_70 rfl d_Cv_tiredDay_15 (fun v4 => ?_)
    refine J_icmp_ge 65 rfl d_Cv_tiredDay_18 (fun c5 => ?_) (fun c5 => ?_)
    · exact J_exit [0, 1] rfl (fun hx => hx)
    · refine J_aload_n 1 rfl d_Cv_tiredDay_21 ?_
      refine J_iload_n 0 rfl d_Cv_tiredDay_22 ?_
      refine J_callVa (m_Cv_march l g ad _ _) ok_Cv_march rc_54 wi_Cv_march wl_Cv_Cv_march wk_Cv_103 ⟨rfl, rfl, Nat.le_of_ble_eq_true rfl, Nat.le_of_ble_eq_true rfl⟩ ⟨Nat.zero_le _, Nat.zero_le _⟩ (rest := []) rfl rfl (Nat.le_of_ble_eq_true rfl) d_Cv_tiredDay_23 (fun h6 => ?_)
      refine J_pop rfl d_Cv_tiredDay_26 ?_
      refine J_iconst (v := 0) rfl d_Cv_tiredDay_27 ?_
      refine J_istore_n (lv' := [(2, .int 0), (1, .int v2), (0, .ref (ad 54))]) 2 rfl (Nat.le_of_ble_eq_true rfl) rfl d_Cv_tiredDay_28 ?_
      refine J_bd2 (fun (v15 : Int32) (h16 : HP) => Vw (kx_Cv_tiredDay l g Q) 0 0 59 [(2, .int v15), (1, .int v2), (0, .ref (ad 54))] [] (pic g ad h16)) ?_ (fun v15 h16 => ?_)
      · exact J_sub [0, 1, 2] rfl (mlp_Cv_tiredDay_29 l g ad Q v2 400 _ _)
      · refine P_inc (w := 1) (lv' := fun v17 => [(1, .int v17), (2, .int v15), (0, .ref (ad 54))]) 1 rfl rfl (Nat.le_of_ble_eq_true rfl) (fun _ => rfl) d_Cv_tiredDay_59 (fun v17 => ?_)
        refine J_goto 10 rfl d_Cv_tiredDay_62 ?_
        exact J_sub [0, 2] rfl (ih _ _)
set_option maxRecDepth 20000 in
set_option maxHeartbeats 4000000 in
theorem mlp_Cv_tiredDay_69 (l : Launch) (g : GG) (ad : Nat → Nat) (Q : Option Value → va_W → Prop) : ∀ (fu : Nat) (v20 : Int32) (v21 : Int32) (h22 : HP), Jj (fun q : Int32 × Int32 × HP => Vw (kx_Cv_tiredDay l g Q) 0 0 98 [(2, .int (q.1)), (1, .int (q.2.1)), (0, .ref (ad 54))] [] (pic g ad q.2.2)) (lp_Cv_tiredDay_69 fu v20 v21 h22) (Vw (kx_Cv_tiredDay l g Q) 0 0 69 [(2, .int v20), (1, .int v21), (0, .ref (ad 54))] [] (pic g ad h22)) := by
  intro fu
  induction fu with
  | zero =>
    intro v20 v21 h22
    exact J_none
  | succ fu ih =>
    intro v20 v21 h22
    rw [lp_Cv_tiredDay_69]
    refine J_iload_n 0 rfl d_Cv_tiredDay_69 ?_
    refine J_bipush (v := 24) rfl d_Cv_tiredDay_70 ?_
    refine J_icmp_ge 98 rfl d_Cv_tiredDay_72 (fun c23 => ?_) (fun c23 => ?_)
    · exact J_exit [0, 1, 2] rfl (fun hx => hx)
    · refine J_aload_n 2 rfl d_Cv_tiredDay_75 ?_
      refine J_getR fo_Cv_18_54 rfl d_Cv_tiredDay_76 ?_
      refine J_iload_n 0 rfl d_Cv_tiredDay_79 ?_
      refine P_ia (by decide) rfl rfl d_Cv_tiredDay_80 (fun v24 => ?_)
      refine J_aload_n 2 rfl d_Cv_tiredDay_81 ?_
      refine J_getR fo_Cv_18_54 rfl d_Cv_tiredDay_82 ?_
      refine J_iload_n 1 rfl d_Cv_tiredDay_85 ?_
      refine P_ia (by decide) rfl rfl d_Cv_tiredDay_86 (fun v25 => ?_)
      refine J_bd1 (fun (v26 : Int32) => Vw (kx_Cv_tiredDay l g Q) 0 0 92 [(2, .int v20), (1, .int v26), (0, .ref (ad 54))] [] (pic g ad h22)) ?_ (fun v26 => ?_)
      · refine J_icmp_ge 92 rfl d_Cv_tiredDay_87 (fun c27 => ?_) (fun c27 => ?_)
        · exact J_exit [0, 1, 2] rfl (fun hx => hx)
        · refine J_iload_n 0 rfl d_Cv_tiredDay_90 ?_
          refine J_istore_n (lv' := [(1, .int v20), (2, .int v20), (0, .ref (ad 54))]) 1 rfl (Nat.le_of_ble_eq_true rfl) rfl d_Cv_tiredDay_91 ?_
          exact J_exit [1, 0, 2] rfl (fun hx => hx)
      · refine P_inc (w := 1) (lv' := fun v28 => [(2, .int v28), (1, .int v26), (0, .ref (ad 54))]) 0 rfl rfl (Nat.le_of_ble_eq_true rfl) (fun _ => rfl) d_Cv_tiredDay_92 (fun v28 => ?_)
        refine J_goto 69 rfl d_Cv_tiredDay_95 ?_
        exact J_sub [0, 1, 2] rfl (ih _ _ _)
set_option maxRecDepth 20000 in
set_option maxHeartbeats 4000000 in
theorem m_Cv_tiredDay (l : Launch) (g : GG) (ad : Nat → Nat) (h0 : HP) : CM l g ad y_Cv_tiredDay b_Cv_tiredDay 3 (some .int) rm_Cv_tiredDay [.ref (ad 54)] h0 enI (f_Cv_tiredDay h0) := by
  refine CM.of (by decide) (Nat.le_of_ble_eq_true rfl) (fun Q => ?_)
  show Jj _ _ (Vw (kx_Cv_tiredDay l g Q) 0 0 0 _ _ _)
  refine J_sub [0] (lv' := [(0, .ref (ad 54))]) rfl ?_
  unfold f_Cv_tiredDay
  refine J_aload_n 0 rfl d_Cv_tiredDay_0 ?_
  refine J_getR fo_Cv_18_54 rfl d_Cv_tiredDay_1 ?_
  refine J_iconst (v := 0) rfl d_Cv_tiredDay_4 ?_
  refine J_callSv (m_Ar_fill l g ad 51 (by decide) _ _) ok_Ar_fill ws_Ar_fill wk_Cv_120 ⟨rfl, rfl, Nat.le_of_ble_eq_true rfl, Nat.le_of_ble_eq_true rfl⟩ ⟨Nat.zero_le _, Nat.zero_le _⟩ (rest := []) rfl rfl (Nat.le_of_ble_eq_true rfl) d_Cv_tiredDay_5 (fun h1 => ?_)
  refine J_iconst (v := 0) rfl d_Cv_tiredDay_8 ?_
  refine J_istore_n (lv' := [(1, .int 0), (0, .ref (ad 54))]) 1 rfl (Nat.le_of_ble_eq_true rfl) rfl d_Cv_tiredDay_9 ?_
  refine J_bd2 (fun (v18 : Int32) (h19 : HP) => Vw (kx_Cv_tiredDay l g Q) 0 0 65 [(1, .int v18), (0, .ref (ad 54))] [] (pic g ad h19)) ?_ (fun v18 h19 => ?_)
  · exact J_sub [0, 1] rfl (mlp_Cv_tiredDay_10 l g ad Q 400 _ _)
  · refine J_iconst (v := 0) rfl d_Cv_tiredDay_65 ?_
    refine J_istore_n (lv' := [(1, .int 0), (0, .ref (ad 54))]) 1 rfl (Nat.le_of_ble_eq_true rfl) rfl d_Cv_tiredDay_66 ?_
    refine J_iconst (v := 1) rfl d_Cv_tiredDay_67 ?_
    refine J_istore_n (lv' := [(2, .int 1), (1, .int 0), (0, .ref (ad 54))]) 2 rfl (Nat.le_of_ble_eq_true rfl) rfl d_Cv_tiredDay_68 ?_
    refine J_bd3 (fun (v29 : Int32) (v30 : Int32) (h31 : HP) => Vw (kx_Cv_tiredDay l g Q) 0 0 98 [(2, .int v29), (1, .int v30), (0, .ref (ad 54))] [] (pic g ad h31)) ?_ (fun v29 v30 h31 => ?_)
    · exact J_sub [0, 1, 2] rfl (mlp_Cv_tiredDay_69 l g ad Q 400 _ _ _)
    · refine J_iload_n 1 rfl d_Cv_tiredDay_98 ?_
      exact J_iret (Nat.le_refl _) (Nat.le_refl _) d_Cv_tiredDay_99 rfl (fun hx => hx)
def f_CS_tired (h0 : HP) : Option (Int32 × HP) :=
 bd2 (f_Cv_tiredDay h0) (fun (v1 : Int32) (h2 : HP) =>
 some (v1, h2))
set_option maxRecDepth 20000 in
set_option maxHeartbeats 4000000 in
theorem m_CS_tired (l : Launch) (g : GG) (ad : Nat → Nat) (h0 : HP) : CM l g ad y_CS_tired b_CS_tired 1 (some .int) rm_CS_tired [.ref (ad 71)] h0 enI (f_CS_tired h0) := by
  refine CM.of (by decide) (Nat.le_of_ble_eq_true rfl) (fun Q => ?_)
  show Jj _ _ (Vw (kx_CS_tired l g Q) 0 0 0 _ _ _)
  refine J_sub [0] (lv' := [(0, .ref (ad 71))]) rfl ?_
  unfold f_CS_tired
  refine J_aload_n 0 rfl d_CS_tired_0 ?_
  refine J_getR fo_CS_44_71 rfl d_CS_tired_1 ?_
  refine J_callVi (m_Cv_tiredDay l g ad _) ok_Cv_tiredDay rc_54 wi_Cv_tiredDay wl_Cv_Cv_tiredDay wk_CS_176 ⟨rfl, rfl, Nat.le_of_ble_eq_true rfl, Nat.le_of_ble_eq_true rfl⟩ ⟨Nat.zero_le _, Nat.zero_le _⟩ (rest := []) rfl rfl (Nat.le_of_ble_eq_true rfl) d_CS_tired_4 (fun v1 h2 => ?_)
  exact J_iret (Nat.le_refl _) (Nat.le_refl _) d_CS_tired_7 rfl (fun hx => hx)
def f_CS_last (a1 : Int32) (a2 : Int32) (h0 : HP) : Option (Int32 × HP) :=
 bd2 (f_CS_isCamel a1 h0) (fun (v3 : Int32) (h4 : HP) =>
 (if v3 = 0 then
 some ((-2), h4)
 else
 bd2 (f_CS_isDay a2 h4) (fun (v6 : Int32) (h7 : HP) =>
 (if v6 = 0 then
 some ((-2), h7)
 else
 bd1 (f_Cv_march a1 h7) (fun (h9 : HP) =>
 bd2 (f_Wa_behind a2 6 h9) (fun (v10 : Int32) (h11 : HP) =>
 (if v10 < 1 then
 some ((-1), h11)
 else
 (if 9 < v10 then
 some ((-1), h11)
 else
 some (v10, h11)))))))))
set_option maxRecDepth 20000 in
set_option maxHeartbeats 4000000 in
theorem m_CS_last (l : Launch) (g : GG) (ad : Nat → Nat) (a1 : Int32) (a2 : Int32) (h0 : HP) : CM l g ad y_CS_last b_CS_last 4 (some .int) rm_CS_last [.ref (ad 71), .int a1, .int a2] h0 enI (f_CS_last a1 a2 h0) := by
  refine CM.of (by decide) (Nat.le_of_ble_eq_true rfl) (fun Q => ?_)
  show Jj _ _ (Vw (kx_CS_last l g Q) 0 0 0 _ _ _)
  refine J_sub [0, 1, 2] (lv' := [(0, .ref (ad 71)), (1, .int a1), (2, .int a2)]) rfl ?_
  unfold f_CS_last
  refine J_aload_n 0 rfl d_CS_last_0 ?_
  refine J_iload_n 1 rfl d_CS_last_1 ?_
  refine J_callVi (m_CS_isCamel l g ad _ _) ok_CS_isCamel rc_71 wi_CS_isCamel wl_CS_CS_isCamel wk_CS_96 ⟨rfl, rfl, Nat.le_of_ble_eq_true rfl, Nat.le_of_ble_eq_true rfl⟩ ⟨Nat.zero_le _, Nat.zero_le _⟩ (rest := []) rfl rfl (Nat.le_of_ble_eq_true rfl) d_CS_last_2 (fun v3 h4 => ?_)
  refine J_if_eq 15 rfl d_CS_last_5 (fun c5 => ?_) (fun c5 => ?_)
  · refine J_bipush (v := (-2)) rfl d_CS_last_15 ?_
    exact J_iret (Nat.le_refl _) (Nat.le_refl _) d_CS_last_17 rfl (fun hx => hx)
  · refine J_iload_n 2 rfl d_CS_last_8 ?_
    refine J_callSi (m_CS_isDay l g ad _ _) ok_CS_isDay ws_CS_isDay wk_CS_121 ⟨rfl, rfl, Nat.le_of_ble_eq_true rfl, Nat.le_of_ble_eq_true rfl⟩ ⟨Nat.zero_le _, Nat.zero_le _⟩ (rest := []) rfl rfl (Nat.le_of_ble_eq_true rfl) d_CS_last_9 (fun v6 h7 => ?_)
    refine J_if_ne 18 rfl d_CS_last_12 (fun c8 => ?_) (fun c8 => ?_)
    · refine J_aload_n 0 rfl d_CS_last_18 ?_
      refine J_getR fo_CS_44_71 rfl d_CS_last_19 ?_
      refine J_iload_n 1 rfl d_CS_last_22 ?_
      refine J_callVa (m_Cv_march l g ad _ _) ok_Cv_march rc_54 wi_Cv_march wl_Cv_Cv_march wk_CS_151 ⟨rfl, rfl, Nat.le_of_ble_eq_true rfl, Nat.le_of_ble_eq_true rfl⟩ ⟨Nat.zero_le _, Nat.zero_le _⟩ (rest := []) rfl rfl (Nat.le_of_ble_eq_true rfl) d_CS_last_23 (fun h9 => ?_)
      refine J_iload_n 2 rfl d_CS_last_26 ?_
      refine J_bipush (v := 6) rfl d_CS_last_27 ?_
      refine J_callVi (m_Wa_behind l g ad _ _ _) ok_Wa_behind rc_53 wi_Wa_behind wl_Wa_Wa_behind wk_CS_155 ⟨rfl, rfl, Nat.le_of_ble_eq_true rfl, Nat.le_of_ble_eq_true rfl⟩ ⟨Nat.zero_le _, Nat.zero_le _⟩ (rest := []) rfl rfl (Nat.le_of_ble_eq_true rfl) d_CS_last_29 (fun v10 h11 => ?_)
      refine J_istore_n (lv' := [(3, .int v10), (0, .ref (ad 71)), (1, .int a1), (2, .int a2)]) 3 rfl (Nat.le_of_ble_eq_true rfl) rfl d_CS_last_32 ?_
      refine J_iload_n 0 rfl d_CS_last_33 ?_
      refine J_iconst (v := 1) rfl d_CS_last_34 ?_
      refine J_icmp_lt 48 rfl d_CS_last_35 (fun c12 => ?_) (fun c12 => ?_)
      · refine J_iconst (v := (-1)) rfl d_CS_last_48 ?_
        exact J_iret (Nat.le_refl _) (Nat.le_refl _) d_CS_last_49 rfl (fun hx => hx)
      · refine J_iload_n 0 rfl d_CS_last_38 ?_
        refine J_bipush (v := 9) rfl d_CS_last_39 ?_
        refine J_icmp_gt 48 rfl d_CS_last_41 (fun c13 => ?_) (fun c13 => ?_)
        · refine J_iconst (v := (-1)) rfl d_CS_last_48 ?_
          exact J_iret (Nat.le_refl _) (Nat.le_refl _) d_CS_last_49 rfl (fun hx => hx)
        · refine J_iload_n 0 rfl d_CS_last_44 ?_
          refine J_goto 49 rfl d_CS_last_45 ?_
          exact J_iret (Nat.le_refl _) (Nat.le_refl _) d_CS_last_49 rfl (fun hx => hx)
    · refine J_bipush (v := (-2)) rfl d_CS_last_15 ?_
      exact J_iret (Nat.le_refl _) (Nat.le_refl _) d_CS_last_17 rfl (fun hx => hx)
def f_Pl_beginChoice (h0 : HP) : Option (HP) :=
 ltt (sI h0 50 1 (-1)) (fun (h1 : HP) =>
 ltt (sI h1 50 2 (-1)) (fun (h2 : HP) =>
 some h2))
set_option maxRecDepth 20000 in
set_option maxHeartbeats 4000000 in
theorem m_Pl_beginChoice (l : Launch) (g : GG) (ad : Nat → Nat) (h0 : HP) : CM l g ad y_Pl_beginChoice b_Pl_beginChoice 1 none rm_Pl_beginChoice [.ref (ad 50)] h0 enV (f_Pl_beginChoice h0) := by
  refine CM.of (by decide) (Nat.le_of_ble_eq_true rfl) (fun Q => ?_)
  show Jj _ _ (Vw (kx_Pl_beginChoice l g Q) 0 0 0 _ _ _)
  refine J_sub [0] (lv' := [(0, .ref (ad 50))]) rfl ?_
  unfold f_Pl_beginChoice
  refine J_aload_n 0 rfl d_Pl_beginChoice_0 ?_
  refine J_iconst (v := (-1)) rfl d_Pl_beginChoice_1 ?_
  refine P_wI fo_Pl_44_50 rfl d_Pl_beginChoice_2 (fun h1 => ?_)
  refine J_aload_n 0 rfl d_Pl_beginChoice_5 ?_
  refine J_iconst (v := (-1)) rfl d_Pl_beginChoice_6 ?_
  refine P_wI fo_Pl_48_50 rfl d_Pl_beginChoice_7 (fun h2 => ?_)
  exact J_vret (Nat.le_refl _) (Nat.le_refl _) d_Pl_beginChoice_10 rfl (fun hx => hx)
def f_Pl_choose (a1 : Int32) (a2 : Int32) (h0 : HP) : Option (HP) :=
 ltt (rI h0 50 2) (fun (v3 : Int32) =>
 (if a2 ≤ v3 then
 some h0
 else
 ltt (sI h0 50 1 a1) (fun (h5 : HP) =>
 ltt (sI h5 50 2 a2) (fun (h6 : HP) =>
 some h6))))
set_option maxRecDepth 20000 in
set_option maxHeartbeats 4000000 in
theorem m_Pl_choose (l : Launch) (g : GG) (ad : Nat → Nat) (a1 : Int32) (a2 : Int32) (h0 : HP) : CM l g ad y_Pl_choose b_Pl_choose 3 none rm_Pl_choose [.ref (ad 50), .int a1, .int a2] h0 enV (f_Pl_choose a1 a2 h0) := by
  refine CM.of (by decide) (Nat.le_of_ble_eq_true rfl) (fun Q => ?_)
  show Jj _ _ (Vw (kx_Pl_choose l g Q) 0 0 0 _ _ _)
  refine J_sub [0, 1, 2] (lv' := [(0, .ref (ad 50)), (1, .int a1), (2, .int a2)]) rfl ?_
  unfold f_Pl_choose
  refine J_iload_n 2 rfl d_Pl_choose_0 ?_
  refine J_aload_n 0 rfl d_Pl_choose_1 ?_
  refine P_gI fo_Pl_48_50 rfl d_Pl_choose_2 (fun v3 => ?_)
  refine J_icmp_le 18 rfl d_Pl_choose_5 (fun c4 => ?_) (fun c4 => ?_)
  · exact J_vret (Nat.le_refl _) (Nat.le_refl _) d_Pl_choose_18 rfl (fun hx => hx)
  · refine J_aload_n 0 rfl d_Pl_choose_8 ?_
    refine J_iload_n 1 rfl d_Pl_choose_9 ?_
    refine P_wI fo_Pl_44_50 rfl d_Pl_choose_10 (fun h5 => ?_)
    refine J_aload_n 0 rfl d_Pl_choose_13 ?_
    refine J_iload_n 2 rfl d_Pl_choose_14 ?_
    refine P_wI fo_Pl_48_50 rfl d_Pl_choose_15 (fun h6 => ?_)
    exact J_vret (Nat.le_refl _) (Nat.le_refl _) d_Pl_choose_18 rfl (fun hx => hx)
def lp_Pl_tryCamels_36 (v4 : Int32) (v2 : Int32) (a1 : Int32) : Nat → Int32 → HP → Option (Int32 × HP)
 | 0, _, _ => none
 | fu + 1, v7, h8 =>
 (if 8 ≤ v7 then
 some (v7, h8)
 else
 ckk (inb a1 10) (ltt (wA h8 64 a1 (-1)) (fun (h10 : HP) =>
 bd2 (f_Cv_broughtBy v7 h10) (fun (v11 : Int32) (h12 : HP) =>
 ltt (v4 - v11) (fun (v13 : Int32) =>
 ckk (inb a1 10) (ltt (wA h12 64 a1 v7) (fun (h14 : HP) =>
 bd2 (f_Cv_broughtBy v7 h14) (fun (v15 : Int32) (h16 : HP) =>
 bd1 (f_Pl_choose v7 (v13 + v15) h16) (fun (h17 : HP) =>
 ltt (v7 + 1) (fun (v18 : Int32) =>
 lp_Pl_tryCamels_36 v4 v2 a1 fu v18 h17))))))))))
def f_Pl_tryCamels (a1 : Int32) (h0 : HP) : Option (HP) :=
 ckk (inb a1 10) (ltt (rA h0 64 a1) (fun (v2 : Int32) =>
 ckk (inb a1 10) (ltt (wA h0 64 a1 (-1)) (fun (h3 : HP) =>
 bd2 (f_Cv_inAll 4 h3) (fun (v4 : Int32) (h5 : HP) =>
 bd1 (f_Pl_beginChoice h5) (fun (h6 : HP) =>
 bd2 (lp_Pl_tryCamels_36 v4 v2 a1 400 0 h6) (fun (v19 : Int32) (h20 : HP) =>
 ckk (inb a1 10) (ltt (wA h20 64 a1 v2) (fun (h21 : HP) =>
 some h21)))))))))
set_option maxRecDepth 20000 in
set_option maxHeartbeats 4000000 in
theorem mlp_Pl_tryCamels_36 (l : Launch) (g : GG) (ad : Nat → Nat) (Q : Option Value → va_W → Prop) (v4 : Int32) (v2 : Int32) (a1 : Int32) : ∀ (fu : Nat) (v7 : Int32) (h8 : HP), Jj (fun q : Int32 × HP => Vw (kx_Pl_tryCamels l g Q) 0 0 90 [(5, .int (q.1)), (4, .int v4), (3, .int v2), (2, .ref (ad 64)), (0, .ref (ad 50)), (1, .int a1)] [] (pic g ad q.2)) (lp_Pl_tryCamels_36 v4 v2 a1 fu v7 h8) (Vw (kx_Pl_tryCamels l g Q) 0 0 36 [(5, .int v7), (4, .int v4), (3, .int v2), (2, .ref (ad 64)), (0, .ref (ad 50)), (1, .int a1)] [] (pic g ad h8)) := by
  intro fu
  induction fu with
  | zero =>
    intro v7 h8
    exact J_none
  | succ fu ih =>
    intro v7 h8
    rw [lp_Pl_tryCamels_36]
    refine J_iload 0 rfl d_Pl_tryCamels_36 ?_
    refine J_bipush (v := 8) rfl d_Pl_tryCamels_38 ?_
    refine J_icmp_ge 90 rfl d_Pl_tryCamels_40 (fun c9 => ?_) (fun c9 => ?_)
    · exact J_exit [0, 1, 2, 3, 4, 5] rfl (fun hx => hx)
    · refine J_aload_n 3 rfl d_Pl_tryCamels_43 ?_
      refine J_iload_n 5 rfl d_Pl_tryCamels_44 ?_
      refine J_iconst (v := (-1)) rfl d_Pl_tryCamels_45 ?_
      refine P_wa (by decide) rfl rfl d_Pl_tryCamels_46 (fun h10 => ?_)
      refine J_iload 1 rfl d_Pl_tryCamels_47 ?_
      refine J_aload_n 4 rfl d_Pl_tryCamels_49 ?_
      refine J_getR fo_Pl_9_50 rfl d_Pl_tryCamels_50 ?_
      refine J_iload 0 rfl d_Pl_tryCamels_53 ?_
      refine J_callVi (m_Cv_broughtBy l g ad _ _) ok_Cv_broughtBy rc_54 wi_Cv_broughtBy wl_Cv_Cv_broughtBy wk_Pl_34 ⟨rfl, rfl, Nat.le_of_ble_eq_true rfl, Nat.le_of_ble_eq_true rfl⟩ ⟨Nat.zero_le _, Nat.zero_le _⟩ (rest := [.int v4]) rfl rfl (Nat.le_of_ble_eq_true rfl) d_Pl_tryCamels_55 (fun v11 h12 => ?_)
      refine J_isub d_Pl_tryCamels_58 ?_
      refine P_ist (lv' := fun v13 => [(6, .int v13), (5, .int v7), (4, .int v4), (3, .int v2), (2, .ref (ad 64)), (0, .ref (ad 50)), (1, .int a1)]) (Nat.le_of_ble_eq_true rfl) (fun _ => rfl) d_Pl_tryCamels_59 (fun v13 => ?_)
      refine J_aload_n 4 rfl d_Pl_tryCamels_61 ?_
      refine J_iload_n 6 rfl d_Pl_tryCamels_62 ?_
      refine J_iload 1 rfl d_Pl_tryCamels_63 ?_
      refine P_wa (by decide) rfl rfl d_Pl_tryCamels_65 (fun h14 => ?_)
      refine J_aload_n 5 rfl d_Pl_tryCamels_66 ?_
      refine J_iload 1 rfl d_Pl_tryCamels_67 ?_
      refine J_iload 0 rfl d_Pl_tryCamels_69 ?_
      refine J_aload_n 5 rfl d_Pl_tryCamels_71 ?_
      refine J_getR fo_Pl_9_50 rfl d_Pl_tryCamels_72 ?_
      refine J_iload 1 rfl d_Pl_tryCamels_75 ?_
      refine J_callVi (m_Cv_broughtBy l g ad _ _) ok_Cv_broughtBy rc_54 wi_Cv_broughtBy wl_Cv_Cv_broughtBy wk_Pl_34 ⟨rfl, rfl, Nat.le_of_ble_eq_true rfl, Nat.le_of_ble_eq_true rfl⟩ ⟨Nat.zero_le _, Nat.zero_le _⟩ (rest := [.int v13, .int v7, .ref (ad 50)]) rfl rfl (Nat.le_of_ble_eq_true rfl) d_Pl_tryCamels_77 (fun v15 h16 => ?_)
      refine J_iadd d_Pl_tryCamels_80 ?_
      refine J_callVv (m_Pl_choose l g ad _ _ _) ok_Pl_choose rc_50 wi_Pl_choose wl_Pl_Pl_choose wk_Pl_37 ⟨rfl, rfl, Nat.le_of_ble_eq_true rfl, Nat.le_of_ble_eq_true rfl⟩ ⟨Nat.zero_le _, Nat.zero_le _⟩ (rest := []) rfl rfl (Nat.le_of_ble_eq_true rfl) d_Pl_tryCamels_81 (fun h17 => ?_)
      refine P_inc (w := 1) (lv' := fun v18 => [(5, .int v18), (6, .int v13), (4, .int v4), (3, .int v2), (2, .ref (ad 64)), (0, .ref (ad 50)), (1, .int a1)]) 1 rfl rfl (Nat.le_of_ble_eq_true rfl) (fun _ => rfl) d_Pl_tryCamels_84 (fun v18 => ?_)
      refine J_goto 36 rfl d_Pl_tryCamels_87 ?_
      exact J_sub [0, 2, 3, 4, 5, 6] rfl (ih _ _)
set_option maxRecDepth 20000 in
set_option maxHeartbeats 4000000 in
theorem m_Pl_tryCamels (l : Launch) (g : GG) (ad : Nat → Nat) (a1 : Int32) (h0 : HP) : CM l g ad y_Pl_tryCamels b_Pl_tryCamels 7 none rm_Pl_tryCamels [.ref (ad 50), .int a1] h0 enV (f_Pl_tryCamels a1 h0) := by
  refine CM.of (by decide) (Nat.le_of_ble_eq_true rfl) (fun Q => ?_)
  show Jj _ _ (Vw (kx_Pl_tryCamels l g Q) 0 0 0 _ _ _)
  refine J_sub [0, 1] (lv' := [(0, .ref (ad 50)), (1, .int a1)]) rfl ?_
  unfold f_Pl_tryCamels
  refine J_aload_n 0 rfl d_Pl_tryCamels_0 ?_
  refine J_getR fo_Pl_9_50 rfl d_Pl_tryCamels_1 ?_
  refine J_getR fo_Pl_15_54 rfl d_Pl_tryCamels_4 ?_
  refine J_getR fo_Pl_21_66 rfl d_Pl_tryCamels_7 ?_
  refine J_astore_n (lv' := [(2, .ref (ad 64)), (0, .ref (ad 50)), (1, .int a1)]) 2 rfl (Nat.le_of_ble_eq_true rfl) rfl d_Pl_tryCamels_10 ?_
  refine J_aload_n 0 rfl d_Pl_tryCamels_11 ?_
  refine J_iload_n 2 rfl d_Pl_tryCamels_12 ?_
  refine P_ia (by decide) rfl rfl d_Pl_tryCamels_13 (fun v2 => ?_)
  refine J_istore_n (lv' := [(3, .int v2), (2, .ref (ad 64)), (0, .ref (ad 50)), (1, .int a1)]) 3 rfl (Nat.le_of_ble_eq_true rfl) rfl d_Pl_tryCamels_14 ?_
  refine J_aload_n 1 rfl d_Pl_tryCamels_15 ?_
  refine J_iload_n 3 rfl d_Pl_tryCamels_16 ?_
  refine J_iconst (v := (-1)) rfl d_Pl_tryCamels_17 ?_
  refine P_wa (by decide) rfl rfl d_Pl_tryCamels_18 (fun h3 => ?_)
  refine J_aload_n 2 rfl d_Pl_tryCamels_19 ?_
  refine J_getR fo_Pl_9_50 rfl d_Pl_tryCamels_20 ?_
  refine J_iconst (v := 4) rfl d_Pl_tryCamels_23 ?_
  refine J_callVi (m_Cv_inAll l g ad _ _) ok_Cv_inAll rc_54 wi_Cv_inAll wl_Cv_Cv_inAll wk_Pl_27 ⟨rfl, rfl, Nat.le_of_ble_eq_true rfl, Nat.le_of_ble_eq_true rfl⟩ ⟨Nat.zero_le _, Nat.zero_le _⟩ (rest := []) rfl rfl (Nat.le_of_ble_eq_true rfl) d_Pl_tryCamels_24 (fun v4 h5 => ?_)
  refine J_istore (lv' := [(4, .int v4), (3, .int v2), (2, .ref (ad 64)), (0, .ref (ad 50)), (1, .int a1)]) (Nat.le_of_ble_eq_true rfl) rfl d_Pl_tryCamels_27 ?_
  refine J_aload_n 3 rfl d_Pl_tryCamels_29 ?_
  refine J_callVv (m_Pl_beginChoice l g ad _) ok_Pl_beginChoice rc_50 wi_Pl_beginChoice wl_Pl_Pl_beginChoice wk_Pl_31 ⟨rfl, rfl, Nat.le_of_ble_eq_true rfl, Nat.le_of_ble_eq_true rfl⟩ ⟨Nat.zero_le _, Nat.zero_le _⟩ (rest := []) rfl rfl (Nat.le_of_ble_eq_true rfl) d_Pl_tryCamels_30 (fun h6 => ?_)
  refine J_iconst (v := 0) rfl d_Pl_tryCamels_33 ?_
  refine J_istore (lv' := [(5, .int 0), (4, .int v4), (3, .int v2), (2, .ref (ad 64)), (0, .ref (ad 50)), (1, .int a1)]) (Nat.le_of_ble_eq_true rfl) rfl d_Pl_tryCamels_34 ?_
  refine J_bd2 (fun (v19 : Int32) (h20 : HP) => Vw (kx_Pl_tryCamels l g Q) 0 0 90 [(5, .int v19), (4, .int v4), (3, .int v2), (2, .ref (ad 64)), (0, .ref (ad 50)), (1, .int a1)] [] (pic g ad h20)) ?_ (fun v19 h20 => ?_)
  · exact J_sub [0, 1, 2, 3, 4, 5] rfl (mlp_Pl_tryCamels_36 l g ad Q v4 v2 a1 400 _ _)
  · refine J_aload_n 3 rfl d_Pl_tryCamels_90 ?_
    refine J_iload_n 5 rfl d_Pl_tryCamels_91 ?_
    refine J_iload_n 2 rfl d_Pl_tryCamels_92 ?_
    refine P_wa (by decide) rfl rfl d_Pl_tryCamels_93 (fun h21 => ?_)
    exact J_vret (Nat.le_refl _) (Nat.le_refl _) d_Pl_tryCamels_94 rfl (fun hx => hx)
def f_CS_bear (a1 : Int32) (a2 : Int32) (h0 : HP) : Option (Int32 × HP) :=
 bd2 (f_CS_isBale a1 h0) (fun (v3 : Int32) (h4 : HP) =>
 (if v3 = 0 then
 some ((-2), h4)
 else
 (if a2 < 0 then
 some ((-2), h4)
 else
 (if a2 ≤ 1 then
 bd1 (f_Pl_tryCamels a1 h4) (fun (h8 : HP) =>
 (if a2 = 0 then
 ltt (rI h8 50 1) (fun (v11 : Int32) =>
 some (v11, h8))
 else
 ltt (rI h8 50 2) (fun (v10 : Int32) =>
 some (v10, h8))))
 else
 some ((-2), h4)))))
set_option maxRecDepth 20000 in
set_option maxHeartbeats 4000000 in
theorem m_CS_bear (l : Launch) (g : GG) (ad : Nat → Nat) (a1 : Int32) (a2 : Int32) (h0 : HP) : CM l g ad y_CS_bear b_CS_bear 3 (some .int) rm_CS_bear [.ref (ad 71), .int a1, .int a2] h0 enI (f_CS_bear a1 a2 h0) := by
  refine CM.of (by decide) (Nat.le_of_ble_eq_true rfl) (fun Q => ?_)
  show Jj _ _ (Vw (kx_CS_bear l g Q) 0 0 0 _ _ _)
  refine J_sub [0, 1, 2] (lv' := [(0, .ref (ad 71)), (1, .int a1), (2, .int a2)]) rfl ?_
  unfold f_CS_bear
  refine J_aload_n 0 rfl d_CS_bear_0 ?_
  refine J_iload_n 1 rfl d_CS_bear_1 ?_
  refine J_callVi (m_CS_isBale l g ad _ _) ok_CS_isBale rc_71 wi_CS_isBale wl_CS_CS_isBale wk_CS_110 ⟨rfl, rfl, Nat.le_of_ble_eq_true rfl, Nat.le_of_ble_eq_true rfl⟩ ⟨Nat.zero_le _, Nat.zero_le _⟩ (rest := []) rfl rfl (Nat.le_of_ble_eq_true rfl) d_CS_bear_2 (fun v3 h4 => ?_)
  refine J_if_eq 17 rfl d_CS_bear_5 (fun c5 => ?_) (fun c5 => ?_)
  · refine J_bipush (v := (-2)) rfl d_CS_bear_17 ?_
    exact J_iret (Nat.le_refl _) (Nat.le_refl _) d_CS_bear_19 rfl (fun hx => hx)
  · refine J_iload_n 2 rfl d_CS_bear_8 ?_
    refine J_if_lt 17 rfl d_CS_bear_9 (fun c6 => ?_) (fun c6 => ?_)
    · refine J_bipush (v := (-2)) rfl d_CS_bear_17 ?_
      exact J_iret (Nat.le_refl _) (Nat.le_refl _) d_CS_bear_19 rfl (fun hx => hx)
    · refine J_iload_n 2 rfl d_CS_bear_12 ?_
      refine J_iconst (v := 1) rfl d_CS_bear_13 ?_
      refine J_icmp_le 20 rfl d_CS_bear_14 (fun c7 => ?_) (fun c7 => ?_)
      · refine J_aload_n 0 rfl d_CS_bear_20 ?_
        refine J_getR fo_CS_53_71 rfl d_CS_bear_21 ?_
        refine J_iload_n 1 rfl d_CS_bear_24 ?_
        refine J_callVv (m_Pl_tryCamels l g ad _ _) ok_Pl_tryCamels rc_50 wi_Pl_tryCamels wl_Pl_Pl_tryCamels wk_CS_179 ⟨rfl, rfl, Nat.le_of_ble_eq_true rfl, Nat.le_of_ble_eq_true rfl⟩ ⟨Nat.zero_le _, Nat.zero_le _⟩ (rest := []) rfl rfl (Nat.le_of_ble_eq_true rfl) d_CS_bear_25 (fun h8 => ?_)
        refine J_iload_n 2 rfl d_CS_bear_28 ?_
        refine J_if_ne 42 rfl d_CS_bear_29 (fun c9 => ?_) (fun c9 => ?_)
        · refine J_aload_n 0 rfl d_CS_bear_42 ?_
          refine J_getR fo_CS_53_71 rfl d_CS_bear_43 ?_
          refine P_gI fo_CS_185_50 rfl d_CS_bear_46 (fun v10 => ?_)
          exact J_iret (Nat.le_refl _) (Nat.le_refl _) d_CS_bear_49 rfl (fun hx => hx)
        · refine J_aload_n 0 rfl d_CS_bear_32 ?_
          refine J_getR fo_CS_53_71 rfl d_CS_bear_33 ?_
          refine P_gI fo_CS_182_50 rfl d_CS_bear_36 (fun v11 => ?_)
          refine J_goto 49 rfl d_CS_bear_39 ?_
          exact J_iret (Nat.le_refl _) (Nat.le_refl _) d_CS_bear_49 rfl (fun hx => hx)
      · refine J_bipush (v := (-2)) rfl d_CS_bear_17 ?_
        exact J_iret (Nat.le_refl _) (Nat.le_refl _) d_CS_bear_19 rfl (fun hx => hx)
def lp_Pl_tryDays_56 (v8 : Int32) (v3 : Int32) (v2 : Int32) (a1 : Int32) : Nat → Int32 → HP → Option (Int32 × HP)
 | 0, _, _ => none
 | fu + 1, v10, h11 =>
 (if 24 ≤ v10 then
 some (v10, h11)
 else
 ckk (inb a1 10) (ltt (wA h11 62 a1 v10) (fun (h13 : HP) =>
 bd2 (f_Cv_broughtBy v3 h13) (fun (v14 : Int32) (h15 : HP) =>
 bd1 (f_Pl_choose v10 (v8 + v14) h15) (fun (h16 : HP) =>
 ltt (v10 + 1) (fun (v17 : Int32) =>
 lp_Pl_tryDays_56 v8 v3 v2 a1 fu v17 h16))))))
def f_Pl_tryDays (a1 : Int32) (h0 : HP) : Option (HP) :=
 ckk (inb a1 10) (ltt (rA h0 62 a1) (fun (v2 : Int32) =>
 ckk (inb a1 10) (ltt (rA h0 64 a1) (fun (v3 : Int32) =>
 bd2 (f_Cv_inAll 4 h0) (fun (v4 : Int32) (h5 : HP) =>
 bd2 (f_Cv_broughtBy v3 h5) (fun (v6 : Int32) (h7 : HP) =>
 ltt (v4 - v6) (fun (v8 : Int32) =>
 bd1 (f_Pl_beginChoice h7) (fun (h9 : HP) =>
 bd2 (lp_Pl_tryDays_56 v8 v3 v2 a1 400 0 h9) (fun (v18 : Int32) (h19 : HP) =>
 ckk (inb a1 10) (ltt (wA h19 62 a1 v2) (fun (h20 : HP) =>
 some h20)))))))))))
set_option maxRecDepth 20000 in
set_option maxHeartbeats 4000000 in
theorem mlp_Pl_tryDays_56 (l : Launch) (g : GG) (ad : Nat → Nat) (Q : Option Value → va_W → Prop) (v8 : Int32) (v3 : Int32) (v2 : Int32) (a1 : Int32) : ∀ (fu : Nat) (v10 : Int32) (h11 : HP), Jj (fun q : Int32 × HP => Vw (kx_Pl_tryDays l g Q) 0 0 92 [(6, .int (q.1)), (5, .int v8), (4, .int v3), (3, .int v2), (2, .ref (ad 62)), (0, .ref (ad 50)), (1, .int a1)] [] (pic g ad q.2)) (lp_Pl_tryDays_56 v8 v3 v2 a1 fu v10 h11) (Vw (kx_Pl_tryDays l g Q) 0 0 56 [(6, .int v10), (5, .int v8), (4, .int v3), (3, .int v2), (2, .ref (ad 62)), (0, .ref (ad 50)), (1, .int a1)] [] (pic g ad h11)) := by
  intro fu
  induction fu with
  | zero =>
    intro v10 h11
    exact J_none
  | succ fu ih =>
    intro v10 h11
    rw [lp_Pl_tryDays_56]
    refine J_iload 0 rfl d_Pl_tryDays_56 ?_
    refine J_bipush (v := 24) rfl d_Pl_tryDays_58 ?_
    refine J_icmp_ge 92 rfl d_Pl_tryDays_60 (fun c12 => ?_) (fun c12 => ?_)
    · exact J_exit [0, 1, 2, 3, 4, 5, 6] rfl (fun hx => hx)
    · refine J_aload_n 4 rfl d_Pl_tryDays_63 ?_
      refine J_iload_n 6 rfl d_Pl_tryDays_64 ?_
      refine J_iload 0 rfl d_Pl_tryDays_65 ?_
      refine P_wa (by decide) rfl rfl d_Pl_tryDays_67 (fun h13 => ?_)
      refine J_aload_n 5 rfl d_Pl_tryDays_68 ?_
      refine J_iload 0 rfl d_Pl_tryDays_69 ?_
      refine J_iload 1 rfl d_Pl_tryDays_71 ?_
      refine J_aload_n 5 rfl d_Pl_tryDays_73 ?_
      refine J_getR fo_Pl_9_50 rfl d_Pl_tryDays_74 ?_
      refine J_iload 2 rfl d_Pl_tryDays_77 ?_
      refine J_callVi (m_Cv_broughtBy l g ad _ _) ok_Cv_broughtBy rc_54 wi_Cv_broughtBy wl_Cv_Cv_broughtBy wk_Pl_34 ⟨rfl, rfl, Nat.le_of_ble_eq_true rfl, Nat.le_of_ble_eq_true rfl⟩ ⟨Nat.zero_le _, Nat.zero_le _⟩ (rest := [.int v8, .int v10, .ref (ad 50)]) rfl rfl (Nat.le_of_ble_eq_true rfl) d_Pl_tryDays_79 (fun v14 h15 => ?_)
      refine J_iadd d_Pl_tryDays_82 ?_
      refine J_callVv (m_Pl_choose l g ad _ _ _) ok_Pl_choose rc_50 wi_Pl_choose wl_Pl_Pl_choose wk_Pl_37 ⟨rfl, rfl, Nat.le_of_ble_eq_true rfl, Nat.le_of_ble_eq_true rfl⟩ ⟨Nat.zero_le _, Nat.zero_le _⟩ (rest := []) rfl rfl (Nat.le_of_ble_eq_true rfl) d_Pl_tryDays_83 (fun h16 => ?_)
      refine P_inc (w := 1) (lv' := fun v17 => [(6, .int v17), (5, .int v8), (4, .int v3), (3, .int v2), (2, .ref (ad 62)), (0, .ref (ad 50)), (1, .int a1)]) 0 rfl rfl (Nat.le_of_ble_eq_true rfl) (fun _ => rfl) d_Pl_tryDays_86 (fun v17 => ?_)
      refine J_goto 56 rfl d_Pl_tryDays_89 ?_
      exact J_sub [0, 1, 2, 3, 4, 5, 6] rfl (ih _ _)
set_option maxRecDepth 20000 in
set_option maxHeartbeats 4000000 in
theorem m_Pl_tryDays (l : Launch) (g : GG) (ad : Nat → Nat) (a1 : Int32) (h0 : HP) : CM l g ad y_Pl_tryDays b_Pl_tryDays 7 none rm_Pl_tryDays [.ref (ad 50), .int a1] h0 enV (f_Pl_tryDays a1 h0) := by
  refine CM.of (by decide) (Nat.le_of_ble_eq_true rfl) (fun Q => ?_)
  show Jj _ _ (Vw (kx_Pl_tryDays l g Q) 0 0 0 _ _ _)
  refine J_sub [0, 1] (lv' := [(0, .ref (ad 50)), (1, .int a1)]) rfl ?_
  unfold f_Pl_tryDays
  refine J_aload_n 0 rfl d_Pl_tryDays_0 ?_
  refine J_getR fo_Pl_9_50 rfl d_Pl_tryDays_1 ?_
  refine J_getR fo_Pl_15_54 rfl d_Pl_tryDays_4 ?_
  refine J_getR fo_Pl_41_66 rfl d_Pl_tryDays_7 ?_
  refine J_astore_n (lv' := [(2, .ref (ad 62)), (0, .ref (ad 50)), (1, .int a1)]) 2 rfl (Nat.le_of_ble_eq_true rfl) rfl d_Pl_tryDays_10 ?_
  refine J_aload_n 0 rfl d_Pl_tryDays_11 ?_
  refine J_iload_n 2 rfl d_Pl_tryDays_12 ?_
  refine P_ia (by decide) rfl rfl d_Pl_tryDays_13 (fun v2 => ?_)
  refine J_istore_n (lv' := [(3, .int v2), (2, .ref (ad 62)), (0, .ref (ad 50)), (1, .int a1)]) 3 rfl (Nat.le_of_ble_eq_true rfl) rfl d_Pl_tryDays_14 ?_
  refine J_aload_n 2 rfl d_Pl_tryDays_15 ?_
  refine J_getR fo_Pl_9_50 rfl d_Pl_tryDays_16 ?_
  refine J_getR fo_Pl_15_54 rfl d_Pl_tryDays_19 ?_
  refine J_getR fo_Pl_21_66 rfl d_Pl_tryDays_22 ?_
  refine J_iload_n 3 rfl d_Pl_tryDays_25 ?_
  refine P_ia (by decide) rfl rfl d_Pl_tryDays_26 (fun v3 => ?_)
  refine J_istore (lv' := [(4, .int v3), (3, .int v2), (2, .ref (ad 62)), (0, .ref (ad 50)), (1, .int a1)]) (Nat.le_of_ble_eq_true rfl) rfl d_Pl_tryDays_27 ?_
  refine J_aload_n 3 rfl d_Pl_tryDays_29 ?_
  refine J_getR fo_Pl_9_50 rfl d_Pl_tryDays_30 ?_
  refine J_iconst (v := 4) rfl d_Pl_tryDays_33 ?_
  refine J_callVi (m_Cv_inAll l g ad _ _) ok_Cv_inAll rc_54 wi_Cv_inAll wl_Cv_Cv_inAll wk_Pl_27 ⟨rfl, rfl, Nat.le_of_ble_eq_true rfl, Nat.le_of_ble_eq_true rfl⟩ ⟨Nat.zero_le _, Nat.zero_le _⟩ (rest := []) rfl rfl (Nat.le_of_ble_eq_true rfl) d_Pl_tryDays_34 (fun v4 h5 => ?_)
  refine J_aload_n 3 rfl d_Pl_tryDays_37 ?_
  refine J_getR fo_Pl_9_50 rfl d_Pl_tryDays_38 ?_
  refine J_iload 0 rfl d_Pl_tryDays_41 ?_
  refine J_callVi (m_Cv_broughtBy l g ad _ _) ok_Cv_broughtBy rc_54 wi_Cv_broughtBy wl_Cv_Cv_broughtBy wk_Pl_34 ⟨rfl, rfl, Nat.le_of_ble_eq_true rfl, Nat.le_of_ble_eq_true rfl⟩ ⟨Nat.zero_le _, Nat.zero_le _⟩ (rest := [.int v4]) rfl rfl (Nat.le_of_ble_eq_true rfl) d_Pl_tryDays_43 (fun v6 h7 => ?_)
  refine J_isub d_Pl_tryDays_46 ?_
  refine P_ist (lv' := fun v8 => [(5, .int v8), (4, .int v3), (3, .int v2), (2, .ref (ad 62)), (0, .ref (ad 50)), (1, .int a1)]) (Nat.le_of_ble_eq_true rfl) (fun _ => rfl) d_Pl_tryDays_47 (fun v8 => ?_)
  refine J_aload_n 4 rfl d_Pl_tryDays_49 ?_
  refine J_callVv (m_Pl_beginChoice l g ad _) ok_Pl_beginChoice rc_50 wi_Pl_beginChoice wl_Pl_Pl_beginChoice wk_Pl_31 ⟨rfl, rfl, Nat.le_of_ble_eq_true rfl, Nat.le_of_ble_eq_true rfl⟩ ⟨Nat.zero_le _, Nat.zero_le _⟩ (rest := []) rfl rfl (Nat.le_of_ble_eq_true rfl) d_Pl_tryDays_50 (fun h9 => ?_)
  refine J_iconst (v := 0) rfl d_Pl_tryDays_53 ?_
  refine J_istore (lv' := [(6, .int 0), (5, .int v8), (4, .int v3), (3, .int v2), (2, .ref (ad 62)), (0, .ref (ad 50)), (1, .int a1)]) (Nat.le_of_ble_eq_true rfl) rfl d_Pl_tryDays_54 ?_
  refine J_bd2 (fun (v18 : Int32) (h19 : HP) => Vw (kx_Pl_tryDays l g Q) 0 0 92 [(6, .int v18), (5, .int v8), (4, .int v3), (3, .int v2), (2, .ref (ad 62)), (0, .ref (ad 50)), (1, .int a1)] [] (pic g ad h19)) ?_ (fun v18 h19 => ?_)
  · exact J_sub [0, 1, 2, 3, 4, 5, 6] rfl (mlp_Pl_tryDays_56 l g ad Q v8 v3 v2 a1 400 _ _)
  · refine J_aload_n 4 rfl d_Pl_tryDays_92 ?_
    refine J_iload_n 6 rfl d_Pl_tryDays_93 ?_
    refine J_iload_n 3 rfl d_Pl_tryDays_94 ?_
    refine P_wa (by decide) rfl rfl d_Pl_tryDays_95 (fun h20 => ?_)
    exact J_vret (Nat.le_refl _) (Nat.le_refl _) d_Pl_tryDays_96 rfl (fun hx => hx)
def f_CS_when (a1 : Int32) (a2 : Int32) (h0 : HP) : Option (Int32 × HP) :=
 bd2 (f_CS_isBale a1 h0) (fun (v3 : Int32) (h4 : HP) =>
 (if v3 = 0 then
 some ((-2), h4)
 else
 (if a2 < 0 then
 some ((-2), h4)
 else
 (if a2 ≤ 1 then
 bd1 (f_Pl_tryDays a1 h4) (fun (h8 : HP) =>
 (if a2 = 0 then
 ltt (rI h8 50 1) (fun (v11 : Int32) =>
 some (v11, h8))
 else
 ltt (rI h8 50 2) (fun (v10 : Int32) =>
 some (v10, h8))))
 else
 some ((-2), h4)))))
set_option maxRecDepth 20000 in
set_option maxHeartbeats 4000000 in
theorem m_CS_when (l : Launch) (g : GG) (ad : Nat → Nat) (a1 : Int32) (a2 : Int32) (h0 : HP) : CM l g ad y_CS_when b_CS_when 3 (some .int) rm_CS_when [.ref (ad 71), .int a1, .int a2] h0 enI (f_CS_when a1 a2 h0) := by
  refine CM.of (by decide) (Nat.le_of_ble_eq_true rfl) (fun Q => ?_)
  show Jj _ _ (Vw (kx_CS_when l g Q) 0 0 0 _ _ _)
  refine J_sub [0, 1, 2] (lv' := [(0, .ref (ad 71)), (1, .int a1), (2, .int a2)]) rfl ?_
  unfold f_CS_when
  refine J_aload_n 0 rfl d_CS_when_0 ?_
  refine J_iload_n 1 rfl d_CS_when_1 ?_
  refine J_callVi (m_CS_isBale l g ad _ _) ok_CS_isBale rc_71 wi_CS_isBale wl_CS_CS_isBale wk_CS_110 ⟨rfl, rfl, Nat.le_of_ble_eq_true rfl, Nat.le_of_ble_eq_true rfl⟩ ⟨Nat.zero_le _, Nat.zero_le _⟩ (rest := []) rfl rfl (Nat.le_of_ble_eq_true rfl) d_CS_when_2 (fun v3 h4 => ?_)
  refine J_if_eq 17 rfl d_CS_when_5 (fun c5 => ?_) (fun c5 => ?_)
  · refine J_bipush (v := (-2)) rfl d_CS_when_17 ?_
    exact J_iret (Nat.le_refl _) (Nat.le_refl _) d_CS_when_19 rfl (fun hx => hx)
  · refine J_iload_n 2 rfl d_CS_when_8 ?_
    refine J_if_lt 17 rfl d_CS_when_9 (fun c6 => ?_) (fun c6 => ?_)
    · refine J_bipush (v := (-2)) rfl d_CS_when_17 ?_
      exact J_iret (Nat.le_refl _) (Nat.le_refl _) d_CS_when_19 rfl (fun hx => hx)
    · refine J_iload_n 2 rfl d_CS_when_12 ?_
      refine J_iconst (v := 1) rfl d_CS_when_13 ?_
      refine J_icmp_le 20 rfl d_CS_when_14 (fun c7 => ?_) (fun c7 => ?_)
      · refine J_aload_n 0 rfl d_CS_when_20 ?_
        refine J_getR fo_CS_53_71 rfl d_CS_when_21 ?_
        refine J_iload_n 1 rfl d_CS_when_24 ?_
        refine J_callVv (m_Pl_tryDays l g ad _ _) ok_Pl_tryDays rc_50 wi_Pl_tryDays wl_Pl_Pl_tryDays wk_CS_188 ⟨rfl, rfl, Nat.le_of_ble_eq_true rfl, Nat.le_of_ble_eq_true rfl⟩ ⟨Nat.zero_le _, Nat.zero_le _⟩ (rest := []) rfl rfl (Nat.le_of_ble_eq_true rfl) d_CS_when_25 (fun h8 => ?_)
        refine J_iload_n 2 rfl d_CS_when_28 ?_
        refine J_if_ne 42 rfl d_CS_when_29 (fun c9 => ?_) (fun c9 => ?_)
        · refine J_aload_n 0 rfl d_CS_when_42 ?_
          refine J_getR fo_CS_53_71 rfl d_CS_when_43 ?_
          refine P_gI fo_CS_185_50 rfl d_CS_when_46 (fun v10 => ?_)
          exact J_iret (Nat.le_refl _) (Nat.le_refl _) d_CS_when_49 rfl (fun hx => hx)
        · refine J_aload_n 0 rfl d_CS_when_32 ?_
          refine J_getR fo_CS_53_71 rfl d_CS_when_33 ?_
          refine P_gI fo_CS_182_50 rfl d_CS_when_36 (fun v11 => ?_)
          refine J_goto 49 rfl d_CS_when_39 ?_
          exact J_iret (Nat.le_refl _) (Nat.le_refl _) d_CS_when_49 rfl (fun hx => hx)
      · refine J_bipush (v := (-2)) rfl d_CS_when_17 ?_
        exact J_iret (Nat.le_refl _) (Nat.le_refl _) d_CS_when_19 rfl (fun hx => hx)
def f_Pl_allStandWithout (a1 : Int32) (h0 : HP) : Option (Int32 × HP) :=
 ltt (sI h0 54 3 a1) (fun (h2 : HP) =>
 bd2 (f_Cv_firstToBreak h2) (fun (v3 : Int32) (h4 : HP) =>
 bd1 ((if v3 = (-1) then
 some (1)
 else
 some (0)) : Option (Int32)) (fun (v5 : Int32) =>
 ltt (sI h4 54 3 0) (fun (h7 : HP) =>
 ckk (z01 v5) (some (v5, h7))))))
set_option maxRecDepth 20000 in
set_option maxHeartbeats 4000000 in
theorem m_Pl_allStandWithout (l : Launch) (g : GG) (ad : Nat → Nat) (a1 : Int32) (h0 : HP) : CM l g ad y_Pl_allStandWithout b_Pl_allStandWithout 3 (some .boolean) rm_Pl_allStandWithout [.ref (ad 50), .int a1] h0 enI (f_Pl_allStandWithout a1 h0) := by
  refine CM.of (by decide) (Nat.le_of_ble_eq_true rfl) (fun Q => ?_)
  show Jj _ _ (Vw (kx_Pl_allStandWithout l g Q) 0 0 0 _ _ _)
  refine J_sub [0, 1] (lv' := [(0, .ref (ad 50)), (1, .int a1)]) rfl ?_
  unfold f_Pl_allStandWithout
  refine J_aload_n 0 rfl d_Pl_allStandWithout_0 ?_
  refine J_getR fo_Pl_9_50 rfl d_Pl_allStandWithout_1 ?_
  refine J_iload_n 1 rfl d_Pl_allStandWithout_4 ?_
  refine P_wI fo_Pl_64_54 rfl d_Pl_allStandWithout_5 (fun h2 => ?_)
  refine J_aload_n 0 rfl d_Pl_allStandWithout_8 ?_
  refine J_getR fo_Pl_9_50 rfl d_Pl_allStandWithout_9 ?_
  refine J_callVi (m_Cv_firstToBreak l g ad _) ok_Cv_firstToBreak rc_54 wi_Cv_firstToBreak wl_Cv_Cv_firstToBreak wk_Pl_67 ⟨rfl, rfl, Nat.le_of_ble_eq_true rfl, Nat.le_of_ble_eq_true rfl⟩ ⟨Nat.zero_le _, Nat.zero_le _⟩ (rest := []) rfl rfl (Nat.le_of_ble_eq_true rfl) d_Pl_allStandWithout_12 (fun v3 h4 => ?_)
  refine J_iconst (v := (-1)) rfl d_Pl_allStandWithout_15 ?_
  refine J_bd1 (fun (v5 : Int32) => Vw (kx_Pl_allStandWithout l g Q) 0 0 24 [(0, .ref (ad 50)), (1, .int a1)] [.int v5] (pic g ad h4)) ?_ (fun v5 => ?_)
  · refine J_icmp_ne 23 rfl d_Pl_allStandWithout_16 (fun c6 => ?_) (fun c6 => ?_)
    · refine J_iconst (v := 0) rfl d_Pl_allStandWithout_23 ?_
      exact J_exit [0, 1] rfl (fun hx => hx)
    · refine J_iconst (v := 1) rfl d_Pl_allStandWithout_19 ?_
      refine J_goto 24 rfl d_Pl_allStandWithout_20 ?_
      exact J_exit [0, 1] rfl (fun hx => hx)
  · refine J_istore_n (lv' := [(2, .int v5), (0, .ref (ad 50)), (1, .int a1)]) 2 rfl (Nat.le_of_ble_eq_true rfl) rfl d_Pl_allStandWithout_24 ?_
    refine J_aload_n 1 rfl d_Pl_allStandWithout_25 ?_
    refine J_getR fo_Pl_9_50 rfl d_Pl_allStandWithout_26 ?_
    refine J_iconst (v := 0) rfl d_Pl_allStandWithout_29 ?_
    refine P_wI fo_Pl_64_54 rfl d_Pl_allStandWithout_30 (fun h7 => ?_)
    refine J_iload_n 0 rfl d_Pl_allStandWithout_33 ?_
    exact P_zret (Nat.le_refl _) (Nat.le_refl _) d_Pl_allStandWithout_34 rfl (fun hx => hx)
def lp_Pl_sparedStraws_59 (v9 : Int32) (v5 : Int32) (kz : Int32 → HP → Option (Int32 × HP)) : Nat → Int32 → HP → Option (Int32 × HP)
 | 0, _, _ => none
 | fu + 1, v13, h14 =>
 (if v5 ≤ v13 then
 kz v13 h14
 else
 bd2 (f_Pl_allStandWithout ((1 <<< (v9 &&& 31)) ||| (1 <<< (v13 &&& 31))) h14) (fun (v16 : Int32) (h17 : HP) =>
 (if v16 = 0 then
 ltt (v13 + 1) (fun (v19 : Int32) =>
 lp_Pl_sparedStraws_59 v9 v5 kz fu v19 h17)
 else
 some ((1 <<< (v9 &&& 31)) ||| (1 <<< (v13 &&& 31)), h17))))
def lp_Pl_sparedStraws_50 (v5 : Int32) (kz : Int32 → HP → Option (Int32 × HP)) : Nat → Int32 → HP → Option (Int32 × HP)
 | 0, _, _ => none
 | fu + 1, v9, h10 =>
 (if v5 ≤ v9 then
 kz v9 h10
 else
 ltt (v9 + 1) (fun (v12 : Int32) =>
 lp_Pl_sparedStraws_59 v9 v5 (fun (v20 : Int32) (h21 : HP) =>
 ltt (v9 + 1) (fun (v22 : Int32) =>
 lp_Pl_sparedStraws_50 v5 kz fu v22 h21)) 400 v12 h10))
def lp_Pl_sparedStraws_23 (v5 : Int32) : Nat → Int32 → HP → Option (Int32 × HP)
 | 0, _, _ => none
 | fu + 1, v6, h7 =>
 (if v5 ≤ v6 then
 lp_Pl_sparedStraws_50 v5 (fun (v23 : Int32) (h24 : HP) =>
 some ((-1), h24)) 400 0 h7
 else
 bd2 (f_Pl_allStandWithout (1 <<< (v6 &&& 31)) h7) (fun (v25 : Int32) (h26 : HP) =>
 (if v25 = 0 then
 ltt (v6 + 1) (fun (v28 : Int32) =>
 lp_Pl_sparedStraws_23 v5 fu v28 h26)
 else
 some (1 <<< (v6 &&& 31), h26))))
def f_Pl_sparedStraws (h0 : HP) : Option (Int32 × HP) :=
 bd2 (f_Pl_allStandWithout 0 h0) (fun (v1 : Int32) (h2 : HP) =>
 (if v1 = 0 then
 ckk ([60, 57].contains h2.2.2) (ltt h2.2.2 (fun (o4 : Nat) =>
 ltt (rI h2 o4 2) (fun (v5 : Int32) =>
 lp_Pl_sparedStraws_23 v5 400 0 h2)))
 else
 some (0, h2)))
set_option maxRecDepth 20000 in
set_option maxHeartbeats 4000000 in
theorem mlp_Pl_sparedStraws_59 (l : Launch) (g : GG) (ad : Nat → Nat) (Q : Option Value → va_W → Prop) (v9 : Int32) (v5 : Int32) (kz : Int32 → HP → Option (Int32 × HP)) (hkz : ∀ (v13 : Int32) (h14 : HP), Jj (fun a : Int32 × HP => Q (enI a).1 (pic g ad (enI a).2)) (kz v13 h14) (Vw (kx_Pl_sparedStraws l g Q) 0 0 92 [(3, .int v13), (2, .int v9), (1, .int v5), (0, .ref (ad 50))] [] (pic g ad h14))) : ∀ (fu : Nat) (v13 : Int32) (h14 : HP), Jj (fun a : Int32 × HP => Q (enI a).1 (pic g ad (enI a).2)) (lp_Pl_sparedStraws_59 v9 v5 kz fu v13 h14) (Vw (kx_Pl_sparedStraws l g Q) 0 0 59 [(3, .int v13), (2, .int v9), (1, .int v5), (0, .ref (ad 50))] [] (pic g ad h14)) := by
  intro fu
  induction fu with
  | zero =>
    intro v13 h14
    exact J_none
  | succ fu ih =>
    intro v13 h14
    rw [lp_Pl_sparedStraws_59]
    refine J_iload_n 0 rfl d_Pl_sparedStraws_59 ?_
    refine J_iload_n 2 rfl d_Pl_sparedStraws_60 ?_
    refine J_icmp_ge 92 rfl d_Pl_sparedStraws_61 (fun c15 => ?_) (fun c15 => ?_)
    · exact J_sub [0, 1, 2, 3] rfl (hkz _ _)
    · refine J_aload_n 3 rfl d_Pl_sparedStraws_64 ?_
      refine J_iconst (v := 1) rfl d_Pl_sparedStraws_65 ?_
      refine J_iload_n 1 rfl d_Pl_sparedStraws_66 ?_
      refine J_ishl d_Pl_sparedStraws_67 ?_
      refine J_iconst (v := 1) rfl d_Pl_sparedStraws_68 ?_
      refine J_iload_n 0 rfl d_Pl_sparedStraws_69 ?_
      refine J_ishl d_Pl_sparedStraws_70 ?_
      refine J_ior d_Pl_sparedStraws_71 ?_
      refine J_callVi (m_Pl_allStandWithout l g ad _ _) ok_Pl_allStandWithout rc_50 wi_Pl_allStandWithout wl_Pl_Pl_allStandWithout wk_Pl_51 ⟨rfl, rfl, Nat.le_of_ble_eq_true rfl, Nat.le_of_ble_eq_true rfl⟩ ⟨Nat.zero_le _, Nat.zero_le _⟩ (rest := []) rfl rfl (Nat.le_of_ble_eq_true rfl) d_Pl_sparedStraws_72 (fun v16 h17 => ?_)
      refine J_if_eq 86 rfl d_Pl_sparedStraws_75 (fun c18 => ?_) (fun c18 => ?_)
      · refine P_inc (w := 1) (lv' := fun v19 => [(3, .int v19), (2, .int v9), (1, .int v5), (0, .ref (ad 50))]) 0 rfl rfl (Nat.le_of_ble_eq_true rfl) (fun _ => rfl) d_Pl_sparedStraws_86 (fun v19 => ?_)
        refine J_goto 59 rfl d_Pl_sparedStraws_89 ?_
        exact J_sub [0, 1, 2, 3] rfl (ih _ _)
      · refine J_iconst (v := 1) rfl d_Pl_sparedStraws_78 ?_
        refine J_iload_n 1 rfl d_Pl_sparedStraws_79 ?_
        refine J_ishl d_Pl_sparedStraws_80 ?_
        refine J_iconst (v := 1) rfl d_Pl_sparedStraws_81 ?_
        refine J_iload_n 0 rfl d_Pl_sparedStraws_82 ?_
        refine J_ishl d_Pl_sparedStraws_83 ?_
        refine J_ior d_Pl_sparedStraws_84 ?_
        exact J_iret (Nat.le_refl _) (Nat.le_refl _) d_Pl_sparedStraws_85 rfl (fun hx => hx)
set_option maxRecDepth 20000 in
set_option maxHeartbeats 4000000 in
theorem mlp_Pl_sparedStraws_50 (l : Launch) (g : GG) (ad : Nat → Nat) (Q : Option Value → va_W → Prop) (v5 : Int32) (kz : Int32 → HP → Option (Int32 × HP)) (hkz : ∀ (v9 : Int32) (h10 : HP), Jj (fun a : Int32 × HP => Q (enI a).1 (pic g ad (enI a).2)) (kz v9 h10) (Vw (kx_Pl_sparedStraws l g Q) 0 0 98 [(2, .int v9), (1, .int v5), (0, .ref (ad 50))] [] (pic g ad h10))) : ∀ (fu : Nat) (v9 : Int32) (h10 : HP), Jj (fun a : Int32 × HP => Q (enI a).1 (pic g ad (enI a).2)) (lp_Pl_sparedStraws_50 v5 kz fu v9 h10) (Vw (kx_Pl_sparedStraws l g Q) 0 0 50 [(2, .int v9), (1, .int v5), (0, .ref (ad 50))] [] (pic g ad h10)) := by
  intro fu
  induction fu with
  | zero =>
    intro v9 h10
    exact J_none
  | succ fu ih =>
    intro v9 h10
    rw [lp_Pl_sparedStraws_50]
    refine J_iload_n 0 rfl d_Pl_sparedStraws_50 ?_
    refine J_iload_n 1 rfl d_Pl_sparedStraws_51 ?_
    refine J_icmp_ge 98 rfl d_Pl_sparedStraws_52 (fun c11 => ?_) (fun c11 => ?_)
    · exact J_sub [0, 1, 2] rfl (hkz _ _)
    · refine J_iload_n 0 rfl d_Pl_sparedStraws_55 ?_
      refine J_iconst (v := 1) rfl d_Pl_sparedStraws_56 ?_
      refine J_iadd d_Pl_sparedStraws_57 ?_
      refine P_ist_n (lv' := fun v12 => [(3, .int v12), (2, .int v9), (1, .int v5), (0, .ref (ad 50))]) 3 rfl (Nat.le_of_ble_eq_true rfl) (fun _ => rfl) d_Pl_sparedStraws_58 (fun v12 => ?_)
      refine J_sub [0, 1, 2, 3] rfl (mlp_Pl_sparedStraws_59 l g ad Q v9 v5 _ (fun v20 h21 => ?_) 400 _ _)
      refine P_inc (w := 1) (lv' := fun v22 => [(2, .int v22), (3, .int v20), (1, .int v5), (0, .ref (ad 50))]) 1 rfl rfl (Nat.le_of_ble_eq_true rfl) (fun _ => rfl) d_Pl_sparedStraws_92 (fun v22 => ?_)
      refine J_goto 50 rfl d_Pl_sparedStraws_95 ?_
      exact J_sub [0, 2, 3] rfl (ih _ _)
set_option maxRecDepth 20000 in
set_option maxHeartbeats 4000000 in
theorem mlp_Pl_sparedStraws_23 (l : Launch) (g : GG) (ad : Nat → Nat) (Q : Option Value → va_W → Prop) (v5 : Int32) : ∀ (fu : Nat) (v6 : Int32) (h7 : HP), Jj (fun a : Int32 × HP => Q (enI a).1 (pic g ad (enI a).2)) (lp_Pl_sparedStraws_23 v5 fu v6 h7) (Vw (kx_Pl_sparedStraws l g Q) 0 0 23 [(2, .int v6), (1, .int v5), (0, .ref (ad 50))] [] (pic g ad h7)) := by
  intro fu
  induction fu with
  | zero =>
    intro v6 h7
    exact J_none
  | succ fu ih =>
    intro v6 h7
    rw [lp_Pl_sparedStraws_23]
    refine J_iload_n 0 rfl d_Pl_sparedStraws_23 ?_
    refine J_iload_n 1 rfl d_Pl_sparedStraws_24 ?_
    refine J_icmp_ge 48 rfl d_Pl_sparedStraws_25 (fun c8 => ?_) (fun c8 => ?_)
    · refine J_iconst (v := 0) rfl d_Pl_sparedStraws_48 ?_
      refine J_istore_n (lv' := [(2, .int 0), (1, .int v5), (0, .ref (ad 50))]) 2 rfl (Nat.le_of_ble_eq_true rfl) rfl d_Pl_sparedStraws_49 ?_
      refine J_sub [0, 1, 2] rfl (mlp_Pl_sparedStraws_50 l g ad Q v5 _ (fun v23 h24 => ?_) 400 _ _)
      refine J_iconst (v := (-1)) rfl d_Pl_sparedStraws_98 ?_
      exact J_iret (Nat.le_refl _) (Nat.le_refl _) d_Pl_sparedStraws_99 rfl (fun hx => hx)
    · refine J_aload_n 2 rfl d_Pl_sparedStraws_28 ?_
      refine J_iconst (v := 1) rfl d_Pl_sparedStraws_29 ?_
      refine J_iload_n 0 rfl d_Pl_sparedStraws_30 ?_
      refine J_ishl d_Pl_sparedStraws_31 ?_
      refine J_callVi (m_Pl_allStandWithout l g ad _ _) ok_Pl_allStandWithout rc_50 wi_Pl_allStandWithout wl_Pl_Pl_allStandWithout wk_Pl_51 ⟨rfl, rfl, Nat.le_of_ble_eq_true rfl, Nat.le_of_ble_eq_true rfl⟩ ⟨Nat.zero_le _, Nat.zero_le _⟩ (rest := []) rfl rfl (Nat.le_of_ble_eq_true rfl) d_Pl_sparedStraws_32 (fun v25 h26 => ?_)
      refine J_if_eq 42 rfl d_Pl_sparedStraws_35 (fun c27 => ?_) (fun c27 => ?_)
      · refine P_inc (w := 1) (lv' := fun v28 => [(2, .int v28), (1, .int v5), (0, .ref (ad 50))]) 0 rfl rfl (Nat.le_of_ble_eq_true rfl) (fun _ => rfl) d_Pl_sparedStraws_42 (fun v28 => ?_)
        refine J_goto 23 rfl d_Pl_sparedStraws_45 ?_
        exact J_sub [0, 1, 2] rfl (ih _ _)
      · refine J_iconst (v := 1) rfl d_Pl_sparedStraws_38 ?_
        refine J_iload_n 0 rfl d_Pl_sparedStraws_39 ?_
        refine J_ishl d_Pl_sparedStraws_40 ?_
        exact J_iret (Nat.le_refl _) (Nat.le_refl _) d_Pl_sparedStraws_41 rfl (fun hx => hx)
set_option maxRecDepth 20000 in
set_option maxHeartbeats 4000000 in
theorem m_Pl_sparedStraws (l : Launch) (g : GG) (ad : Nat → Nat) (h0 : HP) : CM l g ad y_Pl_sparedStraws b_Pl_sparedStraws 4 (some .int) rm_Pl_sparedStraws [.ref (ad 50)] h0 enI (f_Pl_sparedStraws h0) := by
  refine CM.of (by decide) (Nat.le_of_ble_eq_true rfl) (fun Q => ?_)
  show Jj _ _ (Vw (kx_Pl_sparedStraws l g Q) 0 0 0 _ _ _)
  refine J_sub [0] (lv' := [(0, .ref (ad 50))]) rfl ?_
  unfold f_Pl_sparedStraws
  refine J_aload_n 0 rfl d_Pl_sparedStraws_0 ?_
  refine J_iconst (v := 0) rfl d_Pl_sparedStraws_1 ?_
  refine J_callVi (m_Pl_allStandWithout l g ad _ _) ok_Pl_allStandWithout rc_50 wi_Pl_allStandWithout wl_Pl_Pl_allStandWithout wk_Pl_51 ⟨rfl, rfl, Nat.le_of_ble_eq_true rfl, Nat.le_of_ble_eq_true rfl⟩ ⟨Nat.zero_le _, Nat.zero_le _⟩ (rest := []) rfl rfl (Nat.le_of_ble_eq_true rfl) d_Pl_sparedStraws_2 (fun v1 h2 => ?_)
  refine J_if_eq 10 rfl d_Pl_sparedStraws_5 (fun c3 => ?_) (fun c3 => ?_)
  · refine J_aload_n 0 rfl d_Pl_sparedStraws_10 ?_
    refine J_getR fo_Pl_9_50 rfl d_Pl_sparedStraws_11 ?_
    refine P_gM (cs := [60, 57]) fo_Pl_55_54 rfl d_Pl_sparedStraws_14 (fun o4 ho4 => ?_)
    refine P_gI (fo_Pl_59_s60_57 _ ho4) (fd_s60_57_2 _ ho4) d_Pl_sparedStraws_17 (fun v5 => ?_)
    refine J_istore_n (lv' := [(1, .int v5), (0, .ref (ad 50))]) 1 rfl (Nat.le_of_ble_eq_true rfl) rfl d_Pl_sparedStraws_20 ?_
    refine J_iconst (v := 0) rfl d_Pl_sparedStraws_21 ?_
    refine J_istore_n (lv' := [(2, .int 0), (1, .int v5), (0, .ref (ad 50))]) 2 rfl (Nat.le_of_ble_eq_true rfl) rfl d_Pl_sparedStraws_22 ?_
    exact J_sub [0, 1, 2] rfl (mlp_Pl_sparedStraws_23 l g ad Q v5 400 _ _)
  · refine J_iconst (v := 0) rfl d_Pl_sparedStraws_8 ?_
    exact J_iret (Nat.le_refl _) (Nat.le_refl _) d_Pl_sparedStraws_9 rfl (fun hx => hx)
def f_In_bitCount (a1 : Int32) (h0 : HP) : Option (Int32 × HP) :=
 ltt (a1 - (((Int32.toUInt32 a1 >>> (Int32.toUInt32 1 &&& Int32.toUInt32 31)).toInt32) &&& 1431655765)) (fun (v2 : Int32) =>
 ltt ((v2 &&& 858993459) + (((Int32.toUInt32 v2 >>> (Int32.toUInt32 2 &&& Int32.toUInt32 31)).toInt32) &&& 858993459)) (fun (v3 : Int32) =>
 ltt ((v3 + ((Int32.toUInt32 v3 >>> (Int32.toUInt32 4 &&& Int32.toUInt32 31)).toInt32)) &&& 252645135) (fun (v4 : Int32) =>
 ltt (v4 + ((Int32.toUInt32 v4 >>> (Int32.toUInt32 8 &&& Int32.toUInt32 31)).toInt32)) (fun (v5 : Int32) =>
 ltt (v5 + ((Int32.toUInt32 v5 >>> (Int32.toUInt32 16 &&& Int32.toUInt32 31)).toInt32)) (fun (v6 : Int32) =>
 some (v6 &&& 63, h0))))))
set_option maxRecDepth 20000 in
set_option maxHeartbeats 4000000 in
theorem m_In_bitCount (l : Launch) (g : GG) (ad : Nat → Nat) (a1 : Int32) (h0 : HP) : CM l g ad y_In_bitCount b_In_bitCount 1 (some .int) rm_In_bitCount [.int a1] h0 enI (f_In_bitCount a1 h0) := by
  refine CM.of (by decide) (Nat.le_of_ble_eq_true rfl) (fun Q => ?_)
  show Jj _ _ (Vw (kx_In_bitCount l g Q) 0 0 0 _ _ _)
  refine J_sub [0] (lv' := [(0, .int a1)]) rfl ?_
  unfold f_In_bitCount
  refine J_iload_n 0 rfl d_In_bitCount_0 ?_
  refine J_iload_n 0 rfl d_In_bitCount_1 ?_
  refine J_iconst (v := 1) rfl d_In_bitCount_2 ?_
  refine J_iushr d_In_bitCount_3 ?_
  refine J_ldcw (v := 1431655765) kc_In_265 d_In_bitCount_4 ?_
  refine J_iand d_In_bitCount_7 ?_
  refine J_isub d_In_bitCount_8 ?_
  refine P_ist_n (lv' := fun v2 => [(0, .int v2)]) 0 rfl (Nat.le_of_ble_eq_true rfl) (fun _ => rfl) d_In_bitCount_9 (fun v2 => ?_)
  refine J_iload_n 0 rfl d_In_bitCount_10 ?_
  refine J_ldcw (v := 858993459) kc_In_266 d_In_bitCount_11 ?_
  refine J_iand d_In_bitCount_14 ?_
  refine J_iload_n 0 rfl d_In_bitCount_15 ?_
  refine J_iconst (v := 2) rfl d_In_bitCount_16 ?_
  refine J_iushr d_In_bitCount_17 ?_
  refine J_ldcw (v := 858993459) kc_In_266 d_In_bitCount_18 ?_
  refine J_iand d_In_bitCount_21 ?_
  refine J_iadd d_In_bitCount_22 ?_
  refine P_ist_n (lv' := fun v3 => [(0, .int v3)]) 0 rfl (Nat.le_of_ble_eq_true rfl) (fun _ => rfl) d_In_bitCount_23 (fun v3 => ?_)
  refine J_iload_n 0 rfl d_In_bitCount_24 ?_
  refine J_iload_n 0 rfl d_In_bitCount_25 ?_
  refine J_iconst (v := 4) rfl d_In_bitCount_26 ?_
  refine J_iushr d_In_bitCount_27 ?_
  refine J_iadd d_In_bitCount_28 ?_
  refine J_ldcw (v := 252645135) kc_In_267 d_In_bitCount_29 ?_
  refine J_iand d_In_bitCount_32 ?_
  refine P_ist_n (lv' := fun v4 => [(0, .int v4)]) 0 rfl (Nat.le_of_ble_eq_true rfl) (fun _ => rfl) d_In_bitCount_33 (fun v4 => ?_)
  refine J_iload_n 0 rfl d_In_bitCount_34 ?_
  refine J_iload_n 0 rfl d_In_bitCount_35 ?_
  refine J_bipush (v := 8) rfl d_In_bitCount_36 ?_
  refine J_iushr d_In_bitCount_38 ?_
  refine J_iadd d_In_bitCount_39 ?_
  refine P_ist_n (lv' := fun v5 => [(0, .int v5)]) 0 rfl (Nat.le_of_ble_eq_true rfl) (fun _ => rfl) d_In_bitCount_40 (fun v5 => ?_)
  refine J_iload_n 0 rfl d_In_bitCount_41 ?_
  refine J_iload_n 0 rfl d_In_bitCount_42 ?_
  refine J_bipush (v := 16) rfl d_In_bitCount_43 ?_
  refine J_iushr d_In_bitCount_45 ?_
  refine J_iadd d_In_bitCount_46 ?_
  refine P_ist_n (lv' := fun v6 => [(0, .int v6)]) 0 rfl (Nat.le_of_ble_eq_true rfl) (fun _ => rfl) d_In_bitCount_47 (fun v6 => ?_)
  refine J_iload_n 0 rfl d_In_bitCount_48 ?_
  refine J_bipush (v := 63) rfl d_In_bitCount_49 ?_
  refine J_iand d_In_bitCount_51 ?_
  exact J_iret (Nat.le_refl _) (Nat.le_refl _) d_In_bitCount_52 rfl (fun hx => hx)
