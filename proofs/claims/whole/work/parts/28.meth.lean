def f_Mo_comesStraw (a1 : Int32) (a2 : Int32) (h0 : HP) : Option (HP) :=
 ckk (inb a1 8) (ltt (rA h0 22 a1) (fun (v3 : Int32) =>
 ckk (inb a1 8) (ltt (wA h0 22 a1 (v3 + 1)) (fun (h4 : HP) =>
 ckk (inb a1 8) (ltt (rA h4 22 a1) (fun (v5 : Int32) =>
 ckk (inb a1 8) (ltt (rA h4 21 a1) (fun (v6 : Int32) =>
 bd1 ((if v5 = v6 then
 some (1)
 else
 some (0)) : Option (Int32)) (fun (v7 : Int32) =>
 ckk (z01 v7) (ltt (sI h4 34 16 v7) (fun (h9 : HP) =>
 ckk (inb a1 8) (ltt (rA h9 19 a1) (fun (v10 : Int32) =>
 ltt (rI h9 34 16) (fun (v11 : Int32) =>
 bd1 ((if v11 = 0 then
 some (0)
 else
 ckk (inb a1 8) (ltt (rA h9 22 a1) (fun (v14 : Int32) =>
 some (v14)))) : Option (Int32)) (fun (v12 : Int32) =>
 ckk (inb a1 8) (ltt (wA h9 19 a1 (v10 + v12)) (fun (h15 : HP) =>
 bd1 (f_Mo_breaks a1 a2 h15) (fun (h16 : HP) =>
 some h16))))))))))))))))))
set_option maxRecDepth 20000 in
set_option maxHeartbeats 4000000 in
theorem m_Mo_comesStraw (l : Launch) (g : GG) (ad : Nat → Nat) (a1 : Int32) (a2 : Int32) (h0 : HP) : CM l g ad y_Mo_comesStraw b_Mo_comesStraw 3 none rm_Mo_comesStraw [.ref (ad 34), .int a1, .int a2] h0 enV (f_Mo_comesStraw a1 a2 h0) := by
  refine CM.of (by decide) (Nat.le_of_ble_eq_true rfl) (fun Q => ?_)
  show Jj _ _ (Vw (kx_Mo_comesStraw l g Q) 0 0 0 _ _ _)
  refine J_sub [0, 1, 2] (lv' := [(0, .ref (ad 34)), (1, .int a1), (2, .int a2)]) rfl ?_
  unfold f_Mo_comesStraw
  refine J_aload_n 0 rfl d_Mo_comesStraw_0 ?_
  refine J_getR fo_Mo_43_34 rfl d_Mo_comesStraw_1 ?_
  refine J_iload_n 1 rfl d_Mo_comesStraw_4 ?_
  refine J_dup2 rfl rfl d_Mo_comesStraw_5 ?_
  refine P_ia (by decide) rfl rfl d_Mo_comesStraw_6 (fun v3 => ?_)
  refine J_iconst (v := 1) rfl d_Mo_comesStraw_7 ?_
  refine J_iadd d_Mo_comesStraw_8 ?_
  refine P_wa (by decide) rfl rfl d_Mo_comesStraw_9 (fun h4 => ?_)
  refine J_aload_n 0 rfl d_Mo_comesStraw_10 ?_
  refine J_aload_n 0 rfl d_Mo_comesStraw_11 ?_
  refine J_getR fo_Mo_43_34 rfl d_Mo_comesStraw_12 ?_
  refine J_iload_n 1 rfl d_Mo_comesStraw_15 ?_
  refine P_ia (by decide) rfl rfl d_Mo_comesStraw_16 (fun v5 => ?_)
  refine J_aload_n 0 rfl d_Mo_comesStraw_17 ?_
  refine J_getR fo_Mo_46_34 rfl d_Mo_comesStraw_18 ?_
  refine J_iload_n 1 rfl d_Mo_comesStraw_21 ?_
  refine P_ia (by decide) rfl rfl d_Mo_comesStraw_22 (fun v6 => ?_)
  refine J_bd1 (fun (v7 : Int32) => Vw (kx_Mo_comesStraw l g Q) 0 0 31 [(0, .ref (ad 34)), (1, .int a1), (2, .int a2)] [.int v7, .ref (ad 34)] (pic g ad h4)) ?_ (fun v7 => ?_)
  · refine J_icmp_ne 30 rfl d_Mo_comesStraw_23 (fun c8 => ?_) (fun c8 => ?_)
    · refine J_iconst (v := 0) rfl d_Mo_comesStraw_30 ?_
      exact J_exit [0, 1, 2] rfl (fun hx => hx)
    · refine J_iconst (v := 1) rfl d_Mo_comesStraw_26 ?_
      refine J_goto 31 rfl d_Mo_comesStraw_27 ?_
      exact J_exit [0, 1, 2] rfl (fun hx => hx)
  · refine P_wZv fo_Mo_205_34 rfl d_Mo_comesStraw_31 (fun h9 => ?_)
    refine J_aload_n 0 rfl d_Mo_comesStraw_34 ?_
    refine J_getR fo_Mo_52_34 rfl d_Mo_comesStraw_35 ?_
    refine J_iload_n 1 rfl d_Mo_comesStraw_38 ?_
    refine J_dup2 rfl rfl d_Mo_comesStraw_39 ?_
    refine P_ia (by decide) rfl rfl d_Mo_comesStraw_40 (fun v10 => ?_)
    refine J_aload_n 0 rfl d_Mo_comesStraw_41 ?_
    refine P_gZ fo_Mo_205_34 rfl d_Mo_comesStraw_42 (fun v11 => ?_)
    refine J_bd1 (fun (v12 : Int32) => Vw (kx_Mo_comesStraw l g Q) 0 0 58 [(0, .ref (ad 34)), (1, .int a1), (2, .int a2)] [.int v12, .int v10, .int a1, .ref (ad 19)] (pic g ad h9)) ?_ (fun v12 => ?_)
    · refine J_if_eq 57 rfl d_Mo_comesStraw_45 (fun c13 => ?_) (fun c13 => ?_)
      · refine J_iconst (v := 0) rfl d_Mo_comesStraw_57 ?_
        exact J_exit [0, 1, 2] rfl (fun hx => hx)
      · refine J_aload_n 0 rfl d_Mo_comesStraw_48 ?_
        refine J_getR fo_Mo_43_34 rfl d_Mo_comesStraw_49 ?_
        refine J_iload_n 1 rfl d_Mo_comesStraw_52 ?_
        refine P_ia (by decide) rfl rfl d_Mo_comesStraw_53 (fun v14 => ?_)
        refine J_goto 58 rfl d_Mo_comesStraw_54 ?_
        exact J_exit [0, 1, 2] rfl (fun hx => hx)
    · refine J_iadd d_Mo_comesStraw_58 ?_
      refine P_wa (by decide) rfl rfl d_Mo_comesStraw_59 (fun h15 => ?_)
      refine J_aload_n 0 rfl d_Mo_comesStraw_60 ?_
      refine J_iload_n 1 rfl d_Mo_comesStraw_61 ?_
      refine J_iload_n 2 rfl d_Mo_comesStraw_62 ?_
      refine J_callVv (m_Mo_breaks l g ad _ _ _) ok_Mo_breaks rc_34 wi_Mo_breaks wl_Mo_Mo_breaks wk_Mo_201 ⟨rfl, rfl, Nat.le_of_ble_eq_true rfl, Nat.le_of_ble_eq_true rfl⟩ ⟨Nat.zero_le _, Nat.zero_le _⟩ (rest := []) rfl rfl (Nat.le_of_ble_eq_true rfl) d_Mo_comesStraw_63 (fun h16 => ?_)
      exact J_vret (Nat.le_refl _) (Nat.le_refl _) d_Mo_comesStraw_66 rfl (fun hx => hx)
def lp_Mo_comeStraws_2 (a1 : Int32) : Nat → Int32 → HP → Option (Int32 × HP)
 | 0, _, _ => none
 | fu + 1, v2, h3 =>
 ltt (rI h3 34 12) (fun (v4 : Int32) =>
 (if v4 ≤ v2 then
 some (v2, h3)
 else
 ckk (inb v2 17) (ltt (rA h3 24 v2) (fun (v6 : Int32) =>
 bd1 ((if v6 = a1 then
 ltt (rI h3 34 15) (fun (v9 : Int32) =>
 bd2 (f_Mo_isIn v9 v2 h3) (fun (v10 : Int32) (h11 : HP) =>
 (if v10 = 0 then
 ltt (sI h11 34 16 0) (fun (h13 : HP) =>
 ckk (inb v2 17) (ltt (rA h13 23 v2) (fun (v14 : Int32) =>
 bd2 (f_Mo_takes v14 h13) (fun (v15 : Int32) (h16 : HP) =>
 (if v15 = 0 then
 some (h16)
 else
 ckk (inb v2 17) (ltt (rA h16 23 v2) (fun (v18 : Int32) =>
 bd1 (f_Mo_comesStraw v18 a1 h16) (fun (h19 : HP) =>
 some (h19)))))))))
 else
 some (h11))))
 else
 some (h3)) : Option (HP)) (fun (h7 : HP) =>
 ltt (v2 + 1) (fun (v20 : Int32) =>
 lp_Mo_comeStraws_2 a1 fu v20 h7))))))
def f_Mo_comeStraws (a1 : Int32) (h0 : HP) : Option (HP) :=
 bd2 (lp_Mo_comeStraws_2 a1 400 0 h0) (fun (v21 : Int32) (h22 : HP) =>
 some h22)
set_option maxRecDepth 20000 in
set_option maxHeartbeats 4000000 in
theorem mlp_Mo_comeStraws_2 (l : Launch) (g : GG) (ad : Nat → Nat) (Q : Option Value → va_W → Prop) (a1 : Int32) : ∀ (fu : Nat) (v2 : Int32) (h3 : HP), Jj (fun q : Int32 × HP => Vw (kx_Mo_comeStraws l g Q) 0 0 66 [(2, .int (q.1)), (0, .ref (ad 34)), (1, .int a1)] [] (pic g ad q.2)) (lp_Mo_comeStraws_2 a1 fu v2 h3) (Vw (kx_Mo_comeStraws l g Q) 0 0 2 [(2, .int v2), (0, .ref (ad 34)), (1, .int a1)] [] (pic g ad h3)) := by
  intro fu
  induction fu with
  | zero =>
    intro v2 h3
    exact J_none
  | succ fu ih =>
    intro v2 h3
    rw [lp_Mo_comeStraws_2]
    refine J_iload_n 0 rfl d_Mo_comeStraws_2 ?_
    refine J_aload_n 1 rfl d_Mo_comeStraws_3 ?_
    refine P_gI fo_Mo_183_34 rfl d_Mo_comeStraws_4 (fun v4 => ?_)
    refine J_icmp_ge 66 rfl d_Mo_comeStraws_7 (fun c5 => ?_) (fun c5 => ?_)
    · exact J_exit [0, 1, 2] rfl (fun hx => hx)
    · refine J_aload_n 1 rfl d_Mo_comeStraws_10 ?_
      refine J_getR fo_Mo_37_34 rfl d_Mo_comeStraws_11 ?_
      refine J_iload_n 0 rfl d_Mo_comeStraws_14 ?_
      refine P_ia (by decide) rfl rfl d_Mo_comeStraws_15 (fun v6 => ?_)
      refine J_iload_n 2 rfl d_Mo_comeStraws_16 ?_
      refine J_bd1 (fun (h7 : HP) => Vw (kx_Mo_comeStraws l g Q) 0 0 60 [(2, .int v2), (0, .ref (ad 34)), (1, .int a1)] [] (pic g ad h7)) ?_ (fun h7 => ?_)
      · refine J_icmp_ne 60 rfl d_Mo_comeStraws_17 (fun c8 => ?_) (fun c8 => ?_)
        · exact J_exit [0, 1, 2] rfl (fun hx => hx)
        · refine J_aload_n 1 rfl d_Mo_comeStraws_20 ?_
          refine P_gI fo_Mo_186_34 rfl d_Mo_comeStraws_21 (fun v9 => ?_)
          refine J_iload_n 0 rfl d_Mo_comeStraws_24 ?_
          refine J_callSi (m_Mo_isIn l g ad _ _ _) ok_Mo_isIn ws_Mo_isIn wk_Mo_209 ⟨rfl, rfl, Nat.le_of_ble_eq_true rfl, Nat.le_of_ble_eq_true rfl⟩ ⟨Nat.zero_le _, Nat.zero_le _⟩ (rest := []) rfl rfl (Nat.le_of_ble_eq_true rfl) d_Mo_comeStraws_25 (fun v10 h11 => ?_)
          refine J_if_ne 60 rfl d_Mo_comeStraws_28 (fun c12 => ?_) (fun c12 => ?_)
          · exact J_exit [0, 1, 2] rfl (fun hx => hx)
          · refine J_aload_n 1 rfl d_Mo_comeStraws_31 ?_
            refine J_iconst (v := 0) rfl d_Mo_comeStraws_32 ?_
            refine P_wZ (Or.inl rfl) fo_Mo_205_34 rfl d_Mo_comeStraws_33 (fun h13 => ?_)
            refine J_aload_n 1 rfl d_Mo_comeStraws_36 ?_
            refine J_aload_n 1 rfl d_Mo_comeStraws_37 ?_
            refine J_getR fo_Mo_40_34 rfl d_Mo_comeStraws_38 ?_
            refine J_iload_n 0 rfl d_Mo_comeStraws_41 ?_
            refine P_ia (by decide) rfl rfl d_Mo_comeStraws_42 (fun v14 => ?_)
            refine J_callVi (m_Mo_takes l g ad _ _) ok_Mo_takes rc_34 wi_Mo_takes wl_Mo_Mo_takes wk_Mo_198 ⟨rfl, rfl, Nat.le_of_ble_eq_true rfl, Nat.le_of_ble_eq_true rfl⟩ ⟨Nat.zero_le _, Nat.zero_le _⟩ (rest := []) rfl rfl (Nat.le_of_ble_eq_true rfl) d_Mo_comeStraws_43 (fun v15 h16 => ?_)
            refine J_if_eq 60 rfl d_Mo_comeStraws_46 (fun c17 => ?_) (fun c17 => ?_)
            · exact J_exit [0, 1, 2] rfl (fun hx => hx)
            · refine J_aload_n 1 rfl d_Mo_comeStraws_49 ?_
              refine J_aload_n 1 rfl d_Mo_comeStraws_50 ?_
              refine J_getR fo_Mo_40_34 rfl d_Mo_comeStraws_51 ?_
              refine J_iload_n 0 rfl d_Mo_comeStraws_54 ?_
              refine P_ia (by decide) rfl rfl d_Mo_comeStraws_55 (fun v18 => ?_)
              refine J_iload_n 2 rfl d_Mo_comeStraws_56 ?_
              refine J_callVv (m_Mo_comesStraw l g ad _ _ _) ok_Mo_comesStraw rc_34 wi_Mo_comesStraw wl_Mo_Mo_comesStraw wk_Mo_213 ⟨rfl, rfl, Nat.le_of_ble_eq_true rfl, Nat.le_of_ble_eq_true rfl⟩ ⟨Nat.zero_le _, Nat.zero_le _⟩ (rest := []) rfl rfl (Nat.le_of_ble_eq_true rfl) d_Mo_comeStraws_57 (fun h19 => ?_)
              exact J_exit [0, 1, 2] rfl (fun hx => hx)
      · refine P_inc (w := 1) (lv' := fun v20 => [(2, .int v20), (0, .ref (ad 34)), (1, .int a1)]) 0 rfl rfl (Nat.le_of_ble_eq_true rfl) (fun _ => rfl) d_Mo_comeStraws_60 (fun v20 => ?_)
        refine J_goto 2 rfl d_Mo_comeStraws_63 ?_
        exact J_sub [0, 1, 2] rfl (ih _ _)
set_option maxRecDepth 20000 in
set_option maxHeartbeats 4000000 in
theorem m_Mo_comeStraws (l : Launch) (g : GG) (ad : Nat → Nat) (a1 : Int32) (h0 : HP) : CM l g ad y_Mo_comeStraws b_Mo_comeStraws 3 none rm_Mo_comeStraws [.ref (ad 34), .int a1] h0 enV (f_Mo_comeStraws a1 h0) := by
  refine CM.of (by decide) (Nat.le_of_ble_eq_true rfl) (fun Q => ?_)
  show Jj _ _ (Vw (kx_Mo_comeStraws l g Q) 0 0 0 _ _ _)
  refine J_sub [0, 1] (lv' := [(0, .ref (ad 34)), (1, .int a1)]) rfl ?_
  unfold f_Mo_comeStraws
  refine J_iconst (v := 0) rfl d_Mo_comeStraws_0 ?_
  refine J_istore_n (lv' := [(2, .int 0), (0, .ref (ad 34)), (1, .int a1)]) 2 rfl (Nat.le_of_ble_eq_true rfl) rfl d_Mo_comeStraws_1 ?_
  refine J_bd2 (fun (v21 : Int32) (h22 : HP) => Vw (kx_Mo_comeStraws l g Q) 0 0 66 [(2, .int v21), (0, .ref (ad 34)), (1, .int a1)] [] (pic g ad h22)) ?_ (fun v21 h22 => ?_)
  · exact J_sub [0, 1, 2] rfl (mlp_Mo_comeStraws_2 l g ad Q a1 400 _ _)
  · exact J_vret (Nat.le_refl _) (Nat.le_refl _) d_Mo_comeStraws_66 rfl (fun hx => hx)
def f_Mo_wears (a1 : Int32) (a2 : Int32) (h0 : HP) : Option (Int32 × HP) :=
 ckk (inb a1 9) (ltt (rA h0 31 a1) (fun (v3 : Int32) =>
 (if v3 = 0 then
 (if a2 - a2 / 3 * 3 = 2 then
 some (1, h0)
 else
 some (0, h0))
 else
 ckk (inb a1 9) (ltt (rA h0 31 a1) (fun (v5 : Int32) =>
 (if v5 = 2 then
 some (1, h0)
 else
 ckk (inb a1 8) (ltt (rA h0 22 a1) (fun (v7 : Int32) =>
 ckk (inb a1 8) (ltt (rA h0 21 a1) (fun (v8 : Int32) =>
 (if 2 * v7 ≤ v8 then
 some (0, h0)
 else
 some (1, h0))))))))))))
set_option maxRecDepth 20000 in
set_option maxHeartbeats 4000000 in
theorem m_Mo_wears (l : Launch) (g : GG) (ad : Nat → Nat) (a1 : Int32) (a2 : Int32) (h0 : HP) : CM l g ad y_Mo_wears b_Mo_wears 3 (some .boolean) rm_Mo_wears [.ref (ad 34), .int a1, .int a2] h0 enI (f_Mo_wears a1 a2 h0) := by
  refine CM.of (by decide) (Nat.le_of_ble_eq_true rfl) (fun Q => ?_)
  show Jj _ _ (Vw (kx_Mo_wears l g Q) 0 0 0 _ _ _)
  refine J_sub [0, 1, 2] (lv' := [(0, .ref (ad 34)), (1, .int a1), (2, .int a2)]) rfl ?_
  unfold f_Mo_wears
  refine J_aload_n 0 rfl d_Mo_wears_0 ?_
  refine J_getR fo_Mo_16_34 rfl d_Mo_wears_1 ?_
  refine J_iload_n 1 rfl d_Mo_wears_4 ?_
  refine P_ia (by decide) rfl rfl d_Mo_wears_5 (fun v3 => ?_)
  refine J_if_ne 24 rfl d_Mo_wears_6 (fun c4 => ?_) (fun c4 => ?_)
  · refine J_aload_n 0 rfl d_Mo_wears_24 ?_
    refine J_getR fo_Mo_16_34 rfl d_Mo_wears_25 ?_
    refine J_iload_n 1 rfl d_Mo_wears_28 ?_
    refine P_ia (by decide) rfl rfl d_Mo_wears_29 (fun v5 => ?_)
    refine J_iconst (v := 2) rfl d_Mo_wears_30 ?_
    refine J_icmp_eq 51 rfl d_Mo_wears_31 (fun c6 => ?_) (fun c6 => ?_)
    · refine J_iconst (v := 1) rfl d_Mo_wears_51 ?_
      refine J_goto 56 rfl d_Mo_wears_52 ?_
      exact J_zret (Nat.le_refl _) (Nat.le_refl _) d_Mo_wears_56 rfl (zfit (Or.inr rfl)).1 (fun hx => hx)
    · refine J_iconst (v := 2) rfl d_Mo_wears_34 ?_
      refine J_aload_n 0 rfl d_Mo_wears_35 ?_
      refine J_getR fo_Mo_43_34 rfl d_Mo_wears_36 ?_
      refine J_iload_n 1 rfl d_Mo_wears_39 ?_
      refine P_ia (by decide) rfl rfl d_Mo_wears_40 (fun v7 => ?_)
      refine J_imul d_Mo_wears_41 ?_
      refine J_aload_n 0 rfl d_Mo_wears_42 ?_
      refine J_getR fo_Mo_46_34 rfl d_Mo_wears_43 ?_
      refine J_iload_n 1 rfl d_Mo_wears_46 ?_
      refine P_ia (by decide) rfl rfl d_Mo_wears_47 (fun v8 => ?_)
      refine J_icmp_le 55 rfl d_Mo_wears_48 (fun c9 => ?_) (fun c9 => ?_)
      · refine J_iconst (v := 0) rfl d_Mo_wears_55 ?_
        exact J_zret (Nat.le_refl _) (Nat.le_refl _) d_Mo_wears_56 rfl (zfit (Or.inl rfl)).1 (fun hx => hx)
      · refine J_iconst (v := 1) rfl d_Mo_wears_51 ?_
        refine J_goto 56 rfl d_Mo_wears_52 ?_
        exact J_zret (Nat.le_refl _) (Nat.le_refl _) d_Mo_wears_56 rfl (zfit (Or.inr rfl)).1 (fun hx => hx)
  · refine J_iload_n 2 rfl d_Mo_wears_9 ?_
    refine J_iconst (v := 3) rfl d_Mo_wears_10 ?_
    refine J_irem (by decide) d_Mo_wears_11 ?_
    refine J_iconst (v := 2) rfl d_Mo_wears_12 ?_
    refine J_icmp_ne 20 rfl d_Mo_wears_13 (fun c10 => ?_) (fun c10 => ?_)
    · refine J_iconst (v := 0) rfl d_Mo_wears_20 ?_
      refine J_goto 56 rfl d_Mo_wears_21 ?_
      exact J_zret (Nat.le_refl _) (Nat.le_refl _) d_Mo_wears_56 rfl (zfit (Or.inl rfl)).1 (fun hx => hx)
    · refine J_iconst (v := 1) rfl d_Mo_wears_16 ?_
      refine J_goto 56 rfl d_Mo_wears_17 ?_
      exact J_zret (Nat.le_refl _) (Nat.le_refl _) d_Mo_wears_56 rfl (zfit (Or.inr rfl)).1 (fun hx => hx)
def f_Mo_tires (a1 : Int32) (a2 : Int32) (h0 : HP) : Option (HP) :=
 ckk (inb a1 8) (ltt (rA h0 22 a1) (fun (v3 : Int32) =>
 bd1 ((if v3 ≤ 0 then
 ckk (inb a1 8) (ltt (rA h0 21 a1) (fun (v6 : Int32) =>
 ckk (inb a1 8) (ltt (rA h0 21 a1) (fun (v7 : Int32) =>
 ckk (inb a1 9) (ltt (rA h0 30 a1) (fun (v8 : Int32) =>
 bd1 ((if 4 * v8 ≤ v7 then
 some (0)
 else
 some (1)) : Option (Int32)) (fun (v9 : Int32) =>
 ckk (inb a1 8) (ltt (wA h0 21 a1 (v6 + v9)) (fun (h11 : HP) =>
 some (h11))))))))))
 else
 ckk (inb a1 8) (ltt (rA h0 21 a1) (fun (v12 : Int32) =>
 bd2 (f_Mo_wears a1 a2 h0) (fun (v13 : Int32) (h14 : HP) =>
 bd1 ((if v13 = 0 then
 some (0)
 else
 ckk (inb a1 8) (ltt (rA h14 21 a1) (fun (v17 : Int32) =>
 (if v17 ≤ 0 then
 some (0)
 else
 some (1))))) : Option (Int32)) (fun (v15 : Int32) =>
 ckk (inb a1 8) (ltt (wA h14 21 a1 (v12 - v15)) (fun (h19 : HP) =>
 some (h19)))))))) : Option (HP)) (fun (h4 : HP) =>
 bd1 (f_Mo_breaks a1 a2 h4) (fun (h20 : HP) =>
 some h20))))
set_option maxRecDepth 20000 in
set_option maxHeartbeats 4000000 in
theorem m_Mo_tires (l : Launch) (g : GG) (ad : Nat → Nat) (a1 : Int32) (a2 : Int32) (h0 : HP) : CM l g ad y_Mo_tires b_Mo_tires 3 none rm_Mo_tires [.ref (ad 34), .int a1, .int a2] h0 enV (f_Mo_tires a1 a2 h0) := by
  refine CM.of (by decide) (Nat.le_of_ble_eq_true rfl) (fun Q => ?_)
  show Jj _ _ (Vw (kx_Mo_tires l g Q) 0 0 0 _ _ _)
  refine J_sub [0, 1, 2] (lv' := [(0, .ref (ad 34)), (1, .int a1), (2, .int a2)]) rfl ?_
  unfold f_Mo_tires
  refine J_aload_n 0 rfl d_Mo_tires_0 ?_
  refine J_getR fo_Mo_43_34 rfl d_Mo_tires_1 ?_
  refine J_iload_n 1 rfl d_Mo_tires_4 ?_
  refine P_ia (by decide) rfl rfl d_Mo_tires_5 (fun v3 => ?_)
  refine J_bd1 (fun (h4 : HP) => Vw (kx_Mo_tires l g Q) 0 0 75 [(0, .ref (ad 34)), (1, .int a1), (2, .int a2)] [] (pic g ad h4)) ?_ (fun h4 => ?_)
  · refine J_if_le 44 rfl d_Mo_tires_6 (fun c5 => ?_) (fun c5 => ?_)
    · refine J_aload_n 0 rfl d_Mo_tires_44 ?_
      refine J_getR fo_Mo_46_34 rfl d_Mo_tires_45 ?_
      refine J_iload_n 1 rfl d_Mo_tires_48 ?_
      refine J_dup2 rfl rfl d_Mo_tires_49 ?_
      refine P_ia (by decide) rfl rfl d_Mo_tires_50 (fun v6 => ?_)
      refine J_aload_n 0 rfl d_Mo_tires_51 ?_
      refine J_getR fo_Mo_46_34 rfl d_Mo_tires_52 ?_
      refine J_iload_n 1 rfl d_Mo_tires_55 ?_
      refine P_ia (by decide) rfl rfl d_Mo_tires_56 (fun v7 => ?_)
      refine J_iconst (v := 4) rfl d_Mo_tires_57 ?_
      refine J_aload_n 0 rfl d_Mo_tires_58 ?_
      refine J_getR fo_Mo_19_34 rfl d_Mo_tires_59 ?_
      refine J_iload_n 1 rfl d_Mo_tires_62 ?_
      refine P_ia (by decide) rfl rfl d_Mo_tires_63 (fun v8 => ?_)
      refine J_imul d_Mo_tires_64 ?_
      refine J_bd1 (fun (v9 : Int32) => Vw (kx_Mo_tires l g Q) 0 0 73 [(0, .ref (ad 34)), (1, .int a1), (2, .int a2)] [.int v9, .int v6, .int a1, .ref (ad 21)] (pic g ad h0)) ?_ (fun v9 => ?_)
      · refine J_icmp_ge 72 rfl d_Mo_tires_65 (fun c10 => ?_) (fun c10 => ?_)
        · refine J_iconst (v := 0) rfl d_Mo_tires_72 ?_
          exact J_exit [0, 1, 2] rfl (fun hx => hx)
        · refine J_iconst (v := 1) rfl d_Mo_tires_68 ?_
          refine J_goto 73 rfl d_Mo_tires_69 ?_
          exact J_exit [0, 1, 2] rfl (fun hx => hx)
      · refine J_iadd d_Mo_tires_73 ?_
        refine P_wa (by decide) rfl rfl d_Mo_tires_74 (fun h11 => ?_)
        exact J_exit [0, 1, 2] rfl (fun hx => hx)
    · refine J_aload_n 0 rfl d_Mo_tires_9 ?_
      refine J_getR fo_Mo_46_34 rfl d_Mo_tires_10 ?_
      refine J_iload_n 1 rfl d_Mo_tires_13 ?_
      refine J_dup2 rfl rfl d_Mo_tires_14 ?_
      refine P_ia (by decide) rfl rfl d_Mo_tires_15 (fun v12 => ?_)
      refine J_aload_n 0 rfl d_Mo_tires_16 ?_
      refine J_iload_n 1 rfl d_Mo_tires_17 ?_
      refine J_iload_n 2 rfl d_Mo_tires_18 ?_
      refine J_callVi (m_Mo_wears l g ad _ _ _) ok_Mo_wears rc_34 wi_Mo_wears wl_Mo_Mo_wears wk_Mo_216 ⟨rfl, rfl, Nat.le_of_ble_eq_true rfl, Nat.le_of_ble_eq_true rfl⟩ ⟨Nat.zero_le _, Nat.zero_le _⟩ (rest := [.int v12, .int a1, .ref (ad 21)]) rfl rfl (Nat.le_of_ble_eq_true rfl) d_Mo_tires_19 (fun v13 h14 => ?_)
      refine J_bd1 (fun (v15 : Int32) => Vw (kx_Mo_tires l g Q) 0 0 39 [(0, .ref (ad 34)), (1, .int a1), (2, .int a2)] [.int v15, .int v12, .int a1, .ref (ad 21)] (pic g ad h14)) ?_ (fun v15 => ?_)
      · refine J_if_eq 38 rfl d_Mo_tires_22 (fun c16 => ?_) (fun c16 => ?_)
        · refine J_iconst (v := 0) rfl d_Mo_tires_38 ?_
          exact J_exit [0, 1, 2] rfl (fun hx => hx)
        · refine J_aload_n 0 rfl d_Mo_tires_25 ?_
          refine J_getR fo_Mo_46_34 rfl d_Mo_tires_26 ?_
          refine J_iload_n 1 rfl d_Mo_tires_29 ?_
          refine P_ia (by decide) rfl rfl d_Mo_tires_30 (fun v17 => ?_)
          refine J_if_le 38 rfl d_Mo_tires_31 (fun c18 => ?_) (fun c18 => ?_)
          · refine J_iconst (v := 0) rfl d_Mo_tires_38 ?_
            exact J_exit [0, 1, 2] rfl (fun hx => hx)
          · refine J_iconst (v := 1) rfl d_Mo_tires_34 ?_
            refine J_goto 39 rfl d_Mo_tires_35 ?_
            exact J_exit [0, 1, 2] rfl (fun hx => hx)
      · refine J_isub d_Mo_tires_39 ?_
        refine P_wa (by decide) rfl rfl d_Mo_tires_40 (fun h19 => ?_)
        refine J_goto 75 rfl d_Mo_tires_41 ?_
        exact J_exit [0, 1, 2] rfl (fun hx => hx)
  · refine J_aload_n 0 rfl d_Mo_tires_75 ?_
    refine J_iload_n 1 rfl d_Mo_tires_76 ?_
    refine J_iload_n 2 rfl d_Mo_tires_77 ?_
    refine J_callVv (m_Mo_breaks l g ad _ _ _) ok_Mo_breaks rc_34 wi_Mo_breaks wl_Mo_Mo_breaks wk_Mo_201 ⟨rfl, rfl, Nat.le_of_ble_eq_true rfl, Nat.le_of_ble_eq_true rfl⟩ ⟨Nat.zero_le _, Nat.zero_le _⟩ (rest := []) rfl rfl (Nat.le_of_ble_eq_true rfl) d_Mo_tires_78 (fun h20 => ?_)
    exact J_vret (Nat.le_refl _) (Nat.le_refl _) d_Mo_tires_81 rfl (fun hx => hx)
def f_Mo_ends (a1 : Int32) (a2 : Int32) (h0 : HP) : Option (HP) :=
 bd1 ((if a2 - a2 / 8 * 8 = 7 then
 ckk (inb a1 8) (ltt (rA h0 20 a1) (fun (v5 : Int32) =>
 (if v5 = 0 then
 ckk (inb a1 8) (ltt (rA h0 18 a1) (fun (v7 : Int32) =>
 ckk (inb a1 8) (ltt (rA h0 22 a1) (fun (v8 : Int32) =>
 ckk (inb a1 8) (ltt (wA h0 18 a1 (v7 + v8)) (fun (h9 : HP) =>
 ckk (inb a1 8) (ltt (wA h9 22 a1 0) (fun (h10 : HP) =>
 some (h10)))))))))
 else
 some (h0))))
 else
 some (h0)) : Option (HP)) (fun (h3 : HP) =>
 ltt ((8 * a2) + a1) (fun (v11 : Int32) =>
 ckk (inb a1 8) (ltt (rA h3 22 a1) (fun (v12 : Int32) =>
 ckk (inb v11 192) (ltt (wA h3 16 v11 v12) (fun (h13 : HP) =>
 ckk (inb a1 8) (ltt (rA h13 21 a1) (fun (v14 : Int32) =>
 ckk (inb v11 192) (ltt (wA h13 15 v11 v14) (fun (h15 : HP) =>
 ckk (inb a1 8) (ltt (rA h15 20 a1) (fun (v16 : Int32) =>
 bd1 ((if v16 ≤ 0 then
 some (0)
 else
 some (1)) : Option (Int32)) (fun (v17 : Int32) =>
 ckk (inb v11 192) (ltt (wA h15 14 v11 v17) (fun (h19 : HP) =>
 ckk (inb a1 8) (ltt (rA h19 19 a1) (fun (v20 : Int32) =>
 ckk (inb v11 192) (ltt (wA h19 13 v11 v20) (fun (h21 : HP) =>
 ckk (inb a1 8) (ltt (rA h21 18 a1) (fun (v22 : Int32) =>
 ckk (inb v11 192) (ltt (wA h21 12 v11 v22) (fun (h23 : HP) =>
 ckk (inb a1 8) (ltt (rA h23 17 a1) (fun (v24 : Int32) =>
 ckk (inb v11 192) (ltt (wA h23 11 v11 v24) (fun (h25 : HP) =>
 ckk (inb a1 8) (ltt (rA h25 20 a1) (fun (v26 : Int32) =>
 ckk (inb a1 8) (ltt (rA h25 20 a1) (fun (v27 : Int32) =>
 bd1 ((if v27 ≤ 0 then
 some (0)
 else
 some (1)) : Option (Int32)) (fun (v28 : Int32) =>
 ckk (inb a1 8) (ltt (wA h25 20 a1 (v26 - v28)) (fun (h30 : HP) =>
 some h30))))))))))))))))))))))))))))))))))
set_option maxRecDepth 20000 in
set_option maxHeartbeats 4000000 in
theorem m_Mo_ends (l : Launch) (g : GG) (ad : Nat → Nat) (a1 : Int32) (a2 : Int32) (h0 : HP) : CM l g ad y_Mo_ends b_Mo_ends 4 none rm_Mo_ends [.ref (ad 34), .int a1, .int a2] h0 enV (f_Mo_ends a1 a2 h0) := by
  refine CM.of (by decide) (Nat.le_of_ble_eq_true rfl) (fun Q => ?_)
  show Jj _ _ (Vw (kx_Mo_ends l g Q) 0 0 0 _ _ _)
  refine J_sub [0, 1, 2] (lv' := [(0, .ref (ad 34)), (1, .int a1), (2, .int a2)]) rfl ?_
  unfold f_Mo_ends
  refine J_iload_n 2 rfl d_Mo_ends_0 ?_
  refine J_bipush (v := 8) rfl d_Mo_ends_1 ?_
  refine J_irem (by decide) d_Mo_ends_3 ?_
  refine J_bipush (v := 7) rfl d_Mo_ends_4 ?_
  refine J_bd1 (fun (h3 : HP) => Vw (kx_Mo_ends l g Q) 0 0 40 [(0, .ref (ad 34)), (1, .int a1), (2, .int a2)] [] (pic g ad h3)) ?_ (fun h3 => ?_)
  · refine J_icmp_ne 40 rfl d_Mo_ends_6 (fun c4 => ?_) (fun c4 => ?_)
    · exact J_exit [0, 1, 2] rfl (fun hx => hx)
    · refine J_aload_n 0 rfl d_Mo_ends_9 ?_
      refine J_getR fo_Mo_49_34 rfl d_Mo_ends_10 ?_
      refine J_iload_n 1 rfl d_Mo_ends_13 ?_
      refine P_ia (by decide) rfl rfl d_Mo_ends_14 (fun v5 => ?_)
      refine J_if_ne 40 rfl d_Mo_ends_15 (fun c6 => ?_) (fun c6 => ?_)
      · exact J_exit [0, 1, 2] rfl (fun hx => hx)
      · refine J_aload_n 0 rfl d_Mo_ends_18 ?_
        refine J_getR fo_Mo_55_34 rfl d_Mo_ends_19 ?_
        refine J_iload_n 1 rfl d_Mo_ends_22 ?_
        refine J_dup2 rfl rfl d_Mo_ends_23 ?_
        refine P_ia (by decide) rfl rfl d_Mo_ends_24 (fun v7 => ?_)
        refine J_aload_n 0 rfl d_Mo_ends_25 ?_
        refine J_getR fo_Mo_43_34 rfl d_Mo_ends_26 ?_
        refine J_iload_n 1 rfl d_Mo_ends_29 ?_
        refine P_ia (by decide) rfl rfl d_Mo_ends_30 (fun v8 => ?_)
        refine J_iadd d_Mo_ends_31 ?_
        refine P_wa (by decide) rfl rfl d_Mo_ends_32 (fun h9 => ?_)
        refine J_aload_n 0 rfl d_Mo_ends_33 ?_
        refine J_getR fo_Mo_43_34 rfl d_Mo_ends_34 ?_
        refine J_iload_n 1 rfl d_Mo_ends_37 ?_
        refine J_iconst (v := 0) rfl d_Mo_ends_38 ?_
        refine P_wa (by decide) rfl rfl d_Mo_ends_39 (fun h10 => ?_)
        exact J_exit [0, 1, 2] rfl (fun hx => hx)
  · refine J_bipush (v := 8) rfl d_Mo_ends_40 ?_
    refine J_iload_n 2 rfl d_Mo_ends_42 ?_
    refine J_imul d_Mo_ends_43 ?_
    refine J_iload_n 1 rfl d_Mo_ends_44 ?_
    refine J_iadd d_Mo_ends_45 ?_
    refine P_ist_n (lv' := fun v11 => [(3, .int v11), (0, .ref (ad 34)), (1, .int a1), (2, .int a2)]) 3 rfl (Nat.le_of_ble_eq_true rfl) (fun _ => rfl) d_Mo_ends_46 (fun v11 => ?_)
    refine J_aload_n 1 rfl d_Mo_ends_47 ?_
    refine J_getR fo_Mo_61_34 rfl d_Mo_ends_48 ?_
    refine J_iload_n 0 rfl d_Mo_ends_51 ?_
    refine J_aload_n 1 rfl d_Mo_ends_52 ?_
    refine J_getR fo_Mo_43_34 rfl d_Mo_ends_53 ?_
    refine J_iload_n 2 rfl d_Mo_ends_56 ?_
    refine P_ia (by decide) rfl rfl d_Mo_ends_57 (fun v12 => ?_)
    refine P_wa (by decide) rfl rfl d_Mo_ends_58 (fun h13 => ?_)
    refine J_aload_n 1 rfl d_Mo_ends_59 ?_
    refine J_getR fo_Mo_64_34 rfl d_Mo_ends_60 ?_
    refine J_iload_n 0 rfl d_Mo_ends_63 ?_
    refine J_aload_n 1 rfl d_Mo_ends_64 ?_
    refine J_getR fo_Mo_46_34 rfl d_Mo_ends_65 ?_
    refine J_iload_n 2 rfl d_Mo_ends_68 ?_
    refine P_ia (by decide) rfl rfl d_Mo_ends_69 (fun v14 => ?_)
    refine P_wa (by decide) rfl rfl d_Mo_ends_70 (fun h15 => ?_)
    refine J_aload_n 1 rfl d_Mo_ends_71 ?_
    refine J_getR fo_Mo_67_34 rfl d_Mo_ends_72 ?_
    refine J_iload_n 0 rfl d_Mo_ends_75 ?_
    refine J_aload_n 1 rfl d_Mo_ends_76 ?_
    refine J_getR fo_Mo_49_34 rfl d_Mo_ends_77 ?_
    refine J_iload_n 2 rfl d_Mo_ends_80 ?_
    refine P_ia (by decide) rfl rfl d_Mo_ends_81 (fun v16 => ?_)
    refine J_bd1 (fun (v17 : Int32) => Vw (kx_Mo_ends l g Q) 0 0 90 [(3, .int v11), (0, .ref (ad 34)), (1, .int a1), (2, .int a2)] [.int v17, .int v11, .ref (ad 14)] (pic g ad h15)) ?_ (fun v17 => ?_)
    · refine J_if_le 89 rfl d_Mo_ends_82 (fun c18 => ?_) (fun c18 => ?_)
      · refine J_iconst (v := 0) rfl d_Mo_ends_89 ?_
        exact J_exit [0, 1, 2, 3] rfl (fun hx => hx)
      · refine J_iconst (v := 1) rfl d_Mo_ends_85 ?_
        refine J_goto 90 rfl d_Mo_ends_86 ?_
        exact J_exit [0, 1, 2, 3] rfl (fun hx => hx)
    · refine P_wa (by decide) rfl rfl d_Mo_ends_90 (fun h19 => ?_)
      refine J_aload_n 1 rfl d_Mo_ends_91 ?_
      refine J_getR fo_Mo_70_34 rfl d_Mo_ends_92 ?_
      refine J_iload_n 0 rfl d_Mo_ends_95 ?_
      refine J_aload_n 1 rfl d_Mo_ends_96 ?_
      refine J_getR fo_Mo_52_34 rfl d_Mo_ends_97 ?_
      refine J_iload_n 2 rfl d_Mo_ends_100 ?_
      refine P_ia (by decide) rfl rfl d_Mo_ends_101 (fun v20 => ?_)
      refine P_wa (by decide) rfl rfl d_Mo_ends_102 (fun h21 => ?_)
      refine J_aload_n 1 rfl d_Mo_ends_103 ?_
      refine J_getR fo_Mo_73_34 rfl d_Mo_ends_104 ?_
      refine J_iload_n 0 rfl d_Mo_ends_107 ?_
      refine J_aload_n 1 rfl d_Mo_ends_108 ?_
      refine J_getR fo_Mo_55_34 rfl d_Mo_ends_109 ?_
      refine J_iload_n 2 rfl d_Mo_ends_112 ?_
      refine P_ia (by decide) rfl rfl d_Mo_ends_113 (fun v22 => ?_)
      refine P_wa (by decide) rfl rfl d_Mo_ends_114 (fun h23 => ?_)
      refine J_aload_n 1 rfl d_Mo_ends_115 ?_
      refine J_getR fo_Mo_76_34 rfl d_Mo_ends_116 ?_
      refine J_iload_n 0 rfl d_Mo_ends_119 ?_
      refine J_aload_n 1 rfl d_Mo_ends_120 ?_
      refine J_getR fo_Mo_58_34 rfl d_Mo_ends_121 ?_
      refine J_iload_n 2 rfl d_Mo_ends_124 ?_
      refine P_ia (by decide) rfl rfl d_Mo_ends_125 (fun v24 => ?_)
      refine P_wa (by decide) rfl rfl d_Mo_ends_126 (fun h25 => ?_)
      refine J_aload_n 1 rfl d_Mo_ends_127 ?_
      refine J_getR fo_Mo_49_34 rfl d_Mo_ends_128 ?_
      refine J_iload_n 2 rfl d_Mo_ends_131 ?_
      refine J_dup2 rfl rfl d_Mo_ends_132 ?_
      refine P_ia (by decide) rfl rfl d_Mo_ends_133 (fun v26 => ?_)
      refine J_aload_n 1 rfl d_Mo_ends_134 ?_
      refine J_getR fo_Mo_49_34 rfl d_Mo_ends_135 ?_
      refine J_iload_n 2 rfl d_Mo_ends_138 ?_
      refine P_ia (by decide) rfl rfl d_Mo_ends_139 (fun v27 => ?_)
      refine J_bd1 (fun (v28 : Int32) => Vw (kx_Mo_ends l g Q) 0 0 148 [(3, .int v11), (0, .ref (ad 34)), (1, .int a1), (2, .int a2)] [.int v28, .int v26, .int a1, .ref (ad 20)] (pic g ad h25)) ?_ (fun v28 => ?_)
      · refine J_if_le 147 rfl d_Mo_ends_140 (fun c29 => ?_) (fun c29 => ?_)
        · refine J_iconst (v := 0) rfl d_Mo_ends_147 ?_
          exact J_exit [0, 1, 2, 3] rfl (fun hx => hx)
        · refine J_iconst (v := 1) rfl d_Mo_ends_143 ?_
          refine J_goto 148 rfl d_Mo_ends_144 ?_
          exact J_exit [0, 1, 2, 3] rfl (fun hx => hx)
      · refine J_isub d_Mo_ends_148 ?_
        refine P_wa (by decide) rfl rfl d_Mo_ends_149 (fun h30 => ?_)
        exact J_vret (Nat.le_refl _) (Nat.le_refl _) d_Mo_ends_150 rfl (fun hx => hx)
def lp_Mo_goesBy_12 (a1 : Int32) : Nat → Int32 → HP → Option (Int32 × HP)
 | 0, _, _ => none
 | fu + 1, v4, h5 =>
 ltt (rI h5 34 2) (fun (v6 : Int32) =>
 (if v6 ≤ v4 then
 some (v4, h5)
 else
 ckk (inb v4 8) (ltt (rA h5 20 v4) (fun (v8 : Int32) =>
 bd1 ((if v8 = 0 then
 bd1 (f_Mo_tires v4 a1 h5) (fun (h11 : HP) =>
 some (h11))
 else
 some (h5)) : Option (HP)) (fun (h9 : HP) =>
 ltt (v4 + 1) (fun (v12 : Int32) =>
 lp_Mo_goesBy_12 a1 fu v12 h9))))))
def lp_Mo_goesBy_43 (a1 : Int32) : Nat → Int32 → HP → Option (Int32 × HP)
 | 0, _, _ => none
 | fu + 1, v15, h16 =>
 ltt (rI h16 34 2) (fun (v17 : Int32) =>
 (if v17 ≤ v15 then
 some (v15, h16)
 else
 bd1 (f_Mo_ends v15 a1 h16) (fun (h19 : HP) =>
 ltt (v15 + 1) (fun (v20 : Int32) =>
 lp_Mo_goesBy_43 a1 fu v20 h19))))
def f_Mo_goesBy (a1 : Int32) (h0 : HP) : Option (HP) :=
 bd1 (f_Mo_bears a1 h0) (fun (h2 : HP) =>
 bd1 (f_Mo_comeStraws a1 h2) (fun (h3 : HP) =>
 bd2 (lp_Mo_goesBy_12 a1 400 0 h3) (fun (v13 : Int32) (h14 : HP) =>
 bd2 (lp_Mo_goesBy_43 a1 400 0 h14) (fun (v21 : Int32) (h22 : HP) =>
 some h22))))
set_option maxRecDepth 20000 in
set_option maxHeartbeats 4000000 in
theorem mlp_Mo_goesBy_12 (l : Launch) (g : GG) (ad : Nat → Nat) (Q : Option Value → va_W → Prop) (a1 : Int32) : ∀ (fu : Nat) (v4 : Int32) (h5 : HP), Jj (fun q : Int32 × HP => Vw (kx_Mo_goesBy l g Q) 0 0 41 [(2, .int (q.1)), (0, .ref (ad 34)), (1, .int a1)] [] (pic g ad q.2)) (lp_Mo_goesBy_12 a1 fu v4 h5) (Vw (kx_Mo_goesBy l g Q) 0 0 12 [(2, .int v4), (0, .ref (ad 34)), (1, .int a1)] [] (pic g ad h5)) := by
  intro fu
  induction fu with
  | zero =>
    intro v4 h5
    exact J_none
  | succ fu ih =>
    intro v4 h5
    rw [lp_Mo_goesBy_12]
    refine J_iload_n 0 rfl d_Mo_goesBy_12 ?_
    refine J_aload_n 1 rfl d_Mo_goesBy_13 ?_
    refine P_gI fo_Mo_127_34 rfl d_Mo_goesBy_14 (fun v6 => ?_)
    refine J_icmp_ge 41 rfl d_Mo_goesBy_17 (fun c7 => ?_) (fun c7 => ?_)
    · exact J_exit [0, 1, 2] rfl (fun hx => hx)
    · refine J_aload_n 1 rfl d_Mo_goesBy_20 ?_
      refine J_getR fo_Mo_49_34 rfl d_Mo_goesBy_21 ?_
      refine J_iload_n 0 rfl d_Mo_goesBy_24 ?_
      refine P_ia (by decide) rfl rfl d_Mo_goesBy_25 (fun v8 => ?_)
      refine J_bd1 (fun (h9 : HP) => Vw (kx_Mo_goesBy l g Q) 0 0 35 [(2, .int v4), (0, .ref (ad 34)), (1, .int a1)] [] (pic g ad h9)) ?_ (fun h9 => ?_)
      · refine J_if_ne 35 rfl d_Mo_goesBy_26 (fun c10 => ?_) (fun c10 => ?_)
        · exact J_exit [0, 1, 2] rfl (fun hx => hx)
        · refine J_aload_n 1 rfl d_Mo_goesBy_29 ?_
          refine J_iload_n 0 rfl d_Mo_goesBy_30 ?_
          refine J_iload_n 2 rfl d_Mo_goesBy_31 ?_
          refine J_callVv (m_Mo_tires l g ad _ _ _) ok_Mo_tires rc_34 wi_Mo_tires wl_Mo_Mo_tires wk_Mo_226 ⟨rfl, rfl, Nat.le_of_ble_eq_true rfl, Nat.le_of_ble_eq_true rfl⟩ ⟨Nat.zero_le _, Nat.zero_le _⟩ (rest := []) rfl rfl (Nat.le_of_ble_eq_true rfl) d_Mo_goesBy_32 (fun h11 => ?_)
          exact J_exit [0, 1, 2] rfl (fun hx => hx)
      · refine P_inc (w := 1) (lv' := fun v12 => [(2, .int v12), (0, .ref (ad 34)), (1, .int a1)]) 0 rfl rfl (Nat.le_of_ble_eq_true rfl) (fun _ => rfl) d_Mo_goesBy_35 (fun v12 => ?_)
        refine J_goto 12 rfl d_Mo_goesBy_38 ?_
        exact J_sub [0, 1, 2] rfl (ih _ _)
set_option maxRecDepth 20000 in
set_option maxHeartbeats 4000000 in
theorem mlp_Mo_goesBy_43 (l : Launch) (g : GG) (ad : Nat → Nat) (Q : Option Value → va_W → Prop) (a1 : Int32) : ∀ (fu : Nat) (v15 : Int32) (h16 : HP), Jj (fun q : Int32 × HP => Vw (kx_Mo_goesBy l g Q) 0 0 63 [(2, .int (q.1)), (0, .ref (ad 34)), (1, .int a1)] [] (pic g ad q.2)) (lp_Mo_goesBy_43 a1 fu v15 h16) (Vw (kx_Mo_goesBy l g Q) 0 0 43 [(2, .int v15), (0, .ref (ad 34)), (1, .int a1)] [] (pic g ad h16)) := by
  intro fu
  induction fu with
  | zero =>
    intro v15 h16
    exact J_none
  | succ fu ih =>
    intro v15 h16
    rw [lp_Mo_goesBy_43]
    refine J_iload_n 0 rfl d_Mo_goesBy_43 ?_
    refine J_aload_n 1 rfl d_Mo_goesBy_44 ?_
    refine P_gI fo_Mo_127_34 rfl d_Mo_goesBy_45 (fun v17 => ?_)
    refine J_icmp_ge 63 rfl d_Mo_goesBy_48 (fun c18 => ?_) (fun c18 => ?_)
    · exact J_exit [0, 1, 2] rfl (fun hx => hx)
    · refine J_aload_n 1 rfl d_Mo_goesBy_51 ?_
      refine J_iload_n 0 rfl d_Mo_goesBy_52 ?_
      refine J_iload_n 2 rfl d_Mo_goesBy_53 ?_
      refine J_callVv (m_Mo_ends l g ad _ _ _) ok_Mo_ends rc_34 wi_Mo_ends wl_Mo_Mo_ends wk_Mo_229 ⟨rfl, rfl, Nat.le_of_ble_eq_true rfl, Nat.le_of_ble_eq_true rfl⟩ ⟨Nat.zero_le _, Nat.zero_le _⟩ (rest := []) rfl rfl (Nat.le_of_ble_eq_true rfl) d_Mo_goesBy_54 (fun h19 => ?_)
      refine P_inc (w := 1) (lv' := fun v20 => [(2, .int v20), (0, .ref (ad 34)), (1, .int a1)]) 0 rfl rfl (Nat.le_of_ble_eq_true rfl) (fun _ => rfl) d_Mo_goesBy_57 (fun v20 => ?_)
      refine J_goto 43 rfl d_Mo_goesBy_60 ?_
      exact J_sub [0, 1, 2] rfl (ih _ _)
set_option maxRecDepth 20000 in
set_option maxHeartbeats 4000000 in
theorem m_Mo_goesBy (l : Launch) (g : GG) (ad : Nat → Nat) (a1 : Int32) (h0 : HP) : CM l g ad y_Mo_goesBy b_Mo_goesBy 3 none rm_Mo_goesBy [.ref (ad 34), .int a1] h0 enV (f_Mo_goesBy a1 h0) := by
  refine CM.of (by decide) (Nat.le_of_ble_eq_true rfl) (fun Q => ?_)
  show Jj _ _ (Vw (kx_Mo_goesBy l g Q) 0 0 0 _ _ _)
  refine J_sub [0, 1] (lv' := [(0, .ref (ad 34)), (1, .int a1)]) rfl ?_
  unfold f_Mo_goesBy
  refine J_aload_n 0 rfl d_Mo_goesBy_0 ?_
  refine J_iload_n 1 rfl d_Mo_goesBy_1 ?_
  refine J_callVv (m_Mo_bears l g ad _ _) ok_Mo_bears rc_34 wi_Mo_bears wl_Mo_Mo_bears wk_Mo_219 ⟨rfl, rfl, Nat.le_of_ble_eq_true rfl, Nat.le_of_ble_eq_true rfl⟩ ⟨Nat.zero_le _, Nat.zero_le _⟩ (rest := []) rfl rfl (Nat.le_of_ble_eq_true rfl) d_Mo_goesBy_2 (fun h2 => ?_)
  refine J_aload_n 0 rfl d_Mo_goesBy_5 ?_
  refine J_iload_n 1 rfl d_Mo_goesBy_6 ?_
  refine J_callVv (m_Mo_comeStraws l g ad _ _) ok_Mo_comeStraws rc_34 wi_Mo_comeStraws wl_Mo_Mo_comeStraws wk_Mo_223 ⟨rfl, rfl, Nat.le_of_ble_eq_true rfl, Nat.le_of_ble_eq_true rfl⟩ ⟨Nat.zero_le _, Nat.zero_le _⟩ (rest := []) rfl rfl (Nat.le_of_ble_eq_true rfl) d_Mo_goesBy_7 (fun h3 => ?_)
  refine J_iconst (v := 0) rfl d_Mo_goesBy_10 ?_
  refine J_istore_n (lv' := [(2, .int 0), (0, .ref (ad 34)), (1, .int a1)]) 2 rfl (Nat.le_of_ble_eq_true rfl) rfl d_Mo_goesBy_11 ?_
  refine J_bd2 (fun (v13 : Int32) (h14 : HP) => Vw (kx_Mo_goesBy l g Q) 0 0 41 [(2, .int v13), (0, .ref (ad 34)), (1, .int a1)] [] (pic g ad h14)) ?_ (fun v13 h14 => ?_)
  · exact J_sub [0, 1, 2] rfl (mlp_Mo_goesBy_12 l g ad Q a1 400 _ _)
  · refine J_iconst (v := 0) rfl d_Mo_goesBy_41 ?_
    refine J_istore_n (lv' := [(2, .int 0), (0, .ref (ad 34)), (1, .int a1)]) 2 rfl (Nat.le_of_ble_eq_true rfl) rfl d_Mo_goesBy_42 ?_
    refine J_bd2 (fun (v21 : Int32) (h22 : HP) => Vw (kx_Mo_goesBy l g Q) 0 0 63 [(2, .int v21), (0, .ref (ad 34)), (1, .int a1)] [] (pic g ad h22)) ?_ (fun v21 h22 => ?_)
    · exact J_sub [0, 1, 2] rfl (mlp_Mo_goesBy_43 l g ad Q a1 400 _ _)
    · exact J_vret (Nat.le_refl _) (Nat.le_refl _) d_Mo_goesBy_63 rfl (fun hx => hx)
def lp_Mo_runs_2 : Nat → Int32 → HP → Option (Int32 × HP)
 | 0, _, _ => none
 | fu + 1, v1, h2 =>
 ltt (rI h2 34 2) (fun (v3 : Int32) =>
 (if v3 ≤ v1 then
 some (v1, h2)
 else
 ckk (inb v1 8) (ltt (wA h2 22 v1 0) (fun (h5 : HP) =>
 ckk (inb v1 9) (ltt (rA h5 30 v1) (fun (v6 : Int32) =>
 ckk (inb v1 8) (ltt (wA h5 21 v1 (4 * v6)) (fun (h7 : HP) =>
 ckk (inb v1 8) (ltt (wA h7 20 v1 0) (fun (h8 : HP) =>
 ckk (inb v1 8) (ltt (wA h8 19 v1 0) (fun (h9 : HP) =>
 ckk (inb v1 8) (ltt (wA h9 18 v1 0) (fun (h10 : HP) =>
 ckk (inb v1 8) (ltt (wA h10 17 v1 0) (fun (h11 : HP) =>
 ltt (v1 + 1) (fun (v12 : Int32) =>
 lp_Mo_runs_2 fu v12 h11)))))))))))))))))
def lp_Mo_runs_82 : Nat → Int32 → HP → Option (Int32 × HP)
 | 0, _, _ => none
 | fu + 1, v18, h19 =>
 (if 24 ≤ v18 then
 some (v18, h19)
 else
 ltt (sI h19 34 16 0) (fun (h21 : HP) =>
 bd1 (f_Mo_goesBy v18 h21) (fun (h22 : HP) =>
 ltt (rI h22 34 16) (fun (v23 : Int32) =>
 bd1 ((if v23 = 0 then
 some (0)
 else
 some (1)) : Option (Int32)) (fun (v24 : Int32) =>
 ckk (inb v18 24) (ltt (wA h22 10 v18 v24) (fun (h26 : HP) =>
 ltt (v18 + 1) (fun (v27 : Int32) =>
 lp_Mo_runs_82 fu v27 h26))))))))
def f_Mo_runs (h0 : HP) : Option (HP) :=
 bd2 (lp_Mo_runs_2 400 0 h0) (fun (v13 : Int32) (h14 : HP) =>
 ltt (sI h14 34 23 0) (fun (h15 : HP) =>
 ltt (sI h15 34 24 (-1)) (fun (h16 : HP) =>
 ltt (sI h16 34 25 (-1)) (fun (h17 : HP) =>
 bd2 (lp_Mo_runs_82 400 0 h17) (fun (v28 : Int32) (h29 : HP) =>
 some h29)))))
set_option maxRecDepth 20000 in
set_option maxHeartbeats 4000000 in
theorem mlp_Mo_runs_2 (l : Launch) (g : GG) (ad : Nat → Nat) (Q : Option Value → va_W → Prop) : ∀ (fu : Nat) (v1 : Int32) (h2 : HP), Jj (fun q : Int32 × HP => Vw (kx_Mo_runs l g Q) 0 0 65 [(1, .int (q.1)), (0, .ref (ad 34))] [] (pic g ad q.2)) (lp_Mo_runs_2 fu v1 h2) (Vw (kx_Mo_runs l g Q) 0 0 2 [(1, .int v1), (0, .ref (ad 34))] [] (pic g ad h2)) := by
  intro fu
  induction fu with
  | zero =>
    intro v1 h2
    exact J_none
  | succ fu ih =>
    intro v1 h2
    rw [lp_Mo_runs_2]
    refine J_iload_n 0 rfl d_Mo_runs_2 ?_
    refine J_aload_n 1 rfl d_Mo_runs_3 ?_
    refine P_gI fo_Mo_127_34 rfl d_Mo_runs_4 (fun v3 => ?_)
    refine J_icmp_ge 65 rfl d_Mo_runs_7 (fun c4 => ?_) (fun c4 => ?_)
    · exact J_exit [0, 1] rfl (fun hx => hx)
    · refine J_aload_n 1 rfl d_Mo_runs_10 ?_
      refine J_getR fo_Mo_43_34 rfl d_Mo_runs_11 ?_
      refine J_iload_n 0 rfl d_Mo_runs_14 ?_
      refine J_iconst (v := 0) rfl d_Mo_runs_15 ?_
      refine P_wa (by decide) rfl rfl d_Mo_runs_16 (fun h5 => ?_)
      refine J_aload_n 1 rfl d_Mo_runs_17 ?_
      refine J_getR fo_Mo_46_34 rfl d_Mo_runs_18 ?_
      refine J_iload_n 0 rfl d_Mo_runs_21 ?_
      refine J_iconst (v := 4) rfl d_Mo_runs_22 ?_
      refine J_aload_n 1 rfl d_Mo_runs_23 ?_
      refine J_getR fo_Mo_19_34 rfl d_Mo_runs_24 ?_
      refine J_iload_n 0 rfl d_Mo_runs_27 ?_
      refine P_ia (by decide) rfl rfl d_Mo_runs_28 (fun v6 => ?_)
      refine J_imul d_Mo_runs_29 ?_
      refine P_wa (by decide) rfl rfl d_Mo_runs_30 (fun h7 => ?_)
      refine J_aload_n 1 rfl d_Mo_runs_31 ?_
      refine J_getR fo_Mo_49_34 rfl d_Mo_runs_32 ?_
      refine J_iload_n 0 rfl d_Mo_runs_35 ?_
      refine J_iconst (v := 0) rfl d_Mo_runs_36 ?_
      refine P_wa (by decide) rfl rfl d_Mo_runs_37 (fun h8 => ?_)
      refine J_aload_n 1 rfl d_Mo_runs_38 ?_
      refine J_getR fo_Mo_52_34 rfl d_Mo_runs_39 ?_
      refine J_iload_n 0 rfl d_Mo_runs_42 ?_
      refine J_iconst (v := 0) rfl d_Mo_runs_43 ?_
      refine P_wa (by decide) rfl rfl d_Mo_runs_44 (fun h9 => ?_)
      refine J_aload_n 1 rfl d_Mo_runs_45 ?_
      refine J_getR fo_Mo_55_34 rfl d_Mo_runs_46 ?_
      refine J_iload_n 0 rfl d_Mo_runs_49 ?_
      refine J_iconst (v := 0) rfl d_Mo_runs_50 ?_
      refine P_wa (by decide) rfl rfl d_Mo_runs_51 (fun h10 => ?_)
      refine J_aload_n 1 rfl d_Mo_runs_52 ?_
      refine J_getR fo_Mo_58_34 rfl d_Mo_runs_53 ?_
      refine J_iload_n 0 rfl d_Mo_runs_56 ?_
      refine J_iconst (v := 0) rfl d_Mo_runs_57 ?_
      refine P_wa (by decide) rfl rfl d_Mo_runs_58 (fun h11 => ?_)
      refine P_inc (w := 1) (lv' := fun v12 => [(1, .int v12), (0, .ref (ad 34))]) 0 rfl rfl (Nat.le_of_ble_eq_true rfl) (fun _ => rfl) d_Mo_runs_59 (fun v12 => ?_)
      refine J_goto 2 rfl d_Mo_runs_62 ?_
      exact J_sub [0, 1] rfl (ih _ _)
set_option maxRecDepth 20000 in
set_option maxHeartbeats 4000000 in
theorem mlp_Mo_runs_82 (l : Launch) (g : GG) (ad : Nat → Nat) (Q : Option Value → va_W → Prop) : ∀ (fu : Nat) (v18 : Int32) (h19 : HP), Jj (fun q : Int32 × HP => Vw (kx_Mo_runs l g Q) 0 0 122 [(1, .int (q.1)), (0, .ref (ad 34))] [] (pic g ad q.2)) (lp_Mo_runs_82 fu v18 h19) (Vw (kx_Mo_runs l g Q) 0 0 82 [(1, .int v18), (0, .ref (ad 34))] [] (pic g ad h19)) := by
  intro fu
  induction fu with
  | zero =>
    intro v18 h19
    exact J_none
  | succ fu ih =>
    intro v18 h19
    rw [lp_Mo_runs_82]
    refine J_iload_n 0 rfl d_Mo_runs_82 ?_
    refine J_bipush (v := 24) rfl d_Mo_runs_83 ?_
    refine J_icmp_ge 122 rfl d_Mo_runs_85 (fun c20 => ?_) (fun c20 => ?_)
    · exact J_exit [0, 1] rfl (fun hx => hx)
    · refine J_aload_n 1 rfl d_Mo_runs_88 ?_
      refine J_iconst (v := 0) rfl d_Mo_runs_89 ?_
      refine P_wZ (Or.inl rfl) fo_Mo_205_34 rfl d_Mo_runs_90 (fun h21 => ?_)
      refine J_aload_n 1 rfl d_Mo_runs_93 ?_
      refine J_iload_n 0 rfl d_Mo_runs_94 ?_
      refine J_callVv (m_Mo_goesBy l g ad _ _) ok_Mo_goesBy rc_34 wi_Mo_goesBy wl_Mo_Mo_goesBy wk_Mo_232 ⟨rfl, rfl, Nat.le_of_ble_eq_true rfl, Nat.le_of_ble_eq_true rfl⟩ ⟨Nat.zero_le _, Nat.zero_le _⟩ (rest := []) rfl rfl (Nat.le_of_ble_eq_true rfl) d_Mo_runs_95 (fun h22 => ?_)
      refine J_aload_n 1 rfl d_Mo_runs_98 ?_
      refine J_getR fo_Mo_79_34 rfl d_Mo_runs_99 ?_
      refine J_iload_n 0 rfl d_Mo_runs_102 ?_
      refine J_aload_n 1 rfl d_Mo_runs_103 ?_
      refine P_gZ fo_Mo_205_34 rfl d_Mo_runs_104 (fun v23 => ?_)
      refine J_bd1 (fun (v24 : Int32) => Vw (kx_Mo_runs l g Q) 0 0 115 [(1, .int v18), (0, .ref (ad 34))] [.int v24, .int v18, .ref (ad 10)] (pic g ad h22)) ?_ (fun v24 => ?_)
      · refine J_if_eq 114 rfl d_Mo_runs_107 (fun c25 => ?_) (fun c25 => ?_)
        · refine J_iconst (v := 0) rfl d_Mo_runs_114 ?_
          exact J_exit [0, 1] rfl (fun hx => hx)
        · refine J_iconst (v := 1) rfl d_Mo_runs_110 ?_
          refine J_goto 115 rfl d_Mo_runs_111 ?_
          exact J_exit [0, 1] rfl (fun hx => hx)
      · refine P_wa (by decide) rfl rfl d_Mo_runs_115 (fun h26 => ?_)
        refine P_inc (w := 1) (lv' := fun v27 => [(1, .int v27), (0, .ref (ad 34))]) 0 rfl rfl (Nat.le_of_ble_eq_true rfl) (fun _ => rfl) d_Mo_runs_116 (fun v27 => ?_)
        refine J_goto 82 rfl d_Mo_runs_119 ?_
        exact J_sub [0, 1] rfl (ih _ _)
set_option maxRecDepth 20000 in
set_option maxHeartbeats 4000000 in
theorem m_Mo_runs (l : Launch) (g : GG) (ad : Nat → Nat) (h0 : HP) : CM l g ad y_Mo_runs b_Mo_runs 2 none rm_Mo_runs [.ref (ad 34)] h0 enV (f_Mo_runs h0) := by
  refine CM.of (by decide) (Nat.le_of_ble_eq_true rfl) (fun Q => ?_)
  show Jj _ _ (Vw (kx_Mo_runs l g Q) 0 0 0 _ _ _)
  refine J_sub [0] (lv' := [(0, .ref (ad 34))]) rfl ?_
  unfold f_Mo_runs
  refine J_iconst (v := 0) rfl d_Mo_runs_0 ?_
  refine J_istore_n (lv' := [(1, .int 0), (0, .ref (ad 34))]) 1 rfl (Nat.le_of_ble_eq_true rfl) rfl d_Mo_runs_1 ?_
  refine J_bd2 (fun (v13 : Int32) (h14 : HP) => Vw (kx_Mo_runs l g Q) 0 0 65 [(1, .int v13), (0, .ref (ad 34))] [] (pic g ad h14)) ?_ (fun v13 h14 => ?_)
  · exact J_sub [0, 1] rfl (mlp_Mo_runs_2 l g ad Q 400 _ _)
  · refine J_aload_n 1 rfl d_Mo_runs_65 ?_
    refine J_iconst (v := 0) rfl d_Mo_runs_66 ?_
    refine P_wI fo_Mo_189_34 rfl d_Mo_runs_67 (fun h15 => ?_)
    refine J_aload_n 1 rfl d_Mo_runs_70 ?_
    refine J_iconst (v := (-1)) rfl d_Mo_runs_71 ?_
    refine P_wI fo_Mo_192_34 rfl d_Mo_runs_72 (fun h16 => ?_)
    refine J_aload_n 1 rfl d_Mo_runs_75 ?_
    refine J_iconst (v := (-1)) rfl d_Mo_runs_76 ?_
    refine P_wI fo_Mo_195_34 rfl d_Mo_runs_77 (fun h17 => ?_)
    refine J_iconst (v := 0) rfl d_Mo_runs_80 ?_
    refine J_istore_n (lv' := [(1, .int 0), (0, .ref (ad 34))]) 1 rfl (Nat.le_of_ble_eq_true rfl) rfl d_Mo_runs_81 ?_
    refine J_bd2 (fun (v28 : Int32) (h29 : HP) => Vw (kx_Mo_runs l g Q) 0 0 122 [(1, .int v28), (0, .ref (ad 34))] [] (pic g ad h29)) ?_ (fun v28 h29 => ?_)
    · exact J_sub [0, 1] rfl (mlp_Mo_runs_82 l g ad Q 400 _ _)
    · exact J_vret (Nat.le_refl _) (Nat.le_refl _) d_Mo_runs_122 rfl (fun hx => hx)
def f_Mo_runsTold (h0 : HP) : Option (HP) :=
 bd1 (f_Mo_asTold h0) (fun (h1 : HP) =>
 bd1 (f_Mo_runs h1) (fun (h2 : HP) =>
 some h2))
set_option maxRecDepth 20000 in
set_option maxHeartbeats 4000000 in
theorem m_Mo_runsTold (l : Launch) (g : GG) (ad : Nat → Nat) (h0 : HP) : CM l g ad y_Mo_runsTold b_Mo_runsTold 1 none rm_Mo_runsTold [.ref (ad 34)] h0 enV (f_Mo_runsTold h0) := by
  refine CM.of (by decide) (Nat.le_of_ble_eq_true rfl) (fun Q => ?_)
  show Jj _ _ (Vw (kx_Mo_runsTold l g Q) 0 0 0 _ _ _)
  refine J_sub [0] (lv' := [(0, .ref (ad 34))]) rfl ?_
  unfold f_Mo_runsTold
  refine J_aload_n 0 rfl d_Mo_runsTold_0 ?_
  refine J_callVv (m_Mo_asTold l g ad _) ok_Mo_asTold rc_34 wi_Mo_asTold wl_Mo_Mo_asTold wk_Mo_235 ⟨rfl, rfl, Nat.le_of_ble_eq_true rfl, Nat.le_of_ble_eq_true rfl⟩ ⟨Nat.zero_le _, Nat.zero_le _⟩ (rest := []) rfl rfl (Nat.le_of_ble_eq_true rfl) d_Mo_runsTold_1 (fun h1 => ?_)
  refine J_aload_n 0 rfl d_Mo_runsTold_4 ?_
  refine J_callVv (m_Mo_runs l g ad _) ok_Mo_runs rc_34 wi_Mo_runs wl_Mo_Mo_runs wk_Mo_238 ⟨rfl, rfl, Nat.le_of_ble_eq_true rfl, Nat.le_of_ble_eq_true rfl⟩ ⟨Nat.zero_le _, Nat.zero_le _⟩ (rest := []) rfl rfl (Nat.le_of_ble_eq_true rfl) d_Mo_runsTold_5 (fun h2 => ?_)
  exact J_vret (Nat.le_refl _) (Nat.le_refl _) d_Mo_runsTold_8 rfl (fun hx => hx)
def f_Mo_atOf (a1 : Int32) (a2 : Int32) (a3 : Int32) (h0 : HP) : Option (Int32 × HP) :=
 bd1 (f_Mo_runsTold h0) (fun (h4 : HP) =>
 ltt ((8 * a1) + a2) (fun (v5 : Int32) =>
 (if a3 = 0 then
 ckk (inb v5 192) (ltt (rA h4 16 v5) (fun (v7 : Int32) =>
 some (v7, h4)))
 else
 (if a3 = 1 then
 ckk (inb v5 192) (ltt (rA h4 15 v5) (fun (v9 : Int32) =>
 some (v9, h4)))
 else
 (if a3 = 2 then
 ckk (inb v5 192) (ltt (rA h4 14 v5) (fun (v11 : Int32) =>
 some (v11, h4)))
 else
 (if a3 = 3 then
 ckk (inb v5 192) (ltt (rA h4 13 v5) (fun (v13 : Int32) =>
 some (v13, h4)))
 else
 (if a3 = 4 then
 ckk (inb v5 192) (ltt (rA h4 12 v5) (fun (v15 : Int32) =>
 some (v15, h4)))
 else
 ckk (inb v5 192) (ltt (rA h4 11 v5) (fun (v16 : Int32) =>
 some (v16, h4))))))))))
set_option maxRecDepth 20000 in
set_option maxHeartbeats 4000000 in
theorem m_Mo_atOf (l : Launch) (g : GG) (ad : Nat → Nat) (a1 : Int32) (a2 : Int32) (a3 : Int32) (h0 : HP) : CM l g ad y_Mo_atOf b_Mo_atOf 5 (some .int) rm_Mo_atOf [.ref (ad 34), .int a1, .int a2, .int a3] h0 enI (f_Mo_atOf a1 a2 a3 h0) := by
  refine CM.of (by decide) (Nat.le_of_ble_eq_true rfl) (fun Q => ?_)
  show Jj _ _ (Vw (kx_Mo_atOf l g Q) 0 0 0 _ _ _)
  refine J_sub [0, 1, 2, 3] (lv' := [(0, .ref (ad 34)), (1, .int a1), (2, .int a2), (3, .int a3)]) rfl ?_
  unfold f_Mo_atOf
  refine J_aload_n 0 rfl d_Mo_atOf_0 ?_
  refine J_callVv (m_Mo_runsTold l g ad _) ok_Mo_runsTold rc_34 wi_Mo_runsTold wl_Mo_Mo_runsTold wk_Mo_241 ⟨rfl, rfl, Nat.le_of_ble_eq_true rfl, Nat.le_of_ble_eq_true rfl⟩ ⟨Nat.zero_le _, Nat.zero_le _⟩ (rest := []) rfl rfl (Nat.le_of_ble_eq_true rfl) d_Mo_atOf_1 (fun h4 => ?_)
  refine J_bipush (v := 8) rfl d_Mo_atOf_4 ?_
  refine J_iload_n 1 rfl d_Mo_atOf_6 ?_
  refine J_imul d_Mo_atOf_7 ?_
  refine J_iload_n 2 rfl d_Mo_atOf_8 ?_
  refine J_iadd d_Mo_atOf_9 ?_
  refine P_ist (lv' := fun v5 => [(4, .int v5), (0, .ref (ad 34)), (1, .int a1), (2, .int a2), (3, .int a3)]) (Nat.le_of_ble_eq_true rfl) (fun _ => rfl) d_Mo_atOf_10 (fun v5 => ?_)
  refine J_iload_n 4 rfl d_Mo_atOf_12 ?_
  refine J_ite (fun c6 => ?_) (fun c6 => ?_)
  · refine J_tswIn 48 (by rw [c6]; decide) (by rw [c6]; decide) (by rw [c6]; try rfl) rfl d_Mo_atOf_13 ?_
    refine J_aload_n 1 rfl d_Mo_atOf_48 ?_
    refine J_getR fo_Mo_61_34 rfl d_Mo_atOf_49 ?_
    refine J_iload 0 rfl d_Mo_atOf_52 ?_
    refine P_ia (by decide) rfl rfl d_Mo_atOf_54 (fun v7 => ?_)
    exact J_iret (Nat.le_refl _) (Nat.le_refl _) d_Mo_atOf_55 rfl (fun hx => hx)
  · refine J_ite (fun c8 => ?_) (fun c8 => ?_)
    · refine J_tswIn 56 (by rw [c8]; decide) (by rw [c8]; decide) (by rw [c8]; try rfl) rfl d_Mo_atOf_13 ?_
      refine J_aload_n 1 rfl d_Mo_atOf_56 ?_
      refine J_getR fo_Mo_64_34 rfl d_Mo_atOf_57 ?_
      refine J_iload 0 rfl d_Mo_atOf_60 ?_
      refine P_ia (by decide) rfl rfl d_Mo_atOf_62 (fun v9 => ?_)
      exact J_iret (Nat.le_refl _) (Nat.le_refl _) d_Mo_atOf_63 rfl (fun hx => hx)
    · refine J_ite (fun c10 => ?_) (fun c10 => ?_)
      · refine J_tswIn 64 (by rw [c10]; decide) (by rw [c10]; decide) (by rw [c10]; try rfl) rfl d_Mo_atOf_13 ?_
        refine J_aload_n 1 rfl d_Mo_atOf_64 ?_
        refine J_getR fo_Mo_67_34 rfl d_Mo_atOf_65 ?_
        refine J_iload 0 rfl d_Mo_atOf_68 ?_
        refine P_ia (by decide) rfl rfl d_Mo_atOf_70 (fun v11 => ?_)
        exact J_iret (Nat.le_refl _) (Nat.le_refl _) d_Mo_atOf_71 rfl (fun hx => hx)
      · refine J_ite (fun c12 => ?_) (fun c12 => ?_)
        · refine J_tswIn 72 (by rw [c12]; decide) (by rw [c12]; decide) (by rw [c12]; try rfl) rfl d_Mo_atOf_13 ?_
          refine J_aload_n 1 rfl d_Mo_atOf_72 ?_
          refine J_getR fo_Mo_70_34 rfl d_Mo_atOf_73 ?_
          refine J_iload 0 rfl d_Mo_atOf_76 ?_
          refine P_ia (by decide) rfl rfl d_Mo_atOf_78 (fun v13 => ?_)
          exact J_iret (Nat.le_refl _) (Nat.le_refl _) d_Mo_atOf_79 rfl (fun hx => hx)
        · refine J_ite (fun c14 => ?_) (fun c14 => ?_)
          · refine J_tswIn 80 (by rw [c14]; decide) (by rw [c14]; decide) (by rw [c14]; try rfl) rfl d_Mo_atOf_13 ?_
            refine J_aload_n 1 rfl d_Mo_atOf_80 ?_
            refine J_getR fo_Mo_73_34 rfl d_Mo_atOf_81 ?_
            refine J_iload 0 rfl d_Mo_atOf_84 ?_
            refine P_ia (by decide) rfl rfl d_Mo_atOf_86 (fun v15 => ?_)
            exact J_iret (Nat.le_refl _) (Nat.le_refl _) d_Mo_atOf_87 rfl (fun hx => hx)
          · refine J_tswOut 88 (by have e0 := lv_neT (a := 0) c6 rfl; have e1 := lv_neT (a := 1) c8 rfl; have e2 := lv_neT (a := 2) c10 rfl; have e3 := lv_neT (a := 3) c12 rfl; have e4 := lv_neT (a := 4) c14 rfl; omega) rfl d_Mo_atOf_13 ?_
            refine J_aload_n 1 rfl d_Mo_atOf_88 ?_
            refine J_getR fo_Mo_76_34 rfl d_Mo_atOf_89 ?_
            refine J_iload 0 rfl d_Mo_atOf_92 ?_
            refine P_ia (by decide) rfl rfl d_Mo_atOf_94 (fun v16 => ?_)
            exact J_iret (Nat.le_refl _) (Nat.le_refl _) d_Mo_atOf_95 rfl (fun hx => hx)
def f_Mo_at (a1 : Int32) (a2 : Int32) (a3 : Int32) (h0 : HP) : Option (Int32 × HP) :=
 bd2 (f_Mo_isDay a1 h0) (fun (v4 : Int32) (h5 : HP) =>
 (if v4 = 0 then
 some ((-2), h5)
 else
 bd2 (f_Mo_isCamel a2 h5) (fun (v7 : Int32) (h8 : HP) =>
 (if v7 = 0 then
 some ((-2), h8)
 else
 bd2 (f_Mo_in a3 0 5 h8) (fun (v10 : Int32) (h11 : HP) =>
 (if v10 = 0 then
 some ((-2), h11)
 else
 bd2 (f_Mo_atOf a1 a2 a3 h11) (fun (v13 : Int32) (h14 : HP) =>
 some (v13, h14))))))))
set_option maxRecDepth 20000 in
set_option maxHeartbeats 4000000 in
theorem m_Mo_at (l : Launch) (g : GG) (ad : Nat → Nat) (a1 : Int32) (a2 : Int32) (a3 : Int32) (h0 : HP) : CM l g ad y_Mo_at b_Mo_at 4 (some .int) rm_Mo_at [.ref (ad 34), .int a1, .int a2, .int a3] h0 enI (f_Mo_at a1 a2 a3 h0) := by
  refine CM.of (by decide) (Nat.le_of_ble_eq_true rfl) (fun Q => ?_)
  show Jj _ _ (Vw (kx_Mo_at l g Q) 0 0 0 _ _ _)
  refine J_sub [0, 1, 2, 3] (lv' := [(0, .ref (ad 34)), (1, .int a1), (2, .int a2), (3, .int a3)]) rfl ?_
  unfold f_Mo_at
  refine J_iload_n 1 rfl d_Mo_at_0 ?_
  refine J_callSi (m_Mo_isDay l g ad _ _) ok_Mo_isDay ws_Mo_isDay wk_Mo_165 ⟨rfl, rfl, Nat.le_of_ble_eq_true rfl, Nat.le_of_ble_eq_true rfl⟩ ⟨Nat.zero_le _, Nat.zero_le _⟩ (rest := []) rfl rfl (Nat.le_of_ble_eq_true rfl) d_Mo_at_1 (fun v4 h5 => ?_)
  refine J_if_eq 34 rfl d_Mo_at_4 (fun c6 => ?_) (fun c6 => ?_)
  · refine J_bipush (v := (-2)) rfl d_Mo_at_34 ?_
    exact J_iret (Nat.le_refl _) (Nat.le_refl _) d_Mo_at_36 rfl (fun hx => hx)
  · refine J_aload_n 0 rfl d_Mo_at_7 ?_
    refine J_iload_n 2 rfl d_Mo_at_8 ?_
    refine J_callVi (m_Mo_isCamel l g ad _ _) ok_Mo_isCamel rc_34 wi_Mo_isCamel wl_Mo_Mo_isCamel wk_Mo_150 ⟨rfl, rfl, Nat.le_of_ble_eq_true rfl, Nat.le_of_ble_eq_true rfl⟩ ⟨Nat.zero_le _, Nat.zero_le _⟩ (rest := []) rfl rfl (Nat.le_of_ble_eq_true rfl) d_Mo_at_9 (fun v7 h8 => ?_)
    refine J_if_eq 34 rfl d_Mo_at_12 (fun c9 => ?_) (fun c9 => ?_)
    · refine J_bipush (v := (-2)) rfl d_Mo_at_34 ?_
      exact J_iret (Nat.le_refl _) (Nat.le_refl _) d_Mo_at_36 rfl (fun hx => hx)
    · refine J_iload_n 3 rfl d_Mo_at_15 ?_
      refine J_iconst (v := 0) rfl d_Mo_at_16 ?_
      refine J_iconst (v := 5) rfl d_Mo_at_17 ?_
      refine J_callSi (m_Mo_in l g ad _ _ _ _) ok_Mo_in ws_Mo_in wk_Mo_115 ⟨rfl, rfl, Nat.le_of_ble_eq_true rfl, Nat.le_of_ble_eq_true rfl⟩ ⟨Nat.zero_le _, Nat.zero_le _⟩ (rest := []) rfl rfl (Nat.le_of_ble_eq_true rfl) d_Mo_at_18 (fun v10 h11 => ?_)
      refine J_if_eq 34 rfl d_Mo_at_21 (fun c12 => ?_) (fun c12 => ?_)
      · refine J_bipush (v := (-2)) rfl d_Mo_at_34 ?_
        exact J_iret (Nat.le_refl _) (Nat.le_refl _) d_Mo_at_36 rfl (fun hx => hx)
      · refine J_aload_n 0 rfl d_Mo_at_24 ?_
        refine J_iload_n 1 rfl d_Mo_at_25 ?_
        refine J_iload_n 2 rfl d_Mo_at_26 ?_
        refine J_iload_n 3 rfl d_Mo_at_27 ?_
        refine J_callVi (m_Mo_atOf l g ad _ _ _ _) ok_Mo_atOf rc_34 wi_Mo_atOf wl_Mo_Mo_atOf wk_Mo_244 ⟨rfl, rfl, Nat.le_of_ble_eq_true rfl, Nat.le_of_ble_eq_true rfl⟩ ⟨Nat.zero_le _, Nat.zero_le _⟩ (rest := []) rfl rfl (Nat.le_of_ble_eq_true rfl) d_Mo_at_28 (fun v13 h14 => ?_)
        refine J_goto 36 rfl d_Mo_at_31 ?_
        exact J_iret (Nat.le_refl _) (Nat.le_refl _) d_Mo_at_36 rfl (fun hx => hx)
def lp_Mo_throughNow_4 : Nat → Int32 → Int32 → HP → Option (Int32 × Int32 × HP)
 | 0, _, _, _ => none
 | fu + 1, v1, v2, h3 =>
 ltt (rI h3 34 2) (fun (v4 : Int32) =>
 (if v4 ≤ v1 then
 some (v1, v2, h3)
 else
 ckk (inb v1 8) (ltt (rA h3 18 v1) (fun (v6 : Int32) =>
 ltt (v2 + v6) (fun (v7 : Int32) =>
 ltt (v1 + 1) (fun (v8 : Int32) =>
 lp_Mo_throughNow_4 fu v8 v7 h3))))))
def f_Mo_throughNow (h0 : HP) : Option (Int32 × HP) :=
 bd3 (lp_Mo_throughNow_4 400 0 0 h0) (fun (v9 : Int32) (v10 : Int32) (h11 : HP) =>
 some (v10, h11))
set_option maxRecDepth 20000 in
set_option maxHeartbeats 4000000 in
theorem mlp_Mo_throughNow_4 (l : Launch) (g : GG) (ad : Nat → Nat) (Q : Option Value → va_W → Prop) : ∀ (fu : Nat) (v1 : Int32) (v2 : Int32) (h3 : HP), Jj (fun q : Int32 × Int32 × HP => Vw (kx_Mo_throughNow l g Q) 0 0 27 [(2, .int (q.1)), (1, .int (q.2.1)), (0, .ref (ad 34))] [] (pic g ad q.2.2)) (lp_Mo_throughNow_4 fu v1 v2 h3) (Vw (kx_Mo_throughNow l g Q) 0 0 4 [(2, .int v1), (1, .int v2), (0, .ref (ad 34))] [] (pic g ad h3)) := by
  intro fu
  induction fu with
  | zero =>
    intro v1 v2 h3
    exact J_none
  | succ fu ih =>
    intro v1 v2 h3
    rw [lp_Mo_throughNow_4]
    refine J_iload_n 0 rfl d_Mo_throughNow_4 ?_
    refine J_aload_n 2 rfl d_Mo_throughNow_5 ?_
    refine P_gI fo_Mo_127_34 rfl d_Mo_throughNow_6 (fun v4 => ?_)
    refine J_icmp_ge 27 rfl d_Mo_throughNow_9 (fun c5 => ?_) (fun c5 => ?_)
    · exact J_exit [0, 1, 2] rfl (fun hx => hx)
    · refine J_iload_n 1 rfl d_Mo_throughNow_12 ?_
      refine J_aload_n 2 rfl d_Mo_throughNow_13 ?_
      refine J_getR fo_Mo_55_34 rfl d_Mo_throughNow_14 ?_
      refine J_iload_n 0 rfl d_Mo_throughNow_17 ?_
      refine P_ia (by decide) rfl rfl d_Mo_throughNow_18 (fun v6 => ?_)
      refine J_iadd d_Mo_throughNow_19 ?_
      refine P_ist_n (lv' := fun v7 => [(1, .int v7), (2, .int v1), (0, .ref (ad 34))]) 1 rfl (Nat.le_of_ble_eq_true rfl) (fun _ => rfl) d_Mo_throughNow_20 (fun v7 => ?_)
      refine P_inc (w := 1) (lv' := fun v8 => [(2, .int v8), (1, .int v7), (0, .ref (ad 34))]) 1 rfl rfl (Nat.le_of_ble_eq_true rfl) (fun _ => rfl) d_Mo_throughNow_21 (fun v8 => ?_)
      refine J_goto 4 rfl d_Mo_throughNow_24 ?_
      exact J_sub [0, 1, 2] rfl (ih _ _ _)
set_option maxRecDepth 20000 in
set_option maxHeartbeats 4000000 in
theorem m_Mo_throughNow (l : Launch) (g : GG) (ad : Nat → Nat) (h0 : HP) : CM l g ad y_Mo_throughNow b_Mo_throughNow 3 (some .int) rm_Mo_throughNow [.ref (ad 34)] h0 enI (f_Mo_throughNow h0) := by
  refine CM.of (by decide) (Nat.le_of_ble_eq_true rfl) (fun Q => ?_)
  show Jj _ _ (Vw (kx_Mo_throughNow l g Q) 0 0 0 _ _ _)
  refine J_sub [0] (lv' := [(0, .ref (ad 34))]) rfl ?_
  unfold f_Mo_throughNow
  refine J_iconst (v := 0) rfl d_Mo_throughNow_0 ?_
  refine J_istore_n (lv' := [(1, .int 0), (0, .ref (ad 34))]) 1 rfl (Nat.le_of_ble_eq_true rfl) rfl d_Mo_throughNow_1 ?_
  refine J_iconst (v := 0) rfl d_Mo_throughNow_2 ?_
  refine J_istore_n (lv' := [(2, .int 0), (1, .int 0), (0, .ref (ad 34))]) 2 rfl (Nat.le_of_ble_eq_true rfl) rfl d_Mo_throughNow_3 ?_
  refine J_bd3 (fun (v9 : Int32) (v10 : Int32) (h11 : HP) => Vw (kx_Mo_throughNow l g Q) 0 0 27 [(2, .int v9), (1, .int v10), (0, .ref (ad 34))] [] (pic g ad h11)) ?_ (fun v9 v10 h11 => ?_)
  · exact J_sub [0, 1, 2] rfl (mlp_Mo_throughNow_4 l g ad Q 400 _ _ _)
  · refine J_iload_n 1 rfl d_Mo_throughNow_27 ?_
    exact J_iret (Nat.le_refl _) (Nat.le_refl _) d_Mo_throughNow_28 rfl (fun hx => hx)
def f_Mo_throughOf (h0 : HP) : Option (Int32 × HP) :=
 bd1 (f_Mo_runsTold h0) (fun (h1 : HP) =>
 bd2 (f_Mo_throughNow h1) (fun (v2 : Int32) (h3 : HP) =>
 some (v2, h3)))
set_option maxRecDepth 20000 in
set_option maxHeartbeats 4000000 in
theorem m_Mo_throughOf (l : Launch) (g : GG) (ad : Nat → Nat) (h0 : HP) : CM l g ad y_Mo_throughOf b_Mo_throughOf 1 (some .int) rm_Mo_throughOf [.ref (ad 34)] h0 enI (f_Mo_throughOf h0) := by
  refine CM.of (by decide) (Nat.le_of_ble_eq_true rfl) (fun Q => ?_)
  show Jj _ _ (Vw (kx_Mo_throughOf l g Q) 0 0 0 _ _ _)
  refine J_sub [0] (lv' := [(0, .ref (ad 34))]) rfl ?_
  unfold f_Mo_throughOf
  refine J_aload_n 0 rfl d_Mo_throughOf_0 ?_
  refine J_callVv (m_Mo_runsTold l g ad _) ok_Mo_runsTold rc_34 wi_Mo_runsTold wl_Mo_Mo_runsTold wk_Mo_241 ⟨rfl, rfl, Nat.le_of_ble_eq_true rfl, Nat.le_of_ble_eq_true rfl⟩ ⟨Nat.zero_le _, Nat.zero_le _⟩ (rest := []) rfl rfl (Nat.le_of_ble_eq_true rfl) d_Mo_throughOf_1 (fun h1 => ?_)
  refine J_aload_n 0 rfl d_Mo_throughOf_4 ?_
  refine J_callVi (m_Mo_throughNow l g ad _) ok_Mo_throughNow rc_34 wi_Mo_throughNow wl_Mo_Mo_throughNow wk_Mo_248 ⟨rfl, rfl, Nat.le_of_ble_eq_true rfl, Nat.le_of_ble_eq_true rfl⟩ ⟨Nat.zero_le _, Nat.zero_le _⟩ (rest := []) rfl rfl (Nat.le_of_ble_eq_true rfl) d_Mo_throughOf_5 (fun v2 h3 => ?_)
  exact J_iret (Nat.le_refl _) (Nat.le_refl _) d_Mo_throughOf_8 rfl (fun hx => hx)
def f_Mo_through (h0 : HP) : Option (Int32 × HP) :=
 bd2 (f_Mo_throughOf h0) (fun (v1 : Int32) (h2 : HP) =>
 some (v1, h2))
set_option maxRecDepth 20000 in
set_option maxHeartbeats 4000000 in
theorem m_Mo_through (l : Launch) (g : GG) (ad : Nat → Nat) (h0 : HP) : CM l g ad y_Mo_through b_Mo_through 1 (some .int) rm_Mo_through [.ref (ad 34)] h0 enI (f_Mo_through h0) := by
  refine CM.of (by decide) (Nat.le_of_ble_eq_true rfl) (fun Q => ?_)
  show Jj _ _ (Vw (kx_Mo_through l g Q) 0 0 0 _ _ _)
  refine J_sub [0] (lv' := [(0, .ref (ad 34))]) rfl ?_
  unfold f_Mo_through
  refine J_aload_n 0 rfl d_Mo_through_0 ?_
  refine J_callVi (m_Mo_throughOf l g ad _) ok_Mo_throughOf rc_34 wi_Mo_throughOf wl_Mo_Mo_throughOf wk_Mo_252 ⟨rfl, rfl, Nat.le_of_ble_eq_true rfl, Nat.le_of_ble_eq_true rfl⟩ ⟨Nat.zero_le _, Nat.zero_le _⟩ (rest := []) rfl rfl (Nat.le_of_ble_eq_true rfl) d_Mo_through_1 (fun v1 h2 => ?_)
  exact J_iret (Nat.le_refl _) (Nat.le_refl _) d_Mo_through_4 rfl (fun hx => hx)
def f_Mo_lostOf (h0 : HP) : Option (Int32 × HP) :=
 bd1 (f_Mo_runsTold h0) (fun (h1 : HP) =>
 ltt (rI h1 34 23) (fun (v2 : Int32) =>
 some (v2, h1)))
set_option maxRecDepth 20000 in
set_option maxHeartbeats 4000000 in
theorem m_Mo_lostOf (l : Launch) (g : GG) (ad : Nat → Nat) (h0 : HP) : CM l g ad y_Mo_lostOf b_Mo_lostOf 1 (some .int) rm_Mo_lostOf [.ref (ad 34)] h0 enI (f_Mo_lostOf h0) := by
  refine CM.of (by decide) (Nat.le_of_ble_eq_true rfl) (fun Q => ?_)
  show Jj _ _ (Vw (kx_Mo_lostOf l g Q) 0 0 0 _ _ _)
  refine J_sub [0] (lv' := [(0, .ref (ad 34))]) rfl ?_
  unfold f_Mo_lostOf
  refine J_aload_n 0 rfl d_Mo_lostOf_0 ?_
  refine J_callVv (m_Mo_runsTold l g ad _) ok_Mo_runsTold rc_34 wi_Mo_runsTold wl_Mo_Mo_runsTold wk_Mo_241 ⟨rfl, rfl, Nat.le_of_ble_eq_true rfl, Nat.le_of_ble_eq_true rfl⟩ ⟨Nat.zero_le _, Nat.zero_le _⟩ (rest := []) rfl rfl (Nat.le_of_ble_eq_true rfl) d_Mo_lostOf_1 (fun h1 => ?_)
  refine J_aload_n 0 rfl d_Mo_lostOf_4 ?_
  refine P_gI fo_Mo_189_34 rfl d_Mo_lostOf_5 (fun v2 => ?_)
  exact J_iret (Nat.le_refl _) (Nat.le_refl _) d_Mo_lostOf_8 rfl (fun hx => hx)
def f_Mo_lost (h0 : HP) : Option (Int32 × HP) :=
 bd2 (f_Mo_lostOf h0) (fun (v1 : Int32) (h2 : HP) =>
 some (v1, h2))
set_option maxRecDepth 20000 in
set_option maxHeartbeats 4000000 in
theorem m_Mo_lost (l : Launch) (g : GG) (ad : Nat → Nat) (h0 : HP) : CM l g ad y_Mo_lost b_Mo_lost 1 (some .int) rm_Mo_lost [.ref (ad 34)] h0 enI (f_Mo_lost h0) := by
  refine CM.of (by decide) (Nat.le_of_ble_eq_true rfl) (fun Q => ?_)
  show Jj _ _ (Vw (kx_Mo_lost l g Q) 0 0 0 _ _ _)
  refine J_sub [0] (lv' := [(0, .ref (ad 34))]) rfl ?_
  unfold f_Mo_lost
  refine J_aload_n 0 rfl d_Mo_lost_0 ?_
  refine J_callVi (m_Mo_lostOf l g ad _) ok_Mo_lostOf rc_34 wi_Mo_lostOf wl_Mo_Mo_lostOf wk_Mo_255 ⟨rfl, rfl, Nat.le_of_ble_eq_true rfl, Nat.le_of_ble_eq_true rfl⟩ ⟨Nat.zero_le _, Nat.zero_le _⟩ (rest := []) rfl rfl (Nat.le_of_ble_eq_true rfl) d_Mo_lost_1 (fun v1 h2 => ?_)
  exact J_iret (Nat.le_refl _) (Nat.le_refl _) d_Mo_lost_4 rfl (fun hx => hx)
def f_Mo_firstOf (a1 : Int32) (h0 : HP) : Option (Int32 × HP) :=
 bd1 (f_Mo_runsTold h0) (fun (h2 : HP) =>
 (if a1 = 0 then
 ltt (rI h2 34 24) (fun (v5 : Int32) =>
 some (v5, h2))
 else
 ltt (rI h2 34 25) (fun (v4 : Int32) =>
 some (v4, h2))))
set_option maxRecDepth 20000 in
set_option maxHeartbeats 4000000 in
theorem m_Mo_firstOf (l : Launch) (g : GG) (ad : Nat → Nat) (a1 : Int32) (h0 : HP) : CM l g ad y_Mo_firstOf b_Mo_firstOf 2 (some .int) rm_Mo_firstOf [.ref (ad 34), .int a1] h0 enI (f_Mo_firstOf a1 h0) := by
  refine CM.of (by decide) (Nat.le_of_ble_eq_true rfl) (fun Q => ?_)
  show Jj _ _ (Vw (kx_Mo_firstOf l g Q) 0 0 0 _ _ _)
  refine J_sub [0, 1] (lv' := [(0, .ref (ad 34)), (1, .int a1)]) rfl ?_
  unfold f_Mo_firstOf
  refine J_aload_n 0 rfl d_Mo_firstOf_0 ?_
  refine J_callVv (m_Mo_runsTold l g ad _) ok_Mo_runsTold rc_34 wi_Mo_runsTold wl_Mo_Mo_runsTold wk_Mo_241 ⟨rfl, rfl, Nat.le_of_ble_eq_true rfl, Nat.le_of_ble_eq_true rfl⟩ ⟨Nat.zero_le _, Nat.zero_le _⟩ (rest := []) rfl rfl (Nat.le_of_ble_eq_true rfl) d_Mo_firstOf_1 (fun h2 => ?_)
  refine J_iload_n 1 rfl d_Mo_firstOf_4 ?_
  refine J_if_ne 15 rfl d_Mo_firstOf_5 (fun c3 => ?_) (fun c3 => ?_)
  · refine J_aload_n 0 rfl d_Mo_firstOf_15 ?_
    refine P_gI fo_Mo_195_34 rfl d_Mo_firstOf_16 (fun v4 => ?_)
    exact J_iret (Nat.le_refl _) (Nat.le_refl _) d_Mo_firstOf_19 rfl (fun hx => hx)
  · refine J_aload_n 0 rfl d_Mo_firstOf_8 ?_
    refine P_gI fo_Mo_192_34 rfl d_Mo_firstOf_9 (fun v5 => ?_)
    refine J_goto 19 rfl d_Mo_firstOf_12 ?_
    exact J_iret (Nat.le_refl _) (Nat.le_refl _) d_Mo_firstOf_19 rfl (fun hx => hx)
def f_Mo_first (a1 : Int32) (h0 : HP) : Option (Int32 × HP) :=
 bd2 (f_Mo_isTwo a1 h0) (fun (v2 : Int32) (h3 : HP) =>
 (if v2 = 0 then
 some ((-2), h3)
 else
 bd2 (f_Mo_firstOf a1 h3) (fun (v5 : Int32) (h6 : HP) =>
 some (v5, h6))))
set_option maxRecDepth 20000 in
set_option maxHeartbeats 4000000 in
theorem m_Mo_first (l : Launch) (g : GG) (ad : Nat → Nat) (a1 : Int32) (h0 : HP) : CM l g ad y_Mo_first b_Mo_first 2 (some .int) rm_Mo_first [.ref (ad 34), .int a1] h0 enI (f_Mo_first a1 h0) := by
  refine CM.of (by decide) (Nat.le_of_ble_eq_true rfl) (fun Q => ?_)
  show Jj _ _ (Vw (kx_Mo_first l g Q) 0 0 0 _ _ _)
  refine J_sub [0, 1] (lv' := [(0, .ref (ad 34)), (1, .int a1)]) rfl ?_
  unfold f_Mo_first
  refine J_iload_n 1 rfl d_Mo_first_0 ?_
  refine J_callSi (m_Mo_isTwo l g ad _ _) ok_Mo_isTwo ws_Mo_isTwo wk_Mo_153 ⟨rfl, rfl, Nat.le_of_ble_eq_true rfl, Nat.le_of_ble_eq_true rfl⟩ ⟨Nat.zero_le _, Nat.zero_le _⟩ (rest := []) rfl rfl (Nat.le_of_ble_eq_true rfl) d_Mo_first_1 (fun v2 h3 => ?_)
  refine J_if_eq 15 rfl d_Mo_first_4 (fun c4 => ?_) (fun c4 => ?_)
  · refine J_bipush (v := (-2)) rfl d_Mo_first_15 ?_
    exact J_iret (Nat.le_refl _) (Nat.le_refl _) d_Mo_first_17 rfl (fun hx => hx)
  · refine J_aload_n 0 rfl d_Mo_first_7 ?_
    refine J_iload_n 1 rfl d_Mo_first_8 ?_
    refine J_callVi (m_Mo_firstOf l g ad _ _) ok_Mo_firstOf rc_34 wi_Mo_firstOf wl_Mo_Mo_firstOf wk_Mo_258 ⟨rfl, rfl, Nat.le_of_ble_eq_true rfl, Nat.le_of_ble_eq_true rfl⟩ ⟨Nat.zero_le _, Nat.zero_le _⟩ (rest := []) rfl rfl (Nat.le_of_ble_eq_true rfl) d_Mo_first_9 (fun v5 h6 => ?_)
    refine J_goto 17 rfl d_Mo_first_12 ?_
    exact J_iret (Nat.le_refl _) (Nat.le_refl _) d_Mo_first_17 rfl (fun hx => hx)
def lp_Mo_bestOf_8 : Nat → Int32 → Int32 → HP → Option (Int32 × Int32 × HP)
 | 0, _, _, _ => none
 | fu + 1, v2, v3, h4 =>
 ltt (rI h4 34 2) (fun (v5 : Int32) =>
 (if v5 ≤ v2 then
 some (v2, v3, h4)
 else
 bd1 ((if v3 = (-1) then
 some (v2)
 else
 ckk (inb v2 8) (ltt (rA h4 18 v2) (fun (v9 : Int32) =>
 ckk (inb v3 8) (ltt (rA h4 18 v3) (fun (v10 : Int32) =>
 (if v9 ≤ v10 then
 some (v3)
 else
 some (v2))))))) : Option (Int32)) (fun (v7 : Int32) =>
 ltt (v2 + 1) (fun (v12 : Int32) =>
 lp_Mo_bestOf_8 fu v12 v7 h4))))
def f_Mo_bestOf (h0 : HP) : Option (Int32 × HP) :=
 bd1 (f_Mo_runsTold h0) (fun (h1 : HP) =>
 bd3 (lp_Mo_bestOf_8 400 0 (-1) h1) (fun (v13 : Int32) (v14 : Int32) (h15 : HP) =>
 some (v14, h15)))
set_option maxRecDepth 20000 in
set_option maxHeartbeats 4000000 in
theorem mlp_Mo_bestOf_8 (l : Launch) (g : GG) (ad : Nat → Nat) (Q : Option Value → va_W → Prop) : ∀ (fu : Nat) (v2 : Int32) (v3 : Int32) (h4 : HP), Jj (fun q : Int32 × Int32 × HP => Vw (kx_Mo_bestOf l g Q) 0 0 48 [(2, .int (q.1)), (1, .int (q.2.1)), (0, .ref (ad 34))] [] (pic g ad q.2.2)) (lp_Mo_bestOf_8 fu v2 v3 h4) (Vw (kx_Mo_bestOf l g Q) 0 0 8 [(2, .int v2), (1, .int v3), (0, .ref (ad 34))] [] (pic g ad h4)) := by
  intro fu
  induction fu with
  | zero =>
    intro v2 v3 h4
    exact J_none
  | succ fu ih =>
    intro v2 v3 h4
    rw [lp_Mo_bestOf_8]
    refine J_iload_n 0 rfl d_Mo_bestOf_8 ?_
    refine J_aload_n 2 rfl d_Mo_bestOf_9 ?_
    refine P_gI fo_Mo_127_34 rfl d_Mo_bestOf_10 (fun v5 => ?_)
    refine J_icmp_ge 48 rfl d_Mo_bestOf_13 (fun c6 => ?_) (fun c6 => ?_)
    · exact J_exit [0, 1, 2] rfl (fun hx => hx)
    · refine J_iload_n 1 rfl d_Mo_bestOf_16 ?_
      refine J_iconst (v := (-1)) rfl d_Mo_bestOf_17 ?_
      refine J_bd1 (fun (v7 : Int32) => Vw (kx_Mo_bestOf l g Q) 0 0 41 [(2, .int v2), (1, .int v3), (0, .ref (ad 34))] [.int v7] (pic g ad h4)) ?_ (fun v7 => ?_)
      · refine J_icmp_eq 36 rfl d_Mo_bestOf_18 (fun c8 => ?_) (fun c8 => ?_)
        · refine J_iload_n 0 rfl d_Mo_bestOf_36 ?_
          refine J_goto 41 rfl d_Mo_bestOf_37 ?_
          exact J_exit [0, 1, 2] rfl (fun hx => hx)
        · refine J_aload_n 2 rfl d_Mo_bestOf_21 ?_
          refine J_getR fo_Mo_55_34 rfl d_Mo_bestOf_22 ?_
          refine J_iload_n 0 rfl d_Mo_bestOf_25 ?_
          refine P_ia (by decide) rfl rfl d_Mo_bestOf_26 (fun v9 => ?_)
          refine J_aload_n 2 rfl d_Mo_bestOf_27 ?_
          refine J_getR fo_Mo_55_34 rfl d_Mo_bestOf_28 ?_
          refine J_iload_n 1 rfl d_Mo_bestOf_31 ?_
          refine P_ia (by decide) rfl rfl d_Mo_bestOf_32 (fun v10 => ?_)
          refine J_icmp_le 40 rfl d_Mo_bestOf_33 (fun c11 => ?_) (fun c11 => ?_)
          · refine J_iload_n 1 rfl d_Mo_bestOf_40 ?_
            exact J_exit [0, 1, 2] rfl (fun hx => hx)
          · refine J_iload_n 0 rfl d_Mo_bestOf_36 ?_
            refine J_goto 41 rfl d_Mo_bestOf_37 ?_
            exact J_exit [0, 1, 2] rfl (fun hx => hx)
      · refine J_istore_n (lv' := [(1, .int v7), (2, .int v2), (0, .ref (ad 34))]) 1 rfl (Nat.le_of_ble_eq_true rfl) rfl d_Mo_bestOf_41 ?_
        refine P_inc (w := 1) (lv' := fun v12 => [(2, .int v12), (1, .int v7), (0, .ref (ad 34))]) 1 rfl rfl (Nat.le_of_ble_eq_true rfl) (fun _ => rfl) d_Mo_bestOf_42 (fun v12 => ?_)
        refine J_goto 8 rfl d_Mo_bestOf_45 ?_
        exact J_sub [0, 1, 2] rfl (ih _ _ _)
set_option maxRecDepth 20000 in
set_option maxHeartbeats 4000000 in
theorem m_Mo_bestOf (l : Launch) (g : GG) (ad : Nat → Nat) (h0 : HP) : CM l g ad y_Mo_bestOf b_Mo_bestOf 3 (some .int) rm_Mo_bestOf [.ref (ad 34)] h0 enI (f_Mo_bestOf h0) := by
  refine CM.of (by decide) (Nat.le_of_ble_eq_true rfl) (fun Q => ?_)
  show Jj _ _ (Vw (kx_Mo_bestOf l g Q) 0 0 0 _ _ _)
  refine J_sub [0] (lv' := [(0, .ref (ad 34))]) rfl ?_
  unfold f_Mo_bestOf
  refine J_aload_n 0 rfl d_Mo_bestOf_0 ?_
  refine J_callVv (m_Mo_runsTold l g ad _) ok_Mo_runsTold rc_34 wi_Mo_runsTold wl_Mo_Mo_runsTold wk_Mo_241 ⟨rfl, rfl, Nat.le_of_ble_eq_true rfl, Nat.le_of_ble_eq_true rfl⟩ ⟨Nat.zero_le _, Nat.zero_le _⟩ (rest := []) rfl rfl (Nat.le_of_ble_eq_true rfl) d_Mo_bestOf_1 (fun h1 => ?_)
  refine J_iconst (v := (-1)) rfl d_Mo_bestOf_4 ?_
  refine J_istore_n (lv' := [(1, .int (-1)), (0, .ref (ad 34))]) 1 rfl (Nat.le_of_ble_eq_true rfl) rfl d_Mo_bestOf_5 ?_
  refine J_iconst (v := 0) rfl d_Mo_bestOf_6 ?_
  refine J_istore_n (lv' := [(2, .int 0), (1, .int (-1)), (0, .ref (ad 34))]) 2 rfl (Nat.le_of_ble_eq_true rfl) rfl d_Mo_bestOf_7 ?_
  refine J_bd3 (fun (v13 : Int32) (v14 : Int32) (h15 : HP) => Vw (kx_Mo_bestOf l g Q) 0 0 48 [(2, .int v13), (1, .int v14), (0, .ref (ad 34))] [] (pic g ad h15)) ?_ (fun v13 v14 h15 => ?_)
  · exact J_sub [0, 1, 2] rfl (mlp_Mo_bestOf_8 l g ad Q 400 _ _ _)
  · refine J_iload_n 1 rfl d_Mo_bestOf_48 ?_
    exact J_iret (Nat.le_refl _) (Nat.le_refl _) d_Mo_bestOf_49 rfl (fun hx => hx)
def f_Mo_best (h0 : HP) : Option (Int32 × HP) :=
 bd2 (f_Mo_bestOf h0) (fun (v1 : Int32) (h2 : HP) =>
 some (v1, h2))
set_option maxRecDepth 20000 in
set_option maxHeartbeats 4000000 in
theorem m_Mo_best (l : Launch) (g : GG) (ad : Nat → Nat) (h0 : HP) : CM l g ad y_Mo_best b_Mo_best 1 (some .int) rm_Mo_best [.ref (ad 34)] h0 enI (f_Mo_best h0) := by
  refine CM.of (by decide) (Nat.le_of_ble_eq_true rfl) (fun Q => ?_)
  show Jj _ _ (Vw (kx_Mo_best l g Q) 0 0 0 _ _ _)
  refine J_sub [0] (lv' := [(0, .ref (ad 34))]) rfl ?_
  unfold f_Mo_best
  refine J_aload_n 0 rfl d_Mo_best_0 ?_
  refine J_callVi (m_Mo_bestOf l g ad _) ok_Mo_bestOf rc_34 wi_Mo_bestOf wl_Mo_Mo_bestOf wk_Mo_261 ⟨rfl, rfl, Nat.le_of_ble_eq_true rfl, Nat.le_of_ble_eq_true rfl⟩ ⟨Nat.zero_le _, Nat.zero_le _⟩ (rest := []) rfl rfl (Nat.le_of_ble_eq_true rfl) d_Mo_best_1 (fun v1 h2 => ?_)
  exact J_iret (Nat.le_refl _) (Nat.le_refl _) d_Mo_best_4 rfl (fun hx => hx)
def lp_Mo_wholeOf_8 : Nat → Int32 → Int32 → HP → Option (Int32 × Int32 × HP)
 | 0, _, _, _ => none
 | fu + 1, v2, v3, h4 =>
 ltt (rI h4 34 2) (fun (v5 : Int32) =>
 (if v5 ≤ v2 then
 some (v2, v3, h4)
 else
 ckk (inb v2 8) (ltt (rA h4 17 v2) (fun (v7 : Int32) =>
 bd1 ((if v7 = 0 then
 some (1 <<< (v2 &&& 31))
 else
 some (0)) : Option (Int32)) (fun (v8 : Int32) =>
 ltt (v3 ||| v8) (fun (v10 : Int32) =>
 ltt (v2 + 1) (fun (v11 : Int32) =>
 lp_Mo_wholeOf_8 fu v11 v10 h4)))))))
def f_Mo_wholeOf (h0 : HP) : Option (Int32 × HP) :=
 bd1 (f_Mo_runsTold h0) (fun (h1 : HP) =>
 bd3 (lp_Mo_wholeOf_8 400 0 0 h1) (fun (v12 : Int32) (v13 : Int32) (h14 : HP) =>
 some (v13, h14)))
set_option maxRecDepth 20000 in
set_option maxHeartbeats 4000000 in
theorem mlp_Mo_wholeOf_8 (l : Launch) (g : GG) (ad : Nat → Nat) (Q : Option Value → va_W → Prop) : ∀ (fu : Nat) (v2 : Int32) (v3 : Int32) (h4 : HP), Jj (fun q : Int32 × Int32 × HP => Vw (kx_Mo_wholeOf l g Q) 0 0 41 [(2, .int (q.1)), (1, .int (q.2.1)), (0, .ref (ad 34))] [] (pic g ad q.2.2)) (lp_Mo_wholeOf_8 fu v2 v3 h4) (Vw (kx_Mo_wholeOf l g Q) 0 0 8 [(2, .int v2), (1, .int v3), (0, .ref (ad 34))] [] (pic g ad h4)) := by
  intro fu
  induction fu with
  | zero =>
    intro v2 v3 h4
    exact J_none
  | succ fu ih =>
    intro v2 v3 h4
    rw [lp_Mo_wholeOf_8]
    refine J_iload_n 0 rfl d_Mo_wholeOf_8 ?_
    refine J_aload_n 2 rfl d_Mo_wholeOf_9 ?_
    refine P_gI fo_Mo_127_34 rfl d_Mo_wholeOf_10 (fun v5 => ?_)
    refine J_icmp_ge 41 rfl d_Mo_wholeOf_13 (fun c6 => ?_) (fun c6 => ?_)
    · exact J_exit [0, 1, 2] rfl (fun hx => hx)
    · refine J_iload_n 1 rfl d_Mo_wholeOf_16 ?_
      refine J_aload_n 2 rfl d_Mo_wholeOf_17 ?_
      refine J_getR fo_Mo_58_34 rfl d_Mo_wholeOf_18 ?_
      refine J_iload_n 0 rfl d_Mo_wholeOf_21 ?_
      refine P_ia (by decide) rfl rfl d_Mo_wholeOf_22 (fun v7 => ?_)
      refine J_bd1 (fun (v8 : Int32) => Vw (kx_Mo_wholeOf l g Q) 0 0 33 [(2, .int v2), (1, .int v3), (0, .ref (ad 34))] [.int v8, .int v3] (pic g ad h4)) ?_ (fun v8 => ?_)
      · refine J_if_ne 32 rfl d_Mo_wholeOf_23 (fun c9 => ?_) (fun c9 => ?_)
        · refine J_iconst (v := 0) rfl d_Mo_wholeOf_32 ?_
          exact J_exit [0, 1, 2] rfl (fun hx => hx)
        · refine J_iconst (v := 1) rfl d_Mo_wholeOf_26 ?_
          refine J_iload_n 0 rfl d_Mo_wholeOf_27 ?_
          refine J_ishl d_Mo_wholeOf_28 ?_
          refine J_goto 33 rfl d_Mo_wholeOf_29 ?_
          exact J_exit [0, 1, 2] rfl (fun hx => hx)
      · refine J_ior d_Mo_wholeOf_33 ?_
        refine P_ist_n (lv' := fun v10 => [(1, .int v10), (2, .int v2), (0, .ref (ad 34))]) 1 rfl (Nat.le_of_ble_eq_true rfl) (fun _ => rfl) d_Mo_wholeOf_34 (fun v10 => ?_)
        refine P_inc (w := 1) (lv' := fun v11 => [(2, .int v11), (1, .int v10), (0, .ref (ad 34))]) 1 rfl rfl (Nat.le_of_ble_eq_true rfl) (fun _ => rfl) d_Mo_wholeOf_35 (fun v11 => ?_)
        refine J_goto 8 rfl d_Mo_wholeOf_38 ?_
        exact J_sub [0, 1, 2] rfl (ih _ _ _)
set_option maxRecDepth 20000 in
set_option maxHeartbeats 4000000 in
theorem m_Mo_wholeOf (l : Launch) (g : GG) (ad : Nat → Nat) (h0 : HP) : CM l g ad y_Mo_wholeOf b_Mo_wholeOf 3 (some .int) rm_Mo_wholeOf [.ref (ad 34)] h0 enI (f_Mo_wholeOf h0) := by
  refine CM.of (by decide) (Nat.le_of_ble_eq_true rfl) (fun Q => ?_)
  show Jj _ _ (Vw (kx_Mo_wholeOf l g Q) 0 0 0 _ _ _)
  refine J_sub [0] (lv' := [(0, .ref (ad 34))]) rfl ?_
  unfold f_Mo_wholeOf
  refine J_aload_n 0 rfl d_Mo_wholeOf_0 ?_
  refine J_callVv (m_Mo_runsTold l g ad _) ok_Mo_runsTold rc_34 wi_Mo_runsTold wl_Mo_Mo_runsTold wk_Mo_241 ⟨rfl, rfl, Nat.le_of_ble_eq_true rfl, Nat.le_of_ble_eq_true rfl⟩ ⟨Nat.zero_le _, Nat.zero_le _⟩ (rest := []) rfl rfl (Nat.le_of_ble_eq_true rfl) d_Mo_wholeOf_1 (fun h1 => ?_)
  refine J_iconst (v := 0) rfl d_Mo_wholeOf_4 ?_
  refine J_istore_n (lv' := [(1, .int 0), (0, .ref (ad 34))]) 1 rfl (Nat.le_of_ble_eq_true rfl) rfl d_Mo_wholeOf_5 ?_
  refine J_iconst (v := 0) rfl d_Mo_wholeOf_6 ?_
  refine J_istore_n (lv' := [(2, .int 0), (1, .int 0), (0, .ref (ad 34))]) 2 rfl (Nat.le_of_ble_eq_true rfl) rfl d_Mo_wholeOf_7 ?_
  refine J_bd3 (fun (v12 : Int32) (v13 : Int32) (h14 : HP) => Vw (kx_Mo_wholeOf l g Q) 0 0 41 [(2, .int v12), (1, .int v13), (0, .ref (ad 34))] [] (pic g ad h14)) ?_ (fun v12 v13 h14 => ?_)
  · exact J_sub [0, 1, 2] rfl (mlp_Mo_wholeOf_8 l g ad Q 400 _ _ _)
  · refine J_iload_n 1 rfl d_Mo_wholeOf_41 ?_
    exact J_iret (Nat.le_refl _) (Nat.le_refl _) d_Mo_wholeOf_42 rfl (fun hx => hx)
def f_Mo_whole (h0 : HP) : Option (Int32 × HP) :=
 bd2 (f_Mo_wholeOf h0) (fun (v1 : Int32) (h2 : HP) =>
 some (v1, h2))
set_option maxRecDepth 20000 in
set_option maxHeartbeats 4000000 in
theorem m_Mo_whole (l : Launch) (g : GG) (ad : Nat → Nat) (h0 : HP) : CM l g ad y_Mo_whole b_Mo_whole 1 (some .int) rm_Mo_whole [.ref (ad 34)] h0 enI (f_Mo_whole h0) := by
  refine CM.of (by decide) (Nat.le_of_ble_eq_true rfl) (fun Q => ?_)
  show Jj _ _ (Vw (kx_Mo_whole l g Q) 0 0 0 _ _ _)
  refine J_sub [0] (lv' := [(0, .ref (ad 34))]) rfl ?_
  unfold f_Mo_whole
  refine J_aload_n 0 rfl d_Mo_whole_0 ?_
  refine J_callVi (m_Mo_wholeOf l g ad _) ok_Mo_wholeOf rc_34 wi_Mo_wholeOf wl_Mo_Mo_wholeOf wk_Mo_264 ⟨rfl, rfl, Nat.le_of_ble_eq_true rfl, Nat.le_of_ble_eq_true rfl⟩ ⟨Nat.zero_le _, Nat.zero_le _⟩ (rest := []) rfl rfl (Nat.le_of_ble_eq_true rfl) d_Mo_whole_1 (fun v1 h2 => ?_)
  exact J_iret (Nat.le_refl _) (Nat.le_refl _) d_Mo_whole_4 rfl (fun hx => hx)
