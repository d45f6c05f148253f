def f_Mo_put (a1 : Int32) (a2 : Int32) (a3 : Int32) (a4 : Int32) (h0 : HP) : Option (Int32 × HP) :=
 bd2 (f_Mo_isSheet a1 h0) (fun (v5 : Int32) (h6 : HP) =>
 (if v5 = 0 then
 some ((-2), h6)
 else
 bd2 (f_Mo_in a2 0 2 h6) (fun (v8 : Int32) (h9 : HP) =>
 (if v8 = 0 then
 some ((-2), h9)
 else
 bd2 (f_Mo_lacks a1 a2 a3 h9) (fun (v11 : Int32) (h12 : HP) =>
 (if v11 ≤ 0 then
 bd1 (f_Mo_keep a1 a3 a4 h12) (fun (h14 : HP) =>
 some (1, h14))
 else
 bd2 (f_Mo_meets v11 h12) (fun (v15 : Int32) (h16 : HP) =>
 some (v15, h16))))))))
set_option maxRecDepth 20000 in
set_option maxHeartbeats 4000000 in
theorem m_Mo_put (l : Launch) (g : GG) (ad : Nat → Nat) (a1 : Int32) (a2 : Int32) (a3 : Int32) (a4 : Int32) (h0 : HP) : CM l g ad y_Mo_put b_Mo_put 6 (some .int) rm_Mo_put [.ref (ad 34), .int a1, .int a2, .int a3, .int a4] h0 enI (f_Mo_put a1 a2 a3 a4 h0) := by
  refine CM.of (by decide) (Nat.le_of_ble_eq_true rfl) (fun Q => ?_)
  show Jj _ _ (Vw (kx_Mo_put l g Q) 0 0 0 _ _ _)
  refine J_sub [0, 1, 2, 3, 4] (lv' := [(0, .ref (ad 34)), (1, .int a1), (2, .int a2), (3, .int a3), (4, .int a4)]) rfl ?_
  unfold f_Mo_put
  refine J_iload_n 1 rfl d_Mo_put_0 ?_
  refine J_callSi (m_Mo_isSheet l g ad _ _) ok_Mo_isSheet ws_Mo_isSheet wk_Mo_174 ⟨rfl, rfl, Nat.le_of_ble_eq_true rfl, Nat.le_of_ble_eq_true rfl⟩ ⟨Nat.zero_le _, Nat.zero_le _⟩ (rest := []) rfl rfl (Nat.le_of_ble_eq_true rfl) d_Mo_put_1 (fun v5 h6 => ?_)
  refine J_if_eq 16 rfl d_Mo_put_4 (fun c7 => ?_) (fun c7 => ?_)
  · refine J_bipush (v := (-2)) rfl d_Mo_put_16 ?_
    exact J_iret (Nat.le_refl _) (Nat.le_refl _) d_Mo_put_18 rfl (fun hx => hx)
  · refine J_iload_n 2 rfl d_Mo_put_7 ?_
    refine J_iconst (v := 0) rfl d_Mo_put_8 ?_
    refine J_iconst (v := 2) rfl d_Mo_put_9 ?_
    refine J_callSi (m_Mo_in l g ad _ _ _ _) ok_Mo_in ws_Mo_in wk_Mo_115 ⟨rfl, rfl, Nat.le_of_ble_eq_true rfl, Nat.le_of_ble_eq_true rfl⟩ ⟨Nat.zero_le _, Nat.zero_le _⟩ (rest := []) rfl rfl (Nat.le_of_ble_eq_true rfl) d_Mo_put_10 (fun v8 h9 => ?_)
    refine J_if_ne 19 rfl d_Mo_put_13 (fun c10 => ?_) (fun c10 => ?_)
    · refine J_aload_n 0 rfl d_Mo_put_19 ?_
      refine J_iload_n 1 rfl d_Mo_put_20 ?_
      refine J_iload_n 2 rfl d_Mo_put_21 ?_
      refine J_iload_n 3 rfl d_Mo_put_22 ?_
      refine J_callVi (m_Mo_lacks l g ad _ _ _ _) ok_Mo_lacks rc_34 wi_Mo_lacks wl_Mo_Mo_lacks wk_Mo_332 ⟨rfl, rfl, Nat.le_of_ble_eq_true rfl, Nat.le_of_ble_eq_true rfl⟩ ⟨Nat.zero_le _, Nat.zero_le _⟩ (rest := []) rfl rfl (Nat.le_of_ble_eq_true rfl) d_Mo_put_23 (fun v11 h12 => ?_)
      refine J_istore (lv' := [(5, .int v11), (0, .ref (ad 34)), (1, .int a1), (2, .int a2), (3, .int a3), (4, .int a4)]) (Nat.le_of_ble_eq_true rfl) rfl d_Mo_put_26 ?_
      refine J_iload 0 rfl d_Mo_put_28 ?_
      refine J_if_le 40 rfl d_Mo_put_30 (fun c13 => ?_) (fun c13 => ?_)
      · refine J_aload_n 1 rfl d_Mo_put_40 ?_
        refine J_iload_n 2 rfl d_Mo_put_41 ?_
        refine J_iload_n 4 rfl d_Mo_put_42 ?_
        refine J_iload 5 rfl d_Mo_put_43 ?_
        refine J_callVv (m_Mo_keep l g ad _ _ _ _) ok_Mo_keep rc_34 wi_Mo_keep wl_Mo_Mo_keep wk_Mo_335 ⟨rfl, rfl, Nat.le_of_ble_eq_true rfl, Nat.le_of_ble_eq_true rfl⟩ ⟨Nat.zero_le _, Nat.zero_le _⟩ (rest := []) rfl rfl (Nat.le_of_ble_eq_true rfl) d_Mo_put_45 (fun h14 => ?_)
        refine J_iconst (v := 1) rfl d_Mo_put_48 ?_
        exact J_iret (Nat.le_refl _) (Nat.le_refl _) d_Mo_put_49 rfl (fun hx => hx)
      · refine J_aload_n 1 rfl d_Mo_put_33 ?_
        refine J_iload 0 rfl d_Mo_put_34 ?_
        refine J_callVi (m_Mo_meets l g ad _ _) ok_Mo_meets rc_34 wi_Mo_meets wl_Mo_Mo_meets wk_Mo_177 ⟨rfl, rfl, Nat.le_of_ble_eq_true rfl, Nat.le_of_ble_eq_true rfl⟩ ⟨Nat.zero_le _, Nat.zero_le _⟩ (rest := []) rfl rfl (Nat.le_of_ble_eq_true rfl) d_Mo_put_36 (fun v15 h16 => ?_)
        exact J_iret (Nat.le_refl _) (Nat.le_refl _) d_Mo_put_39 rfl (fun hx => hx)
    · refine J_bipush (v := (-2)) rfl d_Mo_put_16 ?_
      exact J_iret (Nat.le_refl _) (Nat.le_refl _) d_Mo_put_18 rfl (fun hx => hx)
def f_Mo_get (a1 : Int32) (a2 : Int32) (a3 : Int32) (h0 : HP) : Option (Int32 × HP) :=
 bd2 (f_Mo_isSheet a1 h0) (fun (v4 : Int32) (h5 : HP) =>
 (if v4 = 0 then
 some ((-2147483648), h5)
 else
 bd2 (f_Mo_in a2 0 2 h5) (fun (v7 : Int32) (h8 : HP) =>
 (if v7 = 0 then
 some ((-2147483648), h8)
 else
 bd2 (f_Mo_lacks a1 a2 a3 h8) (fun (v10 : Int32) (h11 : HP) =>
 (if v10 ≤ 0 then
 ckk (inb ((60 * a1) + a3) 240) (ltt (rA h11 1 ((60 * a1) + a3)) (fun (v13 : Int32) =>
 some (v13, h11)))
 else
 ltt (sI h11 34 44 v10) (fun (h14 : HP) =>
 some ((-2147483648), h14))))))))
set_option maxRecDepth 20000 in
set_option maxHeartbeats 4000000 in
theorem m_Mo_get (l : Launch) (g : GG) (ad : Nat → Nat) (a1 : Int32) (a2 : Int32) (a3 : Int32) (h0 : HP) : CM l g ad y_Mo_get b_Mo_get 5 (some .int) rm_Mo_get [.ref (ad 34), .int a1, .int a2, .int a3] h0 enI (f_Mo_get a1 a2 a3 h0) := by
  refine CM.of (by decide) (Nat.le_of_ble_eq_true rfl) (fun Q => ?_)
  show Jj _ _ (Vw (kx_Mo_get l g Q) 0 0 0 _ _ _)
  refine J_sub [0, 1, 2, 3] (lv' := [(0, .ref (ad 34)), (1, .int a1), (2, .int a2), (3, .int a3)]) rfl ?_
  unfold f_Mo_get
  refine J_iload_n 1 rfl d_Mo_get_0 ?_
  refine J_callSi (m_Mo_isSheet l g ad _ _) ok_Mo_isSheet ws_Mo_isSheet wk_Mo_174 ⟨rfl, rfl, Nat.le_of_ble_eq_true rfl, Nat.le_of_ble_eq_true rfl⟩ ⟨Nat.zero_le _, Nat.zero_le _⟩ (rest := []) rfl rfl (Nat.le_of_ble_eq_true rfl) d_Mo_get_1 (fun v4 h5 => ?_)
  refine J_if_eq 16 rfl d_Mo_get_4 (fun c6 => ?_) (fun c6 => ?_)
  · refine J_ldcw (v := (-2147483648)) kc_Mo_339 d_Mo_get_16 ?_
    exact J_iret (Nat.le_refl _) (Nat.le_refl _) d_Mo_get_19 rfl (fun hx => hx)
  · refine J_iload_n 2 rfl d_Mo_get_7 ?_
    refine J_iconst (v := 0) rfl d_Mo_get_8 ?_
    refine J_iconst (v := 2) rfl d_Mo_get_9 ?_
    refine J_callSi (m_Mo_in l g ad _ _ _ _) ok_Mo_in ws_Mo_in wk_Mo_115 ⟨rfl, rfl, Nat.le_of_ble_eq_true rfl, Nat.le_of_ble_eq_true rfl⟩ ⟨Nat.zero_le _, Nat.zero_le _⟩ (rest := []) rfl rfl (Nat.le_of_ble_eq_true rfl) d_Mo_get_10 (fun v7 h8 => ?_)
    refine J_if_ne 20 rfl d_Mo_get_13 (fun c9 => ?_) (fun c9 => ?_)
    · refine J_aload_n 0 rfl d_Mo_get_20 ?_
      refine J_iload_n 1 rfl d_Mo_get_21 ?_
      refine J_iload_n 2 rfl d_Mo_get_22 ?_
      refine J_iload_n 3 rfl d_Mo_get_23 ?_
      refine J_callVi (m_Mo_lacks l g ad _ _ _ _) ok_Mo_lacks rc_34 wi_Mo_lacks wl_Mo_Mo_lacks wk_Mo_332 ⟨rfl, rfl, Nat.le_of_ble_eq_true rfl, Nat.le_of_ble_eq_true rfl⟩ ⟨Nat.zero_le _, Nat.zero_le _⟩ (rest := []) rfl rfl (Nat.le_of_ble_eq_true rfl) d_Mo_get_24 (fun v10 h11 => ?_)
      refine J_istore (lv' := [(4, .int v10), (0, .ref (ad 34)), (1, .int a1), (2, .int a2), (3, .int a3)]) (Nat.le_of_ble_eq_true rfl) rfl d_Mo_get_27 ?_
      refine J_iload 0 rfl d_Mo_get_29 ?_
      refine J_if_le 44 rfl d_Mo_get_31 (fun c12 => ?_) (fun c12 => ?_)
      · refine J_aload_n 1 rfl d_Mo_get_44 ?_
        refine J_getR fo_Mo_107_34 rfl d_Mo_get_45 ?_
        refine J_bipush (v := 60) rfl d_Mo_get_48 ?_
        refine J_iload_n 2 rfl d_Mo_get_50 ?_
        refine J_imul d_Mo_get_51 ?_
        refine J_iload_n 4 rfl d_Mo_get_52 ?_
        refine J_iadd d_Mo_get_53 ?_
        refine P_ia (by decide) rfl rfl d_Mo_get_54 (fun v13 => ?_)
        exact J_iret (Nat.le_refl _) (Nat.le_refl _) d_Mo_get_55 rfl (fun hx => hx)
      · refine J_aload_n 1 rfl d_Mo_get_34 ?_
        refine J_iload 0 rfl d_Mo_get_35 ?_
        refine P_wI fo_Mo_329_34 rfl d_Mo_get_37 (fun h14 => ?_)
        refine J_ldcw (v := (-2147483648)) kc_Mo_339 d_Mo_get_40 ?_
        exact J_iret (Nat.le_refl _) (Nat.le_refl _) d_Mo_get_43 rfl (fun hx => hx)
    · refine J_ldcw (v := (-2147483648)) kc_Mo_339 d_Mo_get_16 ?_
      exact J_iret (Nat.le_refl _) (Nat.le_refl _) d_Mo_get_19 rfl (fun hx => hx)
def lp_Mo_copy_120 (a1 : Int32) (a2 : Int32) (a3 : Int32) (a4 : Int32) (a5 : Int32) : Nat → Int32 → HP → Option (Int32 × HP)
 | 0, _, _ => none
 | fu + 1, v36, h37 =>
 (if a5 ≤ v36 then
 some (v36, h37)
 else
 ckk (inb (((60 * a1) + a2) + v36) 240) (ltt (rA h37 1 (((60 * a1) + a2) + v36)) (fun (v39 : Int32) =>
 ckk (inb v36 60) (ltt (wA h37 0 v36 v39) (fun (h40 : HP) =>
 ltt (v36 + 1) (fun (v41 : Int32) =>
 lp_Mo_copy_120 a1 a2 a3 a4 a5 fu v41 h40))))))
def lp_Mo_copy_157 (a1 : Int32) (a2 : Int32) (a3 : Int32) (a4 : Int32) (a5 : Int32) : Nat → Int32 → HP → Option (Int32 × HP)
 | 0, _, _ => none
 | fu + 1, v44, h45 =>
 (if a5 ≤ v44 then
 some (v44, h45)
 else
 ckk (inb v44 60) (ltt (rA h45 0 v44) (fun (v47 : Int32) =>
 ckk (inb (((60 * a3) + a4) + v44) 240) (ltt (wA h45 1 (((60 * a3) + a4) + v44) v47) (fun (h48 : HP) =>
 ltt (v44 + 1) (fun (v49 : Int32) =>
 lp_Mo_copy_157 a1 a2 a3 a4 a5 fu v49 h48))))))
def f_Mo_copy (a1 : Int32) (a2 : Int32) (a3 : Int32) (a4 : Int32) (a5 : Int32) (h0 : HP) : Option (Int32 × HP) :=
 bd2 (f_Mo_isSheet a1 h0) (fun (v6 : Int32) (h7 : HP) =>
 (if v6 = 0 then
 some ((-2), h7)
 else
 bd2 (f_Mo_isSheet a3 h7) (fun (v9 : Int32) (h10 : HP) =>
 (if v9 = 0 then
 some ((-2), h10)
 else
 ckk (inb a1 4) (ltt (rA h10 4 a1) (fun (v12 : Int32) =>
 (if v12 = 0 then
 bd2 (f_Mo_meets 1 h10) (fun (v14 : Int32) (h15 : HP) =>
 some (v14, h15))
 else
 ckk (inb a3 4) (ltt (rA h10 4 a3) (fun (v16 : Int32) =>
 (if v16 = 0 then
 bd2 (f_Mo_meets 1 h10) (fun (v56 : Int32) (h57 : HP) =>
 some (v56, h57))
 else
 ckk (inb a1 4) (ltt (rA h10 3 a1) (fun (v18 : Int32) =>
 ckk (inb a3 4) (ltt (rA h10 3 a3) (fun (v19 : Int32) =>
 (if v18 = v19 then
 (if a2 < 0 then
 bd2 (f_Mo_meets 2 h10) (fun (v22 : Int32) (h23 : HP) =>
 some (v22, h23))
 else
 (if a4 < 0 then
 bd2 (f_Mo_meets 2 h10) (fun (v25 : Int32) (h26 : HP) =>
 some (v25, h26))
 else
 (if a5 < 0 then
 bd2 (f_Mo_meets 2 h10) (fun (v28 : Int32) (h29 : HP) =>
 some (v28, h29))
 else
 ckk (inb a1 4) (ltt (rA h10 2 a1) (fun (v30 : Int32) =>
 (if 0 < lg_cmp ((Int32.toInt64 a2) + (Int32.toInt64 a5)) (Int32.toInt64 v30) then
 bd2 (f_Mo_meets 2 h10) (fun (v32 : Int32) (h33 : HP) =>
 some (v32, h33))
 else
 ckk (inb a3 4) (ltt (rA h10 2 a3) (fun (v34 : Int32) =>
 (if lg_cmp ((Int32.toInt64 a4) + (Int32.toInt64 a5)) (Int32.toInt64 v34) ≤ 0 then
 bd2 (lp_Mo_copy_120 a1 a2 a3 a4 a5 400 0 h10) (fun (v42 : Int32) (h43 : HP) =>
 bd2 (lp_Mo_copy_157 a1 a2 a3 a4 a5 400 0 h43) (fun (v50 : Int32) (h51 : HP) =>
 some (1, h51)))
 else
 bd2 (f_Mo_meets 2 h10) (fun (v52 : Int32) (h53 : HP) =>
 some (v52, h53)))))))))))
 else
 bd2 (f_Mo_meets 4 h10) (fun (v54 : Int32) (h55 : HP) =>
 some (v54, h55)))))))))))))))))
set_option maxRecDepth 20000 in
set_option maxHeartbeats 4000000 in
theorem mlp_Mo_copy_120 (l : Launch) (g : GG) (ad : Nat → Nat) (Q : Option Value → va_W → Prop) (a1 : Int32) (a2 : Int32) (a3 : Int32) (a4 : Int32) (a5 : Int32) : ∀ (fu : Nat) (v36 : Int32) (h37 : HP), Jj (fun q : Int32 × HP => Vw (kx_Mo_copy l g Q) 0 0 154 [(6, .int (q.1)), (0, .ref (ad 34)), (1, .int a1), (2, .int a2), (3, .int a3), (4, .int a4), (5, .int a5)] [] (pic g ad q.2)) (lp_Mo_copy_120 a1 a2 a3 a4 a5 fu v36 h37) (Vw (kx_Mo_copy l g Q) 0 0 120 [(6, .int v36), (0, .ref (ad 34)), (1, .int a1), (2, .int a2), (3, .int a3), (4, .int a4), (5, .int a5)] [] (pic g ad h37)) := by
  intro fu
  induction fu with
  | zero =>
    intro v36 h37
    exact J_none
  | succ fu ih =>
    intro v36 h37
    rw [lp_Mo_copy_120]
    refine J_iload 0 rfl d_Mo_copy_120 ?_
    refine J_iload 6 rfl d_Mo_copy_122 ?_
    refine J_icmp_ge 154 rfl d_Mo_copy_124 (fun c38 => ?_) (fun c38 => ?_)
    · exact J_exit [0, 1, 2, 3, 4, 5, 6] rfl (fun hx => hx)
    · refine J_aload_n 1 rfl d_Mo_copy_127 ?_
      refine J_getR fo_Mo_110_34 rfl d_Mo_copy_128 ?_
      refine J_iload 0 rfl d_Mo_copy_131 ?_
      refine J_aload_n 1 rfl d_Mo_copy_133 ?_
      refine J_getR fo_Mo_107_34 rfl d_Mo_copy_134 ?_
      refine J_bipush (v := 60) rfl d_Mo_copy_137 ?_
      refine J_iload_n 2 rfl d_Mo_copy_139 ?_
      refine J_imul d_Mo_copy_140 ?_
      refine J_iload_n 3 rfl d_Mo_copy_141 ?_
      refine J_iadd d_Mo_copy_142 ?_
      refine J_iload 0 rfl d_Mo_copy_143 ?_
      refine J_iadd d_Mo_copy_145 ?_
      refine P_ia (by decide) rfl rfl d_Mo_copy_146 (fun v39 => ?_)
      refine P_wa (by decide) rfl rfl d_Mo_copy_147 (fun h40 => ?_)
      refine P_inc (w := 1) (lv' := fun v41 => [(6, .int v41), (0, .ref (ad 34)), (1, .int a1), (2, .int a2), (3, .int a3), (4, .int a4), (5, .int a5)]) 0 rfl rfl (Nat.le_of_ble_eq_true rfl) (fun _ => rfl) d_Mo_copy_148 (fun v41 => ?_)
      refine J_goto 120 rfl d_Mo_copy_151 ?_
      exact J_sub [0, 1, 2, 3, 4, 5, 6] rfl (ih _ _)
set_option maxRecDepth 20000 in
set_option maxHeartbeats 4000000 in
theorem mlp_Mo_copy_157 (l : Launch) (g : GG) (ad : Nat → Nat) (Q : Option Value → va_W → Prop) (a1 : Int32) (a2 : Int32) (a3 : Int32) (a4 : Int32) (a5 : Int32) : ∀ (fu : Nat) (v44 : Int32) (h45 : HP), Jj (fun q : Int32 × HP => Vw (kx_Mo_copy l g Q) 0 0 192 [(6, .int (q.1)), (0, .ref (ad 34)), (1, .int a1), (2, .int a2), (3, .int a3), (4, .int a4), (5, .int a5)] [] (pic g ad q.2)) (lp_Mo_copy_157 a1 a2 a3 a4 a5 fu v44 h45) (Vw (kx_Mo_copy l g Q) 0 0 157 [(6, .int v44), (0, .ref (ad 34)), (1, .int a1), (2, .int a2), (3, .int a3), (4, .int a4), (5, .int a5)] [] (pic g ad h45)) := by
  intro fu
  induction fu with
  | zero =>
    intro v44 h45
    exact J_none
  | succ fu ih =>
    intro v44 h45
    rw [lp_Mo_copy_157]
    refine J_iload 0 rfl d_Mo_copy_157 ?_
    refine J_iload 6 rfl d_Mo_copy_159 ?_
    refine J_icmp_ge 192 rfl d_Mo_copy_161 (fun c46 => ?_) (fun c46 => ?_)
    · exact J_exit [0, 1, 2, 3, 4, 5, 6] rfl (fun hx => hx)
    · refine J_aload_n 1 rfl d_Mo_copy_164 ?_
      refine J_getR fo_Mo_107_34 rfl d_Mo_copy_165 ?_
      refine J_bipush (v := 60) rfl d_Mo_copy_168 ?_
      refine J_iload_n 4 rfl d_Mo_copy_170 ?_
      refine J_imul d_Mo_copy_171 ?_
      refine J_iload 5 rfl d_Mo_copy_172 ?_
      refine J_iadd d_Mo_copy_174 ?_
      refine J_iload 0 rfl d_Mo_copy_175 ?_
      refine J_iadd d_Mo_copy_177 ?_
      refine J_aload_n 1 rfl d_Mo_copy_178 ?_
      refine J_getR fo_Mo_110_34 rfl d_Mo_copy_179 ?_
      refine J_iload 0 rfl d_Mo_copy_182 ?_
      refine P_ia (by decide) rfl rfl d_Mo_copy_184 (fun v47 => ?_)
      refine P_wa (by decide) rfl rfl d_Mo_copy_185 (fun h48 => ?_)
      refine P_inc (w := 1) (lv' := fun v49 => [(6, .int v49), (0, .ref (ad 34)), (1, .int a1), (2, .int a2), (3, .int a3), (4, .int a4), (5, .int a5)]) 0 rfl rfl (Nat.le_of_ble_eq_true rfl) (fun _ => rfl) d_Mo_copy_186 (fun v49 => ?_)
      refine J_goto 157 rfl d_Mo_copy_189 ?_
      exact J_sub [0, 1, 2, 3, 4, 5, 6] rfl (ih _ _)
set_option maxRecDepth 20000 in
set_option maxHeartbeats 4000000 in
theorem m_Mo_copy (l : Launch) (g : GG) (ad : Nat → Nat) (a1 : Int32) (a2 : Int32) (a3 : Int32) (a4 : Int32) (a5 : Int32) (h0 : HP) : CM l g ad y_Mo_copy b_Mo_copy 7 (some .int) rm_Mo_copy [.ref (ad 34), .int a1, .int a2, .int a3, .int a4, .int a5] h0 enI (f_Mo_copy a1 a2 a3 a4 a5 h0) := by
  refine CM.of (by decide) (Nat.le_of_ble_eq_true rfl) (fun Q => ?_)
  show Jj _ _ (Vw (kx_Mo_copy l g Q) 0 0 0 _ _ _)
  refine J_sub [0, 1, 2, 3, 4, 5] (lv' := [(0, .ref (ad 34)), (1, .int a1), (2, .int a2), (3, .int a3), (4, .int a4), (5, .int a5)]) rfl ?_
  unfold f_Mo_copy
  refine J_iload_n 1 rfl d_Mo_copy_0 ?_
  refine J_callSi (m_Mo_isSheet l g ad _ _) ok_Mo_isSheet ws_Mo_isSheet wk_Mo_174 ⟨rfl, rfl, Nat.le_of_ble_eq_true rfl, Nat.le_of_ble_eq_true rfl⟩ ⟨Nat.zero_le _, Nat.zero_le _⟩ (rest := []) rfl rfl (Nat.le_of_ble_eq_true rfl) d_Mo_copy_1 (fun v6 h7 => ?_)
  refine J_if_eq 14 rfl d_Mo_copy_4 (fun c8 => ?_) (fun c8 => ?_)
  · refine J_bipush (v := (-2)) rfl d_Mo_copy_14 ?_
    exact J_iret (Nat.le_refl _) (Nat.le_refl _) d_Mo_copy_16 rfl (fun hx => hx)
  · refine J_iload_n 3 rfl d_Mo_copy_7 ?_
    refine J_callSi (m_Mo_isSheet l g ad _ _) ok_Mo_isSheet ws_Mo_isSheet wk_Mo_174 ⟨rfl, rfl, Nat.le_of_ble_eq_true rfl, Nat.le_of_ble_eq_true rfl⟩ ⟨Nat.zero_le _, Nat.zero_le _⟩ (rest := []) rfl rfl (Nat.le_of_ble_eq_true rfl) d_Mo_copy_8 (fun v9 h10 => ?_)
    refine J_if_ne 17 rfl d_Mo_copy_11 (fun c11 => ?_) (fun c11 => ?_)
    · refine J_aload_n 0 rfl d_Mo_copy_17 ?_
      refine J_getR fo_Mo_97_34 rfl d_Mo_copy_18 ?_
      refine J_iload_n 1 rfl d_Mo_copy_21 ?_
      refine P_za (by decide) rfl rfl d_Mo_copy_22 (fun v12 => ?_)
      refine J_if_eq 35 rfl d_Mo_copy_23 (fun c13 => ?_) (fun c13 => ?_)
      · refine J_aload_n 0 rfl d_Mo_copy_35 ?_
        refine J_iconst (v := 1) rfl d_Mo_copy_36 ?_
        refine J_callVi (m_Mo_meets l g ad _ _) ok_Mo_meets rc_34 wi_Mo_meets wl_Mo_Mo_meets wk_Mo_177 ⟨rfl, rfl, Nat.le_of_ble_eq_true rfl, Nat.le_of_ble_eq_true rfl⟩ ⟨Nat.zero_le _, Nat.zero_le _⟩ (rest := []) rfl rfl (Nat.le_of_ble_eq_true rfl) d_Mo_copy_37 (fun v14 h15 => ?_)
        exact J_iret (Nat.le_refl _) (Nat.le_refl _) d_Mo_copy_40 rfl (fun hx => hx)
      · refine J_aload_n 0 rfl d_Mo_copy_26 ?_
        refine J_getR fo_Mo_97_34 rfl d_Mo_copy_27 ?_
        refine J_iload_n 3 rfl d_Mo_copy_30 ?_
        refine P_za (by decide) rfl rfl d_Mo_copy_31 (fun v16 => ?_)
        refine J_if_ne 41 rfl d_Mo_copy_32 (fun c17 => ?_) (fun c17 => ?_)
        · refine J_aload_n 0 rfl d_Mo_copy_41 ?_
          refine J_getR fo_Mo_101_34 rfl d_Mo_copy_42 ?_
          refine J_iload_n 1 rfl d_Mo_copy_45 ?_
          refine P_ia (by decide) rfl rfl d_Mo_copy_46 (fun v18 => ?_)
          refine J_aload_n 0 rfl d_Mo_copy_47 ?_
          refine J_getR fo_Mo_101_34 rfl d_Mo_copy_48 ?_
          refine J_iload_n 3 rfl d_Mo_copy_51 ?_
          refine P_ia (by decide) rfl rfl d_Mo_copy_52 (fun v19 => ?_)
          refine J_icmp_eq 62 rfl d_Mo_copy_53 (fun c20 => ?_) (fun c20 => ?_)
          · refine J_iload_n 2 rfl d_Mo_copy_62 ?_
            refine J_if_lt 111 rfl d_Mo_copy_63 (fun c21 => ?_) (fun c21 => ?_)
            · refine J_aload_n 0 rfl d_Mo_copy_111 ?_
              refine J_iconst (v := 2) rfl d_Mo_copy_112 ?_
              refine J_callVi (m_Mo_meets l g ad _ _) ok_Mo_meets rc_34 wi_Mo_meets wl_Mo_Mo_meets wk_Mo_177 ⟨rfl, rfl, Nat.le_of_ble_eq_true rfl, Nat.le_of_ble_eq_true rfl⟩ ⟨Nat.zero_le _, Nat.zero_le _⟩ (rest := []) rfl rfl (Nat.le_of_ble_eq_true rfl) d_Mo_copy_113 (fun v22 h23 => ?_)
              exact J_iret (Nat.le_refl _) (Nat.le_refl _) d_Mo_copy_116 rfl (fun hx => hx)
            · refine J_iload 4 rfl d_Mo_copy_66 ?_
              refine J_if_lt 111 rfl d_Mo_copy_68 (fun c24 => ?_) (fun c24 => ?_)
              · refine J_aload_n 0 rfl d_Mo_copy_111 ?_
                refine J_iconst (v := 2) rfl d_Mo_copy_112 ?_
                refine J_callVi (m_Mo_meets l g ad _ _) ok_Mo_meets rc_34 wi_Mo_meets wl_Mo_Mo_meets wk_Mo_177 ⟨rfl, rfl, Nat.le_of_ble_eq_true rfl, Nat.le_of_ble_eq_true rfl⟩ ⟨Nat.zero_le _, Nat.zero_le _⟩ (rest := []) rfl rfl (Nat.le_of_ble_eq_true rfl) d_Mo_copy_113 (fun v25 h26 => ?_)
                exact J_iret (Nat.le_refl _) (Nat.le_refl _) d_Mo_copy_116 rfl (fun hx => hx)
              · refine J_iload 5 rfl d_Mo_copy_71 ?_
                refine J_if_lt 111 rfl d_Mo_copy_73 (fun c27 => ?_) (fun c27 => ?_)
                · refine J_aload_n 0 rfl d_Mo_copy_111 ?_
                  refine J_iconst (v := 2) rfl d_Mo_copy_112 ?_
                  refine J_callVi (m_Mo_meets l g ad _ _) ok_Mo_meets rc_34 wi_Mo_meets wl_Mo_Mo_meets wk_Mo_177 ⟨rfl, rfl, Nat.le_of_ble_eq_true rfl, Nat.le_of_ble_eq_true rfl⟩ ⟨Nat.zero_le _, Nat.zero_le _⟩ (rest := []) rfl rfl (Nat.le_of_ble_eq_true rfl) d_Mo_copy_113 (fun v28 h29 => ?_)
                  exact J_iret (Nat.le_refl _) (Nat.le_refl _) d_Mo_copy_116 rfl (fun hx => hx)
                · refine J_iload_n 2 rfl d_Mo_copy_76 ?_
                  refine J_i2l d_Mo_copy_77 ?_
                  refine J_iload 5 rfl d_Mo_copy_78 ?_
                  refine J_i2l d_Mo_copy_80 ?_
                  refine J_ladd d_Mo_copy_81 ?_
                  refine J_aload_n 0 rfl d_Mo_copy_82 ?_
                  refine J_getR fo_Mo_104_34 rfl d_Mo_copy_83 ?_
                  refine J_iload_n 1 rfl d_Mo_copy_86 ?_
                  refine P_ia (by decide) rfl rfl d_Mo_copy_87 (fun v30 => ?_)
                  refine J_i2l d_Mo_copy_88 ?_
                  refine J_lcmp d_Mo_copy_89 ?_
                  refine J_if_gt 111 rfl d_Mo_copy_90 (fun c31 => ?_) (fun c31 => ?_)
                  · refine J_aload_n 0 rfl d_Mo_copy_111 ?_
                    refine J_iconst (v := 2) rfl d_Mo_copy_112 ?_
                    refine J_callVi (m_Mo_meets l g ad _ _) ok_Mo_meets rc_34 wi_Mo_meets wl_Mo_Mo_meets wk_Mo_177 ⟨rfl, rfl, Nat.le_of_ble_eq_true rfl, Nat.le_of_ble_eq_true rfl⟩ ⟨Nat.zero_le _, Nat.zero_le _⟩ (rest := []) rfl rfl (Nat.le_of_ble_eq_true rfl) d_Mo_copy_113 (fun v32 h33 => ?_)
                    exact J_iret (Nat.le_refl _) (Nat.le_refl _) d_Mo_copy_116 rfl (fun hx => hx)
                  · refine J_iload 4 rfl d_Mo_copy_93 ?_
                    refine J_i2l d_Mo_copy_95 ?_
                    refine J_iload 5 rfl d_Mo_copy_96 ?_
                    refine J_i2l d_Mo_copy_98 ?_
                    refine J_ladd d_Mo_copy_99 ?_
                    refine J_aload_n 0 rfl d_Mo_copy_100 ?_
                    refine J_getR fo_Mo_104_34 rfl d_Mo_copy_101 ?_
                    refine J_iload_n 3 rfl d_Mo_copy_104 ?_
                    refine P_ia (by decide) rfl rfl d_Mo_copy_105 (fun v34 => ?_)
                    refine J_i2l d_Mo_copy_106 ?_
                    refine J_lcmp d_Mo_copy_107 ?_
                    refine J_if_le 117 rfl d_Mo_copy_108 (fun c35 => ?_) (fun c35 => ?_)
                    · refine J_iconst (v := 0) rfl d_Mo_copy_117 ?_
                      refine J_istore (lv' := [(6, .int 0), (0, .ref (ad 34)), (1, .int a1), (2, .int a2), (3, .int a3), (4, .int a4), (5, .int a5)]) (Nat.le_of_ble_eq_true rfl) rfl d_Mo_copy_118 ?_
                      refine J_bd2 (fun (v42 : Int32) (h43 : HP) => Vw (kx_Mo_copy l g Q) 0 0 154 [(6, .int v42), (0, .ref (ad 34)), (1, .int a1), (2, .int a2), (3, .int a3), (4, .int a4), (5, .int a5)] [] (pic g ad h43)) ?_ (fun v42 h43 => ?_)
                      · exact J_sub [0, 1, 2, 3, 4, 5, 6] rfl (mlp_Mo_copy_120 l g ad Q a1 a2 a3 a4 a5 400 _ _)
                      · refine J_iconst (v := 0) rfl d_Mo_copy_154 ?_
                        refine J_istore (lv' := [(6, .int 0), (0, .ref (ad 34)), (1, .int a1), (2, .int a2), (3, .int a3), (4, .int a4), (5, .int a5)]) (Nat.le_of_ble_eq_true rfl) rfl d_Mo_copy_155 ?_
                        refine J_bd2 (fun (v50 : Int32) (h51 : HP) => Vw (kx_Mo_copy l g Q) 0 0 192 [(6, .int v50), (0, .ref (ad 34)), (1, .int a1), (2, .int a2), (3, .int a3), (4, .int a4), (5, .int a5)] [] (pic g ad h51)) ?_ (fun v50 h51 => ?_)
                        · exact J_sub [0, 1, 2, 3, 4, 5, 6] rfl (mlp_Mo_copy_157 l g ad Q a1 a2 a3 a4 a5 400 _ _)
                        · refine J_iconst (v := 1) rfl d_Mo_copy_192 ?_
                          exact J_iret (Nat.le_refl _) (Nat.le_refl _) d_Mo_copy_193 rfl (fun hx => hx)
                    · refine J_aload_n 0 rfl d_Mo_copy_111 ?_
                      refine J_iconst (v := 2) rfl d_Mo_copy_112 ?_
                      refine J_callVi (m_Mo_meets l g ad _ _) ok_Mo_meets rc_34 wi_Mo_meets wl_Mo_Mo_meets wk_Mo_177 ⟨rfl, rfl, Nat.le_of_ble_eq_true rfl, Nat.le_of_ble_eq_true rfl⟩ ⟨Nat.zero_le _, Nat.zero_le _⟩ (rest := []) rfl rfl (Nat.le_of_ble_eq_true rfl) d_Mo_copy_113 (fun v52 h53 => ?_)
                      exact J_iret (Nat.le_refl _) (Nat.le_refl _) d_Mo_copy_116 rfl (fun hx => hx)
          · refine J_aload_n 0 rfl d_Mo_copy_56 ?_
            refine J_iconst (v := 4) rfl d_Mo_copy_57 ?_
            refine J_callVi (m_Mo_meets l g ad _ _) ok_Mo_meets rc_34 wi_Mo_meets wl_Mo_Mo_meets wk_Mo_177 ⟨rfl, rfl, Nat.le_of_ble_eq_true rfl, Nat.le_of_ble_eq_true rfl⟩ ⟨Nat.zero_le _, Nat.zero_le _⟩ (rest := []) rfl rfl (Nat.le_of_ble_eq_true rfl) d_Mo_copy_58 (fun v54 h55 => ?_)
            exact J_iret (Nat.le_refl _) (Nat.le_refl _) d_Mo_copy_61 rfl (fun hx => hx)
        · refine J_aload_n 0 rfl d_Mo_copy_35 ?_
          refine J_iconst (v := 1) rfl d_Mo_copy_36 ?_
          refine J_callVi (m_Mo_meets l g ad _ _) ok_Mo_meets rc_34 wi_Mo_meets wl_Mo_Mo_meets wk_Mo_177 ⟨rfl, rfl, Nat.le_of_ble_eq_true rfl, Nat.le_of_ble_eq_true rfl⟩ ⟨Nat.zero_le _, Nat.zero_le _⟩ (rest := []) rfl rfl (Nat.le_of_ble_eq_true rfl) d_Mo_copy_37 (fun v56 h57 => ?_)
          exact J_iret (Nat.le_refl _) (Nat.le_refl _) d_Mo_copy_40 rfl (fun hx => hx)
    · refine J_bipush (v := (-2)) rfl d_Mo_copy_14 ?_
      exact J_iret (Nat.le_refl _) (Nat.le_refl _) d_Mo_copy_16 rfl (fun hx => hx)
def lp_Mo_write_39 (a1 : Int32) (a2 : Int32) : Nat → Int32 → HP → Option (Int32 × HP)
 | 0, _, _ => none
 | fu + 1, v12, h13 =>
 ckk (inb a2 4) (ltt (rA h13 2 a2) (fun (v14 : Int32) =>
 (if v14 ≤ v12 then
 some (v12, h13)
 else
 (if 24 ≤ v12 then
 some (v12, h13)
 else
 ckk (inb ((8 * v12) + a1) 192) (ltt (rA h13 15 ((8 * v12) + a1)) (fun (v17 : Int32) =>
 bd1 (f_Mo_keep a2 v12 v17 h13) (fun (h18 : HP) =>
 ltt (v12 + 1) (fun (v19 : Int32) =>
 lp_Mo_write_39 a1 a2 fu v19 h18))))))))
def f_Mo_write (a1 : Int32) (a2 : Int32) (h0 : HP) : Option (Int32 × HP) :=
 bd2 (f_Mo_isCamel a1 h0) (fun (v3 : Int32) (h4 : HP) =>
 (if v3 = 0 then
 some ((-2), h4)
 else
 bd2 (f_Mo_isSheet a2 h4) (fun (v6 : Int32) (h7 : HP) =>
 (if v6 = 0 then
 some ((-2), h7)
 else
 ckk (inb a2 4) (ltt (rA h7 4 a2) (fun (v9 : Int32) =>
 (if v9 = 0 then
 bd2 (f_Mo_meets 1 h7) (fun (v22 : Int32) (h23 : HP) =>
 some (v22, h23))
 else
 bd1 (f_Mo_runsTold h7) (fun (h11 : HP) =>
 bd2 (lp_Mo_write_39 a1 a2 400 0 h11) (fun (v20 : Int32) (h21 : HP) =>
 some (v20, h21))))))))))
set_option maxRecDepth 20000 in
set_option maxHeartbeats 4000000 in
theorem mlp_Mo_write_39 (l : Launch) (g : GG) (ad : Nat → Nat) (Q : Option Value → va_W → Prop) (a1 : Int32) (a2 : Int32) : ∀ (fu : Nat) (v12 : Int32) (h13 : HP), Jj (fun q : Int32 × HP => Vw (kx_Mo_write l g Q) 0 0 78 [(3, .int (q.1)), (0, .ref (ad 34)), (1, .int a1), (2, .int a2)] [] (pic g ad q.2)) (lp_Mo_write_39 a1 a2 fu v12 h13) (Vw (kx_Mo_write l g Q) 0 0 39 [(3, .int v12), (0, .ref (ad 34)), (1, .int a1), (2, .int a2)] [] (pic g ad h13)) := by
  intro fu
  induction fu with
  | zero =>
    intro v12 h13
    exact J_none
  | succ fu ih =>
    intro v12 h13
    rw [lp_Mo_write_39]
    refine J_iload_n 0 rfl d_Mo_write_39 ?_
    refine J_aload_n 1 rfl d_Mo_write_40 ?_
    refine J_getR fo_Mo_104_34 rfl d_Mo_write_41 ?_
    refine J_iload_n 3 rfl d_Mo_write_44 ?_
    refine P_ia (by decide) rfl rfl d_Mo_write_45 (fun v14 => ?_)
    refine J_icmp_ge 78 rfl d_Mo_write_46 (fun c15 => ?_) (fun c15 => ?_)
    · exact J_exit [0, 1, 2, 3] rfl (fun hx => hx)
    · refine J_iload_n 0 rfl d_Mo_write_49 ?_
      refine J_bipush (v := 24) rfl d_Mo_write_50 ?_
      refine J_icmp_ge 78 rfl d_Mo_write_52 (fun c16 => ?_) (fun c16 => ?_)
      · exact J_exit [0, 1, 2, 3] rfl (fun hx => hx)
      · refine J_aload_n 1 rfl d_Mo_write_55 ?_
        refine J_iload_n 3 rfl d_Mo_write_56 ?_
        refine J_iload_n 0 rfl d_Mo_write_57 ?_
        refine J_aload_n 1 rfl d_Mo_write_58 ?_
        refine J_getR fo_Mo_64_34 rfl d_Mo_write_59 ?_
        refine J_bipush (v := 8) rfl d_Mo_write_62 ?_
        refine J_iload_n 0 rfl d_Mo_write_64 ?_
        refine J_imul d_Mo_write_65 ?_
        refine J_iload_n 2 rfl d_Mo_write_66 ?_
        refine J_iadd d_Mo_write_67 ?_
        refine P_ia (by decide) rfl rfl d_Mo_write_68 (fun v17 => ?_)
        refine J_callVv (m_Mo_keep l g ad _ _ _ _) ok_Mo_keep rc_34 wi_Mo_keep wl_Mo_Mo_keep wk_Mo_335 ⟨rfl, rfl, Nat.le_of_ble_eq_true rfl, Nat.le_of_ble_eq_true rfl⟩ ⟨Nat.zero_le _, Nat.zero_le _⟩ (rest := []) rfl rfl (Nat.le_of_ble_eq_true rfl) d_Mo_write_69 (fun h18 => ?_)
        refine P_inc (w := 1) (lv' := fun v19 => [(3, .int v19), (0, .ref (ad 34)), (1, .int a1), (2, .int a2)]) 0 rfl rfl (Nat.le_of_ble_eq_true rfl) (fun _ => rfl) d_Mo_write_72 (fun v19 => ?_)
        refine J_goto 39 rfl d_Mo_write_75 ?_
        exact J_sub [0, 1, 2, 3] rfl (ih _ _)
set_option maxRecDepth 20000 in
set_option maxHeartbeats 4000000 in
theorem m_Mo_write (l : Launch) (g : GG) (ad : Nat → Nat) (a1 : Int32) (a2 : Int32) (h0 : HP) : CM l g ad y_Mo_write b_Mo_write 4 (some .int) rm_Mo_write [.ref (ad 34), .int a1, .int a2] h0 enI (f_Mo_write a1 a2 h0) := by
  refine CM.of (by decide) (Nat.le_of_ble_eq_true rfl) (fun Q => ?_)
  show Jj _ _ (Vw (kx_Mo_write l g Q) 0 0 0 _ _ _)
  refine J_sub [0, 1, 2] (lv' := [(0, .ref (ad 34)), (1, .int a1), (2, .int a2)]) rfl ?_
  unfold f_Mo_write
  refine J_aload_n 0 rfl d_Mo_write_0 ?_
  refine J_iload_n 1 rfl d_Mo_write_1 ?_
  refine J_callVi (m_Mo_isCamel l g ad _ _) ok_Mo_isCamel rc_34 wi_Mo_isCamel wl_Mo_Mo_isCamel wk_Mo_150 ⟨rfl, rfl, Nat.le_of_ble_eq_true rfl, Nat.le_of_ble_eq_true rfl⟩ ⟨Nat.zero_le _, Nat.zero_le _⟩ (rest := []) rfl rfl (Nat.le_of_ble_eq_true rfl) d_Mo_write_2 (fun v3 h4 => ?_)
  refine J_if_eq 15 rfl d_Mo_write_5 (fun c5 => ?_) (fun c5 => ?_)
  · refine J_bipush (v := (-2)) rfl d_Mo_write_15 ?_
    exact J_iret (Nat.le_refl _) (Nat.le_refl _) d_Mo_write_17 rfl (fun hx => hx)
  · refine J_iload_n 2 rfl d_Mo_write_8 ?_
    refine J_callSi (m_Mo_isSheet l g ad _ _) ok_Mo_isSheet ws_Mo_isSheet wk_Mo_174 ⟨rfl, rfl, Nat.le_of_ble_eq_true rfl, Nat.le_of_ble_eq_true rfl⟩ ⟨Nat.zero_le _, Nat.zero_le _⟩ (rest := []) rfl rfl (Nat.le_of_ble_eq_true rfl) d_Mo_write_9 (fun v6 h7 => ?_)
    refine J_if_ne 18 rfl d_Mo_write_12 (fun c8 => ?_) (fun c8 => ?_)
    · refine J_aload_n 0 rfl d_Mo_write_18 ?_
      refine J_getR fo_Mo_97_34 rfl d_Mo_write_19 ?_
      refine J_iload_n 2 rfl d_Mo_write_22 ?_
      refine P_za (by decide) rfl rfl d_Mo_write_23 (fun v9 => ?_)
      refine J_if_ne 33 rfl d_Mo_write_24 (fun c10 => ?_) (fun c10 => ?_)
      · refine J_aload_n 0 rfl d_Mo_write_33 ?_
        refine J_callVv (m_Mo_runsTold l g ad _) ok_Mo_runsTold rc_34 wi_Mo_runsTold wl_Mo_Mo_runsTold wk_Mo_241 ⟨rfl, rfl, Nat.le_of_ble_eq_true rfl, Nat.le_of_ble_eq_true rfl⟩ ⟨Nat.zero_le _, Nat.zero_le _⟩ (rest := []) rfl rfl (Nat.le_of_ble_eq_true rfl) d_Mo_write_34 (fun h11 => ?_)
        refine J_iconst (v := 0) rfl d_Mo_write_37 ?_
        refine J_istore_n (lv' := [(3, .int 0), (0, .ref (ad 34)), (1, .int a1), (2, .int a2)]) 3 rfl (Nat.le_of_ble_eq_true rfl) rfl d_Mo_write_38 ?_
        refine J_bd2 (fun (v20 : Int32) (h21 : HP) => Vw (kx_Mo_write l g Q) 0 0 78 [(3, .int v20), (0, .ref (ad 34)), (1, .int a1), (2, .int a2)] [] (pic g ad h21)) ?_ (fun v20 h21 => ?_)
        · exact J_sub [0, 1, 2, 3] rfl (mlp_Mo_write_39 l g ad Q a1 a2 400 _ _)
        · refine J_iload_n 0 rfl d_Mo_write_78 ?_
          exact J_iret (Nat.le_refl _) (Nat.le_refl _) d_Mo_write_79 rfl (fun hx => hx)
      · refine J_aload_n 0 rfl d_Mo_write_27 ?_
        refine J_iconst (v := 1) rfl d_Mo_write_28 ?_
        refine J_callVi (m_Mo_meets l g ad _ _) ok_Mo_meets rc_34 wi_Mo_meets wl_Mo_Mo_meets wk_Mo_177 ⟨rfl, rfl, Nat.le_of_ble_eq_true rfl, Nat.le_of_ble_eq_true rfl⟩ ⟨Nat.zero_le _, Nat.zero_le _⟩ (rest := []) rfl rfl (Nat.le_of_ble_eq_true rfl) d_Mo_write_29 (fun v22 h23 => ?_)
        exact J_iret (Nat.le_refl _) (Nat.le_refl _) d_Mo_write_32 rfl (fun hx => hx)
    · refine J_bipush (v := (-2)) rfl d_Mo_write_15 ?_
      exact J_iret (Nat.le_refl _) (Nat.le_refl _) d_Mo_write_17 rfl (fun hx => hx)
def lp_Mo_feesAll_4 : Nat → Int32 → Int32 → HP → Option (Int32 × Int32 × HP)
 | 0, _, _, _ => none
 | fu + 1, v1, v2, h3 =>
 ltt (rI h3 34 2) (fun (v4 : Int32) =>
 (if v4 ≤ v1 then
 some (v1, v2, h3)
 else
 ckk (inb v1 8) (ltt (rA h3 19 v1) (fun (v6 : Int32) =>
 ltt (v2 + v6) (fun (v7 : Int32) =>
 ltt (v1 + 1) (fun (v8 : Int32) =>
 lp_Mo_feesAll_4 fu v8 v7 h3))))))
def f_Mo_feesAll (h0 : HP) : Option (Int32 × HP) :=
 bd3 (lp_Mo_feesAll_4 400 0 0 h0) (fun (v9 : Int32) (v10 : Int32) (h11 : HP) =>
 some (v10, h11))
set_option maxRecDepth 20000 in
set_option maxHeartbeats 4000000 in
theorem mlp_Mo_feesAll_4 (l : Launch) (g : GG) (ad : Nat → Nat) (Q : Option Value → va_W → Prop) : ∀ (fu : Nat) (v1 : Int32) (v2 : Int32) (h3 : HP), Jj (fun q : Int32 × Int32 × HP => Vw (kx_Mo_feesAll l g Q) 0 0 27 [(2, .int (q.1)), (1, .int (q.2.1)), (0, .ref (ad 34))] [] (pic g ad q.2.2)) (lp_Mo_feesAll_4 fu v1 v2 h3) (Vw (kx_Mo_feesAll l g Q) 0 0 4 [(2, .int v1), (1, .int v2), (0, .ref (ad 34))] [] (pic g ad h3)) := by
  intro fu
  induction fu with
  | zero =>
    intro v1 v2 h3
    exact J_none
  | succ fu ih =>
    intro v1 v2 h3
    rw [lp_Mo_feesAll_4]
    refine J_iload_n 0 rfl d_Mo_feesAll_4 ?_
    refine J_aload_n 2 rfl d_Mo_feesAll_5 ?_
    refine P_gI fo_Mo_127_34 rfl d_Mo_feesAll_6 (fun v4 => ?_)
    refine J_icmp_ge 27 rfl d_Mo_feesAll_9 (fun c5 => ?_) (fun c5 => ?_)
    · exact J_exit [0, 1, 2] rfl (fun hx => hx)
    · refine J_iload_n 1 rfl d_Mo_feesAll_12 ?_
      refine J_aload_n 2 rfl d_Mo_feesAll_13 ?_
      refine J_getR fo_Mo_52_34 rfl d_Mo_feesAll_14 ?_
      refine J_iload_n 0 rfl d_Mo_feesAll_17 ?_
      refine P_ia (by decide) rfl rfl d_Mo_feesAll_18 (fun v6 => ?_)
      refine J_iadd d_Mo_feesAll_19 ?_
      refine P_ist_n (lv' := fun v7 => [(1, .int v7), (2, .int v1), (0, .ref (ad 34))]) 1 rfl (Nat.le_of_ble_eq_true rfl) (fun _ => rfl) d_Mo_feesAll_20 (fun v7 => ?_)
      refine P_inc (w := 1) (lv' := fun v8 => [(2, .int v8), (1, .int v7), (0, .ref (ad 34))]) 1 rfl rfl (Nat.le_of_ble_eq_true rfl) (fun _ => rfl) d_Mo_feesAll_21 (fun v8 => ?_)
      refine J_goto 4 rfl d_Mo_feesAll_24 ?_
      exact J_sub [0, 1, 2] rfl (ih _ _ _)
set_option maxRecDepth 20000 in
set_option maxHeartbeats 4000000 in
theorem m_Mo_feesAll (l : Launch) (g : GG) (ad : Nat → Nat) (h0 : HP) : CM l g ad y_Mo_feesAll b_Mo_feesAll 3 (some .int) rm_Mo_feesAll [.ref (ad 34)] h0 enI (f_Mo_feesAll h0) := by
  refine CM.of (by decide) (Nat.le_of_ble_eq_true rfl) (fun Q => ?_)
  show Jj _ _ (Vw (kx_Mo_feesAll l g Q) 0 0 0 _ _ _)
  refine J_sub [0] (lv' := [(0, .ref (ad 34))]) rfl ?_
  unfold f_Mo_feesAll
  refine J_iconst (v := 0) rfl d_Mo_feesAll_0 ?_
  refine J_istore_n (lv' := [(1, .int 0), (0, .ref (ad 34))]) 1 rfl (Nat.le_of_ble_eq_true rfl) rfl d_Mo_feesAll_1 ?_
  refine J_iconst (v := 0) rfl d_Mo_feesAll_2 ?_
  refine J_istore_n (lv' := [(2, .int 0), (1, .int 0), (0, .ref (ad 34))]) 2 rfl (Nat.le_of_ble_eq_true rfl) rfl d_Mo_feesAll_3 ?_
  refine J_bd3 (fun (v9 : Int32) (v10 : Int32) (h11 : HP) => Vw (kx_Mo_feesAll l g Q) 0 0 27 [(2, .int v9), (1, .int v10), (0, .ref (ad 34))] [] (pic g ad h11)) ?_ (fun v9 v10 h11 => ?_)
  · exact J_sub [0, 1, 2] rfl (mlp_Mo_feesAll_4 l g ad Q 400 _ _ _)
  · refine J_iload_n 1 rfl d_Mo_feesAll_27 ?_
    exact J_iret (Nat.le_refl _) (Nat.le_refl _) d_Mo_feesAll_28 rfl (fun hx => hx)
def f_Mo_sumOf (a1 : Int32) (h0 : HP) : Option (Int32 × HP) :=
 bd1 (f_Mo_runsTold h0) (fun (h2 : HP) =>
 (if a1 = 0 then
 ltt (rI h2 34 2) (fun (v11 : Int32) =>
 some (v11, h2))
 else
 (if a1 = 1 then
 ltt (rI h2 34 5) (fun (v10 : Int32) =>
 some (v10, h2))
 else
 (if a1 = 5 then
 bd2 (f_Mo_feesAll h2) (fun (v8 : Int32) (h9 : HP) =>
 some (v8, h9))
 else
 bd2 (f_Mo_brokeAll h2) (fun (v6 : Int32) (h7 : HP) =>
 some (v6, h7))))))
set_option maxRecDepth 20000 in
set_option maxHeartbeats 4000000 in
theorem m_Mo_sumOf (l : Launch) (g : GG) (ad : Nat → Nat) (a1 : Int32) (h0 : HP) : CM l g ad y_Mo_sumOf b_Mo_sumOf 2 (some .int) rm_Mo_sumOf [.ref (ad 34), .int a1] h0 enI (f_Mo_sumOf a1 h0) := by
  refine CM.of (by decide) (Nat.le_of_ble_eq_true rfl) (fun Q => ?_)
  show Jj _ _ (Vw (kx_Mo_sumOf l g Q) 0 0 0 _ _ _)
  refine J_sub [0, 1] (lv' := [(0, .ref (ad 34)), (1, .int a1)]) rfl ?_
  unfold f_Mo_sumOf
  refine J_aload_n 0 rfl d_Mo_sumOf_0 ?_
  refine J_callVv (m_Mo_runsTold l g ad _) ok_Mo_runsTold rc_34 wi_Mo_runsTold wl_Mo_Mo_runsTold wk_Mo_241 ⟨rfl, rfl, Nat.le_of_ble_eq_true rfl, Nat.le_of_ble_eq_true rfl⟩ ⟨Nat.zero_le _, Nat.zero_le _⟩ (rest := []) rfl rfl (Nat.le_of_ble_eq_true rfl) d_Mo_sumOf_1 (fun h2 => ?_)
  refine J_iload_n 1 rfl d_Mo_sumOf_4 ?_
  refine J_if_ne 15 rfl d_Mo_sumOf_5 (fun c3 => ?_) (fun c3 => ?_)
  · refine J_iload_n 1 rfl d_Mo_sumOf_15 ?_
    refine J_iconst (v := 1) rfl d_Mo_sumOf_16 ?_
    refine J_icmp_ne 27 rfl d_Mo_sumOf_17 (fun c4 => ?_) (fun c4 => ?_)
    · refine J_iload_n 1 rfl d_Mo_sumOf_27 ?_
      refine J_iconst (v := 5) rfl d_Mo_sumOf_28 ?_
      refine J_icmp_ne 39 rfl d_Mo_sumOf_29 (fun c5 => ?_) (fun c5 => ?_)
      · refine J_aload_n 0 rfl d_Mo_sumOf_39 ?_
        refine J_callVi (m_Mo_brokeAll l g ad _) ok_Mo_brokeAll rc_34 wi_Mo_brokeAll wl_Mo_Mo_brokeAll wk_Mo_282 ⟨rfl, rfl, Nat.le_of_ble_eq_true rfl, Nat.le_of_ble_eq_true rfl⟩ ⟨Nat.zero_le _, Nat.zero_le _⟩ (rest := []) rfl rfl (Nat.le_of_ble_eq_true rfl) d_Mo_sumOf_40 (fun v6 h7 => ?_)
        exact J_iret (Nat.le_refl _) (Nat.le_refl _) d_Mo_sumOf_43 rfl (fun hx => hx)
      · refine J_aload_n 0 rfl d_Mo_sumOf_32 ?_
        refine J_callVi (m_Mo_feesAll l g ad _) ok_Mo_feesAll rc_34 wi_Mo_feesAll wl_Mo_Mo_feesAll wk_Mo_340 ⟨rfl, rfl, Nat.le_of_ble_eq_true rfl, Nat.le_of_ble_eq_true rfl⟩ ⟨Nat.zero_le _, Nat.zero_le _⟩ (rest := []) rfl rfl (Nat.le_of_ble_eq_true rfl) d_Mo_sumOf_33 (fun v8 h9 => ?_)
        refine J_goto 43 rfl d_Mo_sumOf_36 ?_
        exact J_iret (Nat.le_refl _) (Nat.le_refl _) d_Mo_sumOf_43 rfl (fun hx => hx)
    · refine J_aload_n 0 rfl d_Mo_sumOf_20 ?_
      refine P_gI fo_Mo_131_34 rfl d_Mo_sumOf_21 (fun v10 => ?_)
      refine J_goto 43 rfl d_Mo_sumOf_24 ?_
      exact J_iret (Nat.le_refl _) (Nat.le_refl _) d_Mo_sumOf_43 rfl (fun hx => hx)
  · refine J_aload_n 0 rfl d_Mo_sumOf_8 ?_
    refine P_gI fo_Mo_127_34 rfl d_Mo_sumOf_9 (fun v11 => ?_)
    refine J_goto 43 rfl d_Mo_sumOf_12 ?_
    exact J_iret (Nat.le_refl _) (Nat.le_refl _) d_Mo_sumOf_43 rfl (fun hx => hx)
def f_Mo_count (a1 : Int32) (h0 : HP) : Option (Int32 × HP) :=
 (if a1 = 0 then
 bd2 (f_Mo_sumOf a1 h0) (fun (v3 : Int32) (h4 : HP) =>
 some (v3, h4))
 else
 (if a1 = 1 then
 bd2 (f_Mo_sumOf a1 h0) (fun (v6 : Int32) (h7 : HP) =>
 some (v6, h7))
 else
 (if a1 = 2 then
 ckk (inb (a1 - 2) 2) (ltt (rA h0 33 (a1 - 2)) (fun (v9 : Int32) =>
 some (v9, h0)))
 else
 (if a1 = 3 then
 ckk (inb (a1 - 2) 2) (ltt (rA h0 33 (a1 - 2)) (fun (v11 : Int32) =>
 some (v11, h0)))
 else
 (if a1 = 4 then
 ltt (rI h0 34 9) (fun (v13 : Int32) =>
 some (v13, h0))
 else
 (if a1 = 5 then
 bd2 (f_Mo_sumOf a1 h0) (fun (v15 : Int32) (h16 : HP) =>
 some (v15, h16))
 else
 (if a1 = 6 then
 bd2 (f_Mo_sumOf a1 h0) (fun (v18 : Int32) (h19 : HP) =>
 some (v18, h19))
 else
 (if a1 = 7 then
 ltt (rI h0 34 34) (fun (v21 : Int32) =>
 some (v21, h0))
 else
 (if a1 = 8 then
 ltt (rI h0 34 44) (fun (v23 : Int32) =>
 some (v23, h0))
 else
 some ((-2), h0))))))))))
set_option maxRecDepth 20000 in
set_option maxHeartbeats 4000000 in
theorem m_Mo_count (l : Launch) (g : GG) (ad : Nat → Nat) (a1 : Int32) (h0 : HP) : CM l g ad y_Mo_count b_Mo_count 2 (some .int) rm_Mo_count [.ref (ad 34), .int a1] h0 enI (f_Mo_count a1 h0) := by
  refine CM.of (by decide) (Nat.le_of_ble_eq_true rfl) (fun Q => ?_)
  show Jj _ _ (Vw (kx_Mo_count l g Q) 0 0 0 _ _ _)
  refine J_sub [0, 1] (lv' := [(0, .ref (ad 34)), (1, .int a1)]) rfl ?_
  unfold f_Mo_count
  refine J_iload_n 1 rfl d_Mo_count_0 ?_
  refine J_ite (fun c2 => ?_) (fun c2 => ?_)
  · refine J_tswIn 52 (by rw [c2]; decide) (by rw [c2]; decide) (by rw [c2]; try rfl) rfl d_Mo_count_1 ?_
    refine J_aload_n 0 rfl d_Mo_count_52 ?_
    refine J_iload_n 1 rfl d_Mo_count_53 ?_
    refine J_callVi (m_Mo_sumOf l g ad _ _) ok_Mo_sumOf rc_34 wi_Mo_sumOf wl_Mo_Mo_sumOf wk_Mo_343 ⟨rfl, rfl, Nat.le_of_ble_eq_true rfl, Nat.le_of_ble_eq_true rfl⟩ ⟨Nat.zero_le _, Nat.zero_le _⟩ (rest := []) rfl rfl (Nat.le_of_ble_eq_true rfl) d_Mo_count_54 (fun v3 h4 => ?_)
    exact J_iret (Nat.le_refl _) (Nat.le_refl _) d_Mo_count_57 rfl (fun hx => hx)
  · refine J_ite (fun c5 => ?_) (fun c5 => ?_)
    · refine J_tswIn 52 (by rw [c5]; decide) (by rw [c5]; decide) (by rw [c5]; try rfl) rfl d_Mo_count_1 ?_
      refine J_aload_n 0 rfl d_Mo_count_52 ?_
      refine J_iload_n 1 rfl d_Mo_count_53 ?_
      refine J_callVi (m_Mo_sumOf l g ad _ _) ok_Mo_sumOf rc_34 wi_Mo_sumOf wl_Mo_Mo_sumOf wk_Mo_343 ⟨rfl, rfl, Nat.le_of_ble_eq_true rfl, Nat.le_of_ble_eq_true rfl⟩ ⟨Nat.zero_le _, Nat.zero_le _⟩ (rest := []) rfl rfl (Nat.le_of_ble_eq_true rfl) d_Mo_count_54 (fun v6 h7 => ?_)
      exact J_iret (Nat.le_refl _) (Nat.le_refl _) d_Mo_count_57 rfl (fun hx => hx)
    · refine J_ite (fun c8 => ?_) (fun c8 => ?_)
      · refine J_tswIn 58 (by rw [c8]; decide) (by rw [c8]; decide) (by rw [c8]; try rfl) rfl d_Mo_count_1 ?_
        refine J_aload_n 0 rfl d_Mo_count_58 ?_
        refine J_getR fo_Mo_7_34 rfl d_Mo_count_59 ?_
        refine J_iload_n 1 rfl d_Mo_count_62 ?_
        refine J_iconst (v := 2) rfl d_Mo_count_63 ?_
        refine J_isub d_Mo_count_64 ?_
        refine P_ia (by decide) rfl rfl d_Mo_count_65 (fun v9 => ?_)
        exact J_iret (Nat.le_refl _) (Nat.le_refl _) d_Mo_count_66 rfl (fun hx => hx)
      · refine J_ite (fun c10 => ?_) (fun c10 => ?_)
        · refine J_tswIn 58 (by rw [c10]; decide) (by rw [c10]; decide) (by rw [c10]; try rfl) rfl d_Mo_count_1 ?_
          refine J_aload_n 0 rfl d_Mo_count_58 ?_
          refine J_getR fo_Mo_7_34 rfl d_Mo_count_59 ?_
          refine J_iload_n 1 rfl d_Mo_count_62 ?_
          refine J_iconst (v := 2) rfl d_Mo_count_63 ?_
          refine J_isub d_Mo_count_64 ?_
          refine P_ia (by decide) rfl rfl d_Mo_count_65 (fun v11 => ?_)
          exact J_iret (Nat.le_refl _) (Nat.le_refl _) d_Mo_count_66 rfl (fun hx => hx)
        · refine J_ite (fun c12 => ?_) (fun c12 => ?_)
          · refine J_tswIn 67 (by rw [c12]; decide) (by rw [c12]; decide) (by rw [c12]; try rfl) rfl d_Mo_count_1 ?_
            refine J_aload_n 0 rfl d_Mo_count_67 ?_
            refine P_gI fo_Mo_171_34 rfl d_Mo_count_68 (fun v13 => ?_)
            exact J_iret (Nat.le_refl _) (Nat.le_refl _) d_Mo_count_71 rfl (fun hx => hx)
          · refine J_ite (fun c14 => ?_) (fun c14 => ?_)
            · refine J_tswIn 52 (by rw [c14]; decide) (by rw [c14]; decide) (by rw [c14]; try rfl) rfl d_Mo_count_1 ?_
              refine J_aload_n 0 rfl d_Mo_count_52 ?_
              refine J_iload_n 1 rfl d_Mo_count_53 ?_
              refine J_callVi (m_Mo_sumOf l g ad _ _) ok_Mo_sumOf rc_34 wi_Mo_sumOf wl_Mo_Mo_sumOf wk_Mo_343 ⟨rfl, rfl, Nat.le_of_ble_eq_true rfl, Nat.le_of_ble_eq_true rfl⟩ ⟨Nat.zero_le _, Nat.zero_le _⟩ (rest := []) rfl rfl (Nat.le_of_ble_eq_true rfl) d_Mo_count_54 (fun v15 h16 => ?_)
              exact J_iret (Nat.le_refl _) (Nat.le_refl _) d_Mo_count_57 rfl (fun hx => hx)
            · refine J_ite (fun c17 => ?_) (fun c17 => ?_)
              · refine J_tswIn 52 (by rw [c17]; decide) (by rw [c17]; decide) (by rw [c17]; try rfl) rfl d_Mo_count_1 ?_
                refine J_aload_n 0 rfl d_Mo_count_52 ?_
                refine J_iload_n 1 rfl d_Mo_count_53 ?_
                refine J_callVi (m_Mo_sumOf l g ad _ _) ok_Mo_sumOf rc_34 wi_Mo_sumOf wl_Mo_Mo_sumOf wk_Mo_343 ⟨rfl, rfl, Nat.le_of_ble_eq_true rfl, Nat.le_of_ble_eq_true rfl⟩ ⟨Nat.zero_le _, Nat.zero_le _⟩ (rest := []) rfl rfl (Nat.le_of_ble_eq_true rfl) d_Mo_count_54 (fun v18 h19 => ?_)
                exact J_iret (Nat.le_refl _) (Nat.le_refl _) d_Mo_count_57 rfl (fun hx => hx)
              · refine J_ite (fun c20 => ?_) (fun c20 => ?_)
                · refine J_tswIn 72 (by rw [c20]; decide) (by rw [c20]; decide) (by rw [c20]; try rfl) rfl d_Mo_count_1 ?_
                  refine J_aload_n 0 rfl d_Mo_count_72 ?_
                  refine P_gI fo_Mo_294_34 rfl d_Mo_count_73 (fun v21 => ?_)
                  exact J_iret (Nat.le_refl _) (Nat.le_refl _) d_Mo_count_76 rfl (fun hx => hx)
                · refine J_ite (fun c22 => ?_) (fun c22 => ?_)
                  · refine J_tswIn 77 (by rw [c22]; decide) (by rw [c22]; decide) (by rw [c22]; try rfl) rfl d_Mo_count_1 ?_
                    refine J_aload_n 0 rfl d_Mo_count_77 ?_
                    refine P_gI fo_Mo_329_34 rfl d_Mo_count_78 (fun v23 => ?_)
                    exact J_iret (Nat.le_refl _) (Nat.le_refl _) d_Mo_count_81 rfl (fun hx => hx)
                  · refine J_tswOut 82 (by have e0 := lv_neT (a := 0) c2 rfl; have e1 := lv_neT (a := 1) c5 rfl; have e2 := lv_neT (a := 2) c8 rfl; have e3 := lv_neT (a := 3) c10 rfl; have e4 := lv_neT (a := 4) c12 rfl; have e5 := lv_neT (a := 5) c14 rfl; have e6 := lv_neT (a := 6) c17 rfl; have e7 := lv_neT (a := 7) c20 rfl; have e8 := lv_neT (a := 8) c22 rfl; omega) rfl d_Mo_count_1 ?_
                    refine J_bipush (v := (-2)) rfl d_Mo_count_82 ?_
                    exact J_iret (Nat.le_refl _) (Nat.le_refl _) d_Mo_count_84 rfl (fun hx => hx)
def lp_Mo_baleDigest_6 (a1 : Int64) (a2 : Int32) : Nat → Int32 → Int64 → HP → Option (Int32 × Int64 × HP)
 | 0, _, _, _ => none
 | fu + 1, v3, v4, h5 =>
 (if 3 ≤ v3 then
 some (v3, v4, h5)
 else
 bd2 (f_Mo_baleOf a2 v3 h5) (fun (v7 : Int32) (h8 : HP) =>
 ltt ((31 * v4) + (Int32.toInt64 v7)) (fun (v9 : Int64) =>
 ltt (v3 + 1) (fun (v10 : Int32) =>
 lp_Mo_baleDigest_6 a1 a2 fu v10 v9 h8))))
def f_Mo_baleDigest (a1 : Int64) (a2 : Int32) (h0 : HP) : Option (Int64 × HP) :=
 bd3 (lp_Mo_baleDigest_6 a1 a2 400 0 a1 h0) (fun (v11 : Int32) (v12 : Int64) (h13 : HP) =>
 bd2 (f_Mo_bearOf a2 0 h13) (fun (v14 : Int32) (h15 : HP) =>
 ltt ((31 * v12) + (Int32.toInt64 v14)) (fun (v16 : Int64) =>
 bd2 (f_Mo_bearOf a2 1 h15) (fun (v17 : Int32) (h18 : HP) =>
 ltt ((31 * v16) + (Int32.toInt64 v17)) (fun (v19 : Int64) =>
 bd2 (f_Mo_whenOf a2 0 h18) (fun (v20 : Int32) (h21 : HP) =>
 ltt ((31 * v19) + (Int32.toInt64 v20)) (fun (v22 : Int64) =>
 bd2 (f_Mo_whenOf a2 1 h21) (fun (v23 : Int32) (h24 : HP) =>
 some ((31 * v22) + (Int32.toInt64 v23), h24)))))))))
set_option maxRecDepth 20000 in
set_option maxHeartbeats 4000000 in
theorem mlp_Mo_baleDigest_6 (l : Launch) (g : GG) (ad : Nat → Nat) (Q : Option Value → va_W → Prop) (a1 : Int64) (a2 : Int32) : ∀ (fu : Nat) (v3 : Int32) (v4 : Int64) (h5 : HP), Jj (fun q : Int32 × Int64 × HP => Vw (kx_Mo_baleDigest l g Q) 0 0 35 [(6, .int (q.1)), (4, .long (q.2.1)), (0, .ref (ad 34)), (1, .long a1), (3, .int a2)] [] (pic g ad q.2.2)) (lp_Mo_baleDigest_6 a1 a2 fu v3 v4 h5) (Vw (kx_Mo_baleDigest l g Q) 0 0 6 [(6, .int v3), (4, .long v4), (0, .ref (ad 34)), (1, .long a1), (3, .int a2)] [] (pic g ad h5)) := by
  intro fu
  induction fu with
  | zero =>
    intro v3 v4 h5
    exact J_none
  | succ fu ih =>
    intro v3 v4 h5
    rw [lp_Mo_baleDigest_6]
    refine J_iload 0 rfl d_Mo_baleDigest_6 ?_
    refine J_iconst (v := 3) rfl d_Mo_baleDigest_8 ?_
    refine J_icmp_ge 35 rfl d_Mo_baleDigest_9 (fun c6 => ?_) (fun c6 => ?_)
    · exact J_exit [0, 1, 2, 3, 4] rfl (fun hx => hx)
    · refine J_ldc2 (v := 31) kl_Mo_346 d_Mo_baleDigest_12 ?_
      refine J_lload 1 rfl d_Mo_baleDigest_15 ?_
      refine J_lmul d_Mo_baleDigest_17 ?_
      refine J_aload_n 2 rfl d_Mo_baleDigest_18 ?_
      refine J_iload_n 4 rfl d_Mo_baleDigest_19 ?_
      refine J_iload 0 rfl d_Mo_baleDigest_20 ?_
      refine J_callVi (m_Mo_baleOf l g ad _ _ _) ok_Mo_baleOf rc_34 wi_Mo_baleOf wl_Mo_Mo_baleOf wk_Mo_162 ⟨rfl, rfl, Nat.le_of_ble_eq_true rfl, Nat.le_of_ble_eq_true rfl⟩ ⟨Nat.zero_le _, Nat.zero_le _⟩ (rest := [.long (31 * v4)]) rfl rfl (Nat.le_of_ble_eq_true rfl) d_Mo_baleDigest_22 (fun v7 h8 => ?_)
      refine J_i2l d_Mo_baleDigest_25 ?_
      refine J_ladd d_Mo_baleDigest_26 ?_
      refine P_lst (lv' := fun v9 => [(4, .long v9), (6, .int v3), (0, .ref (ad 34)), (1, .long a1), (3, .int a2)]) (Nat.le_of_ble_eq_true rfl) (fun _ => rfl) d_Mo_baleDigest_27 (fun v9 => ?_)
      refine P_inc (w := 1) (lv' := fun v10 => [(6, .int v10), (4, .long v9), (0, .ref (ad 34)), (1, .long a1), (3, .int a2)]) 1 rfl rfl (Nat.le_of_ble_eq_true rfl) (fun _ => rfl) d_Mo_baleDigest_29 (fun v10 => ?_)
      refine J_goto 6 rfl d_Mo_baleDigest_32 ?_
      exact J_sub [0, 1, 2, 3, 4] rfl (ih _ _ _)
set_option maxRecDepth 20000 in
set_option maxHeartbeats 4000000 in
theorem m_Mo_baleDigest (l : Launch) (g : GG) (ad : Nat → Nat) (a1 : Int64) (a2 : Int32) (h0 : HP) : CM l g ad y_Mo_baleDigest b_Mo_baleDigest 7 (some .long) rm_Mo_baleDigest [.ref (ad 34), .long a1, .int a2] h0 enL (f_Mo_baleDigest a1 a2 h0) := by
  refine CM.of (by decide) (Nat.le_of_ble_eq_true rfl) (fun Q => ?_)
  show Jj _ _ (Vw (kx_Mo_baleDigest l g Q) 0 0 0 _ _ _)
  refine J_sub [0, 1, 2] (lv' := [(0, .ref (ad 34)), (1, .long a1), (3, .int a2)]) rfl ?_
  unfold f_Mo_baleDigest
  refine J_lload_n 1 rfl d_Mo_baleDigest_0 ?_
  refine J_lstore (lv' := [(4, .long a1), (0, .ref (ad 34)), (1, .long a1), (3, .int a2)]) (Nat.le_of_ble_eq_true rfl) rfl d_Mo_baleDigest_1 ?_
  refine J_iconst (v := 0) rfl d_Mo_baleDigest_3 ?_
  refine J_istore (lv' := [(6, .int 0), (4, .long a1), (0, .ref (ad 34)), (1, .long a1), (3, .int a2)]) (Nat.le_of_ble_eq_true rfl) rfl d_Mo_baleDigest_4 ?_
  refine J_bd3 (fun (v11 : Int32) (v12 : Int64) (h13 : HP) => Vw (kx_Mo_baleDigest l g Q) 0 0 35 [(6, .int v11), (4, .long v12), (0, .ref (ad 34)), (1, .long a1), (3, .int a2)] [] (pic g ad h13)) ?_ (fun v11 v12 h13 => ?_)
  · exact J_sub [0, 1, 2, 3, 4] rfl (mlp_Mo_baleDigest_6 l g ad Q a1 a2 400 _ _ _)
  · refine J_ldc2 (v := 31) kl_Mo_346 d_Mo_baleDigest_35 ?_
    refine J_lload 1 rfl d_Mo_baleDigest_38 ?_
    refine J_lmul d_Mo_baleDigest_40 ?_
    refine J_aload_n 2 rfl d_Mo_baleDigest_41 ?_
    refine J_iload_n 4 rfl d_Mo_baleDigest_42 ?_
    refine J_iconst (v := 0) rfl d_Mo_baleDigest_43 ?_
    refine J_callVi (m_Mo_bearOf l g ad _ _ _) ok_Mo_bearOf rc_34 wi_Mo_bearOf wl_Mo_Mo_bearOf wk_Mo_276 ⟨rfl, rfl, Nat.le_of_ble_eq_true rfl, Nat.le_of_ble_eq_true rfl⟩ ⟨Nat.zero_le _, Nat.zero_le _⟩ (rest := [.long (31 * v12)]) rfl rfl (Nat.le_of_ble_eq_true rfl) d_Mo_baleDigest_44 (fun v14 h15 => ?_)
    refine J_i2l d_Mo_baleDigest_47 ?_
    refine J_ladd d_Mo_baleDigest_48 ?_
    refine P_lst (lv' := fun v16 => [(4, .long v16), (6, .int v11), (0, .ref (ad 34)), (1, .long a1), (3, .int a2)]) (Nat.le_of_ble_eq_true rfl) (fun _ => rfl) d_Mo_baleDigest_49 (fun v16 => ?_)
    refine J_ldc2 (v := 31) kl_Mo_346 d_Mo_baleDigest_51 ?_
    refine J_lload 0 rfl d_Mo_baleDigest_54 ?_
    refine J_lmul d_Mo_baleDigest_56 ?_
    refine J_aload_n 2 rfl d_Mo_baleDigest_57 ?_
    refine J_iload_n 4 rfl d_Mo_baleDigest_58 ?_
    refine J_iconst (v := 1) rfl d_Mo_baleDigest_59 ?_
    refine J_callVi (m_Mo_bearOf l g ad _ _ _) ok_Mo_bearOf rc_34 wi_Mo_bearOf wl_Mo_Mo_bearOf wk_Mo_276 ⟨rfl, rfl, Nat.le_of_ble_eq_true rfl, Nat.le_of_ble_eq_true rfl⟩ ⟨Nat.zero_le _, Nat.zero_le _⟩ (rest := [.long (31 * v16)]) rfl rfl (Nat.le_of_ble_eq_true rfl) d_Mo_baleDigest_60 (fun v17 h18 => ?_)
    refine J_i2l d_Mo_baleDigest_63 ?_
    refine J_ladd d_Mo_baleDigest_64 ?_
    refine P_lst (lv' := fun v19 => [(4, .long v19), (6, .int v11), (0, .ref (ad 34)), (1, .long a1), (3, .int a2)]) (Nat.le_of_ble_eq_true rfl) (fun _ => rfl) d_Mo_baleDigest_65 (fun v19 => ?_)
    refine J_ldc2 (v := 31) kl_Mo_346 d_Mo_baleDigest_67 ?_
    refine J_lload 0 rfl d_Mo_baleDigest_70 ?_
    refine J_lmul d_Mo_baleDigest_72 ?_
    refine J_aload_n 2 rfl d_Mo_baleDigest_73 ?_
    refine J_iload_n 4 rfl d_Mo_baleDigest_74 ?_
    refine J_iconst (v := 0) rfl d_Mo_baleDigest_75 ?_
    refine J_callVi (m_Mo_whenOf l g ad _ _ _) ok_Mo_whenOf rc_34 wi_Mo_whenOf wl_Mo_Mo_whenOf wk_Mo_279 ⟨rfl, rfl, Nat.le_of_ble_eq_true rfl, Nat.le_of_ble_eq_true rfl⟩ ⟨Nat.zero_le _, Nat.zero_le _⟩ (rest := [.long (31 * v19)]) rfl rfl (Nat.le_of_ble_eq_true rfl) d_Mo_baleDigest_76 (fun v20 h21 => ?_)
    refine J_i2l d_Mo_baleDigest_79 ?_
    refine J_ladd d_Mo_baleDigest_80 ?_
    refine P_lst (lv' := fun v22 => [(4, .long v22), (6, .int v11), (0, .ref (ad 34)), (1, .long a1), (3, .int a2)]) (Nat.le_of_ble_eq_true rfl) (fun _ => rfl) d_Mo_baleDigest_81 (fun v22 => ?_)
    refine J_ldc2 (v := 31) kl_Mo_346 d_Mo_baleDigest_83 ?_
    refine J_lload 0 rfl d_Mo_baleDigest_86 ?_
    refine J_lmul d_Mo_baleDigest_88 ?_
    refine J_aload_n 2 rfl d_Mo_baleDigest_89 ?_
    refine J_iload_n 4 rfl d_Mo_baleDigest_90 ?_
    refine J_iconst (v := 1) rfl d_Mo_baleDigest_91 ?_
    refine J_callVi (m_Mo_whenOf l g ad _ _ _) ok_Mo_whenOf rc_34 wi_Mo_whenOf wl_Mo_Mo_whenOf wk_Mo_279 ⟨rfl, rfl, Nat.le_of_ble_eq_true rfl, Nat.le_of_ble_eq_true rfl⟩ ⟨Nat.zero_le _, Nat.zero_le _⟩ (rest := [.long (31 * v22)]) rfl rfl (Nat.le_of_ble_eq_true rfl) d_Mo_baleDigest_92 (fun v23 h24 => ?_)
    refine J_i2l d_Mo_baleDigest_95 ?_
    refine J_ladd d_Mo_baleDigest_96 ?_
    exact J_lret (Nat.le_refl _) (Nat.le_refl _) d_Mo_baleDigest_97 rfl (fun hx => hx)
def lp_Mo_dayDigest_6 (a1 : Int64) (a2 : Int32) (a3 : Int32) : Nat → Int32 → Int64 → HP → Option (Int32 × Int64 × HP)
 | 0, _, _, _ => none
 | fu + 1, v4, v5, h6 =>
 (if 6 ≤ v4 then
 some (v4, v5, h6)
 else
 bd2 (f_Mo_atOf a2 a3 v4 h6) (fun (v8 : Int32) (h9 : HP) =>
 ltt ((31 * v5) + (Int32.toInt64 v8)) (fun (v10 : Int64) =>
 ltt (v4 + 1) (fun (v11 : Int32) =>
 lp_Mo_dayDigest_6 a1 a2 a3 fu v11 v10 h9))))
def f_Mo_dayDigest (a1 : Int64) (a2 : Int32) (a3 : Int32) (h0 : HP) : Option (Int64 × HP) :=
 bd3 (lp_Mo_dayDigest_6 a1 a2 a3 400 0 a1 h0) (fun (v12 : Int32) (v13 : Int64) (h14 : HP) =>
 some (v13, h14))
set_option maxRecDepth 20000 in
set_option maxHeartbeats 4000000 in
theorem mlp_Mo_dayDigest_6 (l : Launch) (g : GG) (ad : Nat → Nat) (Q : Option Value → va_W → Prop) (a1 : Int64) (a2 : Int32) (a3 : Int32) : ∀ (fu : Nat) (v4 : Int32) (v5 : Int64) (h6 : HP), Jj (fun q : Int32 × Int64 × HP => Vw (kx_Mo_dayDigest l g Q) 0 0 38 [(7, .int (q.1)), (5, .long (q.2.1)), (0, .ref (ad 34)), (1, .long a1), (3, .int a2), (4, .int a3)] [] (pic g ad q.2.2)) (lp_Mo_dayDigest_6 a1 a2 a3 fu v4 v5 h6) (Vw (kx_Mo_dayDigest l g Q) 0 0 6 [(7, .int v4), (5, .long v5), (0, .ref (ad 34)), (1, .long a1), (3, .int a2), (4, .int a3)] [] (pic g ad h6)) := by
  intro fu
  induction fu with
  | zero =>
    intro v4 v5 h6
    exact J_none
  | succ fu ih =>
    intro v4 v5 h6
    rw [lp_Mo_dayDigest_6]
    refine J_iload 0 rfl d_Mo_dayDigest_6 ?_
    refine J_bipush (v := 6) rfl d_Mo_dayDigest_8 ?_
    refine J_icmp_ge 38 rfl d_Mo_dayDigest_10 (fun c7 => ?_) (fun c7 => ?_)
    · exact J_exit [0, 1, 2, 3, 4, 5] rfl (fun hx => hx)
    · refine J_ldc2 (v := 31) kl_Mo_346 d_Mo_dayDigest_13 ?_
      refine J_lload 1 rfl d_Mo_dayDigest_16 ?_
      refine J_lmul d_Mo_dayDigest_18 ?_
      refine J_aload_n 2 rfl d_Mo_dayDigest_19 ?_
      refine J_iload_n 4 rfl d_Mo_dayDigest_20 ?_
      refine J_iload 5 rfl d_Mo_dayDigest_21 ?_
      refine J_iload 0 rfl d_Mo_dayDigest_23 ?_
      refine J_callVi (m_Mo_atOf l g ad _ _ _ _) ok_Mo_atOf rc_34 wi_Mo_atOf wl_Mo_Mo_atOf wk_Mo_244 ⟨rfl, rfl, Nat.le_of_ble_eq_true rfl, Nat.le_of_ble_eq_true rfl⟩ ⟨Nat.zero_le _, Nat.zero_le _⟩ (rest := [.long (31 * v5)]) rfl rfl (Nat.le_of_ble_eq_true rfl) d_Mo_dayDigest_25 (fun v8 h9 => ?_)
      refine J_i2l d_Mo_dayDigest_28 ?_
      refine J_ladd d_Mo_dayDigest_29 ?_
      refine P_lst (lv' := fun v10 => [(5, .long v10), (7, .int v4), (0, .ref (ad 34)), (1, .long a1), (3, .int a2), (4, .int a3)]) (Nat.le_of_ble_eq_true rfl) (fun _ => rfl) d_Mo_dayDigest_30 (fun v10 => ?_)
      refine P_inc (w := 1) (lv' := fun v11 => [(7, .int v11), (5, .long v10), (0, .ref (ad 34)), (1, .long a1), (3, .int a2), (4, .int a3)]) 1 rfl rfl (Nat.le_of_ble_eq_true rfl) (fun _ => rfl) d_Mo_dayDigest_32 (fun v11 => ?_)
      refine J_goto 6 rfl d_Mo_dayDigest_35 ?_
      exact J_sub [0, 1, 2, 3, 4, 5] rfl (ih _ _ _)
set_option maxRecDepth 20000 in
set_option maxHeartbeats 4000000 in
theorem m_Mo_dayDigest (l : Launch) (g : GG) (ad : Nat → Nat) (a1 : Int64) (a2 : Int32) (a3 : Int32) (h0 : HP) : CM l g ad y_Mo_dayDigest b_Mo_dayDigest 8 (some .long) rm_Mo_dayDigest [.ref (ad 34), .long a1, .int a2, .int a3] h0 enL (f_Mo_dayDigest a1 a2 a3 h0) := by
  refine CM.of (by decide) (Nat.le_of_ble_eq_true rfl) (fun Q => ?_)
  show Jj _ _ (Vw (kx_Mo_dayDigest l g Q) 0 0 0 _ _ _)
  refine J_sub [0, 1, 2, 3] (lv' := [(0, .ref (ad 34)), (1, .long a1), (3, .int a2), (4, .int a3)]) rfl ?_
  unfold f_Mo_dayDigest
  refine J_lload_n 1 rfl d_Mo_dayDigest_0 ?_
  refine J_lstore (lv' := [(5, .long a1), (0, .ref (ad 34)), (1, .long a1), (3, .int a2), (4, .int a3)]) (Nat.le_of_ble_eq_true rfl) rfl d_Mo_dayDigest_1 ?_
  refine J_iconst (v := 0) rfl d_Mo_dayDigest_3 ?_
  refine J_istore (lv' := [(7, .int 0), (5, .long a1), (0, .ref (ad 34)), (1, .long a1), (3, .int a2), (4, .int a3)]) (Nat.le_of_ble_eq_true rfl) rfl d_Mo_dayDigest_4 ?_
  refine J_bd3 (fun (v12 : Int32) (v13 : Int64) (h14 : HP) => Vw (kx_Mo_dayDigest l g Q) 0 0 38 [(7, .int v12), (5, .long v13), (0, .ref (ad 34)), (1, .long a1), (3, .int a2), (4, .int a3)] [] (pic g ad h14)) ?_ (fun v12 v13 h14 => ?_)
  · exact J_sub [0, 1, 2, 3, 4, 5] rfl (mlp_Mo_dayDigest_6 l g ad Q a1 a2 a3 400 _ _ _)
  · refine J_lload 1 rfl d_Mo_dayDigest_38 ?_
    exact J_lret (Nat.le_refl _) (Nat.le_refl _) d_Mo_dayDigest_40 rfl (fun hx => hx)
def f_Mo_camelDigest (a1 : Int64) (a2 : Int32) (h0 : HP) : Option (Int64 × HP) :=
 bd2 (f_Mo_camelOf a2 0 h0) (fun (v3 : Int32) (h4 : HP) =>
 ltt ((31 * a1) + (Int32.toInt64 v3)) (fun (v5 : Int64) =>
 bd2 (f_Mo_camelOf a2 1 h4) (fun (v6 : Int32) (h7 : HP) =>
 ltt ((31 * v5) + (Int32.toInt64 v6)) (fun (v8 : Int64) =>
 bd2 (f_Mo_dayDigest v8 0 a2 h7) (fun (v9 : Int64) (h10 : HP) =>
 bd2 (f_Mo_dayDigest v9 7 a2 h10) (fun (v11 : Int64) (h12 : HP) =>
 bd2 (f_Mo_dayDigest v11 14 a2 h12) (fun (v13 : Int64) (h14 : HP) =>
 bd2 (f_Mo_dayDigest v13 23 a2 h14) (fun (v15 : Int64) (h16 : HP) =>
 bd2 (f_Mo_lastOf a2 5 h16) (fun (v17 : Int32) (h18 : HP) =>
 ltt ((31 * v15) + (Int32.toInt64 v17)) (fun (v19 : Int64) =>
 bd2 (f_Mo_sortsBy a2 h18) (fun (v20 : Int32) (h21 : HP) =>
 ltt ((31 * v19) + (Int32.toInt64 v20)) (fun (v22 : Int64) =>
 bd2 (f_Mo_strongBy a2 h21) (fun (v23 : Int32) (h24 : HP) =>
 ltt ((31 * v22) + (Int32.toInt64 v23)) (fun (v25 : Int64) =>
 bd2 (f_Mo_askOf a2 h24) (fun (v26 : Int32) (h27 : HP) =>
 ltt ((31 * v25) + (Int32.toInt64 v26)) (fun (v28 : Int64) =>
 bd2 (f_Mo_chanceOf 5 a2 0 h27) (fun (v29 : Int64) (h30 : HP) =>
 ltt ((31 * v28) + v29) (fun (v31 : Int64) =>
 bd2 (f_Mo_chanceOf 5 a2 1 h30) (fun (v32 : Int64) (h33 : HP) =>
 some ((31 * v31) + v32, h33))))))))))))))))))))
set_option maxRecDepth 20000 in
set_option maxHeartbeats 4000000 in
theorem m_Mo_camelDigest (l : Launch) (g : GG) (ad : Nat → Nat) (a1 : Int64) (a2 : Int32) (h0 : HP) : CM l g ad y_Mo_camelDigest b_Mo_camelDigest 6 (some .long) rm_Mo_camelDigest [.ref (ad 34), .long a1, .int a2] h0 enL (f_Mo_camelDigest a1 a2 h0) := by
  refine CM.of (by decide) (Nat.le_of_ble_eq_true rfl) (fun Q => ?_)
  show Jj _ _ (Vw (kx_Mo_camelDigest l g Q) 0 0 0 _ _ _)
  refine J_sub [0, 1, 2] (lv' := [(0, .ref (ad 34)), (1, .long a1), (3, .int a2)]) rfl ?_
  unfold f_Mo_camelDigest
  refine J_ldc2 (v := 31) kl_Mo_346 d_Mo_camelDigest_0 ?_
  refine J_lload_n 1 rfl d_Mo_camelDigest_3 ?_
  refine J_lmul d_Mo_camelDigest_4 ?_
  refine J_aload_n 0 rfl d_Mo_camelDigest_5 ?_
  refine J_iload_n 2 rfl d_Mo_camelDigest_6 ?_
  refine J_iconst (v := 0) rfl d_Mo_camelDigest_7 ?_
  refine J_callVi (m_Mo_camelOf l g ad _ _ _) ok_Mo_camelOf rc_34 wi_Mo_camelOf wl_Mo_Mo_camelOf wk_Mo_156 ⟨rfl, rfl, Nat.le_of_ble_eq_true rfl, Nat.le_of_ble_eq_true rfl⟩ ⟨Nat.zero_le _, Nat.zero_le _⟩ (rest := [.long (31 * a1)]) rfl rfl (Nat.le_of_ble_eq_true rfl) d_Mo_camelDigest_8 (fun v3 h4 => ?_)
  refine J_i2l d_Mo_camelDigest_11 ?_
  refine J_ladd d_Mo_camelDigest_12 ?_
  refine P_lst (lv' := fun v5 => [(4, .long v5), (0, .ref (ad 34)), (1, .long a1), (3, .int a2)]) (Nat.le_of_ble_eq_true rfl) (fun _ => rfl) d_Mo_camelDigest_13 (fun v5 => ?_)
  refine J_ldc2 (v := 31) kl_Mo_346 d_Mo_camelDigest_15 ?_
  refine J_lload 0 rfl d_Mo_camelDigest_18 ?_
  refine J_lmul d_Mo_camelDigest_20 ?_
  refine J_aload_n 1 rfl d_Mo_camelDigest_21 ?_
  refine J_iload_n 3 rfl d_Mo_camelDigest_22 ?_
  refine J_iconst (v := 1) rfl d_Mo_camelDigest_23 ?_
  refine J_callVi (m_Mo_camelOf l g ad _ _ _) ok_Mo_camelOf rc_34 wi_Mo_camelOf wl_Mo_Mo_camelOf wk_Mo_156 ⟨rfl, rfl, Nat.le_of_ble_eq_true rfl, Nat.le_of_ble_eq_true rfl⟩ ⟨Nat.zero_le _, Nat.zero_le _⟩ (rest := [.long (31 * v5)]) rfl rfl (Nat.le_of_ble_eq_true rfl) d_Mo_camelDigest_24 (fun v6 h7 => ?_)
  refine J_i2l d_Mo_camelDigest_27 ?_
  refine J_ladd d_Mo_camelDigest_28 ?_
  refine P_lst (lv' := fun v8 => [(4, .long v8), (0, .ref (ad 34)), (1, .long a1), (3, .int a2)]) (Nat.le_of_ble_eq_true rfl) (fun _ => rfl) d_Mo_camelDigest_29 (fun v8 => ?_)
  refine J_aload_n 1 rfl d_Mo_camelDigest_31 ?_
  refine J_lload 0 rfl d_Mo_camelDigest_32 ?_
  refine J_iconst (v := 0) rfl d_Mo_camelDigest_34 ?_
  refine J_iload_n 3 rfl d_Mo_camelDigest_35 ?_
  refine J_callVl (m_Mo_dayDigest l g ad _ _ _ _) ok_Mo_dayDigest rc_34 wi_Mo_dayDigest wl_Mo_Mo_dayDigest wk_Mo_348 ⟨rfl, rfl, Nat.le_of_ble_eq_true rfl, Nat.le_of_ble_eq_true rfl⟩ ⟨Nat.zero_le _, Nat.zero_le _⟩ (rest := []) rfl rfl (Nat.le_of_ble_eq_true rfl) d_Mo_camelDigest_36 (fun v9 h10 => ?_)
  refine J_lstore (lv' := [(4, .long v9), (0, .ref (ad 34)), (1, .long a1), (3, .int a2)]) (Nat.le_of_ble_eq_true rfl) rfl d_Mo_camelDigest_39 ?_
  refine J_aload_n 1 rfl d_Mo_camelDigest_41 ?_
  refine J_lload 0 rfl d_Mo_camelDigest_42 ?_
  refine J_bipush (v := 7) rfl d_Mo_camelDigest_44 ?_
  refine J_iload_n 3 rfl d_Mo_camelDigest_46 ?_
  refine J_callVl (m_Mo_dayDigest l g ad _ _ _ _) ok_Mo_dayDigest rc_34 wi_Mo_dayDigest wl_Mo_Mo_dayDigest wk_Mo_348 ⟨rfl, rfl, Nat.le_of_ble_eq_true rfl, Nat.le_of_ble_eq_true rfl⟩ ⟨Nat.zero_le _, Nat.zero_le _⟩ (rest := []) rfl rfl (Nat.le_of_ble_eq_true rfl) d_Mo_camelDigest_47 (fun v11 h12 => ?_)
  refine J_lstore (lv' := [(4, .long v11), (0, .ref (ad 34)), (1, .long a1), (3, .int a2)]) (Nat.le_of_ble_eq_true rfl) rfl d_Mo_camelDigest_50 ?_
  refine J_aload_n 1 rfl d_Mo_camelDigest_52 ?_
  refine J_lload 0 rfl d_Mo_camelDigest_53 ?_
  refine J_bipush (v := 14) rfl d_Mo_camelDigest_55 ?_
  refine J_iload_n 3 rfl d_Mo_camelDigest_57 ?_
  refine J_callVl (m_Mo_dayDigest l g ad _ _ _ _) ok_Mo_dayDigest rc_34 wi_Mo_dayDigest wl_Mo_Mo_dayDigest wk_Mo_348 ⟨rfl, rfl, Nat.le_of_ble_eq_true rfl, Nat.le_of_ble_eq_true rfl⟩ ⟨Nat.zero_le _, Nat.zero_le _⟩ (rest := []) rfl rfl (Nat.le_of_ble_eq_true rfl) d_Mo_camelDigest_58 (fun v13 h14 => ?_)
  refine J_lstore (lv' := [(4, .long v13), (0, .ref (ad 34)), (1, .long a1), (3, .int a2)]) (Nat.le_of_ble_eq_true rfl) rfl d_Mo_camelDigest_61 ?_
  refine J_aload_n 1 rfl d_Mo_camelDigest_63 ?_
  refine J_lload 0 rfl d_Mo_camelDigest_64 ?_
  refine J_bipush (v := 23) rfl d_Mo_camelDigest_66 ?_
  refine J_iload_n 3 rfl d_Mo_camelDigest_68 ?_
  refine J_callVl (m_Mo_dayDigest l g ad _ _ _ _) ok_Mo_dayDigest rc_34 wi_Mo_dayDigest wl_Mo_Mo_dayDigest wk_Mo_348 ⟨rfl, rfl, Nat.le_of_ble_eq_true rfl, Nat.le_of_ble_eq_true rfl⟩ ⟨Nat.zero_le _, Nat.zero_le _⟩ (rest := []) rfl rfl (Nat.le_of_ble_eq_true rfl) d_Mo_camelDigest_69 (fun v15 h16 => ?_)
  refine J_lstore (lv' := [(4, .long v15), (0, .ref (ad 34)), (1, .long a1), (3, .int a2)]) (Nat.le_of_ble_eq_true rfl) rfl d_Mo_camelDigest_72 ?_
  refine J_ldc2 (v := 31) kl_Mo_346 d_Mo_camelDigest_74 ?_
  refine J_lload 0 rfl d_Mo_camelDigest_77 ?_
  refine J_lmul d_Mo_camelDigest_79 ?_
  refine J_aload_n 1 rfl d_Mo_camelDigest_80 ?_
  refine J_iload_n 3 rfl d_Mo_camelDigest_81 ?_
  refine J_iconst (v := 5) rfl d_Mo_camelDigest_82 ?_
  refine J_callVi (m_Mo_lastOf l g ad _ _ _) ok_Mo_lastOf rc_34 wi_Mo_lastOf wl_Mo_Mo_lastOf wk_Mo_273 ⟨rfl, rfl, Nat.le_of_ble_eq_true rfl, Nat.le_of_ble_eq_true rfl⟩ ⟨Nat.zero_le _, Nat.zero_le _⟩ (rest := [.long (31 * v15)]) rfl rfl (Nat.le_of_ble_eq_true rfl) d_Mo_camelDigest_83 (fun v17 h18 => ?_)
  refine J_i2l d_Mo_camelDigest_86 ?_
  refine J_ladd d_Mo_camelDigest_87 ?_
  refine P_lst (lv' := fun v19 => [(4, .long v19), (0, .ref (ad 34)), (1, .long a1), (3, .int a2)]) (Nat.le_of_ble_eq_true rfl) (fun _ => rfl) d_Mo_camelDigest_88 (fun v19 => ?_)
  refine J_ldc2 (v := 31) kl_Mo_346 d_Mo_camelDigest_90 ?_
  refine J_lload 0 rfl d_Mo_camelDigest_93 ?_
  refine J_lmul d_Mo_camelDigest_95 ?_
  refine J_aload_n 1 rfl d_Mo_camelDigest_96 ?_
  refine J_iload_n 3 rfl d_Mo_camelDigest_97 ?_
  refine J_callVi (m_Mo_sortsBy l g ad _ _) ok_Mo_sortsBy rc_34 wi_Mo_sortsBy wl_Mo_Mo_sortsBy wk_Mo_304 ⟨rfl, rfl, Nat.le_of_ble_eq_true rfl, Nat.le_of_ble_eq_true rfl⟩ ⟨Nat.zero_le _, Nat.zero_le _⟩ (rest := [.long (31 * v19)]) rfl rfl (Nat.le_of_ble_eq_true rfl) d_Mo_camelDigest_98 (fun v20 h21 => ?_)
  refine J_i2l d_Mo_camelDigest_101 ?_
  refine J_ladd d_Mo_camelDigest_102 ?_
  refine P_lst (lv' := fun v22 => [(4, .long v22), (0, .ref (ad 34)), (1, .long a1), (3, .int a2)]) (Nat.le_of_ble_eq_true rfl) (fun _ => rfl) d_Mo_camelDigest_103 (fun v22 => ?_)
  refine J_ldc2 (v := 31) kl_Mo_346 d_Mo_camelDigest_105 ?_
  refine J_lload 0 rfl d_Mo_camelDigest_108 ?_
  refine J_lmul d_Mo_camelDigest_110 ?_
  refine J_aload_n 1 rfl d_Mo_camelDigest_111 ?_
  refine J_iload_n 3 rfl d_Mo_camelDigest_112 ?_
  refine J_callVi (m_Mo_strongBy l g ad _ _) ok_Mo_strongBy rc_34 wi_Mo_strongBy wl_Mo_Mo_strongBy wk_Mo_307 ⟨rfl, rfl, Nat.le_of_ble_eq_true rfl, Nat.le_of_ble_eq_true rfl⟩ ⟨Nat.zero_le _, Nat.zero_le _⟩ (rest := [.long (31 * v22)]) rfl rfl (Nat.le_of_ble_eq_true rfl) d_Mo_camelDigest_113 (fun v23 h24 => ?_)
  refine J_i2l d_Mo_camelDigest_116 ?_
  refine J_ladd d_Mo_camelDigest_117 ?_
  refine P_lst (lv' := fun v25 => [(4, .long v25), (0, .ref (ad 34)), (1, .long a1), (3, .int a2)]) (Nat.le_of_ble_eq_true rfl) (fun _ => rfl) d_Mo_camelDigest_118 (fun v25 => ?_)
  refine J_ldc2 (v := 31) kl_Mo_346 d_Mo_camelDigest_120 ?_
  refine J_lload 0 rfl d_Mo_camelDigest_123 ?_
  refine J_lmul d_Mo_camelDigest_125 ?_
  refine J_aload_n 1 rfl d_Mo_camelDigest_126 ?_
  refine J_iload_n 3 rfl d_Mo_camelDigest_127 ?_
  refine J_callVi (m_Mo_askOf l g ad _ _) ok_Mo_askOf rc_34 wi_Mo_askOf wl_Mo_Mo_askOf wk_Mo_310 ⟨rfl, rfl, Nat.le_of_ble_eq_true rfl, Nat.le_of_ble_eq_true rfl⟩ ⟨Nat.zero_le _, Nat.zero_le _⟩ (rest := [.long (31 * v25)]) rfl rfl (Nat.le_of_ble_eq_true rfl) d_Mo_camelDigest_128 (fun v26 h27 => ?_)
  refine J_i2l d_Mo_camelDigest_131 ?_
  refine J_ladd d_Mo_camelDigest_132 ?_
  refine P_lst (lv' := fun v28 => [(4, .long v28), (0, .ref (ad 34)), (1, .long a1), (3, .int a2)]) (Nat.le_of_ble_eq_true rfl) (fun _ => rfl) d_Mo_camelDigest_133 (fun v28 => ?_)
  refine J_ldc2 (v := 31) kl_Mo_346 d_Mo_camelDigest_135 ?_
  refine J_lload 0 rfl d_Mo_camelDigest_138 ?_
  refine J_lmul d_Mo_camelDigest_140 ?_
  refine J_aload_n 1 rfl d_Mo_camelDigest_141 ?_
  refine J_iconst (v := 5) rfl d_Mo_camelDigest_142 ?_
  refine J_iload_n 3 rfl d_Mo_camelDigest_143 ?_
  refine J_iconst (v := 0) rfl d_Mo_camelDigest_144 ?_
  refine J_callVl (m_Mo_chanceOf l g ad _ _ _ _) ok_Mo_chanceOf rc_34 wi_Mo_chanceOf wl_Mo_Mo_chanceOf wk_Mo_317 ⟨rfl, rfl, Nat.le_of_ble_eq_true rfl, Nat.le_of_ble_eq_true rfl⟩ ⟨Nat.zero_le _, Nat.zero_le _⟩ (rest := [.long (31 * v28)]) rfl rfl (Nat.le_of_ble_eq_true rfl) d_Mo_camelDigest_145 (fun v29 h30 => ?_)
  refine J_ladd d_Mo_camelDigest_148 ?_
  refine P_lst (lv' := fun v31 => [(4, .long v31), (0, .ref (ad 34)), (1, .long a1), (3, .int a2)]) (Nat.le_of_ble_eq_true rfl) (fun _ => rfl) d_Mo_camelDigest_149 (fun v31 => ?_)
  refine J_ldc2 (v := 31) kl_Mo_346 d_Mo_camelDigest_151 ?_
  refine J_lload 0 rfl d_Mo_camelDigest_154 ?_
  refine J_lmul d_Mo_camelDigest_156 ?_
  refine J_aload_n 1 rfl d_Mo_camelDigest_157 ?_
  refine J_iconst (v := 5) rfl d_Mo_camelDigest_158 ?_
  refine J_iload_n 3 rfl d_Mo_camelDigest_159 ?_
  refine J_iconst (v := 1) rfl d_Mo_camelDigest_160 ?_
  refine J_callVl (m_Mo_chanceOf l g ad _ _ _ _) ok_Mo_chanceOf rc_34 wi_Mo_chanceOf wl_Mo_Mo_chanceOf wk_Mo_317 ⟨rfl, rfl, Nat.le_of_ble_eq_true rfl, Nat.le_of_ble_eq_true rfl⟩ ⟨Nat.zero_le _, Nat.zero_le _⟩ (rest := [.long (31 * v31)]) rfl rfl (Nat.le_of_ble_eq_true rfl) d_Mo_camelDigest_161 (fun v32 h33 => ?_)
  refine J_ladd d_Mo_camelDigest_164 ?_
  exact J_lret (Nat.le_refl _) (Nat.le_refl _) d_Mo_camelDigest_165 rfl (fun hx => hx)
