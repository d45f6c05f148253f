def lp_Mo_strengthOn_4 (a1 : Int32) : Nat → Int32 → Int32 → HP → Option (Int32 × Int32 × HP)
 | 0, _, _, _ => none
 | fu + 1, v2, v3, h4 =>
 ltt (rI h4 34 2) (fun (v5 : Int32) =>
 (if v5 ≤ v2 then
 some (v2, v3, h4)
 else
 ckk (inb ((8 * a1) + v2) 192) (ltt (rA h4 15 ((8 * a1) + v2)) (fun (v7 : Int32) =>
 ltt (v3 + v7) (fun (v8 : Int32) =>
 ltt (v2 + 1) (fun (v9 : Int32) =>
 lp_Mo_strengthOn_4 a1 fu v9 v8 h4))))))
def f_Mo_strengthOn (a1 : Int32) (h0 : HP) : Option (Int32 × HP) :=
 bd3 (lp_Mo_strengthOn_4 a1 400 0 0 h0) (fun (v10 : Int32) (v11 : Int32) (h12 : HP) =>
 some (v11, h12))
set_option maxRecDepth 20000 in
set_option maxHeartbeats 4000000 in
theorem mlp_Mo_strengthOn_4 (l : Launch) (g : GG) (ad : Nat → Nat) (Q : Option Value → va_W → Prop) (a1 : Int32) : ∀ (fu : Nat) (v2 : Int32) (v3 : Int32) (h4 : HP), Jj (fun q : Int32 × Int32 × HP => Vw (kx_Mo_strengthOn l g Q) 0 0 32 [(3, .int (q.1)), (2, .int (q.2.1)), (0, .ref (ad 34)), (1, .int a1)] [] (pic g ad q.2.2)) (lp_Mo_strengthOn_4 a1 fu v2 v3 h4) (Vw (kx_Mo_strengthOn l g Q) 0 0 4 [(3, .int v2), (2, .int v3), (0, .ref (ad 34)), (1, .int a1)] [] (pic g ad h4)) := by
  intro fu
  induction fu with
  | zero =>
    intro v2 v3 h4
    exact J_none
  | succ fu ih =>
    intro v2 v3 h4
    rw [lp_Mo_strengthOn_4]
    refine J_iload_n 0 rfl d_Mo_strengthOn_4 ?_
    refine J_aload_n 2 rfl d_Mo_strengthOn_5 ?_
    refine P_gI fo_Mo_127_34 rfl d_Mo_strengthOn_6 (fun v5 => ?_)
    refine J_icmp_ge 32 rfl d_Mo_strengthOn_9 (fun c6 => ?_) (fun c6 => ?_)
    · exact J_exit [0, 1, 2, 3] rfl (fun hx => hx)
    · refine J_iload_n 1 rfl d_Mo_strengthOn_12 ?_
      refine J_aload_n 2 rfl d_Mo_strengthOn_13 ?_
      refine J_getR fo_Mo_64_34 rfl d_Mo_strengthOn_14 ?_
      refine J_bipush (v := 8) rfl d_Mo_strengthOn_17 ?_
      refine J_iload_n 3 rfl d_Mo_strengthOn_19 ?_
      refine J_imul d_Mo_strengthOn_20 ?_
      refine J_iload_n 0 rfl d_Mo_strengthOn_21 ?_
      refine J_iadd d_Mo_strengthOn_22 ?_
      refine P_ia (by decide) rfl rfl d_Mo_strengthOn_23 (fun v7 => ?_)
      refine J_iadd d_Mo_strengthOn_24 ?_
      refine P_ist_n (lv' := fun v8 => [(2, .int v8), (3, .int v2), (0, .ref (ad 34)), (1, .int a1)]) 2 rfl (Nat.le_of_ble_eq_true rfl) (fun _ => rfl) d_Mo_strengthOn_25 (fun v8 => ?_)
      refine P_inc (w := 1) (lv' := fun v9 => [(3, .int v9), (2, .int v8), (0, .ref (ad 34)), (1, .int a1)]) 1 rfl rfl (Nat.le_of_ble_eq_true rfl) (fun _ => rfl) d_Mo_strengthOn_26 (fun v9 => ?_)
      refine J_goto 4 rfl d_Mo_strengthOn_29 ?_
      exact J_sub [0, 1, 2, 3] rfl (ih _ _ _)
set_option maxRecDepth 20000 in
set_option maxHeartbeats 4000000 in
theorem m_Mo_strengthOn (l : Launch) (g : GG) (ad : Nat → Nat) (a1 : Int32) (h0 : HP) : CM l g ad y_Mo_strengthOn b_Mo_strengthOn 4 (some .int) rm_Mo_strengthOn [.ref (ad 34), .int a1] h0 enI (f_Mo_strengthOn a1 h0) := by
  refine CM.of (by decide) (Nat.le_of_ble_eq_true rfl) (fun Q => ?_)
  show Jj _ _ (Vw (kx_Mo_strengthOn l g Q) 0 0 0 _ _ _)
  refine J_sub [0, 1] (lv' := [(0, .ref (ad 34)), (1, .int a1)]) rfl ?_
  unfold f_Mo_strengthOn
  refine J_iconst (v := 0) rfl d_Mo_strengthOn_0 ?_
  refine J_istore_n (lv' := [(2, .int 0), (0, .ref (ad 34)), (1, .int a1)]) 2 rfl (Nat.le_of_ble_eq_true rfl) rfl d_Mo_strengthOn_1 ?_
  refine J_iconst (v := 0) rfl d_Mo_strengthOn_2 ?_
  refine J_istore_n (lv' := [(3, .int 0), (2, .int 0), (0, .ref (ad 34)), (1, .int a1)]) 3 rfl (Nat.le_of_ble_eq_true rfl) rfl d_Mo_strengthOn_3 ?_
  refine J_bd3 (fun (v10 : Int32) (v11 : Int32) (h12 : HP) => Vw (kx_Mo_strengthOn l g Q) 0 0 32 [(3, .int v10), (2, .int v11), (0, .ref (ad 34)), (1, .int a1)] [] (pic g ad h12)) ?_ (fun v10 v11 h12 => ?_)
  · exact J_sub [0, 1, 2, 3] rfl (mlp_Mo_strengthOn_4 l g ad Q a1 400 _ _ _)
  · refine J_iload_n 1 rfl d_Mo_strengthOn_32 ?_
    exact J_iret (Nat.le_refl _) (Nat.le_refl _) d_Mo_strengthOn_33 rfl (fun hx => hx)
def lp_Mo_tiredOf_8 : Nat → Int32 → Int32 → HP → Option (Int32 × Int32 × HP)
 | 0, _, _, _ => none
 | fu + 1, v2, v3, h4 =>
 (if 24 ≤ v2 then
 some (v2, v3, h4)
 else
 bd2 (f_Mo_strengthOn v2 h4) (fun (v6 : Int32) (h7 : HP) =>
 bd2 (f_Mo_strengthOn v3 h7) (fun (v8 : Int32) (h9 : HP) =>
 bd1 ((if v8 ≤ v6 then
 some (v3)
 else
 some (v2)) : Option (Int32)) (fun (v10 : Int32) =>
 ltt (v2 + 1) (fun (v12 : Int32) =>
 lp_Mo_tiredOf_8 fu v12 v10 h9)))))
def f_Mo_tiredOf (h0 : HP) : Option (Int32 × HP) :=
 bd1 (f_Mo_runsTold h0) (fun (h1 : HP) =>
 bd3 (lp_Mo_tiredOf_8 400 1 0 h1) (fun (v13 : Int32) (v14 : Int32) (h15 : HP) =>
 some (v14, h15)))
set_option maxRecDepth 20000 in
set_option maxHeartbeats 4000000 in
theorem mlp_Mo_tiredOf_8 (l : Launch) (g : GG) (ad : Nat → Nat) (Q : Option Value → va_W → Prop) : ∀ (fu : Nat) (v2 : Int32) (v3 : Int32) (h4 : HP), Jj (fun q : Int32 × Int32 × HP => Vw (kx_Mo_tiredOf l g Q) 0 0 39 [(2, .int (q.1)), (1, .int (q.2.1)), (0, .ref (ad 34))] [] (pic g ad q.2.2)) (lp_Mo_tiredOf_8 fu v2 v3 h4) (Vw (kx_Mo_tiredOf l g Q) 0 0 8 [(2, .int v2), (1, .int v3), (0, .ref (ad 34))] [] (pic g ad h4)) := by
  intro fu
  induction fu with
  | zero =>
    intro v2 v3 h4
    exact J_none
  | succ fu ih =>
    intro v2 v3 h4
    rw [lp_Mo_tiredOf_8]
    refine J_iload_n 0 rfl d_Mo_tiredOf_8 ?_
    refine J_bipush (v := 24) rfl d_Mo_tiredOf_9 ?_
    refine J_icmp_ge 39 rfl d_Mo_tiredOf_11 (fun c5 => ?_) (fun c5 => ?_)
    · exact J_exit [0, 1, 2] rfl (fun hx => hx)
    · refine J_aload_n 2 rfl d_Mo_tiredOf_14 ?_
      refine J_iload_n 0 rfl d_Mo_tiredOf_15 ?_
      refine J_callVi (m_Mo_strengthOn l g ad _ _) ok_Mo_strengthOn rc_34 wi_Mo_strengthOn wl_Mo_Mo_strengthOn wk_Mo_267 ⟨rfl, rfl, Nat.le_of_ble_eq_true rfl, Nat.le_of_ble_eq_true rfl⟩ ⟨Nat.zero_le _, Nat.zero_le _⟩ (rest := []) rfl rfl (Nat.le_of_ble_eq_true rfl) d_Mo_tiredOf_16 (fun v6 h7 => ?_)
      refine J_aload_n 2 rfl d_Mo_tiredOf_19 ?_
      refine J_iload_n 1 rfl d_Mo_tiredOf_20 ?_
      refine J_callVi (m_Mo_strengthOn l g ad _ _) ok_Mo_strengthOn rc_34 wi_Mo_strengthOn wl_Mo_Mo_strengthOn wk_Mo_267 ⟨rfl, rfl, Nat.le_of_ble_eq_true rfl, Nat.le_of_ble_eq_true rfl⟩ ⟨Nat.zero_le _, Nat.zero_le _⟩ (rest := [.int v6]) rfl rfl (Nat.le_of_ble_eq_true rfl) d_Mo_tiredOf_21 (fun v8 h9 => ?_)
      refine J_bd1 (fun (v10 : Int32) => Vw (kx_Mo_tiredOf l g Q) 0 0 32 [(2, .int v2), (1, .int v3), (0, .ref (ad 34))] [.int v10] (pic g ad h9)) ?_ (fun v10 => ?_)
      · refine J_icmp_ge 31 rfl d_Mo_tiredOf_24 (fun c11 => ?_) (fun c11 => ?_)
        · refine J_iload_n 1 rfl d_Mo_tiredOf_31 ?_
          exact J_exit [0, 1, 2] rfl (fun hx => hx)
        · refine J_iload_n 0 rfl d_Mo_tiredOf_27 ?_
          refine J_goto 32 rfl d_Mo_tiredOf_28 ?_
          exact J_exit [0, 1, 2] rfl (fun hx => hx)
      · refine J_istore_n (lv' := [(1, .int v10), (2, .int v2), (0, .ref (ad 34))]) 1 rfl (Nat.le_of_ble_eq_true rfl) rfl d_Mo_tiredOf_32 ?_
        refine P_inc (w := 1) (lv' := fun v12 => [(2, .int v12), (1, .int v10), (0, .ref (ad 34))]) 1 rfl rfl (Nat.le_of_ble_eq_true rfl) (fun _ => rfl) d_Mo_tiredOf_33 (fun v12 => ?_)
        refine J_goto 8 rfl d_Mo_tiredOf_36 ?_
        exact J_sub [0, 1, 2] rfl (ih _ _ _)
set_option maxRecDepth 20000 in
set_option maxHeartbeats 4000000 in
theorem m_Mo_tiredOf (l : Launch) (g : GG) (ad : Nat → Nat) (h0 : HP) : CM l g ad y_Mo_tiredOf b_Mo_tiredOf 3 (some .int) rm_Mo_tiredOf [.ref (ad 34)] h0 enI (f_Mo_tiredOf h0) := by
  refine CM.of (by decide) (Nat.le_of_ble_eq_true rfl) (fun Q => ?_)
  show Jj _ _ (Vw (kx_Mo_tiredOf l g Q) 0 0 0 _ _ _)
  refine J_sub [0] (lv' := [(0, .ref (ad 34))]) rfl ?_
  unfold f_Mo_tiredOf
  refine J_aload_n 0 rfl d_Mo_tiredOf_0 ?_
  refine J_callVv (m_Mo_runsTold l g ad _) ok_Mo_runsTold rc_34 wi_Mo_runsTold wl_Mo_Mo_runsTold wk_Mo_241 ⟨rfl, rfl, Nat.le_of_ble_eq_true rfl, Nat.le_of_ble_eq_true rfl⟩ ⟨Nat.zero_le _, Nat.zero_le _⟩ (rest := []) rfl rfl (Nat.le_of_ble_eq_true rfl) d_Mo_tiredOf_1 (fun h1 => ?_)
  refine J_iconst (v := 0) rfl d_Mo_tiredOf_4 ?_
  refine J_istore_n (lv' := [(1, .int 0), (0, .ref (ad 34))]) 1 rfl (Nat.le_of_ble_eq_true rfl) rfl d_Mo_tiredOf_5 ?_
  refine J_iconst (v := 1) rfl d_Mo_tiredOf_6 ?_
  refine J_istore_n (lv' := [(2, .int 1), (1, .int 0), (0, .ref (ad 34))]) 2 rfl (Nat.le_of_ble_eq_true rfl) rfl d_Mo_tiredOf_7 ?_
  refine J_bd3 (fun (v13 : Int32) (v14 : Int32) (h15 : HP) => Vw (kx_Mo_tiredOf l g Q) 0 0 39 [(2, .int v13), (1, .int v14), (0, .ref (ad 34))] [] (pic g ad h15)) ?_ (fun v13 v14 h15 => ?_)
  · exact J_sub [0, 1, 2] rfl (mlp_Mo_tiredOf_8 l g ad Q 400 _ _ _)
  · refine J_iload_n 1 rfl d_Mo_tiredOf_39 ?_
    exact J_iret (Nat.le_refl _) (Nat.le_refl _) d_Mo_tiredOf_40 rfl (fun hx => hx)
def f_Mo_tired (h0 : HP) : Option (Int32 × HP) :=
 bd2 (f_Mo_tiredOf h0) (fun (v1 : Int32) (h2 : HP) =>
 some (v1, h2))
set_option maxRecDepth 20000 in
set_option maxHeartbeats 4000000 in
theorem m_Mo_tired (l : Launch) (g : GG) (ad : Nat → Nat) (h0 : HP) : CM l g ad y_Mo_tired b_Mo_tired 1 (some .int) rm_Mo_tired [.ref (ad 34)] h0 enI (f_Mo_tired h0) := by
  refine CM.of (by decide) (Nat.le_of_ble_eq_true rfl) (fun Q => ?_)
  show Jj _ _ (Vw (kx_Mo_tired l g Q) 0 0 0 _ _ _)
  refine J_sub [0] (lv' := [(0, .ref (ad 34))]) rfl ?_
  unfold f_Mo_tired
  refine J_aload_n 0 rfl d_Mo_tired_0 ?_
  refine J_callVi (m_Mo_tiredOf l g ad _) ok_Mo_tiredOf rc_34 wi_Mo_tiredOf wl_Mo_Mo_tiredOf wk_Mo_270 ⟨rfl, rfl, Nat.le_of_ble_eq_true rfl, Nat.le_of_ble_eq_true rfl⟩ ⟨Nat.zero_le _, Nat.zero_le _⟩ (rest := []) rfl rfl (Nat.le_of_ble_eq_true rfl) d_Mo_tired_1 (fun v1 h2 => ?_)
  exact J_iret (Nat.le_refl _) (Nat.le_refl _) d_Mo_tired_4 rfl (fun hx => hx)
def lp_Mo_lastOf_6 (a1 : Int32) (a2 : Int32) : Nat → Int32 → HP → Option (Int32 × HP)
 | 0, _, _ => none
 | fu + 1, v4, h5 =>
 (if 10 ≤ v4 then
 some ((-1), h5)
 else
 ltt (rI h5 34 9) (fun (v7 : Int32) =>
 ckk (inb ((v7 + v4) - 1) 17) (ltt (wA h5 24 ((v7 + v4) - 1) a2) (fun (h8 : HP) =>
 ltt (rI h8 34 9) (fun (v9 : Int32) =>
 ckk (inb ((v9 + v4) - 1) 17) (ltt (wA h8 23 ((v9 + v4) - 1) a1) (fun (h10 : HP) =>
 ltt (rI h10 34 9) (fun (v11 : Int32) =>
 ltt (sI h10 34 12 (v11 + v4)) (fun (h12 : HP) =>
 bd1 (f_Mo_runs h12) (fun (h13 : HP) =>
 ckk (inb a2 24) (ltt (rA h13 10 a2) (fun (v14 : Int32) =>
 (if v14 = 1 then
 some (v4, h13)
 else
 ltt (v4 + 1) (fun (v16 : Int32) =>
 lp_Mo_lastOf_6 a1 a2 fu v16 h13))))))))))))))
def f_Mo_lastOf (a1 : Int32) (a2 : Int32) (h0 : HP) : Option (Int32 × HP) :=
 bd1 (f_Mo_asTold h0) (fun (h3 : HP) =>
 lp_Mo_lastOf_6 a1 a2 400 1 h3)
set_option maxRecDepth 20000 in
set_option maxHeartbeats 4000000 in
theorem mlp_Mo_lastOf_6 (l : Launch) (g : GG) (ad : Nat → Nat) (Q : Option Value → va_W → Prop) (a1 : Int32) (a2 : Int32) : ∀ (fu : Nat) (v4 : Int32) (h5 : HP), Jj (fun a : Int32 × HP => Q (enI a).1 (pic g ad (enI a).2)) (lp_Mo_lastOf_6 a1 a2 fu v4 h5) (Vw (kx_Mo_lastOf l g Q) 0 0 6 [(3, .int v4), (0, .ref (ad 34)), (1, .int a1), (2, .int a2)] [] (pic g ad h5)) := by
  intro fu
  induction fu with
  | zero =>
    intro v4 h5
    exact J_none
  | succ fu ih =>
    intro v4 h5
    rw [lp_Mo_lastOf_6]
    refine J_iload_n 0 rfl d_Mo_lastOf_6 ?_
    refine J_bipush (v := 10) rfl d_Mo_lastOf_7 ?_
    refine J_icmp_ge 72 rfl d_Mo_lastOf_9 (fun c6 => ?_) (fun c6 => ?_)
    · refine J_iconst (v := (-1)) rfl d_Mo_lastOf_72 ?_
      exact J_iret (Nat.le_refl _) (Nat.le_refl _) d_Mo_lastOf_73 rfl (fun hx => hx)
    · refine J_aload_n 1 rfl d_Mo_lastOf_12 ?_
      refine J_getR fo_Mo_37_34 rfl d_Mo_lastOf_13 ?_
      refine J_aload_n 1 rfl d_Mo_lastOf_16 ?_
      refine P_gI fo_Mo_171_34 rfl d_Mo_lastOf_17 (fun v7 => ?_)
      refine J_iload_n 0 rfl d_Mo_lastOf_20 ?_
      refine J_iadd d_Mo_lastOf_21 ?_
      refine J_iconst (v := 1) rfl d_Mo_lastOf_22 ?_
      refine J_isub d_Mo_lastOf_23 ?_
      refine J_iload_n 3 rfl d_Mo_lastOf_24 ?_
      refine P_wa (by decide) rfl rfl d_Mo_lastOf_25 (fun h8 => ?_)
      refine J_aload_n 1 rfl d_Mo_lastOf_26 ?_
      refine J_getR fo_Mo_40_34 rfl d_Mo_lastOf_27 ?_
      refine J_aload_n 1 rfl d_Mo_lastOf_30 ?_
      refine P_gI fo_Mo_171_34 rfl d_Mo_lastOf_31 (fun v9 => ?_)
      refine J_iload_n 0 rfl d_Mo_lastOf_34 ?_
      refine J_iadd d_Mo_lastOf_35 ?_
      refine J_iconst (v := 1) rfl d_Mo_lastOf_36 ?_
      refine J_isub d_Mo_lastOf_37 ?_
      refine J_iload_n 2 rfl d_Mo_lastOf_38 ?_
      refine P_wa (by decide) rfl rfl d_Mo_lastOf_39 (fun h10 => ?_)
      refine J_aload_n 1 rfl d_Mo_lastOf_40 ?_
      refine J_aload_n 1 rfl d_Mo_lastOf_41 ?_
      refine P_gI fo_Mo_171_34 rfl d_Mo_lastOf_42 (fun v11 => ?_)
      refine J_iload_n 0 rfl d_Mo_lastOf_45 ?_
      refine J_iadd d_Mo_lastOf_46 ?_
      refine P_wI fo_Mo_183_34 rfl d_Mo_lastOf_47 (fun h12 => ?_)
      refine J_aload_n 1 rfl d_Mo_lastOf_50 ?_
      refine J_callVv (m_Mo_runs l g ad _) ok_Mo_runs rc_34 wi_Mo_runs wl_Mo_Mo_runs wk_Mo_238 ⟨rfl, rfl, Nat.le_of_ble_eq_true rfl, Nat.le_of_ble_eq_true rfl⟩ ⟨Nat.zero_le _, Nat.zero_le _⟩ (rest := []) rfl rfl (Nat.le_of_ble_eq_true rfl) d_Mo_lastOf_51 (fun h13 => ?_)
      refine J_aload_n 1 rfl d_Mo_lastOf_54 ?_
      refine J_getR fo_Mo_79_34 rfl d_Mo_lastOf_55 ?_
      refine J_iload_n 3 rfl d_Mo_lastOf_58 ?_
      refine P_ia (by decide) rfl rfl d_Mo_lastOf_59 (fun v14 => ?_)
      refine J_iconst (v := 1) rfl d_Mo_lastOf_60 ?_
      refine J_icmp_ne 66 rfl d_Mo_lastOf_61 (fun c15 => ?_) (fun c15 => ?_)
      · refine P_inc (w := 1) (lv' := fun v16 => [(3, .int v16), (0, .ref (ad 34)), (1, .int a1), (2, .int a2)]) 0 rfl rfl (Nat.le_of_ble_eq_true rfl) (fun _ => rfl) d_Mo_lastOf_66 (fun v16 => ?_)
        refine J_goto 6 rfl d_Mo_lastOf_69 ?_
        exact J_sub [0, 1, 2, 3] rfl (ih _ _)
      · refine J_iload_n 0 rfl d_Mo_lastOf_64 ?_
        exact J_iret (Nat.le_refl _) (Nat.le_refl _) d_Mo_lastOf_65 rfl (fun hx => hx)
set_option maxRecDepth 20000 in
set_option maxHeartbeats 4000000 in
theorem m_Mo_lastOf (l : Launch) (g : GG) (ad : Nat → Nat) (a1 : Int32) (a2 : Int32) (h0 : HP) : CM l g ad y_Mo_lastOf b_Mo_lastOf 4 (some .int) rm_Mo_lastOf [.ref (ad 34), .int a1, .int a2] h0 enI (f_Mo_lastOf a1 a2 h0) := by
  refine CM.of (by decide) (Nat.le_of_ble_eq_true rfl) (fun Q => ?_)
  show Jj _ _ (Vw (kx_Mo_lastOf l g Q) 0 0 0 _ _ _)
  refine J_sub [0, 1, 2] (lv' := [(0, .ref (ad 34)), (1, .int a1), (2, .int a2)]) rfl ?_
  unfold f_Mo_lastOf
  refine J_aload_n 0 rfl d_Mo_lastOf_0 ?_
  refine J_callVv (m_Mo_asTold l g ad _) ok_Mo_asTold rc_34 wi_Mo_asTold wl_Mo_Mo_asTold wk_Mo_235 ⟨rfl, rfl, Nat.le_of_ble_eq_true rfl, Nat.le_of_ble_eq_true rfl⟩ ⟨Nat.zero_le _, Nat.zero_le _⟩ (rest := []) rfl rfl (Nat.le_of_ble_eq_true rfl) d_Mo_lastOf_1 (fun h3 => ?_)
  refine J_iconst (v := 1) rfl d_Mo_lastOf_4 ?_
  refine J_istore_n (lv' := [(3, .int 1), (0, .ref (ad 34)), (1, .int a1), (2, .int a2)]) 3 rfl (Nat.le_of_ble_eq_true rfl) rfl d_Mo_lastOf_5 ?_
  exact J_sub [0, 1, 2, 3] rfl (mlp_Mo_lastOf_6 l g ad Q a1 a2 400 _ _)
def f_Mo_last (a1 : Int32) (a2 : Int32) (h0 : HP) : Option (Int32 × HP) :=
 bd2 (f_Mo_isCamel a1 h0) (fun (v3 : Int32) (h4 : HP) =>
 (if v3 = 0 then
 some ((-2), h4)
 else
 bd2 (f_Mo_isDay a2 h4) (fun (v6 : Int32) (h7 : HP) =>
 (if v6 = 0 then
 some ((-2), h7)
 else
 bd2 (f_Mo_lastOf a1 a2 h7) (fun (v9 : Int32) (h10 : HP) =>
 some (v9, h10))))))
set_option maxRecDepth 20000 in
set_option maxHeartbeats 4000000 in
theorem m_Mo_last (l : Launch) (g : GG) (ad : Nat → Nat) (a1 : Int32) (a2 : Int32) (h0 : HP) : CM l g ad y_Mo_last b_Mo_last 3 (some .int) rm_Mo_last [.ref (ad 34), .int a1, .int a2] h0 enI (f_Mo_last a1 a2 h0) := by
  refine CM.of (by decide) (Nat.le_of_ble_eq_true rfl) (fun Q => ?_)
  show Jj _ _ (Vw (kx_Mo_last l g Q) 0 0 0 _ _ _)
  refine J_sub [0, 1, 2] (lv' := [(0, .ref (ad 34)), (1, .int a1), (2, .int a2)]) rfl ?_
  unfold f_Mo_last
  refine J_aload_n 0 rfl d_Mo_last_0 ?_
  refine J_iload_n 1 rfl d_Mo_last_1 ?_
  refine J_callVi (m_Mo_isCamel l g ad _ _) ok_Mo_isCamel rc_34 wi_Mo_isCamel wl_Mo_Mo_isCamel wk_Mo_150 ⟨rfl, rfl, Nat.le_of_ble_eq_true rfl, Nat.le_of_ble_eq_true rfl⟩ ⟨Nat.zero_le _, Nat.zero_le _⟩ (rest := []) rfl rfl (Nat.le_of_ble_eq_true rfl) d_Mo_last_2 (fun v3 h4 => ?_)
  refine J_if_eq 24 rfl d_Mo_last_5 (fun c5 => ?_) (fun c5 => ?_)
  · refine J_bipush (v := (-2)) rfl d_Mo_last_24 ?_
    exact J_iret (Nat.le_refl _) (Nat.le_refl _) d_Mo_last_26 rfl (fun hx => hx)
  · refine J_iload_n 2 rfl d_Mo_last_8 ?_
    refine J_callSi (m_Mo_isDay l g ad _ _) ok_Mo_isDay ws_Mo_isDay wk_Mo_165 ⟨rfl, rfl, Nat.le_of_ble_eq_true rfl, Nat.le_of_ble_eq_true rfl⟩ ⟨Nat.zero_le _, Nat.zero_le _⟩ (rest := []) rfl rfl (Nat.le_of_ble_eq_true rfl) d_Mo_last_9 (fun v6 h7 => ?_)
    refine J_if_eq 24 rfl d_Mo_last_12 (fun c8 => ?_) (fun c8 => ?_)
    · refine J_bipush (v := (-2)) rfl d_Mo_last_24 ?_
      exact J_iret (Nat.le_refl _) (Nat.le_refl _) d_Mo_last_26 rfl (fun hx => hx)
    · refine J_aload_n 0 rfl d_Mo_last_15 ?_
      refine J_iload_n 1 rfl d_Mo_last_16 ?_
      refine J_iload_n 2 rfl d_Mo_last_17 ?_
      refine J_callVi (m_Mo_lastOf l g ad _ _ _) ok_Mo_lastOf rc_34 wi_Mo_lastOf wl_Mo_Mo_lastOf wk_Mo_273 ⟨rfl, rfl, Nat.le_of_ble_eq_true rfl, Nat.le_of_ble_eq_true rfl⟩ ⟨Nat.zero_le _, Nat.zero_le _⟩ (rest := []) rfl rfl (Nat.le_of_ble_eq_true rfl) d_Mo_last_18 (fun v9 h10 => ?_)
      refine J_goto 26 rfl d_Mo_last_21 ?_
      exact J_iret (Nat.le_refl _) (Nat.le_refl _) d_Mo_last_26 rfl (fun hx => hx)
def lp_Mo_bearOf_20 (v4 : Int32) (a1 : Int32) (a2 : Int32) : Nat → Int32 → Int32 → Int32 → HP → Option (Int32 × Int32 × Int32 × HP)
 | 0, _, _, _, _ => none
 | fu + 1, v5, v6, v7, h8 =>
 (if 8 ≤ v5 then
 some (v5, v6, v7, h8)
 else
 ckk (inb a1 11) (ltt (wA h8 29 a1 v5) (fun (h10 : HP) =>
 bd1 (f_Mo_runs h10) (fun (h11 : HP) =>
 bd2 (f_Mo_throughNow h11) (fun (v12 : Int32) (h13 : HP) =>
 bd1 ((if v12 ≤ v6 then
 some (v7)
 else
 some (v5)) : Option (Int32)) (fun (v14 : Int32) =>
 bd1 ((if v12 ≤ v6 then
 some (v6)
 else
 some (v12)) : Option (Int32)) (fun (v16 : Int32) =>
 ltt (v5 + 1) (fun (v18 : Int32) =>
 lp_Mo_bearOf_20 v4 a1 a2 fu v18 v16 v14 h13))))))))
def f_Mo_bearOf (a1 : Int32) (a2 : Int32) (h0 : HP) : Option (Int32 × HP) :=
 bd1 (f_Mo_asTold h0) (fun (h3 : HP) =>
 ckk (inb a1 11) (ltt (rA h3 29 a1) (fun (v4 : Int32) =>
 bd4 (lp_Mo_bearOf_20 v4 a1 a2 400 0 (-1) (-1) h3) (fun (v19 : Int32) (v20 : Int32) (v21 : Int32) (h22 : HP) =>
 ckk (inb a1 11) (ltt (wA h22 29 a1 v4) (fun (h23 : HP) =>
 (if a2 = 0 then
 some (v21, h23)
 else
 some (v20, h23))))))))
set_option maxRecDepth 20000 in
set_option maxHeartbeats 4000000 in
theorem mlp_Mo_bearOf_20 (l : Launch) (g : GG) (ad : Nat → Nat) (Q : Option Value → va_W → Prop) (v4 : Int32) (a1 : Int32) (a2 : Int32) : ∀ (fu : Nat) (v5 : Int32) (v6 : Int32) (v7 : Int32) (h8 : HP), Jj (fun q : Int32 × Int32 × Int32 × HP => Vw (kx_Mo_bearOf l g Q) 0 0 83 [(6, .int (q.1)), (5, .int (q.2.1)), (4, .int (q.2.2.1)), (3, .int v4), (0, .ref (ad 34)), (1, .int a1), (2, .int a2)] [] (pic g ad q.2.2.2)) (lp_Mo_bearOf_20 v4 a1 a2 fu v5 v6 v7 h8) (Vw (kx_Mo_bearOf l g Q) 0 0 20 [(6, .int v5), (5, .int v6), (4, .int v7), (3, .int v4), (0, .ref (ad 34)), (1, .int a1), (2, .int a2)] [] (pic g ad h8)) := by
  intro fu
  induction fu with
  | zero =>
    intro v5 v6 v7 h8
    exact J_none
  | succ fu ih =>
    intro v5 v6 v7 h8
    rw [lp_Mo_bearOf_20]
    refine J_iload 0 rfl d_Mo_bearOf_20 ?_
    refine J_bipush (v := 8) rfl d_Mo_bearOf_22 ?_
    refine J_icmp_ge 83 rfl d_Mo_bearOf_24 (fun c9 => ?_) (fun c9 => ?_)
    · exact J_exit [0, 1, 2, 3, 4, 5, 6] rfl (fun hx => hx)
    · refine J_aload_n 4 rfl d_Mo_bearOf_27 ?_
      refine J_getR fo_Mo_22_34 rfl d_Mo_bearOf_28 ?_
      refine J_iload_n 5 rfl d_Mo_bearOf_31 ?_
      refine J_iload 0 rfl d_Mo_bearOf_32 ?_
      refine P_wa (by decide) rfl rfl d_Mo_bearOf_34 (fun h10 => ?_)
      refine J_aload_n 4 rfl d_Mo_bearOf_35 ?_
      refine J_callVv (m_Mo_runs l g ad _) ok_Mo_runs rc_34 wi_Mo_runs wl_Mo_Mo_runs wk_Mo_238 ⟨rfl, rfl, Nat.le_of_ble_eq_true rfl, Nat.le_of_ble_eq_true rfl⟩ ⟨Nat.zero_le _, Nat.zero_le _⟩ (rest := []) rfl rfl (Nat.le_of_ble_eq_true rfl) d_Mo_bearOf_36 (fun h11 => ?_)
      refine J_aload_n 4 rfl d_Mo_bearOf_39 ?_
      refine J_callVi (m_Mo_throughNow l g ad _) ok_Mo_throughNow rc_34 wi_Mo_throughNow wl_Mo_Mo_throughNow wk_Mo_248 ⟨rfl, rfl, Nat.le_of_ble_eq_true rfl, Nat.le_of_ble_eq_true rfl⟩ ⟨Nat.zero_le _, Nat.zero_le _⟩ (rest := []) rfl rfl (Nat.le_of_ble_eq_true rfl) d_Mo_bearOf_40 (fun v12 h13 => ?_)
      refine J_istore (lv' := [(7, .int v12), (6, .int v5), (5, .int v6), (4, .int v7), (3, .int v4), (0, .ref (ad 34)), (1, .int a1), (2, .int a2)]) (Nat.le_of_ble_eq_true rfl) rfl d_Mo_bearOf_43 ?_
      refine J_iload 0 rfl d_Mo_bearOf_45 ?_
      refine J_iload 2 rfl d_Mo_bearOf_47 ?_
      refine J_bd1 (fun (v14 : Int32) => Vw (kx_Mo_bearOf l g Q) 0 0 59 [(7, .int v12), (6, .int v5), (5, .int v6), (4, .int v7), (3, .int v4), (0, .ref (ad 34)), (1, .int a1), (2, .int a2)] [.int v14] (pic g ad h13)) ?_ (fun v14 => ?_)
      · refine J_icmp_le 57 rfl d_Mo_bearOf_49 (fun c15 => ?_) (fun c15 => ?_)
        · refine J_iload 3 rfl d_Mo_bearOf_57 ?_
          exact J_exit [0, 1, 2, 3, 4, 5, 6, 7] rfl (fun hx => hx)
        · refine J_iload 1 rfl d_Mo_bearOf_52 ?_
          refine J_goto 59 rfl d_Mo_bearOf_54 ?_
          exact J_exit [0, 1, 2, 3, 4, 5, 6, 7] rfl (fun hx => hx)
      · refine J_istore (lv' := [(4, .int v14), (7, .int v12), (6, .int v5), (5, .int v6), (3, .int v4), (0, .ref (ad 34)), (1, .int a1), (2, .int a2)]) (Nat.le_of_ble_eq_true rfl) rfl d_Mo_bearOf_59 ?_
        refine J_iload 1 rfl d_Mo_bearOf_61 ?_
        refine J_iload 3 rfl d_Mo_bearOf_63 ?_
        refine J_bd1 (fun (v16 : Int32) => Vw (kx_Mo_bearOf l g Q) 0 0 75 [(4, .int v14), (7, .int v12), (6, .int v5), (5, .int v6), (3, .int v4), (0, .ref (ad 34)), (1, .int a1), (2, .int a2)] [.int v16] (pic g ad h13)) ?_ (fun v16 => ?_)
        · refine J_icmp_le 73 rfl d_Mo_bearOf_65 (fun c17 => ?_) (fun c17 => ?_)
          · refine J_iload 3 rfl d_Mo_bearOf_73 ?_
            exact J_exit [0, 1, 2, 3, 4, 5, 6, 7] rfl (fun hx => hx)
          · refine J_iload 1 rfl d_Mo_bearOf_68 ?_
            refine J_goto 75 rfl d_Mo_bearOf_70 ?_
            exact J_exit [0, 1, 2, 3, 4, 5, 6, 7] rfl (fun hx => hx)
        · refine J_istore (lv' := [(5, .int v16), (4, .int v14), (7, .int v12), (6, .int v5), (3, .int v4), (0, .ref (ad 34)), (1, .int a1), (2, .int a2)]) (Nat.le_of_ble_eq_true rfl) rfl d_Mo_bearOf_75 ?_
          refine P_inc (w := 1) (lv' := fun v18 => [(6, .int v18), (5, .int v16), (4, .int v14), (7, .int v12), (3, .int v4), (0, .ref (ad 34)), (1, .int a1), (2, .int a2)]) 3 rfl rfl (Nat.le_of_ble_eq_true rfl) (fun _ => rfl) d_Mo_bearOf_77 (fun v18 => ?_)
          refine J_goto 20 rfl d_Mo_bearOf_80 ?_
          exact J_sub [0, 1, 2, 4, 5, 6, 7] rfl (ih _ _ _ _)
set_option maxRecDepth 20000 in
set_option maxHeartbeats 4000000 in
theorem m_Mo_bearOf (l : Launch) (g : GG) (ad : Nat → Nat) (a1 : Int32) (a2 : Int32) (h0 : HP) : CM l g ad y_Mo_bearOf b_Mo_bearOf 8 (some .int) rm_Mo_bearOf [.ref (ad 34), .int a1, .int a2] h0 enI (f_Mo_bearOf a1 a2 h0) := by
  refine CM.of (by decide) (Nat.le_of_ble_eq_true rfl) (fun Q => ?_)
  show Jj _ _ (Vw (kx_Mo_bearOf l g Q) 0 0 0 _ _ _)
  refine J_sub [0, 1, 2] (lv' := [(0, .ref (ad 34)), (1, .int a1), (2, .int a2)]) rfl ?_
  unfold f_Mo_bearOf
  refine J_aload_n 0 rfl d_Mo_bearOf_0 ?_
  refine J_callVv (m_Mo_asTold l g ad _) ok_Mo_asTold rc_34 wi_Mo_asTold wl_Mo_Mo_asTold wk_Mo_235 ⟨rfl, rfl, Nat.le_of_ble_eq_true rfl, Nat.le_of_ble_eq_true rfl⟩ ⟨Nat.zero_le _, Nat.zero_le _⟩ (rest := []) rfl rfl (Nat.le_of_ble_eq_true rfl) d_Mo_bearOf_1 (fun h3 => ?_)
  refine J_aload_n 0 rfl d_Mo_bearOf_4 ?_
  refine J_getR fo_Mo_22_34 rfl d_Mo_bearOf_5 ?_
  refine J_iload_n 1 rfl d_Mo_bearOf_8 ?_
  refine P_ia (by decide) rfl rfl d_Mo_bearOf_9 (fun v4 => ?_)
  refine J_istore_n (lv' := [(3, .int v4), (0, .ref (ad 34)), (1, .int a1), (2, .int a2)]) 3 rfl (Nat.le_of_ble_eq_true rfl) rfl d_Mo_bearOf_10 ?_
  refine J_iconst (v := (-1)) rfl d_Mo_bearOf_11 ?_
  refine J_istore (lv' := [(4, .int (-1)), (3, .int v4), (0, .ref (ad 34)), (1, .int a1), (2, .int a2)]) (Nat.le_of_ble_eq_true rfl) rfl d_Mo_bearOf_12 ?_
  refine J_iconst (v := (-1)) rfl d_Mo_bearOf_14 ?_
  refine J_istore (lv' := [(5, .int (-1)), (4, .int (-1)), (3, .int v4), (0, .ref (ad 34)), (1, .int a1), (2, .int a2)]) (Nat.le_of_ble_eq_true rfl) rfl d_Mo_bearOf_15 ?_
  refine J_iconst (v := 0) rfl d_Mo_bearOf_17 ?_
  refine J_istore (lv' := [(6, .int 0), (5, .int (-1)), (4, .int (-1)), (3, .int v4), (0, .ref (ad 34)), (1, .int a1), (2, .int a2)]) (Nat.le_of_ble_eq_true rfl) rfl d_Mo_bearOf_18 ?_
  refine J_bd4 (fun (v19 : Int32) (v20 : Int32) (v21 : Int32) (h22 : HP) => Vw (kx_Mo_bearOf l g Q) 0 0 83 [(6, .int v19), (5, .int v20), (4, .int v21), (3, .int v4), (0, .ref (ad 34)), (1, .int a1), (2, .int a2)] [] (pic g ad h22)) ?_ (fun v19 v20 v21 h22 => ?_)
  · exact J_sub [0, 1, 2, 3, 4, 5, 6] rfl (mlp_Mo_bearOf_20 l g ad Q v4 a1 a2 400 _ _ _ _)
  · refine J_aload_n 4 rfl d_Mo_bearOf_83 ?_
    refine J_getR fo_Mo_22_34 rfl d_Mo_bearOf_84 ?_
    refine J_iload_n 5 rfl d_Mo_bearOf_87 ?_
    refine J_iload_n 3 rfl d_Mo_bearOf_88 ?_
    refine P_wa (by decide) rfl rfl d_Mo_bearOf_89 (fun h23 => ?_)
    refine J_iload_n 6 rfl d_Mo_bearOf_90 ?_
    refine J_if_ne 99 rfl d_Mo_bearOf_91 (fun c24 => ?_) (fun c24 => ?_)
    · refine J_iload 1 rfl d_Mo_bearOf_99 ?_
      exact J_iret (Nat.le_refl _) (Nat.le_refl _) d_Mo_bearOf_101 rfl (fun hx => hx)
    · refine J_iload 2 rfl d_Mo_bearOf_94 ?_
      refine J_goto 101 rfl d_Mo_bearOf_96 ?_
      exact J_iret (Nat.le_refl _) (Nat.le_refl _) d_Mo_bearOf_101 rfl (fun hx => hx)
def f_Mo_bear (a1 : Int32) (a2 : Int32) (h0 : HP) : Option (Int32 × HP) :=
 bd2 (f_Mo_isBale a1 h0) (fun (v3 : Int32) (h4 : HP) =>
 (if v3 = 0 then
 some ((-2), h4)
 else
 bd2 (f_Mo_isTwo a2 h4) (fun (v6 : Int32) (h7 : HP) =>
 (if v6 = 0 then
 some ((-2), h7)
 else
 bd2 (f_Mo_bearOf a1 a2 h7) (fun (v9 : Int32) (h10 : HP) =>
 some (v9, h10))))))
set_option maxRecDepth 20000 in
set_option maxHeartbeats 4000000 in
theorem m_Mo_bear (l : Launch) (g : GG) (ad : Nat → Nat) (a1 : Int32) (a2 : Int32) (h0 : HP) : CM l g ad y_Mo_bear b_Mo_bear 3 (some .int) rm_Mo_bear [.ref (ad 34), .int a1, .int a2] h0 enI (f_Mo_bear a1 a2 h0) := by
  refine CM.of (by decide) (Nat.le_of_ble_eq_true rfl) (fun Q => ?_)
  show Jj _ _ (Vw (kx_Mo_bear l g Q) 0 0 0 _ _ _)
  refine J_sub [0, 1, 2] (lv' := [(0, .ref (ad 34)), (1, .int a1), (2, .int a2)]) rfl ?_
  unfold f_Mo_bear
  refine J_aload_n 0 rfl d_Mo_bear_0 ?_
  refine J_iload_n 1 rfl d_Mo_bear_1 ?_
  refine J_callVi (m_Mo_isBale l g ad _ _) ok_Mo_isBale rc_34 wi_Mo_isBale wl_Mo_Mo_isBale wk_Mo_159 ⟨rfl, rfl, Nat.le_of_ble_eq_true rfl, Nat.le_of_ble_eq_true rfl⟩ ⟨Nat.zero_le _, Nat.zero_le _⟩ (rest := []) rfl rfl (Nat.le_of_ble_eq_true rfl) d_Mo_bear_2 (fun v3 h4 => ?_)
  refine J_if_eq 24 rfl d_Mo_bear_5 (fun c5 => ?_) (fun c5 => ?_)
  · refine J_bipush (v := (-2)) rfl d_Mo_bear_24 ?_
    exact J_iret (Nat.le_refl _) (Nat.le_refl _) d_Mo_bear_26 rfl (fun hx => hx)
  · refine J_iload_n 2 rfl d_Mo_bear_8 ?_
    refine J_callSi (m_Mo_isTwo l g ad _ _) ok_Mo_isTwo ws_Mo_isTwo wk_Mo_153 ⟨rfl, rfl, Nat.le_of_ble_eq_true rfl, Nat.le_of_ble_eq_true rfl⟩ ⟨Nat.zero_le _, Nat.zero_le _⟩ (rest := []) rfl rfl (Nat.le_of_ble_eq_true rfl) d_Mo_bear_9 (fun v6 h7 => ?_)
    refine J_if_eq 24 rfl d_Mo_bear_12 (fun c8 => ?_) (fun c8 => ?_)
    · refine J_bipush (v := (-2)) rfl d_Mo_bear_24 ?_
      exact J_iret (Nat.le_refl _) (Nat.le_refl _) d_Mo_bear_26 rfl (fun hx => hx)
    · refine J_aload_n 0 rfl d_Mo_bear_15 ?_
      refine J_iload_n 1 rfl d_Mo_bear_16 ?_
      refine J_iload_n 2 rfl d_Mo_bear_17 ?_
      refine J_callVi (m_Mo_bearOf l g ad _ _ _) ok_Mo_bearOf rc_34 wi_Mo_bearOf wl_Mo_Mo_bearOf wk_Mo_276 ⟨rfl, rfl, Nat.le_of_ble_eq_true rfl, Nat.le_of_ble_eq_true rfl⟩ ⟨Nat.zero_le _, Nat.zero_le _⟩ (rest := []) rfl rfl (Nat.le_of_ble_eq_true rfl) d_Mo_bear_18 (fun v9 h10 => ?_)
      refine J_goto 26 rfl d_Mo_bear_21 ?_
      exact J_iret (Nat.le_refl _) (Nat.le_refl _) d_Mo_bear_26 rfl (fun hx => hx)
def lp_Mo_whenOf_20 (v4 : Int32) (a1 : Int32) (a2 : Int32) : Nat → Int32 → Int32 → Int32 → HP → Option (Int32 × Int32 × Int32 × HP)
 | 0, _, _, _, _ => none
 | fu + 1, v5, v6, v7, h8 =>
 (if 24 ≤ v5 then
 some (v5, v6, v7, h8)
 else
 ckk (inb a1 11) (ltt (wA h8 27 a1 v5) (fun (h10 : HP) =>
 bd1 (f_Mo_runs h10) (fun (h11 : HP) =>
 bd2 (f_Mo_throughNow h11) (fun (v12 : Int32) (h13 : HP) =>
 bd1 ((if v12 ≤ v6 then
 some (v7)
 else
 some (v5)) : Option (Int32)) (fun (v14 : Int32) =>
 bd1 ((if v12 ≤ v6 then
 some (v6)
 else
 some (v12)) : Option (Int32)) (fun (v16 : Int32) =>
 ltt (v5 + 1) (fun (v18 : Int32) =>
 lp_Mo_whenOf_20 v4 a1 a2 fu v18 v16 v14 h13))))))))
def f_Mo_whenOf (a1 : Int32) (a2 : Int32) (h0 : HP) : Option (Int32 × HP) :=
 bd1 (f_Mo_asTold h0) (fun (h3 : HP) =>
 ckk (inb a1 11) (ltt (rA h3 27 a1) (fun (v4 : Int32) =>
 bd4 (lp_Mo_whenOf_20 v4 a1 a2 400 0 (-1) (-1) h3) (fun (v19 : Int32) (v20 : Int32) (v21 : Int32) (h22 : HP) =>
 ckk (inb a1 11) (ltt (wA h22 27 a1 v4) (fun (h23 : HP) =>
 (if a2 = 0 then
 some (v21, h23)
 else
 some (v20, h23))))))))
set_option maxRecDepth 20000 in
set_option maxHeartbeats 4000000 in
theorem mlp_Mo_whenOf_20 (l : Launch) (g : GG) (ad : Nat → Nat) (Q : Option Value → va_W → Prop) (v4 : Int32) (a1 : Int32) (a2 : Int32) : ∀ (fu : Nat) (v5 : Int32) (v6 : Int32) (v7 : Int32) (h8 : HP), Jj (fun q : Int32 × Int32 × Int32 × HP => Vw (kx_Mo_whenOf l g Q) 0 0 83 [(6, .int (q.1)), (5, .int (q.2.1)), (4, .int (q.2.2.1)), (3, .int v4), (0, .ref (ad 34)), (1, .int a1), (2, .int a2)] [] (pic g ad q.2.2.2)) (lp_Mo_whenOf_20 v4 a1 a2 fu v5 v6 v7 h8) (Vw (kx_Mo_whenOf l g Q) 0 0 20 [(6, .int v5), (5, .int v6), (4, .int v7), (3, .int v4), (0, .ref (ad 34)), (1, .int a1), (2, .int a2)] [] (pic g ad h8)) := by
  intro fu
  induction fu with
  | zero =>
    intro v5 v6 v7 h8
    exact J_none
  | succ fu ih =>
    intro v5 v6 v7 h8
    rw [lp_Mo_whenOf_20]
    refine J_iload 0 rfl d_Mo_whenOf_20 ?_
    refine J_bipush (v := 24) rfl d_Mo_whenOf_22 ?_
    refine J_icmp_ge 83 rfl d_Mo_whenOf_24 (fun c9 => ?_) (fun c9 => ?_)
    · exact J_exit [0, 1, 2, 3, 4, 5, 6] rfl (fun hx => hx)
    · refine J_aload_n 4 rfl d_Mo_whenOf_27 ?_
      refine J_getR fo_Mo_28_34 rfl d_Mo_whenOf_28 ?_
      refine J_iload_n 5 rfl d_Mo_whenOf_31 ?_
      refine J_iload 0 rfl d_Mo_whenOf_32 ?_
      refine P_wa (by decide) rfl rfl d_Mo_whenOf_34 (fun h10 => ?_)
      refine J_aload_n 4 rfl d_Mo_whenOf_35 ?_
      refine J_callVv (m_Mo_runs l g ad _) ok_Mo_runs rc_34 wi_Mo_runs wl_Mo_Mo_runs wk_Mo_238 ⟨rfl, rfl, Nat.le_of_ble_eq_true rfl, Nat.le_of_ble_eq_true rfl⟩ ⟨Nat.zero_le _, Nat.zero_le _⟩ (rest := []) rfl rfl (Nat.le_of_ble_eq_true rfl) d_Mo_whenOf_36 (fun h11 => ?_)
      refine J_aload_n 4 rfl d_Mo_whenOf_39 ?_
      refine J_callVi (m_Mo_throughNow l g ad _) ok_Mo_throughNow rc_34 wi_Mo_throughNow wl_Mo_Mo_throughNow wk_Mo_248 ⟨rfl, rfl, Nat.le_of_ble_eq_true rfl, Nat.le_of_ble_eq_true rfl⟩ ⟨Nat.zero_le _, Nat.zero_le _⟩ (rest := []) rfl rfl (Nat.le_of_ble_eq_true rfl) d_Mo_whenOf_40 (fun v12 h13 => ?_)
      refine J_istore (lv' := [(7, .int v12), (6, .int v5), (5, .int v6), (4, .int v7), (3, .int v4), (0, .ref (ad 34)), (1, .int a1), (2, .int a2)]) (Nat.le_of_ble_eq_true rfl) rfl d_Mo_whenOf_43 ?_
      refine J_iload 0 rfl d_Mo_whenOf_45 ?_
      refine J_iload 2 rfl d_Mo_whenOf_47 ?_
      refine J_bd1 (fun (v14 : Int32) => Vw (kx_Mo_whenOf l g Q) 0 0 59 [(7, .int v12), (6, .int v5), (5, .int v6), (4, .int v7), (3, .int v4), (0, .ref (ad 34)), (1, .int a1), (2, .int a2)] [.int v14] (pic g ad h13)) ?_ (fun v14 => ?_)
      · refine J_icmp_le 57 rfl d_Mo_whenOf_49 (fun c15 => ?_) (fun c15 => ?_)
        · refine J_iload 3 rfl d_Mo_whenOf_57 ?_
          exact J_exit [0, 1, 2, 3, 4, 5, 6, 7] rfl (fun hx => hx)
        · refine J_iload 1 rfl d_Mo_whenOf_52 ?_
          refine J_goto 59 rfl d_Mo_whenOf_54 ?_
          exact J_exit [0, 1, 2, 3, 4, 5, 6, 7] rfl (fun hx => hx)
      · refine J_istore (lv' := [(4, .int v14), (7, .int v12), (6, .int v5), (5, .int v6), (3, .int v4), (0, .ref (ad 34)), (1, .int a1), (2, .int a2)]) (Nat.le_of_ble_eq_true rfl) rfl d_Mo_whenOf_59 ?_
        refine J_iload 1 rfl d_Mo_whenOf_61 ?_
        refine J_iload 3 rfl d_Mo_whenOf_63 ?_
        refine J_bd1 (fun (v16 : Int32) => Vw (kx_Mo_whenOf l g Q) 0 0 75 [(4, .int v14), (7, .int v12), (6, .int v5), (5, .int v6), (3, .int v4), (0, .ref (ad 34)), (1, .int a1), (2, .int a2)] [.int v16] (pic g ad h13)) ?_ (fun v16 => ?_)
        · refine J_icmp_le 73 rfl d_Mo_whenOf_65 (fun c17 => ?_) (fun c17 => ?_)
          · refine J_iload 3 rfl d_Mo_whenOf_73 ?_
            exact J_exit [0, 1, 2, 3, 4, 5, 6, 7] rfl (fun hx => hx)
          · refine J_iload 1 rfl d_Mo_whenOf_68 ?_
            refine J_goto 75 rfl d_Mo_whenOf_70 ?_
            exact J_exit [0, 1, 2, 3, 4, 5, 6, 7] rfl (fun hx => hx)
        · refine J_istore (lv' := [(5, .int v16), (4, .int v14), (7, .int v12), (6, .int v5), (3, .int v4), (0, .ref (ad 34)), (1, .int a1), (2, .int a2)]) (Nat.le_of_ble_eq_true rfl) rfl d_Mo_whenOf_75 ?_
          refine P_inc (w := 1) (lv' := fun v18 => [(6, .int v18), (5, .int v16), (4, .int v14), (7, .int v12), (3, .int v4), (0, .ref (ad 34)), (1, .int a1), (2, .int a2)]) 3 rfl rfl (Nat.le_of_ble_eq_true rfl) (fun _ => rfl) d_Mo_whenOf_77 (fun v18 => ?_)
          refine J_goto 20 rfl d_Mo_whenOf_80 ?_
          exact J_sub [0, 1, 2, 4, 5, 6, 7] rfl (ih _ _ _ _)
set_option maxRecDepth 20000 in
set_option maxHeartbeats 4000000 in
theorem m_Mo_whenOf (l : Launch) (g : GG) (ad : Nat → Nat) (a1 : Int32) (a2 : Int32) (h0 : HP) : CM l g ad y_Mo_whenOf b_Mo_whenOf 8 (some .int) rm_Mo_whenOf [.ref (ad 34), .int a1, .int a2] h0 enI (f_Mo_whenOf a1 a2 h0) := by
  refine CM.of (by decide) (Nat.le_of_ble_eq_true rfl) (fun Q => ?_)
  show Jj _ _ (Vw (kx_Mo_whenOf l g Q) 0 0 0 _ _ _)
  refine J_sub [0, 1, 2] (lv' := [(0, .ref (ad 34)), (1, .int a1), (2, .int a2)]) rfl ?_
  unfold f_Mo_whenOf
  refine J_aload_n 0 rfl d_Mo_whenOf_0 ?_
  refine J_callVv (m_Mo_asTold l g ad _) ok_Mo_asTold rc_34 wi_Mo_asTold wl_Mo_Mo_asTold wk_Mo_235 ⟨rfl, rfl, Nat.le_of_ble_eq_true rfl, Nat.le_of_ble_eq_true rfl⟩ ⟨Nat.zero_le _, Nat.zero_le _⟩ (rest := []) rfl rfl (Nat.le_of_ble_eq_true rfl) d_Mo_whenOf_1 (fun h3 => ?_)
  refine J_aload_n 0 rfl d_Mo_whenOf_4 ?_
  refine J_getR fo_Mo_28_34 rfl d_Mo_whenOf_5 ?_
  refine J_iload_n 1 rfl d_Mo_whenOf_8 ?_
  refine P_ia (by decide) rfl rfl d_Mo_whenOf_9 (fun v4 => ?_)
  refine J_istore_n (lv' := [(3, .int v4), (0, .ref (ad 34)), (1, .int a1), (2, .int a2)]) 3 rfl (Nat.le_of_ble_eq_true rfl) rfl d_Mo_whenOf_10 ?_
  refine J_iconst (v := (-1)) rfl d_Mo_whenOf_11 ?_
  refine J_istore (lv' := [(4, .int (-1)), (3, .int v4), (0, .ref (ad 34)), (1, .int a1), (2, .int a2)]) (Nat.le_of_ble_eq_true rfl) rfl d_Mo_whenOf_12 ?_
  refine J_iconst (v := (-1)) rfl d_Mo_whenOf_14 ?_
  refine J_istore (lv' := [(5, .int (-1)), (4, .int (-1)), (3, .int v4), (0, .ref (ad 34)), (1, .int a1), (2, .int a2)]) (Nat.le_of_ble_eq_true rfl) rfl d_Mo_whenOf_15 ?_
  refine J_iconst (v := 0) rfl d_Mo_whenOf_17 ?_
  refine J_istore (lv' := [(6, .int 0), (5, .int (-1)), (4, .int (-1)), (3, .int v4), (0, .ref (ad 34)), (1, .int a1), (2, .int a2)]) (Nat.le_of_ble_eq_true rfl) rfl d_Mo_whenOf_18 ?_
  refine J_bd4 (fun (v19 : Int32) (v20 : Int32) (v21 : Int32) (h22 : HP) => Vw (kx_Mo_whenOf l g Q) 0 0 83 [(6, .int v19), (5, .int v20), (4, .int v21), (3, .int v4), (0, .ref (ad 34)), (1, .int a1), (2, .int a2)] [] (pic g ad h22)) ?_ (fun v19 v20 v21 h22 => ?_)
  · exact J_sub [0, 1, 2, 3, 4, 5, 6] rfl (mlp_Mo_whenOf_20 l g ad Q v4 a1 a2 400 _ _ _ _)
  · refine J_aload_n 4 rfl d_Mo_whenOf_83 ?_
    refine J_getR fo_Mo_28_34 rfl d_Mo_whenOf_84 ?_
    refine J_iload_n 5 rfl d_Mo_whenOf_87 ?_
    refine J_iload_n 3 rfl d_Mo_whenOf_88 ?_
    refine P_wa (by decide) rfl rfl d_Mo_whenOf_89 (fun h23 => ?_)
    refine J_iload_n 6 rfl d_Mo_whenOf_90 ?_
    refine J_if_ne 99 rfl d_Mo_whenOf_91 (fun c24 => ?_) (fun c24 => ?_)
    · refine J_iload 1 rfl d_Mo_whenOf_99 ?_
      exact J_iret (Nat.le_refl _) (Nat.le_refl _) d_Mo_whenOf_101 rfl (fun hx => hx)
    · refine J_iload 2 rfl d_Mo_whenOf_94 ?_
      refine J_goto 101 rfl d_Mo_whenOf_96 ?_
      exact J_iret (Nat.le_refl _) (Nat.le_refl _) d_Mo_whenOf_101 rfl (fun hx => hx)
def f_Mo_when (a1 : Int32) (a2 : Int32) (h0 : HP) : Option (Int32 × HP) :=
 bd2 (f_Mo_isBale a1 h0) (fun (v3 : Int32) (h4 : HP) =>
 (if v3 = 0 then
 some ((-2), h4)
 else
 bd2 (f_Mo_isTwo a2 h4) (fun (v6 : Int32) (h7 : HP) =>
 (if v6 = 0 then
 some ((-2), h7)
 else
 bd2 (f_Mo_whenOf a1 a2 h7) (fun (v9 : Int32) (h10 : HP) =>
 some (v9, h10))))))
set_option maxRecDepth 20000 in
set_option maxHeartbeats 4000000 in
theorem m_Mo_when (l : Launch) (g : GG) (ad : Nat → Nat) (a1 : Int32) (a2 : Int32) (h0 : HP) : CM l g ad y_Mo_when b_Mo_when 3 (some .int) rm_Mo_when [.ref (ad 34), .int a1, .int a2] h0 enI (f_Mo_when a1 a2 h0) := by
  refine CM.of (by decide) (Nat.le_of_ble_eq_true rfl) (fun Q => ?_)
  show Jj _ _ (Vw (kx_Mo_when l g Q) 0 0 0 _ _ _)
  refine J_sub [0, 1, 2] (lv' := [(0, .ref (ad 34)), (1, .int a1), (2, .int a2)]) rfl ?_
  unfold f_Mo_when
  refine J_aload_n 0 rfl d_Mo_when_0 ?_
  refine J_iload_n 1 rfl d_Mo_when_1 ?_
  refine J_callVi (m_Mo_isBale l g ad _ _) ok_Mo_isBale rc_34 wi_Mo_isBale wl_Mo_Mo_isBale wk_Mo_159 ⟨rfl, rfl, Nat.le_of_ble_eq_true rfl, Nat.le_of_ble_eq_true rfl⟩ ⟨Nat.zero_le _, Nat.zero_le _⟩ (rest := []) rfl rfl (Nat.le_of_ble_eq_true rfl) d_Mo_when_2 (fun v3 h4 => ?_)
  refine J_if_eq 24 rfl d_Mo_when_5 (fun c5 => ?_) (fun c5 => ?_)
  · refine J_bipush (v := (-2)) rfl d_Mo_when_24 ?_
    exact J_iret (Nat.le_refl _) (Nat.le_refl _) d_Mo_when_26 rfl (fun hx => hx)
  · refine J_iload_n 2 rfl d_Mo_when_8 ?_
    refine J_callSi (m_Mo_isTwo l g ad _ _) ok_Mo_isTwo ws_Mo_isTwo wk_Mo_153 ⟨rfl, rfl, Nat.le_of_ble_eq_true rfl, Nat.le_of_ble_eq_true rfl⟩ ⟨Nat.zero_le _, Nat.zero_le _⟩ (rest := []) rfl rfl (Nat.le_of_ble_eq_true rfl) d_Mo_when_9 (fun v6 h7 => ?_)
    refine J_if_eq 24 rfl d_Mo_when_12 (fun c8 => ?_) (fun c8 => ?_)
    · refine J_bipush (v := (-2)) rfl d_Mo_when_24 ?_
      exact J_iret (Nat.le_refl _) (Nat.le_refl _) d_Mo_when_26 rfl (fun hx => hx)
    · refine J_aload_n 0 rfl d_Mo_when_15 ?_
      refine J_iload_n 1 rfl d_Mo_when_16 ?_
      refine J_iload_n 2 rfl d_Mo_when_17 ?_
      refine J_callVi (m_Mo_whenOf l g ad _ _ _) ok_Mo_whenOf rc_34 wi_Mo_whenOf wl_Mo_Mo_whenOf wk_Mo_279 ⟨rfl, rfl, Nat.le_of_ble_eq_true rfl, Nat.le_of_ble_eq_true rfl⟩ ⟨Nat.zero_le _, Nat.zero_le _⟩ (rest := []) rfl rfl (Nat.le_of_ble_eq_true rfl) d_Mo_when_18 (fun v9 h10 => ?_)
      refine J_goto 26 rfl d_Mo_when_21 ?_
      exact J_iret (Nat.le_refl _) (Nat.le_refl _) d_Mo_when_26 rfl (fun hx => hx)
def lp_Mo_brokeAll_4 : Nat → Int32 → Int32 → HP → Option (Int32 × Int32 × HP)
 | 0, _, _, _ => none
 | fu + 1, v1, v2, h3 =>
 ltt (rI h3 34 2) (fun (v4 : Int32) =>
 (if v4 ≤ v1 then
 some (v1, v2, h3)
 else
 ckk (inb v1 8) (ltt (rA h3 17 v1) (fun (v6 : Int32) =>
 ltt (v2 + v6) (fun (v7 : Int32) =>
 ltt (v1 + 1) (fun (v8 : Int32) =>
 lp_Mo_brokeAll_4 fu v8 v7 h3))))))
def f_Mo_brokeAll (h0 : HP) : Option (Int32 × HP) :=
 bd3 (lp_Mo_brokeAll_4 400 0 0 h0) (fun (v9 : Int32) (v10 : Int32) (h11 : HP) =>
 some (v10, h11))
set_option maxRecDepth 20000 in
set_option maxHeartbeats 4000000 in
theorem mlp_Mo_brokeAll_4 (l : Launch) (g : GG) (ad : Nat → Nat) (Q : Option Value → va_W → Prop) : ∀ (fu : Nat) (v1 : Int32) (v2 : Int32) (h3 : HP), Jj (fun q : Int32 × Int32 × HP => Vw (kx_Mo_brokeAll l g Q) 0 0 27 [(2, .int (q.1)), (1, .int (q.2.1)), (0, .ref (ad 34))] [] (pic g ad q.2.2)) (lp_Mo_brokeAll_4 fu v1 v2 h3) (Vw (kx_Mo_brokeAll l g Q) 0 0 4 [(2, .int v1), (1, .int v2), (0, .ref (ad 34))] [] (pic g ad h3)) := by
  intro fu
  induction fu with
  | zero =>
    intro v1 v2 h3
    exact J_none
  | succ fu ih =>
    intro v1 v2 h3
    rw [lp_Mo_brokeAll_4]
    refine J_iload_n 0 rfl d_Mo_brokeAll_4 ?_
    refine J_aload_n 2 rfl d_Mo_brokeAll_5 ?_
    refine P_gI fo_Mo_127_34 rfl d_Mo_brokeAll_6 (fun v4 => ?_)
    refine J_icmp_ge 27 rfl d_Mo_brokeAll_9 (fun c5 => ?_) (fun c5 => ?_)
    · exact J_exit [0, 1, 2] rfl (fun hx => hx)
    · refine J_iload_n 1 rfl d_Mo_brokeAll_12 ?_
      refine J_aload_n 2 rfl d_Mo_brokeAll_13 ?_
      refine J_getR fo_Mo_58_34 rfl d_Mo_brokeAll_14 ?_
      refine J_iload_n 0 rfl d_Mo_brokeAll_17 ?_
      refine P_ia (by decide) rfl rfl d_Mo_brokeAll_18 (fun v6 => ?_)
      refine J_iadd d_Mo_brokeAll_19 ?_
      refine P_ist_n (lv' := fun v7 => [(1, .int v7), (2, .int v1), (0, .ref (ad 34))]) 1 rfl (Nat.le_of_ble_eq_true rfl) (fun _ => rfl) d_Mo_brokeAll_20 (fun v7 => ?_)
      refine P_inc (w := 1) (lv' := fun v8 => [(2, .int v8), (1, .int v7), (0, .ref (ad 34))]) 1 rfl rfl (Nat.le_of_ble_eq_true rfl) (fun _ => rfl) d_Mo_brokeAll_21 (fun v8 => ?_)
      refine J_goto 4 rfl d_Mo_brokeAll_24 ?_
      exact J_sub [0, 1, 2] rfl (ih _ _ _)
set_option maxRecDepth 20000 in
set_option maxHeartbeats 4000000 in
theorem m_Mo_brokeAll (l : Launch) (g : GG) (ad : Nat → Nat) (h0 : HP) : CM l g ad y_Mo_brokeAll b_Mo_brokeAll 3 (some .int) rm_Mo_brokeAll [.ref (ad 34)] h0 enI (f_Mo_brokeAll h0) := by
  refine CM.of (by decide) (Nat.le_of_ble_eq_true rfl) (fun Q => ?_)
  show Jj _ _ (Vw (kx_Mo_brokeAll l g Q) 0 0 0 _ _ _)
  refine J_sub [0] (lv' := [(0, .ref (ad 34))]) rfl ?_
  unfold f_Mo_brokeAll
  refine J_iconst (v := 0) rfl d_Mo_brokeAll_0 ?_
  refine J_istore_n (lv' := [(1, .int 0), (0, .ref (ad 34))]) 1 rfl (Nat.le_of_ble_eq_true rfl) rfl d_Mo_brokeAll_1 ?_
  refine J_iconst (v := 0) rfl d_Mo_brokeAll_2 ?_
  refine J_istore_n (lv' := [(2, .int 0), (1, .int 0), (0, .ref (ad 34))]) 2 rfl (Nat.le_of_ble_eq_true rfl) rfl d_Mo_brokeAll_3 ?_
  refine J_bd3 (fun (v9 : Int32) (v10 : Int32) (h11 : HP) => Vw (kx_Mo_brokeAll l g Q) 0 0 27 [(2, .int v9), (1, .int v10), (0, .ref (ad 34))] [] (pic g ad h11)) ?_ (fun v9 v10 h11 => ?_)
  · exact J_sub [0, 1, 2] rfl (mlp_Mo_brokeAll_4 l g ad Q 400 _ _ _)
  · refine J_iload_n 1 rfl d_Mo_brokeAll_27 ?_
    exact J_iret (Nat.le_refl _) (Nat.le_refl _) d_Mo_brokeAll_28 rfl (fun hx => hx)
def f_Mo_isSpared (a1 : Int32) (h0 : HP) : Option (Int32 × HP) :=
 ltt (sI h0 34 15 a1) (fun (h2 : HP) =>
 bd1 (f_Mo_runs h2) (fun (h3 : HP) =>
 bd2 (f_Mo_brokeAll h3) (fun (v4 : Int32) (h5 : HP) =>
 (if v4 = 0 then
 some (1, h5)
 else
 some (0, h5)))))
set_option maxRecDepth 20000 in
set_option maxHeartbeats 4000000 in
theorem m_Mo_isSpared (l : Launch) (g : GG) (ad : Nat → Nat) (a1 : Int32) (h0 : HP) : CM l g ad y_Mo_isSpared b_Mo_isSpared 2 (some .boolean) rm_Mo_isSpared [.ref (ad 34), .int a1] h0 enI (f_Mo_isSpared a1 h0) := by
  refine CM.of (by decide) (Nat.le_of_ble_eq_true rfl) (fun Q => ?_)
  show Jj _ _ (Vw (kx_Mo_isSpared l g Q) 0 0 0 _ _ _)
  refine J_sub [0, 1] (lv' := [(0, .ref (ad 34)), (1, .int a1)]) rfl ?_
  unfold f_Mo_isSpared
  refine J_aload_n 0 rfl d_Mo_isSpared_0 ?_
  refine J_iload_n 1 rfl d_Mo_isSpared_1 ?_
  refine P_wI fo_Mo_186_34 rfl d_Mo_isSpared_2 (fun h2 => ?_)
  refine J_aload_n 0 rfl d_Mo_isSpared_5 ?_
  refine J_callVv (m_Mo_runs l g ad _) ok_Mo_runs rc_34 wi_Mo_runs wl_Mo_Mo_runs wk_Mo_238 ⟨rfl, rfl, Nat.le_of_ble_eq_true rfl, Nat.le_of_ble_eq_true rfl⟩ ⟨Nat.zero_le _, Nat.zero_le _⟩ (rest := []) rfl rfl (Nat.le_of_ble_eq_true rfl) d_Mo_isSpared_6 (fun h3 => ?_)
  refine J_aload_n 0 rfl d_Mo_isSpared_9 ?_
  refine J_callVi (m_Mo_brokeAll l g ad _) ok_Mo_brokeAll rc_34 wi_Mo_brokeAll wl_Mo_Mo_brokeAll wk_Mo_282 ⟨rfl, rfl, Nat.le_of_ble_eq_true rfl, Nat.le_of_ble_eq_true rfl⟩ ⟨Nat.zero_le _, Nat.zero_le _⟩ (rest := []) rfl rfl (Nat.le_of_ble_eq_true rfl) d_Mo_isSpared_10 (fun v4 h5 => ?_)
  refine J_if_ne 20 rfl d_Mo_isSpared_13 (fun c6 => ?_) (fun c6 => ?_)
  · refine J_iconst (v := 0) rfl d_Mo_isSpared_20 ?_
    exact J_zret (Nat.le_refl _) (Nat.le_refl _) d_Mo_isSpared_21 rfl (zfit (Or.inl rfl)).1 (fun hx => hx)
  · refine J_iconst (v := 1) rfl d_Mo_isSpared_16 ?_
    refine J_goto 21 rfl d_Mo_isSpared_17 ?_
    exact J_zret (Nat.le_refl _) (Nat.le_refl _) d_Mo_isSpared_21 rfl (zfit (Or.inr rfl)).1 (fun hx => hx)
def lp_Mo_spareBy_63 (v9 : Int32) (kz : Int32 → HP → Option (Int32 × HP)) : Nat → Int32 → HP → Option (Int32 × HP)
 | 0, _, _ => none
 | fu + 1, v14, h15 =>
 ltt (rI h15 34 9) (fun (v16 : Int32) =>
 (if v16 ≤ v14 then
 kz v14 h15
 else
 ckk (inb 0 2) (ltt (wA h15 9 0 v9) (fun (h18 : HP) =>
 ckk (inb 1 2) (ltt (wA h18 9 1 v14) (fun (h19 : HP) =>
 bd2 (f_Mo_isSpared ((1 <<< (v9 &&& 31)) ||| (1 <<< (v14 &&& 31))) h19) (fun (v20 : Int32) (h21 : HP) =>
 (if v20 = 0 then
 ltt (v14 + 1) (fun (v23 : Int32) =>
 lp_Mo_spareBy_63 v9 kz fu v23 h21)
 else
 some (2, h21)))))))))
def lp_Mo_spareBy_51 (kz : Int32 → HP → Option (Int32 × HP)) : Nat → Int32 → HP → Option (Int32 × HP)
 | 0, _, _ => none
 | fu + 1, v9, h10 =>
 ltt (rI h10 34 9) (fun (v11 : Int32) =>
 (if v11 ≤ v9 then
 kz v9 h10
 else
 ltt (v9 + 1) (fun (v13 : Int32) =>
 lp_Mo_spareBy_63 v9 (fun (v24 : Int32) (h25 : HP) =>
 ltt (v9 + 1) (fun (v26 : Int32) =>
 lp_Mo_spareBy_51 kz fu v26 h25)) 400 v13 h10)))
def lp_Mo_spareBy_16 : Nat → Int32 → HP → Option (Int32 × HP)
 | 0, _, _ => none
 | fu + 1, v5, h6 =>
 ltt (rI h6 34 9) (fun (v7 : Int32) =>
 (if v7 ≤ v5 then
 lp_Mo_spareBy_51 (fun (v27 : Int32) (h28 : HP) =>
 some ((-1), h28)) 400 0 h6
 else
 ckk (inb 0 2) (ltt (wA h6 9 0 v5) (fun (h29 : HP) =>
 bd2 (f_Mo_isSpared (1 <<< (v5 &&& 31)) h29) (fun (v30 : Int32) (h31 : HP) =>
 (if v30 = 0 then
 ltt (v5 + 1) (fun (v33 : Int32) =>
 lp_Mo_spareBy_16 fu v33 h31)
 else
 some (1, h31)))))))
def f_Mo_spareBy (h0 : HP) : Option (Int32 × HP) :=
 bd1 (f_Mo_asTold h0) (fun (h1 : HP) =>
 bd2 (f_Mo_isSpared 0 h1) (fun (v2 : Int32) (h3 : HP) =>
 (if v2 = 0 then
 lp_Mo_spareBy_16 400 0 h3
 else
 some (0, h3))))
set_option maxRecDepth 20000 in
set_option maxHeartbeats 4000000 in
theorem mlp_Mo_spareBy_63 (l : Launch) (g : GG) (ad : Nat → Nat) (Q : Option Value → va_W → Prop) (v9 : Int32) (kz : Int32 → HP → Option (Int32 × HP)) (hkz : ∀ (v14 : Int32) (h15 : HP), Jj (fun a : Int32 × HP => Q (enI a).1 (pic g ad (enI a).2)) (kz v14 h15) (Vw (kx_Mo_spareBy l g Q) 0 0 107 [(2, .int v14), (1, .int v9), (0, .ref (ad 34))] [] (pic g ad h15))) : ∀ (fu : Nat) (v14 : Int32) (h15 : HP), Jj (fun a : Int32 × HP => Q (enI a).1 (pic g ad (enI a).2)) (lp_Mo_spareBy_63 v9 kz fu v14 h15) (Vw (kx_Mo_spareBy l g Q) 0 0 63 [(2, .int v14), (1, .int v9), (0, .ref (ad 34))] [] (pic g ad h15)) := by
  intro fu
  induction fu with
  | zero =>
    intro v14 h15
    exact J_none
  | succ fu ih =>
    intro v14 h15
    rw [lp_Mo_spareBy_63]
    refine J_iload_n 0 rfl d_Mo_spareBy_63 ?_
    refine J_aload_n 2 rfl d_Mo_spareBy_64 ?_
    refine P_gI fo_Mo_171_34 rfl d_Mo_spareBy_65 (fun v16 => ?_)
    refine J_icmp_ge 107 rfl d_Mo_spareBy_68 (fun c17 => ?_) (fun c17 => ?_)
    · exact J_sub [0, 1, 2] rfl (hkz _ _)
    · refine J_aload_n 2 rfl d_Mo_spareBy_71 ?_
      refine J_getR fo_Mo_82_34 rfl d_Mo_spareBy_72 ?_
      refine J_iconst (v := 0) rfl d_Mo_spareBy_75 ?_
      refine J_iload_n 1 rfl d_Mo_spareBy_76 ?_
      refine P_wa (by decide) rfl rfl d_Mo_spareBy_77 (fun h18 => ?_)
      refine J_aload_n 2 rfl d_Mo_spareBy_78 ?_
      refine J_getR fo_Mo_82_34 rfl d_Mo_spareBy_79 ?_
      refine J_iconst (v := 1) rfl d_Mo_spareBy_82 ?_
      refine J_iload_n 0 rfl d_Mo_spareBy_83 ?_
      refine P_wa (by decide) rfl rfl d_Mo_spareBy_84 (fun h19 => ?_)
      refine J_aload_n 2 rfl d_Mo_spareBy_85 ?_
      refine J_iconst (v := 1) rfl d_Mo_spareBy_86 ?_
      refine J_iload_n 1 rfl d_Mo_spareBy_87 ?_
      refine J_ishl d_Mo_spareBy_88 ?_
      refine J_iconst (v := 1) rfl d_Mo_spareBy_89 ?_
      refine J_iload_n 0 rfl d_Mo_spareBy_90 ?_
      refine J_ishl d_Mo_spareBy_91 ?_
      refine J_ior d_Mo_spareBy_92 ?_
      refine J_callVi (m_Mo_isSpared l g ad _ _) ok_Mo_isSpared rc_34 wi_Mo_isSpared wl_Mo_Mo_isSpared wk_Mo_285 ⟨rfl, rfl, Nat.le_of_ble_eq_true rfl, Nat.le_of_ble_eq_true rfl⟩ ⟨Nat.zero_le _, Nat.zero_le _⟩ (rest := []) rfl rfl (Nat.le_of_ble_eq_true rfl) d_Mo_spareBy_93 (fun v20 h21 => ?_)
      refine J_if_eq 101 rfl d_Mo_spareBy_96 (fun c22 => ?_) (fun c22 => ?_)
      · refine P_inc (w := 1) (lv' := fun v23 => [(2, .int v23), (1, .int v9), (0, .ref (ad 34))]) 0 rfl rfl (Nat.le_of_ble_eq_true rfl) (fun _ => rfl) d_Mo_spareBy_101 (fun v23 => ?_)
        refine J_goto 63 rfl d_Mo_spareBy_104 ?_
        exact J_sub [0, 1, 2] rfl (ih _ _)
      · refine J_iconst (v := 2) rfl d_Mo_spareBy_99 ?_
        exact J_iret (Nat.le_refl _) (Nat.le_refl _) d_Mo_spareBy_100 rfl (fun hx => hx)
set_option maxRecDepth 20000 in
set_option maxHeartbeats 4000000 in
theorem mlp_Mo_spareBy_51 (l : Launch) (g : GG) (ad : Nat → Nat) (Q : Option Value → va_W → Prop) (kz : Int32 → HP → Option (Int32 × HP)) (hkz : ∀ (v9 : Int32) (h10 : HP), Jj (fun a : Int32 × HP => Q (enI a).1 (pic g ad (enI a).2)) (kz v9 h10) (Vw (kx_Mo_spareBy l g Q) 0 0 113 [(1, .int v9), (0, .ref (ad 34))] [] (pic g ad h10))) : ∀ (fu : Nat) (v9 : Int32) (h10 : HP), Jj (fun a : Int32 × HP => Q (enI a).1 (pic g ad (enI a).2)) (lp_Mo_spareBy_51 kz fu v9 h10) (Vw (kx_Mo_spareBy l g Q) 0 0 51 [(1, .int v9), (0, .ref (ad 34))] [] (pic g ad h10)) := by
  intro fu
  induction fu with
  | zero =>
    intro v9 h10
    exact J_none
  | succ fu ih =>
    intro v9 h10
    rw [lp_Mo_spareBy_51]
    refine J_iload_n 0 rfl d_Mo_spareBy_51 ?_
    refine J_aload_n 1 rfl d_Mo_spareBy_52 ?_
    refine P_gI fo_Mo_171_34 rfl d_Mo_spareBy_53 (fun v11 => ?_)
    refine J_icmp_ge 113 rfl d_Mo_spareBy_56 (fun c12 => ?_) (fun c12 => ?_)
    · exact J_sub [0, 1] rfl (hkz _ _)
    · refine J_iload_n 0 rfl d_Mo_spareBy_59 ?_
      refine J_iconst (v := 1) rfl d_Mo_spareBy_60 ?_
      refine J_iadd d_Mo_spareBy_61 ?_
      refine P_ist_n (lv' := fun v13 => [(2, .int v13), (1, .int v9), (0, .ref (ad 34))]) 2 rfl (Nat.le_of_ble_eq_true rfl) (fun _ => rfl) d_Mo_spareBy_62 (fun v13 => ?_)
      refine J_sub [0, 1, 2] rfl (mlp_Mo_spareBy_63 l g ad Q v9 _ (fun v24 h25 => ?_) 400 _ _)
      refine P_inc (w := 1) (lv' := fun v26 => [(1, .int v26), (2, .int v24), (0, .ref (ad 34))]) 1 rfl rfl (Nat.le_of_ble_eq_true rfl) (fun _ => rfl) d_Mo_spareBy_107 (fun v26 => ?_)
      refine J_goto 51 rfl d_Mo_spareBy_110 ?_
      exact J_sub [0, 2] rfl (ih _ _)
set_option maxRecDepth 20000 in
set_option maxHeartbeats 4000000 in
theorem mlp_Mo_spareBy_16 (l : Launch) (g : GG) (ad : Nat → Nat) (Q : Option Value → va_W → Prop) : ∀ (fu : Nat) (v5 : Int32) (h6 : HP), Jj (fun a : Int32 × HP => Q (enI a).1 (pic g ad (enI a).2)) (lp_Mo_spareBy_16 fu v5 h6) (Vw (kx_Mo_spareBy l g Q) 0 0 16 [(1, .int v5), (0, .ref (ad 34))] [] (pic g ad h6)) := by
  intro fu
  induction fu with
  | zero =>
    intro v5 h6
    exact J_none
  | succ fu ih =>
    intro v5 h6
    rw [lp_Mo_spareBy_16]
    refine J_iload_n 0 rfl d_Mo_spareBy_16 ?_
    refine J_aload_n 1 rfl d_Mo_spareBy_17 ?_
    refine P_gI fo_Mo_171_34 rfl d_Mo_spareBy_18 (fun v7 => ?_)
    refine J_icmp_ge 49 rfl d_Mo_spareBy_21 (fun c8 => ?_) (fun c8 => ?_)
    · refine J_iconst (v := 0) rfl d_Mo_spareBy_49 ?_
      refine J_istore_n (lv' := [(1, .int 0), (0, .ref (ad 34))]) 1 rfl (Nat.le_of_ble_eq_true rfl) rfl d_Mo_spareBy_50 ?_
      refine J_sub [0, 1] rfl (mlp_Mo_spareBy_51 l g ad Q _ (fun v27 h28 => ?_) 400 _ _)
      refine J_iconst (v := (-1)) rfl d_Mo_spareBy_113 ?_
      exact J_iret (Nat.le_refl _) (Nat.le_refl _) d_Mo_spareBy_114 rfl (fun hx => hx)
    · refine J_aload_n 1 rfl d_Mo_spareBy_24 ?_
      refine J_getR fo_Mo_82_34 rfl d_Mo_spareBy_25 ?_
      refine J_iconst (v := 0) rfl d_Mo_spareBy_28 ?_
      refine J_iload_n 0 rfl d_Mo_spareBy_29 ?_
      refine P_wa (by decide) rfl rfl d_Mo_spareBy_30 (fun h29 => ?_)
      refine J_aload_n 1 rfl d_Mo_spareBy_31 ?_
      refine J_iconst (v := 1) rfl d_Mo_spareBy_32 ?_
      refine J_iload_n 0 rfl d_Mo_spareBy_33 ?_
      refine J_ishl d_Mo_spareBy_34 ?_
      refine J_callVi (m_Mo_isSpared l g ad _ _) ok_Mo_isSpared rc_34 wi_Mo_isSpared wl_Mo_Mo_isSpared wk_Mo_285 ⟨rfl, rfl, Nat.le_of_ble_eq_true rfl, Nat.le_of_ble_eq_true rfl⟩ ⟨Nat.zero_le _, Nat.zero_le _⟩ (rest := []) rfl rfl (Nat.le_of_ble_eq_true rfl) d_Mo_spareBy_35 (fun v30 h31 => ?_)
      refine J_if_eq 43 rfl d_Mo_spareBy_38 (fun c32 => ?_) (fun c32 => ?_)
      · refine P_inc (w := 1) (lv' := fun v33 => [(1, .int v33), (0, .ref (ad 34))]) 0 rfl rfl (Nat.le_of_ble_eq_true rfl) (fun _ => rfl) d_Mo_spareBy_43 (fun v33 => ?_)
        refine J_goto 16 rfl d_Mo_spareBy_46 ?_
        exact J_sub [0, 1] rfl (ih _ _)
      · refine J_iconst (v := 1) rfl d_Mo_spareBy_41 ?_
        exact J_iret (Nat.le_refl _) (Nat.le_refl _) d_Mo_spareBy_42 rfl (fun hx => hx)
set_option maxRecDepth 20000 in
set_option maxHeartbeats 4000000 in
theorem m_Mo_spareBy (l : Launch) (g : GG) (ad : Nat → Nat) (h0 : HP) : CM l g ad y_Mo_spareBy b_Mo_spareBy 3 (some .int) rm_Mo_spareBy [.ref (ad 34)] h0 enI (f_Mo_spareBy h0) := by
  refine CM.of (by decide) (Nat.le_of_ble_eq_true rfl) (fun Q => ?_)
  show Jj _ _ (Vw (kx_Mo_spareBy l g Q) 0 0 0 _ _ _)
  refine J_sub [0] (lv' := [(0, .ref (ad 34))]) rfl ?_
  unfold f_Mo_spareBy
  refine J_aload_n 0 rfl d_Mo_spareBy_0 ?_
  refine J_callVv (m_Mo_asTold l g ad _) ok_Mo_asTold rc_34 wi_Mo_asTold wl_Mo_Mo_asTold wk_Mo_235 ⟨rfl, rfl, Nat.le_of_ble_eq_true rfl, Nat.le_of_ble_eq_true rfl⟩ ⟨Nat.zero_le _, Nat.zero_le _⟩ (rest := []) rfl rfl (Nat.le_of_ble_eq_true rfl) d_Mo_spareBy_1 (fun h1 => ?_)
  refine J_aload_n 0 rfl d_Mo_spareBy_4 ?_
  refine J_iconst (v := 0) rfl d_Mo_spareBy_5 ?_
  refine J_callVi (m_Mo_isSpared l g ad _ _) ok_Mo_isSpared rc_34 wi_Mo_isSpared wl_Mo_Mo_isSpared wk_Mo_285 ⟨rfl, rfl, Nat.le_of_ble_eq_true rfl, Nat.le_of_ble_eq_true rfl⟩ ⟨Nat.zero_le _, Nat.zero_le _⟩ (rest := []) rfl rfl (Nat.le_of_ble_eq_true rfl) d_Mo_spareBy_6 (fun v2 h3 => ?_)
  refine J_if_eq 14 rfl d_Mo_spareBy_9 (fun c4 => ?_) (fun c4 => ?_)
  · refine J_iconst (v := 0) rfl d_Mo_spareBy_14 ?_
    refine J_istore_n (lv' := [(1, .int 0), (0, .ref (ad 34))]) 1 rfl (Nat.le_of_ble_eq_true rfl) rfl d_Mo_spareBy_15 ?_
    exact J_sub [0, 1] rfl (mlp_Mo_spareBy_16 l g ad Q 400 _ _)
  · refine J_iconst (v := 0) rfl d_Mo_spareBy_12 ?_
    exact J_iret (Nat.le_refl _) (Nat.le_refl _) d_Mo_spareBy_13 rfl (fun hx => hx)
def f_Mo_ofRow (a1 : Int32) (a2 : Int32) (h0 : HP) : Option (Int32 × HP) :=
 (if a2 = (-1) then
 some (a1, h0)
 else
 (if a1 ≤ a2 then
 some ((-1), h0)
 else
 ckk (inb a2 2) (ltt (rA h0 9 a2) (fun (v5 : Int32) =>
 some (v5, h0)))))
set_option maxRecDepth 20000 in
set_option maxHeartbeats 4000000 in
theorem m_Mo_ofRow (l : Launch) (g : GG) (ad : Nat → Nat) (a1 : Int32) (a2 : Int32) (h0 : HP) : CM l g ad y_Mo_ofRow b_Mo_ofRow 3 (some .int) rm_Mo_ofRow [.ref (ad 34), .int a1, .int a2] h0 enI (f_Mo_ofRow a1 a2 h0) := by
  refine CM.of (by decide) (Nat.le_of_ble_eq_true rfl) (fun Q => ?_)
  show Jj _ _ (Vw (kx_Mo_ofRow l g Q) 0 0 0 _ _ _)
  refine J_sub [0, 1, 2] (lv' := [(0, .ref (ad 34)), (1, .int a1), (2, .int a2)]) rfl ?_
  unfold f_Mo_ofRow
  refine J_iload_n 2 rfl d_Mo_ofRow_0 ?_
  refine J_iconst (v := (-1)) rfl d_Mo_ofRow_1 ?_
  refine J_icmp_ne 9 rfl d_Mo_ofRow_2 (fun c3 => ?_) (fun c3 => ?_)
  · refine J_iload_n 2 rfl d_Mo_ofRow_9 ?_
    refine J_iload_n 1 rfl d_Mo_ofRow_10 ?_
    refine J_icmp_ge 23 rfl d_Mo_ofRow_11 (fun c4 => ?_) (fun c4 => ?_)
    · refine J_iconst (v := (-1)) rfl d_Mo_ofRow_23 ?_
      exact J_iret (Nat.le_refl _) (Nat.le_refl _) d_Mo_ofRow_24 rfl (fun hx => hx)
    · refine J_aload_n 0 rfl d_Mo_ofRow_14 ?_
      refine J_getR fo_Mo_82_34 rfl d_Mo_ofRow_15 ?_
      refine J_iload_n 2 rfl d_Mo_ofRow_18 ?_
      refine P_ia (by decide) rfl rfl d_Mo_ofRow_19 (fun v5 => ?_)
      refine J_goto 24 rfl d_Mo_ofRow_20 ?_
      exact J_iret (Nat.le_refl _) (Nat.le_refl _) d_Mo_ofRow_24 rfl (fun hx => hx)
  · refine J_iload_n 1 rfl d_Mo_ofRow_5 ?_
    refine J_goto 24 rfl d_Mo_ofRow_6 ?_
    exact J_iret (Nat.le_refl _) (Nat.le_refl _) d_Mo_ofRow_24 rfl (fun hx => hx)
def f_Mo_spare (a1 : Int32) (h0 : HP) : Option (Int32 × HP) :=
 bd2 (f_Mo_in a1 (-1) 1 h0) (fun (v2 : Int32) (h3 : HP) =>
 (if v2 = 0 then
 some ((-2), h3)
 else
 bd2 (f_Mo_spareBy h3) (fun (v5 : Int32) (h6 : HP) =>
 bd2 (f_Mo_ofRow v5 a1 h6) (fun (v7 : Int32) (h8 : HP) =>
 some (v7, h8)))))
set_option maxRecDepth 20000 in
set_option maxHeartbeats 4000000 in
theorem m_Mo_spare (l : Launch) (g : GG) (ad : Nat → Nat) (a1 : Int32) (h0 : HP) : CM l g ad y_Mo_spare b_Mo_spare 2 (some .int) rm_Mo_spare [.ref (ad 34), .int a1] h0 enI (f_Mo_spare a1 h0) := by
  refine CM.of (by decide) (Nat.le_of_ble_eq_true rfl) (fun Q => ?_)
  show Jj _ _ (Vw (kx_Mo_spare l g Q) 0 0 0 _ _ _)
  refine J_sub [0, 1] (lv' := [(0, .ref (ad 34)), (1, .int a1)]) rfl ?_
  unfold f_Mo_spare
  refine J_iload_n 1 rfl d_Mo_spare_0 ?_
  refine J_iconst (v := (-1)) rfl d_Mo_spare_1 ?_
  refine J_iconst (v := 1) rfl d_Mo_spare_2 ?_
  refine J_callSi (m_Mo_in l g ad _ _ _ _) ok_Mo_in ws_Mo_in wk_Mo_115 ⟨rfl, rfl, Nat.le_of_ble_eq_true rfl, Nat.le_of_ble_eq_true rfl⟩ ⟨Nat.zero_le _, Nat.zero_le _⟩ (rest := []) rfl rfl (Nat.le_of_ble_eq_true rfl) d_Mo_spare_3 (fun v2 h3 => ?_)
  refine J_if_eq 21 rfl d_Mo_spare_6 (fun c4 => ?_) (fun c4 => ?_)
  · refine J_bipush (v := (-2)) rfl d_Mo_spare_21 ?_
    exact J_iret (Nat.le_refl _) (Nat.le_refl _) d_Mo_spare_23 rfl (fun hx => hx)
  · refine J_aload_n 0 rfl d_Mo_spare_9 ?_
    refine J_aload_n 0 rfl d_Mo_spare_10 ?_
    refine J_callVi (m_Mo_spareBy l g ad _) ok_Mo_spareBy rc_34 wi_Mo_spareBy wl_Mo_Mo_spareBy wk_Mo_288 ⟨rfl, rfl, Nat.le_of_ble_eq_true rfl, Nat.le_of_ble_eq_true rfl⟩ ⟨Nat.zero_le _, Nat.zero_le _⟩ (rest := [.ref (ad 34)]) rfl rfl (Nat.le_of_ble_eq_true rfl) d_Mo_spare_11 (fun v5 h6 => ?_)
    refine J_iload_n 1 rfl d_Mo_spare_14 ?_
    refine J_callVi (m_Mo_ofRow l g ad _ _ _) ok_Mo_ofRow rc_34 wi_Mo_ofRow wl_Mo_Mo_ofRow wk_Mo_291 ⟨rfl, rfl, Nat.le_of_ble_eq_true rfl, Nat.le_of_ble_eq_true rfl⟩ ⟨Nat.zero_le _, Nat.zero_le _⟩ (rest := []) rfl rfl (Nat.le_of_ble_eq_true rfl) d_Mo_spare_15 (fun v7 h8 => ?_)
    refine J_goto 23 rfl d_Mo_spare_18 ?_
    exact J_iret (Nat.le_refl _) (Nat.le_refl _) d_Mo_spare_23 rfl (fun hx => hx)
def f_Mo_seen (a1 : Int32) (a2 : Int32) (a3 : Int32) (h0 : HP) : Option (Int32 × HP) :=
 bd2 (f_Mo_isDay a1 h0) (fun (v4 : Int32) (h5 : HP) =>
 (if v4 = 0 then
 some ((-2), h5)
 else
 bd2 (f_Mo_isEight a2 h5) (fun (v7 : Int32) (h8 : HP) =>
 (if v7 = 0 then
 some ((-2), h8)
 else
 bd2 (f_Mo_in a3 0 99 h8) (fun (v10 : Int32) (h11 : HP) =>
 (if v10 = 0 then
 some ((-2), h11)
 else
 ltt (rI h11 34 34) (fun (v13 : Int32) =>
 (if v13 = 8 then
 some ((-4), h11)
 else
 ltt (rI h11 34 34) (fun (v15 : Int32) =>
 ckk (inb v15 8) (ltt (wA h11 8 v15 a1) (fun (h16 : HP) =>
 ltt (rI h16 34 34) (fun (v17 : Int32) =>
 ckk (inb v17 8) (ltt (wA h16 7 v17 a2) (fun (h18 : HP) =>
 ltt (rI h18 34 34) (fun (v19 : Int32) =>
 ckk (inb v19 8) (ltt (wA h18 6 v19 a3) (fun (h20 : HP) =>
 ltt (rI h20 34 34) (fun (v21 : Int32) =>
 ltt (sI h20 34 34 (v21 + 1)) (fun (h22 : HP) =>
 ltt (rI h22 34 34) (fun (v23 : Int32) =>
 some (v23, h22)))))))))))))))))))))
set_option maxRecDepth 20000 in
set_option maxHeartbeats 4000000 in
theorem m_Mo_seen (l : Launch) (g : GG) (ad : Nat → Nat) (a1 : Int32) (a2 : Int32) (a3 : Int32) (h0 : HP) : CM l g ad y_Mo_seen b_Mo_seen 4 (some .int) rm_Mo_seen [.ref (ad 34), .int a1, .int a2, .int a3] h0 enI (f_Mo_seen a1 a2 a3 h0) := by
  refine CM.of (by decide) (Nat.le_of_ble_eq_true rfl) (fun Q => ?_)
  show Jj _ _ (Vw (kx_Mo_seen l g Q) 0 0 0 _ _ _)
  refine J_sub [0, 1, 2, 3] (lv' := [(0, .ref (ad 34)), (1, .int a1), (2, .int a2), (3, .int a3)]) rfl ?_
  unfold f_Mo_seen
  refine J_iload_n 1 rfl d_Mo_seen_0 ?_
  refine J_callSi (m_Mo_isDay l g ad _ _) ok_Mo_isDay ws_Mo_isDay wk_Mo_165 ⟨rfl, rfl, Nat.le_of_ble_eq_true rfl, Nat.le_of_ble_eq_true rfl⟩ ⟨Nat.zero_le _, Nat.zero_le _⟩ (rest := []) rfl rfl (Nat.le_of_ble_eq_true rfl) d_Mo_seen_1 (fun v4 h5 => ?_)
  refine J_if_eq 24 rfl d_Mo_seen_4 (fun c6 => ?_) (fun c6 => ?_)
  · refine J_bipush (v := (-2)) rfl d_Mo_seen_24 ?_
    exact J_iret (Nat.le_refl _) (Nat.le_refl _) d_Mo_seen_26 rfl (fun hx => hx)
  · refine J_iload_n 2 rfl d_Mo_seen_7 ?_
    refine J_callSi (m_Mo_isEight l g ad _ _) ok_Mo_isEight ws_Mo_isEight wk_Mo_168 ⟨rfl, rfl, Nat.le_of_ble_eq_true rfl, Nat.le_of_ble_eq_true rfl⟩ ⟨Nat.zero_le _, Nat.zero_le _⟩ (rest := []) rfl rfl (Nat.le_of_ble_eq_true rfl) d_Mo_seen_8 (fun v7 h8 => ?_)
    refine J_if_eq 24 rfl d_Mo_seen_11 (fun c9 => ?_) (fun c9 => ?_)
    · refine J_bipush (v := (-2)) rfl d_Mo_seen_24 ?_
      exact J_iret (Nat.le_refl _) (Nat.le_refl _) d_Mo_seen_26 rfl (fun hx => hx)
    · refine J_iload_n 3 rfl d_Mo_seen_14 ?_
      refine J_iconst (v := 0) rfl d_Mo_seen_15 ?_
      refine J_bipush (v := 99) rfl d_Mo_seen_16 ?_
      refine J_callSi (m_Mo_in l g ad _ _ _ _) ok_Mo_in ws_Mo_in wk_Mo_115 ⟨rfl, rfl, Nat.le_of_ble_eq_true rfl, Nat.le_of_ble_eq_true rfl⟩ ⟨Nat.zero_le _, Nat.zero_le _⟩ (rest := []) rfl rfl (Nat.le_of_ble_eq_true rfl) d_Mo_seen_18 (fun v10 h11 => ?_)
      refine J_if_ne 27 rfl d_Mo_seen_21 (fun c12 => ?_) (fun c12 => ?_)
      · refine J_aload_n 0 rfl d_Mo_seen_27 ?_
        refine P_gI fo_Mo_294_34 rfl d_Mo_seen_28 (fun v13 => ?_)
        refine J_bipush (v := 8) rfl d_Mo_seen_31 ?_
        refine J_icmp_ne 39 rfl d_Mo_seen_33 (fun c14 => ?_) (fun c14 => ?_)
        · refine J_aload_n 0 rfl d_Mo_seen_39 ?_
          refine J_getR fo_Mo_85_34 rfl d_Mo_seen_40 ?_
          refine J_aload_n 0 rfl d_Mo_seen_43 ?_
          refine P_gI fo_Mo_294_34 rfl d_Mo_seen_44 (fun v15 => ?_)
          refine J_iload_n 1 rfl d_Mo_seen_47 ?_
          refine P_wa (by decide) rfl rfl d_Mo_seen_48 (fun h16 => ?_)
          refine J_aload_n 0 rfl d_Mo_seen_49 ?_
          refine J_getR fo_Mo_88_34 rfl d_Mo_seen_50 ?_
          refine J_aload_n 0 rfl d_Mo_seen_53 ?_
          refine P_gI fo_Mo_294_34 rfl d_Mo_seen_54 (fun v17 => ?_)
          refine J_iload_n 2 rfl d_Mo_seen_57 ?_
          refine P_wa (by decide) rfl rfl d_Mo_seen_58 (fun h18 => ?_)
          refine J_aload_n 0 rfl d_Mo_seen_59 ?_
          refine J_getR fo_Mo_91_34 rfl d_Mo_seen_60 ?_
          refine J_aload_n 0 rfl d_Mo_seen_63 ?_
          refine P_gI fo_Mo_294_34 rfl d_Mo_seen_64 (fun v19 => ?_)
          refine J_iload_n 3 rfl d_Mo_seen_67 ?_
          refine P_wa (by decide) rfl rfl d_Mo_seen_68 (fun h20 => ?_)
          refine J_aload_n 0 rfl d_Mo_seen_69 ?_
          refine J_dup rfl d_Mo_seen_70 ?_
          refine P_gI fo_Mo_294_34 rfl d_Mo_seen_71 (fun v21 => ?_)
          refine J_iconst (v := 1) rfl d_Mo_seen_74 ?_
          refine J_iadd d_Mo_seen_75 ?_
          refine P_wI fo_Mo_294_34 rfl d_Mo_seen_76 (fun h22 => ?_)
          refine J_aload_n 0 rfl d_Mo_seen_79 ?_
          refine P_gI fo_Mo_294_34 rfl d_Mo_seen_80 (fun v23 => ?_)
          exact J_iret (Nat.le_refl _) (Nat.le_refl _) d_Mo_seen_83 rfl (fun hx => hx)
        · refine J_bipush (v := (-4)) rfl d_Mo_seen_36 ?_
          exact J_iret (Nat.le_refl _) (Nat.le_refl _) d_Mo_seen_38 rfl (fun hx => hx)
      · refine J_bipush (v := (-2)) rfl d_Mo_seen_24 ?_
        exact J_iret (Nat.le_refl _) (Nat.le_refl _) d_Mo_seen_26 rfl (fun hx => hx)
def f_Mo_forget (h0 : HP) : Option (Int32 × HP) :=
 ltt (rI h0 34 34) (fun (v1 : Int32) =>
 ltt (sI h0 34 34 0) (fun (h2 : HP) =>
 some (v1, h2)))
set_option maxRecDepth 20000 in
set_option maxHeartbeats 4000000 in
theorem m_Mo_forget (l : Launch) (g : GG) (ad : Nat → Nat) (h0 : HP) : CM l g ad y_Mo_forget b_Mo_forget 2 (some .int) rm_Mo_forget [.ref (ad 34)] h0 enI (f_Mo_forget h0) := by
  refine CM.of (by decide) (Nat.le_of_ble_eq_true rfl) (fun Q => ?_)
  show Jj _ _ (Vw (kx_Mo_forget l g Q) 0 0 0 _ _ _)
  refine J_sub [0] (lv' := [(0, .ref (ad 34))]) rfl ?_
  unfold f_Mo_forget
  refine J_aload_n 0 rfl d_Mo_forget_0 ?_
  refine P_gI fo_Mo_294_34 rfl d_Mo_forget_1 (fun v1 => ?_)
  refine J_istore_n (lv' := [(1, .int v1), (0, .ref (ad 34))]) 1 rfl (Nat.le_of_ble_eq_true rfl) rfl d_Mo_forget_4 ?_
  refine J_aload_n 1 rfl d_Mo_forget_5 ?_
  refine J_iconst (v := 0) rfl d_Mo_forget_6 ?_
  refine P_wI fo_Mo_294_34 rfl d_Mo_forget_7 (fun h2 => ?_)
  refine J_iload_n 0 rfl d_Mo_forget_10 ?_
  exact J_iret (Nat.le_refl _) (Nat.le_refl _) d_Mo_forget_11 rfl (fun hx => hx)
def lp_Mo_isSeen_8 : Nat → Int32 → Int32 → HP → Option (Int32 × Int32 × HP)
 | 0, _, _, _ => none
 | fu + 1, v2, v3, h4 =>
 ltt (rI h4 34 34) (fun (v5 : Int32) =>
 (if v5 ≤ v2 then
 some (v2, v3, h4)
 else
 (if v3 = 0 then
 some (v2, v3, h4)
 else
 ckk (inb v2 8) (ltt (rA h4 7 v2) (fun (v8 : Int32) =>
 ltt (rI h4 34 2) (fun (v9 : Int32) =>
 bd1 ((if v9 ≤ v8 then
 some (0)
 else
 ckk (inb v2 8) (ltt (rA h4 8 v2) (fun (v12 : Int32) =>
 ckk (inb v2 8) (ltt (rA h4 7 v2) (fun (v13 : Int32) =>
 ckk (inb ((8 * v12) + v13) 192) (ltt (rA h4 16 ((8 * v12) + v13)) (fun (v14 : Int32) =>
 ckk (inb v2 8) (ltt (rA h4 6 v2) (fun (v15 : Int32) =>
 (if v14 = v15 then
 some (1)
 else
 some (0))))))))))) : Option (Int32)) (fun (v10 : Int32) =>
 ltt (v2 + 1) (fun (v17 : Int32) =>
 lp_Mo_isSeen_8 fu v17 v10 h4))))))))
def f_Mo_isSeen (h0 : HP) : Option (Int32 × HP) :=
 bd1 (f_Mo_runs h0) (fun (h1 : HP) =>
 bd3 (lp_Mo_isSeen_8 400 0 1 h1) (fun (v18 : Int32) (v19 : Int32) (h20 : HP) =>
 ckk (z01 v19) (some (v19, h20))))
set_option maxRecDepth 20000 in
set_option maxHeartbeats 4000000 in
theorem mlp_Mo_isSeen_8 (l : Launch) (g : GG) (ad : Nat → Nat) (Q : Option Value → va_W → Prop) : ∀ (fu : Nat) (v2 : Int32) (v3 : Int32) (h4 : HP), Jj (fun q : Int32 × Int32 × HP => Vw (kx_Mo_isSeen l g Q) 0 0 75 [(2, .int (q.1)), (1, .int (q.2.1)), (0, .ref (ad 34))] [] (pic g ad q.2.2)) (lp_Mo_isSeen_8 fu v2 v3 h4) (Vw (kx_Mo_isSeen l g Q) 0 0 8 [(2, .int v2), (1, .int v3), (0, .ref (ad 34))] [] (pic g ad h4)) := by
  intro fu
  induction fu with
  | zero =>
    intro v2 v3 h4
    exact J_none
  | succ fu ih =>
    intro v2 v3 h4
    rw [lp_Mo_isSeen_8]
    refine J_iload_n 0 rfl d_Mo_isSeen_8 ?_
    refine J_aload_n 2 rfl d_Mo_isSeen_9 ?_
    refine P_gI fo_Mo_294_34 rfl d_Mo_isSeen_10 (fun v5 => ?_)
    refine J_icmp_ge 75 rfl d_Mo_isSeen_13 (fun c6 => ?_) (fun c6 => ?_)
    · exact J_exit [0, 1, 2] rfl (fun hx => hx)
    · refine J_iload_n 1 rfl d_Mo_isSeen_16 ?_
      refine J_if_eq 75 rfl d_Mo_isSeen_17 (fun c7 => ?_) (fun c7 => ?_)
      · exact J_exit [0, 1, 2] rfl (fun hx => hx)
      · refine J_aload_n 2 rfl d_Mo_isSeen_20 ?_
        refine J_getR fo_Mo_88_34 rfl d_Mo_isSeen_21 ?_
        refine J_iload_n 0 rfl d_Mo_isSeen_24 ?_
        refine P_ia (by decide) rfl rfl d_Mo_isSeen_25 (fun v8 => ?_)
        refine J_aload_n 2 rfl d_Mo_isSeen_26 ?_
        refine P_gI fo_Mo_127_34 rfl d_Mo_isSeen_27 (fun v9 => ?_)
        refine J_bd1 (fun (v10 : Int32) => Vw (kx_Mo_isSeen l g Q) 0 0 68 [(2, .int v2), (1, .int v3), (0, .ref (ad 34))] [.int v10] (pic g ad h4)) ?_ (fun v10 => ?_)
        · refine J_icmp_ge 67 rfl d_Mo_isSeen_30 (fun c11 => ?_) (fun c11 => ?_)
          · refine J_iconst (v := 0) rfl d_Mo_isSeen_67 ?_
            exact J_exit [0, 1, 2] rfl (fun hx => hx)
          · refine J_aload_n 2 rfl d_Mo_isSeen_33 ?_
            refine J_getR fo_Mo_61_34 rfl d_Mo_isSeen_34 ?_
            refine J_bipush (v := 8) rfl d_Mo_isSeen_37 ?_
            refine J_aload_n 2 rfl d_Mo_isSeen_39 ?_
            refine J_getR fo_Mo_85_34 rfl d_Mo_isSeen_40 ?_
            refine J_iload_n 0 rfl d_Mo_isSeen_43 ?_
            refine P_ia (by decide) rfl rfl d_Mo_isSeen_44 (fun v12 => ?_)
            refine J_imul d_Mo_isSeen_45 ?_
            refine J_aload_n 2 rfl d_Mo_isSeen_46 ?_
            refine J_getR fo_Mo_88_34 rfl d_Mo_isSeen_47 ?_
            refine J_iload_n 0 rfl d_Mo_isSeen_50 ?_
            refine P_ia (by decide) rfl rfl d_Mo_isSeen_51 (fun v13 => ?_)
            refine J_iadd d_Mo_isSeen_52 ?_
            refine P_ia (by decide) rfl rfl d_Mo_isSeen_53 (fun v14 => ?_)
            refine J_aload_n 2 rfl d_Mo_isSeen_54 ?_
            refine J_getR fo_Mo_91_34 rfl d_Mo_isSeen_55 ?_
            refine J_iload_n 0 rfl d_Mo_isSeen_58 ?_
            refine P_ia (by decide) rfl rfl d_Mo_isSeen_59 (fun v15 => ?_)
            refine J_icmp_ne 67 rfl d_Mo_isSeen_60 (fun c16 => ?_) (fun c16 => ?_)
            · refine J_iconst (v := 0) rfl d_Mo_isSeen_67 ?_
              exact J_exit [0, 1, 2] rfl (fun hx => hx)
            · refine J_iconst (v := 1) rfl d_Mo_isSeen_63 ?_
              refine J_goto 68 rfl d_Mo_isSeen_64 ?_
              exact J_exit [0, 1, 2] rfl (fun hx => hx)
        · refine J_istore_n (lv' := [(1, .int v10), (2, .int v2), (0, .ref (ad 34))]) 1 rfl (Nat.le_of_ble_eq_true rfl) rfl d_Mo_isSeen_68 ?_
          refine P_inc (w := 1) (lv' := fun v17 => [(2, .int v17), (1, .int v10), (0, .ref (ad 34))]) 1 rfl rfl (Nat.le_of_ble_eq_true rfl) (fun _ => rfl) d_Mo_isSeen_69 (fun v17 => ?_)
          refine J_goto 8 rfl d_Mo_isSeen_72 ?_
          exact J_sub [0, 1, 2] rfl (ih _ _ _)
set_option maxRecDepth 20000 in
set_option maxHeartbeats 4000000 in
theorem m_Mo_isSeen (l : Launch) (g : GG) (ad : Nat → Nat) (h0 : HP) : CM l g ad y_Mo_isSeen b_Mo_isSeen 3 (some .boolean) rm_Mo_isSeen [.ref (ad 34)] h0 enI (f_Mo_isSeen h0) := by
  refine CM.of (by decide) (Nat.le_of_ble_eq_true rfl) (fun Q => ?_)
  show Jj _ _ (Vw (kx_Mo_isSeen l g Q) 0 0 0 _ _ _)
  refine J_sub [0] (lv' := [(0, .ref (ad 34))]) rfl ?_
  unfold f_Mo_isSeen
  refine J_aload_n 0 rfl d_Mo_isSeen_0 ?_
  refine J_callVv (m_Mo_runs l g ad _) ok_Mo_runs rc_34 wi_Mo_runs wl_Mo_Mo_runs wk_Mo_238 ⟨rfl, rfl, Nat.le_of_ble_eq_true rfl, Nat.le_of_ble_eq_true rfl⟩ ⟨Nat.zero_le _, Nat.zero_le _⟩ (rest := []) rfl rfl (Nat.le_of_ble_eq_true rfl) d_Mo_isSeen_1 (fun h1 => ?_)
  refine J_iconst (v := 1) rfl d_Mo_isSeen_4 ?_
  refine J_istore_n (lv' := [(1, .int 1), (0, .ref (ad 34))]) 1 rfl (Nat.le_of_ble_eq_true rfl) rfl d_Mo_isSeen_5 ?_
  refine J_iconst (v := 0) rfl d_Mo_isSeen_6 ?_
  refine J_istore_n (lv' := [(2, .int 0), (1, .int 1), (0, .ref (ad 34))]) 2 rfl (Nat.le_of_ble_eq_true rfl) rfl d_Mo_isSeen_7 ?_
  refine J_bd3 (fun (v18 : Int32) (v19 : Int32) (h20 : HP) => Vw (kx_Mo_isSeen l g Q) 0 0 75 [(2, .int v18), (1, .int v19), (0, .ref (ad 34))] [] (pic g ad h20)) ?_ (fun v18 v19 h20 => ?_)
  · exact J_sub [0, 1, 2] rfl (mlp_Mo_isSeen_8 l g ad Q 400 _ _ _)
  · refine J_iload_n 1 rfl d_Mo_isSeen_75 ?_
    exact P_zret (Nat.le_refl _) (Nat.le_refl _) d_Mo_isSeen_76 rfl (fun hx => hx)
def lp_Mo_neverNow_8 : Nat → Int32 → Int32 → HP → Option (Int32 × Int32 × HP)
 | 0, _, _, _ => none
 | fu + 1, v2, v3, h4 =>
 ltt (rI h4 34 9) (fun (v5 : Int32) =>
 (if v5 ≤ v2 then
 some (v2, v3, h4)
 else
 ltt (sI h4 34 15 (1 <<< (v2 &&& 31))) (fun (h7 : HP) =>
 bd2 (f_Mo_isSeen h7) (fun (v8 : Int32) (h9 : HP) =>
 bd1 ((if v8 = 0 then
 some (0)
 else
 some (1 <<< (v2 &&& 31))) : Option (Int32)) (fun (v10 : Int32) =>
 ltt (v3 ||| v10) (fun (v12 : Int32) =>
 ltt (v2 + 1) (fun (v13 : Int32) =>
 lp_Mo_neverNow_8 fu v13 v12 h9)))))))
def f_Mo_neverNow (h0 : HP) : Option (Int32 × HP) :=
 bd1 (f_Mo_asTold h0) (fun (h1 : HP) =>
 bd3 (lp_Mo_neverNow_8 400 0 0 h1) (fun (v14 : Int32) (v15 : Int32) (h16 : HP) =>
 some (v15, h16)))
set_option maxRecDepth 20000 in
set_option maxHeartbeats 4000000 in
theorem mlp_Mo_neverNow_8 (l : Launch) (g : GG) (ad : Nat → Nat) (Q : Option Value → va_W → Prop) : ∀ (fu : Nat) (v2 : Int32) (v3 : Int32) (h4 : HP), Jj (fun q : Int32 × Int32 × HP => Vw (kx_Mo_neverNow l g Q) 0 0 46 [(2, .int (q.1)), (1, .int (q.2.1)), (0, .ref (ad 34))] [] (pic g ad q.2.2)) (lp_Mo_neverNow_8 fu v2 v3 h4) (Vw (kx_Mo_neverNow l g Q) 0 0 8 [(2, .int v2), (1, .int v3), (0, .ref (ad 34))] [] (pic g ad h4)) := by
  intro fu
  induction fu with
  | zero =>
    intro v2 v3 h4
    exact J_none
  | succ fu ih =>
    intro v2 v3 h4
    rw [lp_Mo_neverNow_8]
    refine J_iload_n 0 rfl d_Mo_neverNow_8 ?_
    refine J_aload_n 2 rfl d_Mo_neverNow_9 ?_
    refine P_gI fo_Mo_171_34 rfl d_Mo_neverNow_10 (fun v5 => ?_)
    refine J_icmp_ge 46 rfl d_Mo_neverNow_13 (fun c6 => ?_) (fun c6 => ?_)
    · exact J_exit [0, 1, 2] rfl (fun hx => hx)
    · refine J_aload_n 2 rfl d_Mo_neverNow_16 ?_
      refine J_iconst (v := 1) rfl d_Mo_neverNow_17 ?_
      refine J_iload_n 0 rfl d_Mo_neverNow_18 ?_
      refine J_ishl d_Mo_neverNow_19 ?_
      refine P_wI fo_Mo_186_34 rfl d_Mo_neverNow_20 (fun h7 => ?_)
      refine J_iload_n 1 rfl d_Mo_neverNow_23 ?_
      refine J_aload_n 2 rfl d_Mo_neverNow_24 ?_
      refine J_callVi (m_Mo_isSeen l g ad _) ok_Mo_isSeen rc_34 wi_Mo_isSeen wl_Mo_Mo_isSeen wk_Mo_297 ⟨rfl, rfl, Nat.le_of_ble_eq_true rfl, Nat.le_of_ble_eq_true rfl⟩ ⟨Nat.zero_le _, Nat.zero_le _⟩ (rest := [.int v3]) rfl rfl (Nat.le_of_ble_eq_true rfl) d_Mo_neverNow_25 (fun v8 h9 => ?_)
      refine J_bd1 (fun (v10 : Int32) => Vw (kx_Mo_neverNow l g Q) 0 0 38 [(2, .int v2), (1, .int v3), (0, .ref (ad 34))] [.int v10, .int v3] (pic g ad h9)) ?_ (fun v10 => ?_)
      · refine J_if_eq 37 rfl d_Mo_neverNow_28 (fun c11 => ?_) (fun c11 => ?_)
        · refine J_iconst (v := 0) rfl d_Mo_neverNow_37 ?_
          exact J_exit [0, 1, 2] rfl (fun hx => hx)
        · refine J_iconst (v := 1) rfl d_Mo_neverNow_31 ?_
          refine J_iload_n 0 rfl d_Mo_neverNow_32 ?_
          refine J_ishl d_Mo_neverNow_33 ?_
          refine J_goto 38 rfl d_Mo_neverNow_34 ?_
          exact J_exit [0, 1, 2] rfl (fun hx => hx)
      · refine J_ior d_Mo_neverNow_38 ?_
        refine P_ist_n (lv' := fun v12 => [(1, .int v12), (2, .int v2), (0, .ref (ad 34))]) 1 rfl (Nat.le_of_ble_eq_true rfl) (fun _ => rfl) d_Mo_neverNow_39 (fun v12 => ?_)
        refine P_inc (w := 1) (lv' := fun v13 => [(2, .int v13), (1, .int v12), (0, .ref (ad 34))]) 1 rfl rfl (Nat.le_of_ble_eq_true rfl) (fun _ => rfl) d_Mo_neverNow_40 (fun v13 => ?_)
        refine J_goto 8 rfl d_Mo_neverNow_43 ?_
        exact J_sub [0, 1, 2] rfl (ih _ _ _)
set_option maxRecDepth 20000 in
set_option maxHeartbeats 4000000 in
theorem m_Mo_neverNow (l : Launch) (g : GG) (ad : Nat → Nat) (h0 : HP) : CM l g ad y_Mo_neverNow b_Mo_neverNow 3 (some .int) rm_Mo_neverNow [.ref (ad 34)] h0 enI (f_Mo_neverNow h0) := by
  refine CM.of (by decide) (Nat.le_of_ble_eq_true rfl) (fun Q => ?_)
  show Jj _ _ (Vw (kx_Mo_neverNow l g Q) 0 0 0 _ _ _)
  refine J_sub [0] (lv' := [(0, .ref (ad 34))]) rfl ?_
  unfold f_Mo_neverNow
  refine J_aload_n 0 rfl d_Mo_neverNow_0 ?_
  refine J_callVv (m_Mo_asTold l g ad _) ok_Mo_asTold rc_34 wi_Mo_asTold wl_Mo_Mo_asTold wk_Mo_235 ⟨rfl, rfl, Nat.le_of_ble_eq_true rfl, Nat.le_of_ble_eq_true rfl⟩ ⟨Nat.zero_le _, Nat.zero_le _⟩ (rest := []) rfl rfl (Nat.le_of_ble_eq_true rfl) d_Mo_neverNow_1 (fun h1 => ?_)
  refine J_iconst (v := 0) rfl d_Mo_neverNow_4 ?_
  refine J_istore_n (lv' := [(1, .int 0), (0, .ref (ad 34))]) 1 rfl (Nat.le_of_ble_eq_true rfl) rfl d_Mo_neverNow_5 ?_
  refine J_iconst (v := 0) rfl d_Mo_neverNow_6 ?_
  refine J_istore_n (lv' := [(2, .int 0), (1, .int 0), (0, .ref (ad 34))]) 2 rfl (Nat.le_of_ble_eq_true rfl) rfl d_Mo_neverNow_7 ?_
  refine J_bd3 (fun (v14 : Int32) (v15 : Int32) (h16 : HP) => Vw (kx_Mo_neverNow l g Q) 0 0 46 [(2, .int v14), (1, .int v15), (0, .ref (ad 34))] [] (pic g ad h16)) ?_ (fun v14 v15 h16 => ?_)
  · exact J_sub [0, 1, 2] rfl (mlp_Mo_neverNow_8 l g ad Q 400 _ _ _)
  · refine J_iload_n 1 rfl d_Mo_neverNow_46 ?_
    exact J_iret (Nat.le_refl _) (Nat.le_refl _) d_Mo_neverNow_47 rfl (fun hx => hx)
def f_Mo_never (h0 : HP) : Option (Int32 × HP) :=
 bd2 (f_Mo_neverNow h0) (fun (v1 : Int32) (h2 : HP) =>
 some (v1, h2))
set_option maxRecDepth 20000 in
set_option maxHeartbeats 4000000 in
theorem m_Mo_never (l : Launch) (g : GG) (ad : Nat → Nat) (h0 : HP) : CM l g ad y_Mo_never b_Mo_never 1 (some .int) rm_Mo_never [.ref (ad 34)] h0 enI (f_Mo_never h0) := by
  refine CM.of (by decide) (Nat.le_of_ble_eq_true rfl) (fun Q => ?_)
  show Jj _ _ (Vw (kx_Mo_never l g Q) 0 0 0 _ _ _)
  refine J_sub [0] (lv' := [(0, .ref (ad 34))]) rfl ?_
  unfold f_Mo_never
  refine J_aload_n 0 rfl d_Mo_never_0 ?_
  refine J_callVi (m_Mo_neverNow l g ad _) ok_Mo_neverNow rc_34 wi_Mo_neverNow wl_Mo_Mo_neverNow wk_Mo_301 ⟨rfl, rfl, Nat.le_of_ble_eq_true rfl, Nat.le_of_ble_eq_true rfl⟩ ⟨Nat.zero_le _, Nat.zero_le _⟩ (rest := []) rfl rfl (Nat.le_of_ble_eq_true rfl) d_Mo_never_1 (fun v1 h2 => ?_)
  exact J_iret (Nat.le_refl _) (Nat.le_refl _) d_Mo_never_4 rfl (fun hx => hx)
