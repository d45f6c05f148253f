def lp_Mo_sortsBy_16 (v3 : Int32) (a1 : Int32) : Nat → Int32 → Int32 → HP → Option (Int32 × Int32 × HP)
 | 0, _, _, _ => none
 | fu + 1, v4, v5, h6 =>
 (if 3 ≤ v4 then
 some (v4, v5, h6)
 else
 ckk (inb a1 9) (ltt (wA h6 31 a1 v4) (fun (h8 : HP) =>
 bd2 (f_Mo_isSeen h8) (fun (v9 : Int32) (h10 : HP) =>
 bd1 ((if v9 = 0 then
 some (0)
 else
 some (1 <<< (v4 &&& 31))) : Option (Int32)) (fun (v11 : Int32) =>
 ltt (v5 ||| v11) (fun (v13 : Int32) =>
 ltt (v4 + 1) (fun (v14 : Int32) =>
 lp_Mo_sortsBy_16 v3 a1 fu v14 v13 h10)))))))
def f_Mo_sortsBy (a1 : Int32) (h0 : HP) : Option (Int32 × HP) :=
 bd1 (f_Mo_asTold h0) (fun (h2 : HP) =>
 ckk (inb a1 9) (ltt (rA h2 31 a1) (fun (v3 : Int32) =>
 bd3 (lp_Mo_sortsBy_16 v3 a1 400 0 0 h2) (fun (v15 : Int32) (v16 : Int32) (h17 : HP) =>
 ckk (inb a1 9) (ltt (wA h17 31 a1 v3) (fun (h18 : HP) =>
 some (v16, h18)))))))
set_option maxRecDepth 20000 in
set_option maxHeartbeats 4000000 in
theorem mlp_Mo_sortsBy_16 (l : Launch) (g : GG) (ad : Nat → Nat) (Q : Option Value → va_W → Prop) (v3 : Int32) (a1 : Int32) : ∀ (fu : Nat) (v4 : Int32) (v5 : Int32) (h6 : HP), Jj (fun q : Int32 × Int32 × HP => Vw (kx_Mo_sortsBy l g Q) 0 0 54 [(4, .int (q.1)), (3, .int (q.2.1)), (2, .int v3), (0, .ref (ad 34)), (1, .int a1)] [] (pic g ad q.2.2)) (lp_Mo_sortsBy_16 v3 a1 fu v4 v5 h6) (Vw (kx_Mo_sortsBy l g Q) 0 0 16 [(4, .int v4), (3, .int v5), (2, .int v3), (0, .ref (ad 34)), (1, .int a1)] [] (pic g ad h6)) := by
  intro fu
  induction fu with
  | zero =>
    intro v4 v5 h6
    exact J_none
  | succ fu ih =>
    intro v4 v5 h6
    rw [lp_Mo_sortsBy_16]
    refine J_iload 0 rfl d_Mo_sortsBy_16 ?_
    refine J_iconst (v := 3) rfl d_Mo_sortsBy_18 ?_
    refine J_icmp_ge 54 rfl d_Mo_sortsBy_19 (fun c7 => ?_) (fun c7 => ?_)
    · exact J_exit [0, 1, 2, 3, 4] rfl (fun hx => hx)
    · refine J_aload_n 3 rfl d_Mo_sortsBy_22 ?_
      refine J_getR fo_Mo_16_34 rfl d_Mo_sortsBy_23 ?_
      refine J_iload_n 4 rfl d_Mo_sortsBy_26 ?_
      refine J_iload 0 rfl d_Mo_sortsBy_27 ?_
      refine P_wa (by decide) rfl rfl d_Mo_sortsBy_29 (fun h8 => ?_)
      refine J_iload_n 1 rfl d_Mo_sortsBy_30 ?_
      refine J_aload_n 3 rfl d_Mo_sortsBy_31 ?_
      refine J_callVi (m_Mo_isSeen l g ad _) ok_Mo_isSeen rc_34 wi_Mo_isSeen wl_Mo_Mo_isSeen wk_Mo_297 ⟨rfl, rfl, Nat.le_of_ble_eq_true rfl, Nat.le_of_ble_eq_true rfl⟩ ⟨Nat.zero_le _, Nat.zero_le _⟩ (rest := [.int v5]) rfl rfl (Nat.le_of_ble_eq_true rfl) d_Mo_sortsBy_32 (fun v9 h10 => ?_)
      refine J_bd1 (fun (v11 : Int32) => Vw (kx_Mo_sortsBy l g Q) 0 0 46 [(4, .int v4), (3, .int v5), (2, .int v3), (0, .ref (ad 34)), (1, .int a1)] [.int v11, .int v5] (pic g ad h10)) ?_ (fun v11 => ?_)
      · refine J_if_eq 45 rfl d_Mo_sortsBy_35 (fun c12 => ?_) (fun c12 => ?_)
        · refine J_iconst (v := 0) rfl d_Mo_sortsBy_45 ?_
          exact J_exit [0, 1, 2, 3, 4] rfl (fun hx => hx)
        · refine J_iconst (v := 1) rfl d_Mo_sortsBy_38 ?_
          refine J_iload 0 rfl d_Mo_sortsBy_39 ?_
          refine J_ishl d_Mo_sortsBy_41 ?_
          refine J_goto 46 rfl d_Mo_sortsBy_42 ?_
          exact J_exit [0, 1, 2, 3, 4] rfl (fun hx => hx)
      · refine J_ior d_Mo_sortsBy_46 ?_
        refine P_ist_n (lv' := fun v13 => [(3, .int v13), (4, .int v4), (2, .int v3), (0, .ref (ad 34)), (1, .int a1)]) 3 rfl (Nat.le_of_ble_eq_true rfl) (fun _ => rfl) d_Mo_sortsBy_47 (fun v13 => ?_)
        refine P_inc (w := 1) (lv' := fun v14 => [(4, .int v14), (3, .int v13), (2, .int v3), (0, .ref (ad 34)), (1, .int a1)]) 1 rfl rfl (Nat.le_of_ble_eq_true rfl) (fun _ => rfl) d_Mo_sortsBy_48 (fun v14 => ?_)
        refine J_goto 16 rfl d_Mo_sortsBy_51 ?_
        exact J_sub [0, 1, 2, 3, 4] rfl (ih _ _ _)
set_option maxRecDepth 20000 in
set_option maxHeartbeats 4000000 in
theorem m_Mo_sortsBy (l : Launch) (g : GG) (ad : Nat → Nat) (a1 : Int32) (h0 : HP) : CM l g ad y_Mo_sortsBy b_Mo_sortsBy 5 (some .int) rm_Mo_sortsBy [.ref (ad 34), .int a1] h0 enI (f_Mo_sortsBy a1 h0) := by
  refine CM.of (by decide) (Nat.le_of_ble_eq_true rfl) (fun Q => ?_)
  show Jj _ _ (Vw (kx_Mo_sortsBy l g Q) 0 0 0 _ _ _)
  refine J_sub [0, 1] (lv' := [(0, .ref (ad 34)), (1, .int a1)]) rfl ?_
  unfold f_Mo_sortsBy
  refine J_aload_n 0 rfl d_Mo_sortsBy_0 ?_
  refine J_callVv (m_Mo_asTold l g ad _) ok_Mo_asTold rc_34 wi_Mo_asTold wl_Mo_Mo_asTold wk_Mo_235 ⟨rfl, rfl, Nat.le_of_ble_eq_true rfl, Nat.le_of_ble_eq_true rfl⟩ ⟨Nat.zero_le _, Nat.zero_le _⟩ (rest := []) rfl rfl (Nat.le_of_ble_eq_true rfl) d_Mo_sortsBy_1 (fun h2 => ?_)
  refine J_aload_n 0 rfl d_Mo_sortsBy_4 ?_
  refine J_getR fo_Mo_16_34 rfl d_Mo_sortsBy_5 ?_
  refine J_iload_n 1 rfl d_Mo_sortsBy_8 ?_
  refine P_ia (by decide) rfl rfl d_Mo_sortsBy_9 (fun v3 => ?_)
  refine J_istore_n (lv' := [(2, .int v3), (0, .ref (ad 34)), (1, .int a1)]) 2 rfl (Nat.le_of_ble_eq_true rfl) rfl d_Mo_sortsBy_10 ?_
  refine J_iconst (v := 0) rfl d_Mo_sortsBy_11 ?_
  refine J_istore_n (lv' := [(3, .int 0), (2, .int v3), (0, .ref (ad 34)), (1, .int a1)]) 3 rfl (Nat.le_of_ble_eq_true rfl) rfl d_Mo_sortsBy_12 ?_
  refine J_iconst (v := 0) rfl d_Mo_sortsBy_13 ?_
  refine J_istore (lv' := [(4, .int 0), (3, .int 0), (2, .int v3), (0, .ref (ad 34)), (1, .int a1)]) (Nat.le_of_ble_eq_true rfl) rfl d_Mo_sortsBy_14 ?_
  refine J_bd3 (fun (v15 : Int32) (v16 : Int32) (h17 : HP) => Vw (kx_Mo_sortsBy l g Q) 0 0 54 [(4, .int v15), (3, .int v16), (2, .int v3), (0, .ref (ad 34)), (1, .int a1)] [] (pic g ad h17)) ?_ (fun v15 v16 h17 => ?_)
  · exact J_sub [0, 1, 2, 3, 4] rfl (mlp_Mo_sortsBy_16 l g ad Q v3 a1 400 _ _ _)
  · refine J_aload_n 3 rfl d_Mo_sortsBy_54 ?_
    refine J_getR fo_Mo_16_34 rfl d_Mo_sortsBy_55 ?_
    refine J_iload_n 4 rfl d_Mo_sortsBy_58 ?_
    refine J_iload_n 2 rfl d_Mo_sortsBy_59 ?_
    refine P_wa (by decide) rfl rfl d_Mo_sortsBy_60 (fun h18 => ?_)
    refine J_iload_n 1 rfl d_Mo_sortsBy_61 ?_
    exact J_iret (Nat.le_refl _) (Nat.le_refl _) d_Mo_sortsBy_62 rfl (fun hx => hx)
def lp_Mo_strongBy_52 (v13 : Int32) (v4 : Int32) (v3 : Int32) (a1 : Int32) : Nat → Int32 → HP → Option (Int32 × HP)
 | 0, _, _ => none
 | fu + 1, v14, h15 =>
 (if 24 ≤ v14 then
 some (v14, h15)
 else
 ckk (inb ((8 * v14) + a1) 192) (ltt (rA h15 16 ((8 * v14) + a1)) (fun (v17 : Int32) =>
 ckk (inb ((24 * v4) + v14) 240) (ltt (wA h15 5 ((24 * v4) + v14) v17) (fun (h18 : HP) =>
 ltt (v14 + 1) (fun (v19 : Int32) =>
 lp_Mo_strongBy_52 v13 v4 v3 a1 fu v19 h18))))))
def lp_Mo_strongBy_16 (v3 : Int32) (a1 : Int32) : Nat → Int32 → Int32 → HP → Option (Int32 × Int32 × HP)
 | 0, _, _, _ => none
 | fu + 1, v4, v5, h6 =>
 (if 10 ≤ v4 then
 some (v4, v5, h6)
 else
 ckk (inb a1 9) (ltt (wA h6 30 a1 v4) (fun (h8 : HP) =>
 bd2 (f_Mo_isSeen h8) (fun (v9 : Int32) (h10 : HP) =>
 bd1 ((if v9 = 0 then
 some (0)
 else
 some (1 <<< (v4 &&& 31))) : Option (Int32)) (fun (v11 : Int32) =>
 ltt (v5 ||| v11) (fun (v13 : Int32) =>
 bd2 (lp_Mo_strongBy_52 v13 v4 v3 a1 400 0 h10) (fun (v20 : Int32) (h21 : HP) =>
 ltt (v4 + 1) (fun (v22 : Int32) =>
 lp_Mo_strongBy_16 v3 a1 fu v22 v13 h21))))))))
def f_Mo_strongBy (a1 : Int32) (h0 : HP) : Option (Int32 × HP) :=
 bd1 (f_Mo_asTold h0) (fun (h2 : HP) =>
 ckk (inb a1 9) (ltt (rA h2 30 a1) (fun (v3 : Int32) =>
 bd3 (lp_Mo_strongBy_16 v3 a1 400 1 0 h2) (fun (v23 : Int32) (v24 : Int32) (h25 : HP) =>
 ckk (inb a1 9) (ltt (wA h25 30 a1 v3) (fun (h26 : HP) =>
 some (v24, h26)))))))
set_option maxRecDepth 20000 in
set_option maxHeartbeats 4000000 in
theorem mlp_Mo_strongBy_52 (l : Launch) (g : GG) (ad : Nat → Nat) (Q : Option Value → va_W → Prop) (v13 : Int32) (v4 : Int32) (v3 : Int32) (a1 : Int32) : ∀ (fu : Nat) (v14 : Int32) (h15 : HP), Jj (fun q : Int32 × HP => Vw (kx_Mo_strongBy l g Q) 0 0 90 [(5, .int (q.1)), (3, .int v13), (4, .int v4), (2, .int v3), (0, .ref (ad 34)), (1, .int a1)] [] (pic g ad q.2)) (lp_Mo_strongBy_52 v13 v4 v3 a1 fu v14 h15) (Vw (kx_Mo_strongBy l g Q) 0 0 52 [(5, .int v14), (3, .int v13), (4, .int v4), (2, .int v3), (0, .ref (ad 34)), (1, .int a1)] [] (pic g ad h15)) := by
  intro fu
  induction fu with
  | zero =>
    intro v14 h15
    exact J_none
  | succ fu ih =>
    intro v14 h15
    rw [lp_Mo_strongBy_52]
    refine J_iload 0 rfl d_Mo_strongBy_52 ?_
    refine J_bipush (v := 24) rfl d_Mo_strongBy_54 ?_
    refine J_icmp_ge 90 rfl d_Mo_strongBy_56 (fun c16 => ?_) (fun c16 => ?_)
    · exact J_exit [0, 1, 2, 3, 4, 5] rfl (fun hx => hx)
    · refine J_aload_n 4 rfl d_Mo_strongBy_59 ?_
      refine J_getR fo_Mo_94_34 rfl d_Mo_strongBy_60 ?_
      refine J_bipush (v := 24) rfl d_Mo_strongBy_63 ?_
      refine J_iload 2 rfl d_Mo_strongBy_65 ?_
      refine J_imul d_Mo_strongBy_67 ?_
      refine J_iload 0 rfl d_Mo_strongBy_68 ?_
      refine J_iadd d_Mo_strongBy_70 ?_
      refine J_aload_n 4 rfl d_Mo_strongBy_71 ?_
      refine J_getR fo_Mo_61_34 rfl d_Mo_strongBy_72 ?_
      refine J_bipush (v := 8) rfl d_Mo_strongBy_75 ?_
      refine J_iload 0 rfl d_Mo_strongBy_77 ?_
      refine J_imul d_Mo_strongBy_79 ?_
      refine J_iload_n 5 rfl d_Mo_strongBy_80 ?_
      refine J_iadd d_Mo_strongBy_81 ?_
      refine P_ia (by decide) rfl rfl d_Mo_strongBy_82 (fun v17 => ?_)
      refine P_wa (by decide) rfl rfl d_Mo_strongBy_83 (fun h18 => ?_)
      refine P_inc (w := 1) (lv' := fun v19 => [(5, .int v19), (3, .int v13), (4, .int v4), (2, .int v3), (0, .ref (ad 34)), (1, .int a1)]) 0 rfl rfl (Nat.le_of_ble_eq_true rfl) (fun _ => rfl) d_Mo_strongBy_84 (fun v19 => ?_)
      refine J_goto 52 rfl d_Mo_strongBy_87 ?_
      exact J_sub [0, 1, 2, 3, 4, 5] rfl (ih _ _)
set_option maxRecDepth 20000 in
set_option maxHeartbeats 4000000 in
theorem mlp_Mo_strongBy_16 (l : Launch) (g : GG) (ad : Nat → Nat) (Q : Option Value → va_W → Prop) (v3 : Int32) (a1 : Int32) : ∀ (fu : Nat) (v4 : Int32) (v5 : Int32) (h6 : HP), Jj (fun q : Int32 × Int32 × HP => Vw (kx_Mo_strongBy l g Q) 0 0 96 [(4, .int (q.1)), (3, .int (q.2.1)), (2, .int v3), (0, .ref (ad 34)), (1, .int a1)] [] (pic g ad q.2.2)) (lp_Mo_strongBy_16 v3 a1 fu v4 v5 h6) (Vw (kx_Mo_strongBy l g Q) 0 0 16 [(4, .int v4), (3, .int v5), (2, .int v3), (0, .ref (ad 34)), (1, .int a1)] [] (pic g ad h6)) := by
  intro fu
  induction fu with
  | zero =>
    intro v4 v5 h6
    exact J_none
  | succ fu ih =>
    intro v4 v5 h6
    rw [lp_Mo_strongBy_16]
    refine J_iload 0 rfl d_Mo_strongBy_16 ?_
    refine J_bipush (v := 10) rfl d_Mo_strongBy_18 ?_
    refine J_icmp_ge 96 rfl d_Mo_strongBy_20 (fun c7 => ?_) (fun c7 => ?_)
    · exact J_exit [0, 1, 2, 3, 4] rfl (fun hx => hx)
    · refine J_aload_n 3 rfl d_Mo_strongBy_23 ?_
      refine J_getR fo_Mo_19_34 rfl d_Mo_strongBy_24 ?_
      refine J_iload_n 4 rfl d_Mo_strongBy_27 ?_
      refine J_iload 0 rfl d_Mo_strongBy_28 ?_
      refine P_wa (by decide) rfl rfl d_Mo_strongBy_30 (fun h8 => ?_)
      refine J_iload_n 1 rfl d_Mo_strongBy_31 ?_
      refine J_aload_n 3 rfl d_Mo_strongBy_32 ?_
      refine J_callVi (m_Mo_isSeen l g ad _) ok_Mo_isSeen rc_34 wi_Mo_isSeen wl_Mo_Mo_isSeen wk_Mo_297 ⟨rfl, rfl, Nat.le_of_ble_eq_true rfl, Nat.le_of_ble_eq_true rfl⟩ ⟨Nat.zero_le _, Nat.zero_le _⟩ (rest := [.int v5]) rfl rfl (Nat.le_of_ble_eq_true rfl) d_Mo_strongBy_33 (fun v9 h10 => ?_)
      refine J_bd1 (fun (v11 : Int32) => Vw (kx_Mo_strongBy l g Q) 0 0 47 [(4, .int v4), (3, .int v5), (2, .int v3), (0, .ref (ad 34)), (1, .int a1)] [.int v11, .int v5] (pic g ad h10)) ?_ (fun v11 => ?_)
      · refine J_if_eq 46 rfl d_Mo_strongBy_36 (fun c12 => ?_) (fun c12 => ?_)
        · refine J_iconst (v := 0) rfl d_Mo_strongBy_46 ?_
          exact J_exit [0, 1, 2, 3, 4] rfl (fun hx => hx)
        · refine J_iconst (v := 1) rfl d_Mo_strongBy_39 ?_
          refine J_iload 0 rfl d_Mo_strongBy_40 ?_
          refine J_ishl d_Mo_strongBy_42 ?_
          refine J_goto 47 rfl d_Mo_strongBy_43 ?_
          exact J_exit [0, 1, 2, 3, 4] rfl (fun hx => hx)
      · refine J_ior d_Mo_strongBy_47 ?_
        refine P_ist_n (lv' := fun v13 => [(3, .int v13), (4, .int v4), (2, .int v3), (0, .ref (ad 34)), (1, .int a1)]) 3 rfl (Nat.le_of_ble_eq_true rfl) (fun _ => rfl) d_Mo_strongBy_48 (fun v13 => ?_)
        refine J_iconst (v := 0) rfl d_Mo_strongBy_49 ?_
        refine J_istore (lv' := [(5, .int 0), (3, .int v13), (4, .int v4), (2, .int v3), (0, .ref (ad 34)), (1, .int a1)]) (Nat.le_of_ble_eq_true rfl) rfl d_Mo_strongBy_50 ?_
        refine J_bd2 (fun (v20 : Int32) (h21 : HP) => Vw (kx_Mo_strongBy l g Q) 0 0 90 [(5, .int v20), (3, .int v13), (4, .int v4), (2, .int v3), (0, .ref (ad 34)), (1, .int a1)] [] (pic g ad h21)) ?_ (fun v20 h21 => ?_)
        · exact J_sub [0, 1, 2, 3, 4, 5] rfl (mlp_Mo_strongBy_52 l g ad Q v13 v4 v3 a1 400 _ _)
        · refine P_inc (w := 1) (lv' := fun v22 => [(4, .int v22), (5, .int v20), (3, .int v13), (2, .int v3), (0, .ref (ad 34)), (1, .int a1)]) 2 rfl rfl (Nat.le_of_ble_eq_true rfl) (fun _ => rfl) d_Mo_strongBy_90 (fun v22 => ?_)
          refine J_goto 16 rfl d_Mo_strongBy_93 ?_
          exact J_sub [0, 2, 3, 4, 5] rfl (ih _ _ _)
set_option maxRecDepth 20000 in
set_option maxHeartbeats 4000000 in
theorem m_Mo_strongBy (l : Launch) (g : GG) (ad : Nat → Nat) (a1 : Int32) (h0 : HP) : CM l g ad y_Mo_strongBy b_Mo_strongBy 6 (some .int) rm_Mo_strongBy [.ref (ad 34), .int a1] h0 enI (f_Mo_strongBy a1 h0) := by
  refine CM.of (by decide) (Nat.le_of_ble_eq_true rfl) (fun Q => ?_)
  show Jj _ _ (Vw (kx_Mo_strongBy l g Q) 0 0 0 _ _ _)
  refine J_sub [0, 1] (lv' := [(0, .ref (ad 34)), (1, .int a1)]) rfl ?_
  unfold f_Mo_strongBy
  refine J_aload_n 0 rfl d_Mo_strongBy_0 ?_
  refine J_callVv (m_Mo_asTold l g ad _) ok_Mo_asTold rc_34 wi_Mo_asTold wl_Mo_Mo_asTold wk_Mo_235 ⟨rfl, rfl, Nat.le_of_ble_eq_true rfl, Nat.le_of_ble_eq_true rfl⟩ ⟨Nat.zero_le _, Nat.zero_le _⟩ (rest := []) rfl rfl (Nat.le_of_ble_eq_true rfl) d_Mo_strongBy_1 (fun h2 => ?_)
  refine J_aload_n 0 rfl d_Mo_strongBy_4 ?_
  refine J_getR fo_Mo_19_34 rfl d_Mo_strongBy_5 ?_
  refine J_iload_n 1 rfl d_Mo_strongBy_8 ?_
  refine P_ia (by decide) rfl rfl d_Mo_strongBy_9 (fun v3 => ?_)
  refine J_istore_n (lv' := [(2, .int v3), (0, .ref (ad 34)), (1, .int a1)]) 2 rfl (Nat.le_of_ble_eq_true rfl) rfl d_Mo_strongBy_10 ?_
  refine J_iconst (v := 0) rfl d_Mo_strongBy_11 ?_
  refine J_istore_n (lv' := [(3, .int 0), (2, .int v3), (0, .ref (ad 34)), (1, .int a1)]) 3 rfl (Nat.le_of_ble_eq_true rfl) rfl d_Mo_strongBy_12 ?_
  refine J_iconst (v := 1) rfl d_Mo_strongBy_13 ?_
  refine J_istore (lv' := [(4, .int 1), (3, .int 0), (2, .int v3), (0, .ref (ad 34)), (1, .int a1)]) (Nat.le_of_ble_eq_true rfl) rfl d_Mo_strongBy_14 ?_
  refine J_bd3 (fun (v23 : Int32) (v24 : Int32) (h25 : HP) => Vw (kx_Mo_strongBy l g Q) 0 0 96 [(4, .int v23), (3, .int v24), (2, .int v3), (0, .ref (ad 34)), (1, .int a1)] [] (pic g ad h25)) ?_ (fun v23 v24 h25 => ?_)
  · exact J_sub [0, 1, 2, 3, 4] rfl (mlp_Mo_strongBy_16 l g ad Q v3 a1 400 _ _ _)
  · refine J_aload_n 3 rfl d_Mo_strongBy_96 ?_
    refine J_getR fo_Mo_19_34 rfl d_Mo_strongBy_97 ?_
    refine J_iload_n 4 rfl d_Mo_strongBy_100 ?_
    refine J_iload_n 2 rfl d_Mo_strongBy_101 ?_
    refine P_wa (by decide) rfl rfl d_Mo_strongBy_102 (fun h26 => ?_)
    refine J_iload_n 1 rfl d_Mo_strongBy_103 ?_
    exact J_iret (Nat.le_refl _) (Nat.le_refl _) d_Mo_strongBy_104 rfl (fun hx => hx)
def f_Mo_was (a1 : Int32) (a2 : Int32) (h0 : HP) : Option (Int32 × HP) :=
 bd2 (f_Mo_isCamel a1 h0) (fun (v3 : Int32) (h4 : HP) =>
 (if v3 = 0 then
 some ((-2), h4)
 else
 bd2 (f_Mo_isTwo a2 h4) (fun (v6 : Int32) (h7 : HP) =>
 (if v6 = 0 then
 some ((-2), h7)
 else
 (if a2 = 0 then
 bd2 (f_Mo_sortsBy a1 h7) (fun (v12 : Int32) (h13 : HP) =>
 some (v12, h13))
 else
 bd2 (f_Mo_strongBy a1 h7) (fun (v10 : Int32) (h11 : HP) =>
 some (v10, h11)))))))
set_option maxRecDepth 20000 in
set_option maxHeartbeats 4000000 in
theorem m_Mo_was (l : Launch) (g : GG) (ad : Nat → Nat) (a1 : Int32) (a2 : Int32) (h0 : HP) : CM l g ad y_Mo_was b_Mo_was 3 (some .int) rm_Mo_was [.ref (ad 34), .int a1, .int a2] h0 enI (f_Mo_was a1 a2 h0) := by
  refine CM.of (by decide) (Nat.le_of_ble_eq_true rfl) (fun Q => ?_)
  show Jj _ _ (Vw (kx_Mo_was l g Q) 0 0 0 _ _ _)
  refine J_sub [0, 1, 2] (lv' := [(0, .ref (ad 34)), (1, .int a1), (2, .int a2)]) rfl ?_
  unfold f_Mo_was
  refine J_aload_n 0 rfl d_Mo_was_0 ?_
  refine J_iload_n 1 rfl d_Mo_was_1 ?_
  refine J_callVi (m_Mo_isCamel l g ad _ _) ok_Mo_isCamel rc_34 wi_Mo_isCamel wl_Mo_Mo_isCamel wk_Mo_150 ⟨rfl, rfl, Nat.le_of_ble_eq_true rfl, Nat.le_of_ble_eq_true rfl⟩ ⟨Nat.zero_le _, Nat.zero_le _⟩ (rest := []) rfl rfl (Nat.le_of_ble_eq_true rfl) d_Mo_was_2 (fun v3 h4 => ?_)
  refine J_if_eq 35 rfl d_Mo_was_5 (fun c5 => ?_) (fun c5 => ?_)
  · refine J_bipush (v := (-2)) rfl d_Mo_was_35 ?_
    exact J_iret (Nat.le_refl _) (Nat.le_refl _) d_Mo_was_37 rfl (fun hx => hx)
  · refine J_iload_n 2 rfl d_Mo_was_8 ?_
    refine J_callSi (m_Mo_isTwo l g ad _ _) ok_Mo_isTwo ws_Mo_isTwo wk_Mo_153 ⟨rfl, rfl, Nat.le_of_ble_eq_true rfl, Nat.le_of_ble_eq_true rfl⟩ ⟨Nat.zero_le _, Nat.zero_le _⟩ (rest := []) rfl rfl (Nat.le_of_ble_eq_true rfl) d_Mo_was_9 (fun v6 h7 => ?_)
    refine J_if_eq 35 rfl d_Mo_was_12 (fun c8 => ?_) (fun c8 => ?_)
    · refine J_bipush (v := (-2)) rfl d_Mo_was_35 ?_
      exact J_iret (Nat.le_refl _) (Nat.le_refl _) d_Mo_was_37 rfl (fun hx => hx)
    · refine J_iload_n 2 rfl d_Mo_was_15 ?_
      refine J_if_ne 27 rfl d_Mo_was_16 (fun c9 => ?_) (fun c9 => ?_)
      · refine J_aload_n 0 rfl d_Mo_was_27 ?_
        refine J_iload_n 1 rfl d_Mo_was_28 ?_
        refine J_callVi (m_Mo_strongBy l g ad _ _) ok_Mo_strongBy rc_34 wi_Mo_strongBy wl_Mo_Mo_strongBy wk_Mo_307 ⟨rfl, rfl, Nat.le_of_ble_eq_true rfl, Nat.le_of_ble_eq_true rfl⟩ ⟨Nat.zero_le _, Nat.zero_le _⟩ (rest := []) rfl rfl (Nat.le_of_ble_eq_true rfl) d_Mo_was_29 (fun v10 h11 => ?_)
        refine J_goto 37 rfl d_Mo_was_32 ?_
        exact J_iret (Nat.le_refl _) (Nat.le_refl _) d_Mo_was_37 rfl (fun hx => hx)
      · refine J_aload_n 0 rfl d_Mo_was_19 ?_
        refine J_iload_n 1 rfl d_Mo_was_20 ?_
        refine J_callVi (m_Mo_sortsBy l g ad _ _) ok_Mo_sortsBy rc_34 wi_Mo_sortsBy wl_Mo_Mo_sortsBy wk_Mo_304 ⟨rfl, rfl, Nat.le_of_ble_eq_true rfl, Nat.le_of_ble_eq_true rfl⟩ ⟨Nat.zero_le _, Nat.zero_le _⟩ (rest := []) rfl rfl (Nat.le_of_ble_eq_true rfl) d_Mo_was_21 (fun v12 h13 => ?_)
        refine J_goto 37 rfl d_Mo_was_24 ?_
        exact J_iret (Nat.le_refl _) (Nat.le_refl _) d_Mo_was_37 rfl (fun hx => hx)
def lp_Mo_askOf_40 (v9 : Int32) (v10 : Int32) (v4 : Int32) (v5 : Int32) (v6 : Int32) (v2 : Int32) (a1 : Int32) : Nat → Int32 → Int32 → HP → Option (Int32 × Int32 × HP)
 | 0, _, _, _ => none
 | fu + 1, v13, v14, h15 =>
 (if 10 ≤ v13 then
 some (v13, v14, h15)
 else
 bd2 (f_Mo_isIn v2 v9 h15) (fun (v17 : Int32) (h18 : HP) =>
 bd2 ((if v17 = 0 then
 some (0, h18)
 else
 bd2 (f_Mo_isIn v2 v13 h18) (fun (v22 : Int32) (h23 : HP) =>
 (if v22 = 0 then
 some (0, h23)
 else
 ckk (inb ((24 * v9) + v4) 240) (ltt (rA h23 5 ((24 * v9) + v4)) (fun (v25 : Int32) =>
 ckk (inb ((24 * v13) + v4) 240) (ltt (rA h23 5 ((24 * v13) + v4)) (fun (v26 : Int32) =>
 (if v25 = v26 then
 some (1, h23)
 else
 some (0, h23))))))))) : Option (Int32 × HP)) (fun (v19 : Int32) (h20 : HP) =>
 ltt (v14 + v19) (fun (v28 : Int32) =>
 ltt (v13 + 1) (fun (v29 : Int32) =>
 lp_Mo_askOf_40 v9 v10 v4 v5 v6 v2 a1 fu v29 v28 h20)))))
def lp_Mo_askOf_27 (v4 : Int32) (v5 : Int32) (v6 : Int32) (v2 : Int32) (a1 : Int32) : Nat → Int32 → Int32 → HP → Option (Int32 × Int32 × HP)
 | 0, _, _, _ => none
 | fu + 1, v9, v10, h11 =>
 (if 10 ≤ v9 then
 some (v9, v10, h11)
 else
 bd3 (lp_Mo_askOf_40 v9 v10 v4 v5 v6 v2 a1 400 1 0 h11) (fun (v30 : Int32) (v31 : Int32) (h32 : HP) =>
 bd1 ((if v31 ≤ v10 then
 some (v10)
 else
 some (v31)) : Option (Int32)) (fun (v33 : Int32) =>
 ltt (v9 + 1) (fun (v35 : Int32) =>
 lp_Mo_askOf_27 v4 v5 v6 v2 a1 fu v35 v33 h32))))
def lp_Mo_askOf_14 (v2 : Int32) (a1 : Int32) : Nat → Int32 → Int32 → Int32 → HP → Option (Int32 × Int32 × Int32 × HP)
 | 0, _, _, _, _ => none
 | fu + 1, v4, v5, v6, h7 =>
 (if 24 ≤ v4 then
 some (v4, v5, v6, h7)
 else
 bd3 (lp_Mo_askOf_27 v4 v5 v6 v2 a1 400 1 0 h7) (fun (v36 : Int32) (v37 : Int32) (h38 : HP) =>
 bd1 ((if v6 = (-1) then
 some (1)
 else
 (if v5 ≤ v37 then
 some (0)
 else
 some (1))) : Option (Int32)) (fun (v39 : Int32) =>
 bd1 ((if v39 = 0 then
 some (v6)
 else
 some (v4)) : Option (Int32)) (fun (v42 : Int32) =>
 bd1 ((if v39 = 0 then
 some (v5)
 else
 some (v37)) : Option (Int32)) (fun (v44 : Int32) =>
 ltt (v4 + 1) (fun (v46 : Int32) =>
 lp_Mo_askOf_14 v2 a1 fu v46 v44 v42 h38))))))
def f_Mo_askOf (a1 : Int32) (h0 : HP) : Option (Int32 × HP) :=
 bd2 (f_Mo_strongBy a1 h0) (fun (v2 : Int32) (h3 : HP) =>
 bd4 (lp_Mo_askOf_14 v2 a1 400 0 0 (-1) h3) (fun (v47 : Int32) (v48 : Int32) (v49 : Int32) (h50 : HP) =>
 some (v49, h50)))
set_option maxRecDepth 20000 in
set_option maxHeartbeats 4000000 in
theorem mlp_Mo_askOf_40 (l : Launch) (g : GG) (ad : Nat → Nat) (Q : Option Value → va_W → Prop) (v9 : Int32) (v10 : Int32) (v4 : Int32) (v5 : Int32) (v6 : Int32) (v2 : Int32) (a1 : Int32) : ∀ (fu : Nat) (v13 : Int32) (v14 : Int32) (h15 : HP), Jj (fun q : Int32 × Int32 × HP => Vw (kx_Mo_askOf l g Q) 0 0 110 [(9, .int (q.1)), (8, .int (q.2.1)), (7, .int v9), (6, .int v10), (5, .int v4), (4, .int v5), (3, .int v6), (2, .int v2), (0, .ref (ad 34)), (1, .int a1)] [] (pic g ad q.2.2)) (lp_Mo_askOf_40 v9 v10 v4 v5 v6 v2 a1 fu v13 v14 h15) (Vw (kx_Mo_askOf l g Q) 0 0 40 [(9, .int v13), (8, .int v14), (7, .int v9), (6, .int v10), (5, .int v4), (4, .int v5), (3, .int v6), (2, .int v2), (0, .ref (ad 34)), (1, .int a1)] [] (pic g ad h15)) := by
  intro fu
  induction fu with
  | zero =>
    intro v13 v14 h15
    exact J_none
  | succ fu ih =>
    intro v13 v14 h15
    rw [lp_Mo_askOf_40]
    refine J_iload 0 rfl d_Mo_askOf_40 ?_
    refine J_bipush (v := 10) rfl d_Mo_askOf_42 ?_
    refine J_icmp_ge 110 rfl d_Mo_askOf_44 (fun c16 => ?_) (fun c16 => ?_)
    · exact J_exit [0, 1, 2, 3, 4, 5, 6, 7, 8, 9] rfl (fun hx => hx)
    · refine J_iload 1 rfl d_Mo_askOf_47 ?_
      refine J_iload_n 7 rfl d_Mo_askOf_49 ?_
      refine J_iload 2 rfl d_Mo_askOf_50 ?_
      refine J_callSi (m_Mo_isIn l g ad _ _ _) ok_Mo_isIn ws_Mo_isIn wk_Mo_209 ⟨rfl, rfl, Nat.le_of_ble_eq_true rfl, Nat.le_of_ble_eq_true rfl⟩ ⟨Nat.zero_le _, Nat.zero_le _⟩ (rest := [.int v14]) rfl rfl (Nat.le_of_ble_eq_true rfl) d_Mo_askOf_52 (fun v17 h18 => ?_)
      refine J_bd2 (fun (v19 : Int32) (h20 : HP) => Vw (kx_Mo_askOf l g Q) 0 0 101 [(9, .int v13), (8, .int v14), (7, .int v9), (6, .int v10), (5, .int v4), (4, .int v5), (3, .int v6), (2, .int v2), (0, .ref (ad 34)), (1, .int a1)] [.int v19, .int v14] (pic g ad h20)) ?_ (fun v19 h20 => ?_)
      · refine J_if_eq 100 rfl d_Mo_askOf_55 (fun c21 => ?_) (fun c21 => ?_)
        · refine J_iconst (v := 0) rfl d_Mo_askOf_100 ?_
          exact J_exit [0, 1, 2, 3, 4, 5, 6, 7, 8, 9] rfl (fun hx => hx)
        · refine J_iload_n 7 rfl d_Mo_askOf_58 ?_
          refine J_iload 0 rfl d_Mo_askOf_59 ?_
          refine J_callSi (m_Mo_isIn l g ad _ _ _) ok_Mo_isIn ws_Mo_isIn wk_Mo_209 ⟨rfl, rfl, Nat.le_of_ble_eq_true rfl, Nat.le_of_ble_eq_true rfl⟩ ⟨Nat.zero_le _, Nat.zero_le _⟩ (rest := [.int v14]) rfl rfl (Nat.le_of_ble_eq_true rfl) d_Mo_askOf_61 (fun v22 h23 => ?_)
          refine J_if_eq 100 rfl d_Mo_askOf_64 (fun c24 => ?_) (fun c24 => ?_)
          · refine J_iconst (v := 0) rfl d_Mo_askOf_100 ?_
            exact J_exit [0, 1, 2, 3, 4, 5, 6, 7, 8, 9] rfl (fun hx => hx)
          · refine J_aload_n 8 rfl d_Mo_askOf_67 ?_
            refine J_getR fo_Mo_94_34 rfl d_Mo_askOf_68 ?_
            refine J_bipush (v := 24) rfl d_Mo_askOf_71 ?_
            refine J_iload 2 rfl d_Mo_askOf_73 ?_
            refine J_imul d_Mo_askOf_75 ?_
            refine J_iload 4 rfl d_Mo_askOf_76 ?_
            refine J_iadd d_Mo_askOf_78 ?_
            refine P_ia (by decide) rfl rfl d_Mo_askOf_79 (fun v25 => ?_)
            refine J_aload_n 8 rfl d_Mo_askOf_80 ?_
            refine J_getR fo_Mo_94_34 rfl d_Mo_askOf_81 ?_
            refine J_bipush (v := 24) rfl d_Mo_askOf_84 ?_
            refine J_iload 0 rfl d_Mo_askOf_86 ?_
            refine J_imul d_Mo_askOf_88 ?_
            refine J_iload 4 rfl d_Mo_askOf_89 ?_
            refine J_iadd d_Mo_askOf_91 ?_
            refine P_ia (by decide) rfl rfl d_Mo_askOf_92 (fun v26 => ?_)
            refine J_icmp_ne 100 rfl d_Mo_askOf_93 (fun c27 => ?_) (fun c27 => ?_)
            · refine J_iconst (v := 0) rfl d_Mo_askOf_100 ?_
              exact J_exit [0, 1, 2, 3, 4, 5, 6, 7, 8, 9] rfl (fun hx => hx)
            · refine J_iconst (v := 1) rfl d_Mo_askOf_96 ?_
              refine J_goto 101 rfl d_Mo_askOf_97 ?_
              exact J_exit [0, 1, 2, 3, 4, 5, 6, 7, 8, 9] rfl (fun hx => hx)
      · refine J_iadd d_Mo_askOf_101 ?_
        refine P_ist (lv' := fun v28 => [(8, .int v28), (9, .int v13), (7, .int v9), (6, .int v10), (5, .int v4), (4, .int v5), (3, .int v6), (2, .int v2), (0, .ref (ad 34)), (1, .int a1)]) (Nat.le_of_ble_eq_true rfl) (fun _ => rfl) d_Mo_askOf_102 (fun v28 => ?_)
        refine P_inc (w := 1) (lv' := fun v29 => [(9, .int v29), (8, .int v28), (7, .int v9), (6, .int v10), (5, .int v4), (4, .int v5), (3, .int v6), (2, .int v2), (0, .ref (ad 34)), (1, .int a1)]) 1 rfl rfl (Nat.le_of_ble_eq_true rfl) (fun _ => rfl) d_Mo_askOf_104 (fun v29 => ?_)
        refine J_goto 40 rfl d_Mo_askOf_107 ?_
        exact J_sub [0, 1, 2, 3, 4, 5, 6, 7, 8, 9] rfl (ih _ _ _)
set_option maxRecDepth 20000 in
set_option maxHeartbeats 4000000 in
theorem mlp_Mo_askOf_27 (l : Launch) (g : GG) (ad : Nat → Nat) (Q : Option Value → va_W → Prop) (v4 : Int32) (v5 : Int32) (v6 : Int32) (v2 : Int32) (a1 : Int32) : ∀ (fu : Nat) (v9 : Int32) (v10 : Int32) (h11 : HP), Jj (fun q : Int32 × Int32 × HP => Vw (kx_Mo_askOf l g Q) 0 0 132 [(7, .int (q.1)), (6, .int (q.2.1)), (5, .int v4), (4, .int v5), (3, .int v6), (2, .int v2), (0, .ref (ad 34)), (1, .int a1)] [] (pic g ad q.2.2)) (lp_Mo_askOf_27 v4 v5 v6 v2 a1 fu v9 v10 h11) (Vw (kx_Mo_askOf l g Q) 0 0 27 [(7, .int v9), (6, .int v10), (5, .int v4), (4, .int v5), (3, .int v6), (2, .int v2), (0, .ref (ad 34)), (1, .int a1)] [] (pic g ad h11)) := by
  intro fu
  induction fu with
  | zero =>
    intro v9 v10 h11
    exact J_none
  | succ fu ih =>
    intro v9 v10 h11
    rw [lp_Mo_askOf_27]
    refine J_iload 0 rfl d_Mo_askOf_27 ?_
    refine J_bipush (v := 10) rfl d_Mo_askOf_29 ?_
    refine J_icmp_ge 132 rfl d_Mo_askOf_31 (fun c12 => ?_) (fun c12 => ?_)
    · exact J_exit [0, 1, 2, 3, 4, 5, 6, 7] rfl (fun hx => hx)
    · refine J_iconst (v := 0) rfl d_Mo_askOf_34 ?_
      refine J_istore (lv' := [(8, .int 0), (7, .int v9), (6, .int v10), (5, .int v4), (4, .int v5), (3, .int v6), (2, .int v2), (0, .ref (ad 34)), (1, .int a1)]) (Nat.le_of_ble_eq_true rfl) rfl d_Mo_askOf_35 ?_
      refine J_iconst (v := 1) rfl d_Mo_askOf_37 ?_
      refine J_istore (lv' := [(9, .int 1), (8, .int 0), (7, .int v9), (6, .int v10), (5, .int v4), (4, .int v5), (3, .int v6), (2, .int v2), (0, .ref (ad 34)), (1, .int a1)]) (Nat.le_of_ble_eq_true rfl) rfl d_Mo_askOf_38 ?_
      refine J_bd3 (fun (v30 : Int32) (v31 : Int32) (h32 : HP) => Vw (kx_Mo_askOf l g Q) 0 0 110 [(9, .int v30), (8, .int v31), (7, .int v9), (6, .int v10), (5, .int v4), (4, .int v5), (3, .int v6), (2, .int v2), (0, .ref (ad 34)), (1, .int a1)] [] (pic g ad h32)) ?_ (fun v30 v31 h32 => ?_)
      · exact J_sub [0, 1, 2, 3, 4, 5, 6, 7, 8, 9] rfl (mlp_Mo_askOf_40 l g ad Q v9 v10 v4 v5 v6 v2 a1 400 _ _ _)
      · refine J_iload 1 rfl d_Mo_askOf_110 ?_
        refine J_iload 3 rfl d_Mo_askOf_112 ?_
        refine J_bd1 (fun (v33 : Int32) => Vw (kx_Mo_askOf l g Q) 0 0 124 [(9, .int v30), (8, .int v31), (7, .int v9), (6, .int v10), (5, .int v4), (4, .int v5), (3, .int v6), (2, .int v2), (0, .ref (ad 34)), (1, .int a1)] [.int v33] (pic g ad h32)) ?_ (fun v33 => ?_)
        · refine J_icmp_le 122 rfl d_Mo_askOf_114 (fun c34 => ?_) (fun c34 => ?_)
          · refine J_iload 3 rfl d_Mo_askOf_122 ?_
            exact J_exit [0, 1, 2, 3, 4, 5, 6, 7, 8, 9] rfl (fun hx => hx)
          · refine J_iload 1 rfl d_Mo_askOf_117 ?_
            refine J_goto 124 rfl d_Mo_askOf_119 ?_
            exact J_exit [0, 1, 2, 3, 4, 5, 6, 7, 8, 9] rfl (fun hx => hx)
        · refine J_istore (lv' := [(6, .int v33), (9, .int v30), (8, .int v31), (7, .int v9), (5, .int v4), (4, .int v5), (3, .int v6), (2, .int v2), (0, .ref (ad 34)), (1, .int a1)]) (Nat.le_of_ble_eq_true rfl) rfl d_Mo_askOf_124 ?_
          refine P_inc (w := 1) (lv' := fun v35 => [(7, .int v35), (6, .int v33), (9, .int v30), (8, .int v31), (5, .int v4), (4, .int v5), (3, .int v6), (2, .int v2), (0, .ref (ad 34)), (1, .int a1)]) 3 rfl rfl (Nat.le_of_ble_eq_true rfl) (fun _ => rfl) d_Mo_askOf_126 (fun v35 => ?_)
          refine J_goto 27 rfl d_Mo_askOf_129 ?_
          exact J_sub [0, 1, 4, 5, 6, 7, 8, 9] rfl (ih _ _ _)
set_option maxRecDepth 20000 in
set_option maxHeartbeats 4000000 in
theorem mlp_Mo_askOf_14 (l : Launch) (g : GG) (ad : Nat → Nat) (Q : Option Value → va_W → Prop) (v2 : Int32) (a1 : Int32) : ∀ (fu : Nat) (v4 : Int32) (v5 : Int32) (v6 : Int32) (h7 : HP), Jj (fun q : Int32 × Int32 × Int32 × HP => Vw (kx_Mo_askOf l g Q) 0 0 183 [(5, .int (q.1)), (4, .int (q.2.1)), (3, .int (q.2.2.1)), (2, .int v2), (0, .ref (ad 34)), (1, .int a1)] [] (pic g ad q.2.2.2)) (lp_Mo_askOf_14 v2 a1 fu v4 v5 v6 h7) (Vw (kx_Mo_askOf l g Q) 0 0 14 [(5, .int v4), (4, .int v5), (3, .int v6), (2, .int v2), (0, .ref (ad 34)), (1, .int a1)] [] (pic g ad h7)) := by
  intro fu
  induction fu with
  | zero =>
    intro v4 v5 v6 h7
    exact J_none
  | succ fu ih =>
    intro v4 v5 v6 h7
    rw [lp_Mo_askOf_14]
    refine J_iload 0 rfl d_Mo_askOf_14 ?_
    refine J_bipush (v := 24) rfl d_Mo_askOf_16 ?_
    refine J_icmp_ge 183 rfl d_Mo_askOf_18 (fun c8 => ?_) (fun c8 => ?_)
    · exact J_exit [0, 1, 2, 3, 4, 5] rfl (fun hx => hx)
    · refine J_iconst (v := 0) rfl d_Mo_askOf_21 ?_
      refine J_istore (lv' := [(6, .int 0), (5, .int v4), (4, .int v5), (3, .int v6), (2, .int v2), (0, .ref (ad 34)), (1, .int a1)]) (Nat.le_of_ble_eq_true rfl) rfl d_Mo_askOf_22 ?_
      refine J_iconst (v := 1) rfl d_Mo_askOf_24 ?_
      refine J_istore (lv' := [(7, .int 1), (6, .int 0), (5, .int v4), (4, .int v5), (3, .int v6), (2, .int v2), (0, .ref (ad 34)), (1, .int a1)]) (Nat.le_of_ble_eq_true rfl) rfl d_Mo_askOf_25 ?_
      refine J_bd3 (fun (v36 : Int32) (v37 : Int32) (h38 : HP) => Vw (kx_Mo_askOf l g Q) 0 0 132 [(7, .int v36), (6, .int v37), (5, .int v4), (4, .int v5), (3, .int v6), (2, .int v2), (0, .ref (ad 34)), (1, .int a1)] [] (pic g ad h38)) ?_ (fun v36 v37 h38 => ?_)
      · exact J_sub [0, 1, 2, 3, 4, 5, 6, 7] rfl (mlp_Mo_askOf_27 l g ad Q v4 v5 v6 v2 a1 400 _ _ _)
      · refine J_iload_n 4 rfl d_Mo_askOf_132 ?_
        refine J_iconst (v := (-1)) rfl d_Mo_askOf_133 ?_
        refine J_bd1 (fun (v39 : Int32) => Vw (kx_Mo_askOf l g Q) 0 0 149 [(7, .int v36), (6, .int v37), (5, .int v4), (4, .int v5), (3, .int v6), (2, .int v2), (0, .ref (ad 34)), (1, .int a1)] [.int v39] (pic g ad h38)) ?_ (fun v39 => ?_)
        · refine J_icmp_eq 144 rfl d_Mo_askOf_134 (fun c40 => ?_) (fun c40 => ?_)
          · refine J_iconst (v := 1) rfl d_Mo_askOf_144 ?_
            refine J_goto 149 rfl d_Mo_askOf_145 ?_
            exact J_exit [0, 1, 2, 3, 4, 5, 6, 7] rfl (fun hx => hx)
          · refine J_iload 1 rfl d_Mo_askOf_137 ?_
            refine J_iload 3 rfl d_Mo_askOf_139 ?_
            refine J_icmp_ge 148 rfl d_Mo_askOf_141 (fun c41 => ?_) (fun c41 => ?_)
            · refine J_iconst (v := 0) rfl d_Mo_askOf_148 ?_
              exact J_exit [0, 1, 2, 3, 4, 5, 6, 7] rfl (fun hx => hx)
            · refine J_iconst (v := 1) rfl d_Mo_askOf_144 ?_
              refine J_goto 149 rfl d_Mo_askOf_145 ?_
              exact J_exit [0, 1, 2, 3, 4, 5, 6, 7] rfl (fun hx => hx)
        · refine J_istore (lv' := [(7, .int v39), (6, .int v37), (5, .int v4), (4, .int v5), (3, .int v6), (2, .int v2), (0, .ref (ad 34)), (1, .int a1)]) (Nat.le_of_ble_eq_true rfl) rfl d_Mo_askOf_149 ?_
          refine J_iload 0 rfl d_Mo_askOf_151 ?_
          refine J_bd1 (fun (v42 : Int32) => Vw (kx_Mo_askOf l g Q) 0 0 162 [(7, .int v39), (6, .int v37), (5, .int v4), (4, .int v5), (3, .int v6), (2, .int v2), (0, .ref (ad 34)), (1, .int a1)] [.int v42] (pic g ad h38)) ?_ (fun v42 => ?_)
          · refine J_if_eq 161 rfl d_Mo_askOf_153 (fun c43 => ?_) (fun c43 => ?_)
            · refine J_iload_n 4 rfl d_Mo_askOf_161 ?_
              exact J_exit [0, 1, 2, 3, 4, 5, 6, 7] rfl (fun hx => hx)
            · refine J_iload 2 rfl d_Mo_askOf_156 ?_
              refine J_goto 162 rfl d_Mo_askOf_158 ?_
              exact J_exit [0, 1, 2, 3, 4, 5, 6, 7] rfl (fun hx => hx)
          · refine J_istore_n (lv' := [(3, .int v42), (7, .int v39), (6, .int v37), (5, .int v4), (4, .int v5), (2, .int v2), (0, .ref (ad 34)), (1, .int a1)]) 3 rfl (Nat.le_of_ble_eq_true rfl) rfl d_Mo_askOf_162 ?_
            refine J_iload 1 rfl d_Mo_askOf_163 ?_
            refine J_bd1 (fun (v44 : Int32) => Vw (kx_Mo_askOf l g Q) 0 0 175 [(3, .int v42), (7, .int v39), (6, .int v37), (5, .int v4), (4, .int v5), (2, .int v2), (0, .ref (ad 34)), (1, .int a1)] [.int v44] (pic g ad h38)) ?_ (fun v44 => ?_)
            · refine J_if_eq 173 rfl d_Mo_askOf_165 (fun c45 => ?_) (fun c45 => ?_)
              · refine J_iload 4 rfl d_Mo_askOf_173 ?_
                exact J_exit [0, 1, 2, 3, 4, 5, 6, 7] rfl (fun hx => hx)
              · refine J_iload 2 rfl d_Mo_askOf_168 ?_
                refine J_goto 175 rfl d_Mo_askOf_170 ?_
                exact J_exit [0, 1, 2, 3, 4, 5, 6, 7] rfl (fun hx => hx)
            · refine J_istore (lv' := [(4, .int v44), (3, .int v42), (7, .int v39), (6, .int v37), (5, .int v4), (2, .int v2), (0, .ref (ad 34)), (1, .int a1)]) (Nat.le_of_ble_eq_true rfl) rfl d_Mo_askOf_175 ?_
              refine P_inc (w := 1) (lv' := fun v46 => [(5, .int v46), (4, .int v44), (3, .int v42), (7, .int v39), (6, .int v37), (2, .int v2), (0, .ref (ad 34)), (1, .int a1)]) 4 rfl rfl (Nat.le_of_ble_eq_true rfl) (fun _ => rfl) d_Mo_askOf_177 (fun v46 => ?_)
              refine J_goto 14 rfl d_Mo_askOf_180 ?_
              exact J_sub [0, 1, 2, 5, 6, 7] rfl (ih _ _ _ _)
set_option maxRecDepth 20000 in
set_option maxHeartbeats 4000000 in
theorem m_Mo_askOf (l : Launch) (g : GG) (ad : Nat → Nat) (a1 : Int32) (h0 : HP) : CM l g ad y_Mo_askOf b_Mo_askOf 10 (some .int) rm_Mo_askOf [.ref (ad 34), .int a1] h0 enI (f_Mo_askOf a1 h0) := by
  refine CM.of (by decide) (Nat.le_of_ble_eq_true rfl) (fun Q => ?_)
  show Jj _ _ (Vw (kx_Mo_askOf l g Q) 0 0 0 _ _ _)
  refine J_sub [0, 1] (lv' := [(0, .ref (ad 34)), (1, .int a1)]) rfl ?_
  unfold f_Mo_askOf
  refine J_aload_n 0 rfl d_Mo_askOf_0 ?_
  refine J_iload_n 1 rfl d_Mo_askOf_1 ?_
  refine J_callVi (m_Mo_strongBy l g ad _ _) ok_Mo_strongBy rc_34 wi_Mo_strongBy wl_Mo_Mo_strongBy wk_Mo_307 ⟨rfl, rfl, Nat.le_of_ble_eq_true rfl, Nat.le_of_ble_eq_true rfl⟩ ⟨Nat.zero_le _, Nat.zero_le _⟩ (rest := []) rfl rfl (Nat.le_of_ble_eq_true rfl) d_Mo_askOf_2 (fun v2 h3 => ?_)
  refine J_istore_n (lv' := [(2, .int v2), (0, .ref (ad 34)), (1, .int a1)]) 2 rfl (Nat.le_of_ble_eq_true rfl) rfl d_Mo_askOf_5 ?_
  refine J_iconst (v := (-1)) rfl d_Mo_askOf_6 ?_
  refine J_istore_n (lv' := [(3, .int (-1)), (2, .int v2), (0, .ref (ad 34)), (1, .int a1)]) 3 rfl (Nat.le_of_ble_eq_true rfl) rfl d_Mo_askOf_7 ?_
  refine J_iconst (v := 0) rfl d_Mo_askOf_8 ?_
  refine J_istore (lv' := [(4, .int 0), (3, .int (-1)), (2, .int v2), (0, .ref (ad 34)), (1, .int a1)]) (Nat.le_of_ble_eq_true rfl) rfl d_Mo_askOf_9 ?_
  refine J_iconst (v := 0) rfl d_Mo_askOf_11 ?_
  refine J_istore (lv' := [(5, .int 0), (4, .int 0), (3, .int (-1)), (2, .int v2), (0, .ref (ad 34)), (1, .int a1)]) (Nat.le_of_ble_eq_true rfl) rfl d_Mo_askOf_12 ?_
  refine J_bd4 (fun (v47 : Int32) (v48 : Int32) (v49 : Int32) (h50 : HP) => Vw (kx_Mo_askOf l g Q) 0 0 183 [(5, .int v47), (4, .int v48), (3, .int v49), (2, .int v2), (0, .ref (ad 34)), (1, .int a1)] [] (pic g ad h50)) ?_ (fun v47 v48 v49 h50 => ?_)
  · exact J_sub [0, 1, 2, 3, 4, 5] rfl (mlp_Mo_askOf_14 l g ad Q v2 a1 400 _ _ _ _)
  · refine J_iload_n 2 rfl d_Mo_askOf_183 ?_
    exact J_iret (Nat.le_refl _) (Nat.le_refl _) d_Mo_askOf_184 rfl (fun hx => hx)
def f_Mo_ask (a1 : Int32) (h0 : HP) : Option (Int32 × HP) :=
 bd2 (f_Mo_isCamel a1 h0) (fun (v2 : Int32) (h3 : HP) =>
 (if v2 = 0 then
 some ((-2), h3)
 else
 bd2 (f_Mo_askOf a1 h3) (fun (v5 : Int32) (h6 : HP) =>
 some (v5, h6))))
set_option maxRecDepth 20000 in
set_option maxHeartbeats 4000000 in
theorem m_Mo_ask (l : Launch) (g : GG) (ad : Nat → Nat) (a1 : Int32) (h0 : HP) : CM l g ad y_Mo_ask b_Mo_ask 2 (some .int) rm_Mo_ask [.ref (ad 34), .int a1] h0 enI (f_Mo_ask a1 h0) := by
  refine CM.of (by decide) (Nat.le_of_ble_eq_true rfl) (fun Q => ?_)
  show Jj _ _ (Vw (kx_Mo_ask l g Q) 0 0 0 _ _ _)
  refine J_sub [0, 1] (lv' := [(0, .ref (ad 34)), (1, .int a1)]) rfl ?_
  unfold f_Mo_ask
  refine J_aload_n 0 rfl d_Mo_ask_0 ?_
  refine J_iload_n 1 rfl d_Mo_ask_1 ?_
  refine J_callVi (m_Mo_isCamel l g ad _ _) ok_Mo_isCamel rc_34 wi_Mo_isCamel wl_Mo_Mo_isCamel wk_Mo_150 ⟨rfl, rfl, Nat.le_of_ble_eq_true rfl, Nat.le_of_ble_eq_true rfl⟩ ⟨Nat.zero_le _, Nat.zero_le _⟩ (rest := []) rfl rfl (Nat.le_of_ble_eq_true rfl) d_Mo_ask_2 (fun v2 h3 => ?_)
  refine J_if_eq 16 rfl d_Mo_ask_5 (fun c4 => ?_) (fun c4 => ?_)
  · refine J_bipush (v := (-2)) rfl d_Mo_ask_16 ?_
    exact J_iret (Nat.le_refl _) (Nat.le_refl _) d_Mo_ask_18 rfl (fun hx => hx)
  · refine J_aload_n 0 rfl d_Mo_ask_8 ?_
    refine J_iload_n 1 rfl d_Mo_ask_9 ?_
    refine J_callVi (m_Mo_askOf l g ad _ _) ok_Mo_askOf rc_34 wi_Mo_askOf wl_Mo_Mo_askOf wk_Mo_310 ⟨rfl, rfl, Nat.le_of_ble_eq_true rfl, Nat.le_of_ble_eq_true rfl⟩ ⟨Nat.zero_le _, Nat.zero_le _⟩ (rest := []) rfl rfl (Nat.le_of_ble_eq_true rfl) d_Mo_ask_10 (fun v5 h6 => ?_)
    refine J_goto 18 rfl d_Mo_ask_13 ?_
    exact J_iret (Nat.le_refl _) (Nat.le_refl _) d_Mo_ask_18 rfl (fun hx => hx)
def lp_Mo_lowest_6 (a1 : Int64) (a2 : Int64) (a3 : Int32) : Nat → Int64 → Int64 → HP → Option (Int64 × Int64 × HP)
 | 0, _, _, _ => none
 | fu + 1, v4, v5, h6 =>
 (if lg_cmp v4 0 = 0 then
 some (v4, v5, h6)
 else
 ckk (decide (¬ v4 = 0)) (ltt (v5 - v5 / v4 * v4) (fun (v8 : Int64) =>
 lp_Mo_lowest_6 a1 a2 a3 fu v8 v4 h6)))
def f_Mo_lowest (a1 : Int64) (a2 : Int64) (a3 : Int32) (h0 : HP) : Option (Int64 × HP) :=
 bd3 (lp_Mo_lowest_6 a1 a2 a3 400 a2 a1 h0) (fun (v9 : Int64) (v10 : Int64) (h11 : HP) =>
 (if a3 = 0 then
 ckk (decide (¬ v10 = 0)) (some (a1 / v10, h11))
 else
 ckk (decide (¬ v10 = 0)) (some (a2 / v10, h11))))
set_option maxRecDepth 20000 in
set_option maxHeartbeats 4000000 in
theorem mlp_Mo_lowest_6 (l : Launch) (g : GG) (ad : Nat → Nat) (Q : Option Value → va_W → Prop) (a1 : Int64) (a2 : Int64) (a3 : Int32) : ∀ (fu : Nat) (v4 : Int64) (v5 : Int64) (h6 : HP), Jj (fun q : Int64 × Int64 × HP => Vw (kx_Mo_lowest l g Q) 0 0 31 [(7, .long (q.1)), (5, .long (q.2.1)), (0, .long a1), (2, .long a2), (4, .int a3)] [] (pic g ad q.2.2)) (lp_Mo_lowest_6 a1 a2 a3 fu v4 v5 h6) (Vw (kx_Mo_lowest l g Q) 0 0 6 [(7, .long v4), (5, .long v5), (0, .long a1), (2, .long a2), (4, .int a3)] [] (pic g ad h6)) := by
  intro fu
  induction fu with
  | zero =>
    intro v4 v5 h6
    exact J_none
  | succ fu ih =>
    intro v4 v5 h6
    rw [lp_Mo_lowest_6]
    refine J_lload 0 rfl d_Mo_lowest_6 ?_
    refine J_lconst (v := 0) rfl d_Mo_lowest_8 ?_
    refine J_lcmp d_Mo_lowest_9 ?_
    refine J_if_eq 31 rfl d_Mo_lowest_10 (fun c7 => ?_) (fun c7 => ?_)
    · exact J_exit [0, 1, 2, 3, 4] rfl (fun hx => hx)
    · refine J_lload 1 rfl d_Mo_lowest_13 ?_
      refine J_lload 0 rfl d_Mo_lowest_15 ?_
      refine P_lrem d_Mo_lowest_17 ?_
      refine P_lst (lv' := fun v8 => [(9, .long v8), (7, .long v4), (5, .long v5), (0, .long a1), (2, .long a2), (4, .int a3)]) (Nat.le_of_ble_eq_true rfl) (fun _ => rfl) d_Mo_lowest_18 (fun v8 => ?_)
      refine J_lload 1 rfl d_Mo_lowest_20 ?_
      refine J_lstore (lv' := [(5, .long v4), (9, .long v8), (7, .long v4), (0, .long a1), (2, .long a2), (4, .int a3)]) (Nat.le_of_ble_eq_true rfl) rfl d_Mo_lowest_22 ?_
      refine J_lload 1 rfl d_Mo_lowest_24 ?_
      refine J_lstore (lv' := [(7, .long v8), (5, .long v4), (9, .long v8), (0, .long a1), (2, .long a2), (4, .int a3)]) (Nat.le_of_ble_eq_true rfl) rfl d_Mo_lowest_26 ?_
      refine J_goto 6 rfl d_Mo_lowest_28 ?_
      exact J_sub [0, 1, 3, 4, 5] rfl (ih _ _ _)
set_option maxRecDepth 20000 in
set_option maxHeartbeats 4000000 in
theorem m_Mo_lowest (l : Launch) (g : GG) (ad : Nat → Nat) (a1 : Int64) (a2 : Int64) (a3 : Int32) (h0 : HP) : CM l g ad y_Mo_lowest b_Mo_lowest 11 (some .long) rm_Mo_lowest [.long a1, .long a2, .int a3] h0 enL (f_Mo_lowest a1 a2 a3 h0) := by
  refine CM.of (by decide) (Nat.le_of_ble_eq_true rfl) (fun Q => ?_)
  show Jj _ _ (Vw (kx_Mo_lowest l g Q) 0 0 0 _ _ _)
  refine J_sub [0, 1, 2] (lv' := [(0, .long a1), (2, .long a2), (4, .int a3)]) rfl ?_
  unfold f_Mo_lowest
  refine J_lload_n 0 rfl d_Mo_lowest_0 ?_
  refine J_lstore (lv' := [(5, .long a1), (0, .long a1), (2, .long a2), (4, .int a3)]) (Nat.le_of_ble_eq_true rfl) rfl d_Mo_lowest_1 ?_
  refine J_lload_n 2 rfl d_Mo_lowest_3 ?_
  refine J_lstore (lv' := [(7, .long a2), (5, .long a1), (0, .long a1), (2, .long a2), (4, .int a3)]) (Nat.le_of_ble_eq_true rfl) rfl d_Mo_lowest_4 ?_
  refine J_bd3 (fun (v9 : Int64) (v10 : Int64) (h11 : HP) => Vw (kx_Mo_lowest l g Q) 0 0 31 [(7, .long v9), (5, .long v10), (0, .long a1), (2, .long a2), (4, .int a3)] [] (pic g ad h11)) ?_ (fun v9 v10 h11 => ?_)
  · exact J_sub [0, 1, 2, 3, 4] rfl (mlp_Mo_lowest_6 l g ad Q a1 a2 a3 400 _ _ _)
  · refine J_iload 4 rfl d_Mo_lowest_31 ?_
    refine J_if_ne 43 rfl d_Mo_lowest_33 (fun c12 => ?_) (fun c12 => ?_)
    · refine J_lload_n 3 rfl d_Mo_lowest_43 ?_
      refine J_lload 1 rfl d_Mo_lowest_44 ?_
      refine P_ldiv d_Mo_lowest_46 ?_
      exact J_lret (Nat.le_refl _) (Nat.le_refl _) d_Mo_lowest_47 rfl (fun hx => hx)
    · refine J_lload_n 2 rfl d_Mo_lowest_36 ?_
      refine J_lload 1 rfl d_Mo_lowest_37 ?_
      refine P_ldiv d_Mo_lowest_39 ?_
      refine J_goto 47 rfl d_Mo_lowest_40 ?_
      exact J_lret (Nat.le_refl _) (Nat.le_refl _) d_Mo_lowest_47 rfl (fun hx => hx)
def lp_Mo_chanceOf_27 (v5 : Int32) (v6 : Int64) (a1 : Int32) (a2 : Int32) (a3 : Int32) : Nat → Int32 → Int64 → HP → Option (Int32 × Int64 × HP)
 | 0, _, _, _ => none
 | fu + 1, v10, v11, h12 =>
 ltt (rI h12 34 9) (fun (v13 : Int32) =>
 (if v13 ≤ v10 then
 some (v10, v11, h12)
 else
 bd2 (f_Mo_isIn v5 v10 h12) (fun (v15 : Int32) (h16 : HP) =>
 bd1 ((if v15 = 0 then
 some (Int32.toInt64 a1)
 else
 some (Int32.toInt64 (16 - a1))) : Option (Int64)) (fun (v17 : Int64) =>
 ltt (v11 * v17) (fun (v19 : Int64) =>
 ltt (v10 + 1) (fun (v20 : Int32) =>
 lp_Mo_chanceOf_27 v5 v6 a1 a2 a3 fu v20 v19 h16))))))
def lp_Mo_chanceOf_10 (a1 : Int32) (a2 : Int32) (a3 : Int32) : Nat → Int32 → Int64 → HP → Option (Int32 × Int64 × HP)
 | 0, _, _, _ => none
 | fu + 1, v5, v6, h7 =>
 ltt (rI h7 34 9) (fun (v8 : Int32) =>
 (if 1 <<< (v8 &&& 31) ≤ v5 then
 some (v5, v6, h7)
 else
 bd3 (lp_Mo_chanceOf_27 v5 v6 a1 a2 a3 400 0 1 h7) (fun (v21 : Int32) (v22 : Int64) (h23 : HP) =>
 bd2 ((if lg_cmp v22 0 ≤ 0 then
 some (v6, h23)
 else
 ltt (sI h23 34 15 v5) (fun (h27 : HP) =>
 bd1 (f_Mo_runs h27) (fun (h28 : HP) =>
 ckk (inb a2 8) (ltt (rA h28 17 a2) (fun (v29 : Int32) =>
 bd1 ((if v29 ≤ 0 then
 some (0)
 else
 some (v22)) : Option (Int64)) (fun (v30 : Int64) =>
 ltt (v6 + v30) (fun (v32 : Int64) =>
 some (v32, h28)))))))) : Option (Int64 × HP)) (fun (v24 : Int64) (h25 : HP) =>
 ltt (v5 + 1) (fun (v33 : Int32) =>
 lp_Mo_chanceOf_10 a1 a2 a3 fu v33 v24 h25)))))
def f_Mo_chanceOf (a1 : Int32) (a2 : Int32) (a3 : Int32) (h0 : HP) : Option (Int64 × HP) :=
 bd1 (f_Mo_asTold h0) (fun (h4 : HP) =>
 bd3 (lp_Mo_chanceOf_10 a1 a2 a3 400 0 0 h4) (fun (v34 : Int32) (v35 : Int64) (h36 : HP) =>
 ltt (rI h36 34 9) (fun (v37 : Int32) =>
 bd2 (f_Mo_lowest v35 ((1 : Int64) <<< (Int32.toInt64 (4 * v37) &&& 63)) a3 h36) (fun (v38 : Int64) (h39 : HP) =>
 some (v38, h39)))))
set_option maxRecDepth 20000 in
set_option maxHeartbeats 4000000 in
theorem mlp_Mo_chanceOf_27 (l : Launch) (g : GG) (ad : Nat → Nat) (Q : Option Value → va_W → Prop) (v5 : Int32) (v6 : Int64) (a1 : Int32) (a2 : Int32) (a3 : Int32) : ∀ (fu : Nat) (v10 : Int32) (v11 : Int64) (h12 : HP), Jj (fun q : Int32 × Int64 × HP => Vw (kx_Mo_chanceOf l g Q) 0 0 67 [(9, .int (q.1)), (7, .long (q.2.1)), (6, .int v5), (4, .long v6), (0, .ref (ad 34)), (1, .int a1), (2, .int a2), (3, .int a3)] [] (pic g ad q.2.2)) (lp_Mo_chanceOf_27 v5 v6 a1 a2 a3 fu v10 v11 h12) (Vw (kx_Mo_chanceOf l g Q) 0 0 27 [(9, .int v10), (7, .long v11), (6, .int v5), (4, .long v6), (0, .ref (ad 34)), (1, .int a1), (2, .int a2), (3, .int a3)] [] (pic g ad h12)) := by
  intro fu
  induction fu with
  | zero =>
    intro v10 v11 h12
    exact J_none
  | succ fu ih =>
    intro v10 v11 h12
    rw [lp_Mo_chanceOf_27]
    refine J_iload 0 rfl d_Mo_chanceOf_27 ?_
    refine J_aload_n 4 rfl d_Mo_chanceOf_29 ?_
    refine P_gI fo_Mo_171_34 rfl d_Mo_chanceOf_30 (fun v13 => ?_)
    refine J_icmp_ge 67 rfl d_Mo_chanceOf_33 (fun c14 => ?_) (fun c14 => ?_)
    · exact J_exit [0, 1, 2, 3, 4, 5, 6, 7] rfl (fun hx => hx)
    · refine J_lload 1 rfl d_Mo_chanceOf_36 ?_
      refine J_iload 2 rfl d_Mo_chanceOf_38 ?_
      refine J_iload 0 rfl d_Mo_chanceOf_40 ?_
      refine J_callSi (m_Mo_isIn l g ad _ _ _) ok_Mo_isIn ws_Mo_isIn wk_Mo_209 ⟨rfl, rfl, Nat.le_of_ble_eq_true rfl, Nat.le_of_ble_eq_true rfl⟩ ⟨Nat.zero_le _, Nat.zero_le _⟩ (rest := [.long v11]) rfl rfl (Nat.le_of_ble_eq_true rfl) d_Mo_chanceOf_42 (fun v15 h16 => ?_)
      refine J_bd1 (fun (v17 : Int64) => Vw (kx_Mo_chanceOf l g Q) 0 0 58 [(9, .int v10), (7, .long v11), (6, .int v5), (4, .long v6), (0, .ref (ad 34)), (1, .int a1), (2, .int a2), (3, .int a3)] [.long v17, .long v11] (pic g ad h16)) ?_ (fun v17 => ?_)
      · refine J_if_eq 56 rfl d_Mo_chanceOf_45 (fun c18 => ?_) (fun c18 => ?_)
        · refine J_iload_n 5 rfl d_Mo_chanceOf_56 ?_
          refine J_i2l d_Mo_chanceOf_57 ?_
          exact J_exit [0, 1, 2, 3, 4, 5, 6, 7] rfl (fun hx => hx)
        · refine J_bipush (v := 16) rfl d_Mo_chanceOf_48 ?_
          refine J_iload_n 5 rfl d_Mo_chanceOf_50 ?_
          refine J_isub d_Mo_chanceOf_51 ?_
          refine J_i2l d_Mo_chanceOf_52 ?_
          refine J_goto 58 rfl d_Mo_chanceOf_53 ?_
          exact J_exit [0, 1, 2, 3, 4, 5, 6, 7] rfl (fun hx => hx)
      · refine J_lmul d_Mo_chanceOf_58 ?_
        refine P_lst (lv' := fun v19 => [(7, .long v19), (9, .int v10), (6, .int v5), (4, .long v6), (0, .ref (ad 34)), (1, .int a1), (2, .int a2), (3, .int a3)]) (Nat.le_of_ble_eq_true rfl) (fun _ => rfl) d_Mo_chanceOf_59 (fun v19 => ?_)
        refine P_inc (w := 1) (lv' := fun v20 => [(9, .int v20), (7, .long v19), (6, .int v5), (4, .long v6), (0, .ref (ad 34)), (1, .int a1), (2, .int a2), (3, .int a3)]) 1 rfl rfl (Nat.le_of_ble_eq_true rfl) (fun _ => rfl) d_Mo_chanceOf_61 (fun v20 => ?_)
        refine J_goto 27 rfl d_Mo_chanceOf_64 ?_
        exact J_sub [0, 1, 2, 3, 4, 5, 6, 7] rfl (ih _ _ _)
set_option maxRecDepth 20000 in
set_option maxHeartbeats 4000000 in
theorem mlp_Mo_chanceOf_10 (l : Launch) (g : GG) (ad : Nat → Nat) (Q : Option Value → va_W → Prop) (a1 : Int32) (a2 : Int32) (a3 : Int32) : ∀ (fu : Nat) (v5 : Int32) (v6 : Int64) (h7 : HP), Jj (fun q : Int32 × Int64 × HP => Vw (kx_Mo_chanceOf l g Q) 0 0 110 [(6, .int (q.1)), (4, .long (q.2.1)), (0, .ref (ad 34)), (1, .int a1), (2, .int a2), (3, .int a3)] [] (pic g ad q.2.2)) (lp_Mo_chanceOf_10 a1 a2 a3 fu v5 v6 h7) (Vw (kx_Mo_chanceOf l g Q) 0 0 10 [(6, .int v5), (4, .long v6), (0, .ref (ad 34)), (1, .int a1), (2, .int a2), (3, .int a3)] [] (pic g ad h7)) := by
  intro fu
  induction fu with
  | zero =>
    intro v5 v6 h7
    exact J_none
  | succ fu ih =>
    intro v5 v6 h7
    rw [lp_Mo_chanceOf_10]
    refine J_iload 0 rfl d_Mo_chanceOf_10 ?_
    refine J_iconst (v := 1) rfl d_Mo_chanceOf_12 ?_
    refine J_aload_n 2 rfl d_Mo_chanceOf_13 ?_
    refine P_gI fo_Mo_171_34 rfl d_Mo_chanceOf_14 (fun v8 => ?_)
    refine J_ishl d_Mo_chanceOf_17 ?_
    refine J_icmp_ge 110 rfl d_Mo_chanceOf_18 (fun c9 => ?_) (fun c9 => ?_)
    · exact J_exit [0, 1, 2, 3, 4, 5] rfl (fun hx => hx)
    · refine J_lconst (v := 1) rfl d_Mo_chanceOf_21 ?_
      refine J_lstore (lv' := [(7, .long 1), (6, .int v5), (4, .long v6), (0, .ref (ad 34)), (1, .int a1), (2, .int a2), (3, .int a3)]) (Nat.le_of_ble_eq_true rfl) rfl d_Mo_chanceOf_22 ?_
      refine J_iconst (v := 0) rfl d_Mo_chanceOf_24 ?_
      refine J_istore (lv' := [(9, .int 0), (7, .long 1), (6, .int v5), (4, .long v6), (0, .ref (ad 34)), (1, .int a1), (2, .int a2), (3, .int a3)]) (Nat.le_of_ble_eq_true rfl) rfl d_Mo_chanceOf_25 ?_
      refine J_bd3 (fun (v21 : Int32) (v22 : Int64) (h23 : HP) => Vw (kx_Mo_chanceOf l g Q) 0 0 67 [(9, .int v21), (7, .long v22), (6, .int v5), (4, .long v6), (0, .ref (ad 34)), (1, .int a1), (2, .int a2), (3, .int a3)] [] (pic g ad h23)) ?_ (fun v21 v22 h23 => ?_)
      · exact J_sub [0, 1, 2, 3, 4, 5, 6, 7] rfl (mlp_Mo_chanceOf_27 l g ad Q v5 v6 a1 a2 a3 400 _ _ _)
      · refine J_lload 1 rfl d_Mo_chanceOf_67 ?_
        refine J_lconst (v := 0) rfl d_Mo_chanceOf_69 ?_
        refine J_lcmp d_Mo_chanceOf_70 ?_
        refine J_bd2 (fun (v24 : Int64) (h25 : HP) => Vw (kx_Mo_chanceOf l g Q) 0 0 104 [(9, .int v21), (7, .long v22), (6, .int v5), (4, .long v24), (0, .ref (ad 34)), (1, .int a1), (2, .int a2), (3, .int a3)] [] (pic g ad h25)) ?_ (fun v24 h25 => ?_)
        · refine J_if_le 104 rfl d_Mo_chanceOf_71 (fun c26 => ?_) (fun c26 => ?_)
          · exact J_exit [0, 1, 2, 3, 4, 5, 6, 7] rfl (fun hx => hx)
          · refine J_aload_n 4 rfl d_Mo_chanceOf_74 ?_
            refine J_iload 2 rfl d_Mo_chanceOf_75 ?_
            refine P_wI fo_Mo_186_34 rfl d_Mo_chanceOf_77 (fun h27 => ?_)
            refine J_aload_n 4 rfl d_Mo_chanceOf_80 ?_
            refine J_callVv (m_Mo_runs l g ad _) ok_Mo_runs rc_34 wi_Mo_runs wl_Mo_Mo_runs wk_Mo_238 ⟨rfl, rfl, Nat.le_of_ble_eq_true rfl, Nat.le_of_ble_eq_true rfl⟩ ⟨Nat.zero_le _, Nat.zero_le _⟩ (rest := []) rfl rfl (Nat.le_of_ble_eq_true rfl) d_Mo_chanceOf_81 (fun h28 => ?_)
            refine J_lload 3 rfl d_Mo_chanceOf_84 ?_
            refine J_aload_n 4 rfl d_Mo_chanceOf_86 ?_
            refine J_getR fo_Mo_58_34 rfl d_Mo_chanceOf_87 ?_
            refine J_iload_n 6 rfl d_Mo_chanceOf_90 ?_
            refine P_ia (by decide) rfl rfl d_Mo_chanceOf_91 (fun v29 => ?_)
            refine J_bd1 (fun (v30 : Int64) => Vw (kx_Mo_chanceOf l g Q) 0 0 101 [(9, .int v21), (7, .long v22), (6, .int v5), (4, .long v6), (0, .ref (ad 34)), (1, .int a1), (2, .int a2), (3, .int a3)] [.long v30, .long v6] (pic g ad h28)) ?_ (fun v30 => ?_)
            · refine J_if_le 100 rfl d_Mo_chanceOf_92 (fun c31 => ?_) (fun c31 => ?_)
              · refine J_lconst (v := 0) rfl d_Mo_chanceOf_100 ?_
                exact J_exit [0, 1, 2, 3, 4, 5, 6, 7] rfl (fun hx => hx)
              · refine J_lload 1 rfl d_Mo_chanceOf_95 ?_
                refine J_goto 101 rfl d_Mo_chanceOf_97 ?_
                exact J_exit [0, 1, 2, 3, 4, 5, 6, 7] rfl (fun hx => hx)
            · refine J_ladd d_Mo_chanceOf_101 ?_
              refine P_lst (lv' := fun v32 => [(4, .long v32), (9, .int v21), (7, .long v22), (6, .int v5), (0, .ref (ad 34)), (1, .int a1), (2, .int a2), (3, .int a3)]) (Nat.le_of_ble_eq_true rfl) (fun _ => rfl) d_Mo_chanceOf_102 (fun v32 => ?_)
              exact J_exit [1, 2, 3, 0, 4, 5, 6, 7] rfl (fun hx => hx)
        · refine P_inc (w := 1) (lv' := fun v33 => [(6, .int v33), (9, .int v21), (7, .long v22), (4, .long v24), (0, .ref (ad 34)), (1, .int a1), (2, .int a2), (3, .int a3)]) 2 rfl rfl (Nat.le_of_ble_eq_true rfl) (fun _ => rfl) d_Mo_chanceOf_104 (fun v33 => ?_)
          refine J_goto 10 rfl d_Mo_chanceOf_107 ?_
          exact J_sub [0, 3, 4, 5, 6, 7] rfl (ih _ _ _)
set_option maxRecDepth 20000 in
set_option maxHeartbeats 4000000 in
theorem m_Mo_chanceOf (l : Launch) (g : GG) (ad : Nat → Nat) (a1 : Int32) (a2 : Int32) (a3 : Int32) (h0 : HP) : CM l g ad y_Mo_chanceOf b_Mo_chanceOf 10 (some .long) rm_Mo_chanceOf [.ref (ad 34), .int a1, .int a2, .int a3] h0 enL (f_Mo_chanceOf a1 a2 a3 h0) := by
  refine CM.of (by decide) (Nat.le_of_ble_eq_true rfl) (fun Q => ?_)
  show Jj _ _ (Vw (kx_Mo_chanceOf l g Q) 0 0 0 _ _ _)
  refine J_sub [0, 1, 2, 3] (lv' := [(0, .ref (ad 34)), (1, .int a1), (2, .int a2), (3, .int a3)]) rfl ?_
  unfold f_Mo_chanceOf
  refine J_aload_n 0 rfl d_Mo_chanceOf_0 ?_
  refine J_callVv (m_Mo_asTold l g ad _) ok_Mo_asTold rc_34 wi_Mo_asTold wl_Mo_Mo_asTold wk_Mo_235 ⟨rfl, rfl, Nat.le_of_ble_eq_true rfl, Nat.le_of_ble_eq_true rfl⟩ ⟨Nat.zero_le _, Nat.zero_le _⟩ (rest := []) rfl rfl (Nat.le_of_ble_eq_true rfl) d_Mo_chanceOf_1 (fun h4 => ?_)
  refine J_lconst (v := 0) rfl d_Mo_chanceOf_4 ?_
  refine J_lstore (lv' := [(4, .long 0), (0, .ref (ad 34)), (1, .int a1), (2, .int a2), (3, .int a3)]) (Nat.le_of_ble_eq_true rfl) rfl d_Mo_chanceOf_5 ?_
  refine J_iconst (v := 0) rfl d_Mo_chanceOf_7 ?_
  refine J_istore (lv' := [(6, .int 0), (4, .long 0), (0, .ref (ad 34)), (1, .int a1), (2, .int a2), (3, .int a3)]) (Nat.le_of_ble_eq_true rfl) rfl d_Mo_chanceOf_8 ?_
  refine J_bd3 (fun (v34 : Int32) (v35 : Int64) (h36 : HP) => Vw (kx_Mo_chanceOf l g Q) 0 0 110 [(6, .int v34), (4, .long v35), (0, .ref (ad 34)), (1, .int a1), (2, .int a2), (3, .int a3)] [] (pic g ad h36)) ?_ (fun v34 v35 h36 => ?_)
  · exact J_sub [0, 1, 2, 3, 4, 5] rfl (mlp_Mo_chanceOf_10 l g ad Q a1 a2 a3 400 _ _ _)
  · refine J_lload 1 rfl d_Mo_chanceOf_110 ?_
    refine J_lconst (v := 1) rfl d_Mo_chanceOf_112 ?_
    refine J_iconst (v := 4) rfl d_Mo_chanceOf_113 ?_
    refine J_aload_n 2 rfl d_Mo_chanceOf_114 ?_
    refine P_gI fo_Mo_171_34 rfl d_Mo_chanceOf_115 (fun v37 => ?_)
    refine J_imul d_Mo_chanceOf_118 ?_
    refine J_lshl d_Mo_chanceOf_119 ?_
    refine J_iload_n 5 rfl d_Mo_chanceOf_120 ?_
    refine J_callSl (m_Mo_lowest l g ad _ _ _ _) ok_Mo_lowest ws_Mo_lowest wk_Mo_313 ⟨rfl, rfl, Nat.le_of_ble_eq_true rfl, Nat.le_of_ble_eq_true rfl⟩ ⟨Nat.zero_le _, Nat.zero_le _⟩ (rest := []) rfl rfl (Nat.le_of_ble_eq_true rfl) d_Mo_chanceOf_121 (fun v38 h39 => ?_)
    exact J_lret (Nat.le_refl _) (Nat.le_refl _) d_Mo_chanceOf_124 rfl (fun hx => hx)
def f_Mo_no (a1 : Int32) (h0 : HP) : Option (Int64 × HP) :=
 some ((-9223372036854775808) - (Int32.toInt64 a1), h0)
set_option maxRecDepth 20000 in
set_option maxHeartbeats 4000000 in
theorem m_Mo_no (l : Launch) (g : GG) (ad : Nat → Nat) (a1 : Int32) (h0 : HP) : CM l g ad y_Mo_no b_Mo_no 1 (some .long) rm_Mo_no [.int a1] h0 enL (f_Mo_no a1 h0) := by
  refine CM.of (by decide) (Nat.le_of_ble_eq_true rfl) (fun Q => ?_)
  show Jj _ _ (Vw (kx_Mo_no l g Q) 0 0 0 _ _ _)
  refine J_sub [0] (lv' := [(0, .int a1)]) rfl ?_
  unfold f_Mo_no
  refine J_ldc2 (v := (-9223372036854775808)) kl_Mo_113 d_Mo_no_0 ?_
  refine J_iload_n 0 rfl d_Mo_no_3 ?_
  refine J_i2l d_Mo_no_4 ?_
  refine J_lsub d_Mo_no_5 ?_
  exact J_lret (Nat.le_refl _) (Nat.le_refl _) d_Mo_no_6 rfl (fun hx => hx)
def f_Mo_chance (a1 : Int32) (a2 : Int32) (a3 : Int32) (h0 : HP) : Option (Int64 × HP) :=
 bd2 (f_Mo_in a1 0 16 h0) (fun (v4 : Int32) (h5 : HP) =>
 (if v4 = 0 then
 bd2 (f_Mo_no (-2) h5) (fun (v7 : Int64) (h8 : HP) =>
 some (v7, h8))
 else
 bd2 (f_Mo_isCamel a2 h5) (fun (v9 : Int32) (h10 : HP) =>
 (if v9 = 0 then
 bd2 (f_Mo_no (-2) h10) (fun (v12 : Int64) (h13 : HP) =>
 some (v12, h13))
 else
 bd2 (f_Mo_isTwo a3 h10) (fun (v14 : Int32) (h15 : HP) =>
 (if v14 = 0 then
 bd2 (f_Mo_no (-2) h15) (fun (v17 : Int64) (h18 : HP) =>
 some (v17, h18))
 else
 bd2 (f_Mo_chanceOf a1 a2 a3 h15) (fun (v19 : Int64) (h20 : HP) =>
 some (v19, h20))))))))
set_option maxRecDepth 20000 in
set_option maxHeartbeats 4000000 in
theorem m_Mo_chance (l : Launch) (g : GG) (ad : Nat → Nat) (a1 : Int32) (a2 : Int32) (a3 : Int32) (h0 : HP) : CM l g ad y_Mo_chance b_Mo_chance 4 (some .long) rm_Mo_chance [.ref (ad 34), .int a1, .int a2, .int a3] h0 enL (f_Mo_chance a1 a2 a3 h0) := by
  refine CM.of (by decide) (Nat.le_of_ble_eq_true rfl) (fun Q => ?_)
  show Jj _ _ (Vw (kx_Mo_chance l g Q) 0 0 0 _ _ _)
  refine J_sub [0, 1, 2, 3] (lv' := [(0, .ref (ad 34)), (1, .int a1), (2, .int a2), (3, .int a3)]) rfl ?_
  unfold f_Mo_chance
  refine J_iload_n 1 rfl d_Mo_chance_0 ?_
  refine J_iconst (v := 0) rfl d_Mo_chance_1 ?_
  refine J_bipush (v := 16) rfl d_Mo_chance_2 ?_
  refine J_callSi (m_Mo_in l g ad _ _ _ _) ok_Mo_in ws_Mo_in wk_Mo_115 ⟨rfl, rfl, Nat.le_of_ble_eq_true rfl, Nat.le_of_ble_eq_true rfl⟩ ⟨Nat.zero_le _, Nat.zero_le _⟩ (rest := []) rfl rfl (Nat.le_of_ble_eq_true rfl) d_Mo_chance_4 (fun v4 h5 => ?_)
  refine J_if_eq 35 rfl d_Mo_chance_7 (fun c6 => ?_) (fun c6 => ?_)
  · refine J_bipush (v := (-2)) rfl d_Mo_chance_35 ?_
    refine J_callSl (m_Mo_no l g ad _ _) ok_Mo_no ws_Mo_no wk_Mo_321 ⟨rfl, rfl, Nat.le_of_ble_eq_true rfl, Nat.le_of_ble_eq_true rfl⟩ ⟨Nat.zero_le _, Nat.zero_le _⟩ (rest := []) rfl rfl (Nat.le_of_ble_eq_true rfl) d_Mo_chance_37 (fun v7 h8 => ?_)
    exact J_lret (Nat.le_refl _) (Nat.le_refl _) d_Mo_chance_40 rfl (fun hx => hx)
  · refine J_aload_n 0 rfl d_Mo_chance_10 ?_
    refine J_iload_n 2 rfl d_Mo_chance_11 ?_
    refine J_callVi (m_Mo_isCamel l g ad _ _) ok_Mo_isCamel rc_34 wi_Mo_isCamel wl_Mo_Mo_isCamel wk_Mo_150 ⟨rfl, rfl, Nat.le_of_ble_eq_true rfl, Nat.le_of_ble_eq_true rfl⟩ ⟨Nat.zero_le _, Nat.zero_le _⟩ (rest := []) rfl rfl (Nat.le_of_ble_eq_true rfl) d_Mo_chance_12 (fun v9 h10 => ?_)
    refine J_if_eq 35 rfl d_Mo_chance_15 (fun c11 => ?_) (fun c11 => ?_)
    · refine J_bipush (v := (-2)) rfl d_Mo_chance_35 ?_
      refine J_callSl (m_Mo_no l g ad _ _) ok_Mo_no ws_Mo_no wk_Mo_321 ⟨rfl, rfl, Nat.le_of_ble_eq_true rfl, Nat.le_of_ble_eq_true rfl⟩ ⟨Nat.zero_le _, Nat.zero_le _⟩ (rest := []) rfl rfl (Nat.le_of_ble_eq_true rfl) d_Mo_chance_37 (fun v12 h13 => ?_)
      exact J_lret (Nat.le_refl _) (Nat.le_refl _) d_Mo_chance_40 rfl (fun hx => hx)
    · refine J_iload_n 3 rfl d_Mo_chance_18 ?_
      refine J_callSi (m_Mo_isTwo l g ad _ _) ok_Mo_isTwo ws_Mo_isTwo wk_Mo_153 ⟨rfl, rfl, Nat.le_of_ble_eq_true rfl, Nat.le_of_ble_eq_true rfl⟩ ⟨Nat.zero_le _, Nat.zero_le _⟩ (rest := []) rfl rfl (Nat.le_of_ble_eq_true rfl) d_Mo_chance_19 (fun v14 h15 => ?_)
      refine J_if_eq 35 rfl d_Mo_chance_22 (fun c16 => ?_) (fun c16 => ?_)
      · refine J_bipush (v := (-2)) rfl d_Mo_chance_35 ?_
        refine J_callSl (m_Mo_no l g ad _ _) ok_Mo_no ws_Mo_no wk_Mo_321 ⟨rfl, rfl, Nat.le_of_ble_eq_true rfl, Nat.le_of_ble_eq_true rfl⟩ ⟨Nat.zero_le _, Nat.zero_le _⟩ (rest := []) rfl rfl (Nat.le_of_ble_eq_true rfl) d_Mo_chance_37 (fun v17 h18 => ?_)
        exact J_lret (Nat.le_refl _) (Nat.le_refl _) d_Mo_chance_40 rfl (fun hx => hx)
      · refine J_aload_n 0 rfl d_Mo_chance_25 ?_
        refine J_iload_n 1 rfl d_Mo_chance_26 ?_
        refine J_iload_n 2 rfl d_Mo_chance_27 ?_
        refine J_iload_n 3 rfl d_Mo_chance_28 ?_
        refine J_callVl (m_Mo_chanceOf l g ad _ _ _ _) ok_Mo_chanceOf rc_34 wi_Mo_chanceOf wl_Mo_Mo_chanceOf wk_Mo_317 ⟨rfl, rfl, Nat.le_of_ble_eq_true rfl, Nat.le_of_ble_eq_true rfl⟩ ⟨Nat.zero_le _, Nat.zero_le _⟩ (rest := []) rfl rfl (Nat.le_of_ble_eq_true rfl) d_Mo_chance_29 (fun v19 h20 => ?_)
        refine J_goto 40 rfl d_Mo_chance_32 ?_
        exact J_lret (Nat.le_refl _) (Nat.le_refl _) d_Mo_chance_40 rfl (fun hx => hx)
def lp_Mo_yearsOf_26 (a1 : Int32) (a2 : Int32) (a3 : Int32) : Nat → Int32 → Int32 → HP → Option (Int32 × Int32 × HP)
 | 0, _, _, _ => none
 | fu + 1, v9, v10, h11 =>
 ltt (rI h11 34 12) (fun (v12 : Int32) =>
 (if v12 ≤ v9 then
 some (v9, v10, h11)
 else
 ltt ((1103515245 * v10) + 12345) (fun (v14 : Int32) =>
 ckk (inb v9 17) (ltt (wA h11 24 v9 (((Int32.toUInt32 v14 >>> (Int32.toUInt32 16 &&& Int32.toUInt32 31)).toInt32) - ((Int32.toUInt32 v14 >>> (Int32.toUInt32 16 &&& Int32.toUInt32 31)).toInt32) / 24 * 24)) (fun (h15 : HP) =>
 ltt ((1103515245 * v14) + 12345) (fun (v16 : Int32) =>
 ltt (rI h15 34 2) (fun (v17 : Int32) =>
 ckk (decide (¬ v17 = 0)) (ckk (inb v9 17) (ltt (wA h15 23 v9 (((Int32.toUInt32 v16 >>> (Int32.toUInt32 16 &&& Int32.toUInt32 31)).toInt32) - ((Int32.toUInt32 v16 >>> (Int32.toUInt32 16 &&& Int32.toUInt32 31)).toInt32) / v17 * v17)) (fun (h18 : HP) =>
 ltt (v9 + 1) (fun (v19 : Int32) =>
 lp_Mo_yearsOf_26 a1 a2 a3 fu v19 v16 h18)))))))))))
def f_Mo_yearsOf (a1 : Int32) (a2 : Int32) (a3 : Int32) (h0 : HP) : Option (Int32 × HP) :=
 bd1 (f_Mo_asTold h0) (fun (h4 : HP) =>
 ltt (rI h4 34 2) (fun (v5 : Int32) =>
 bd1 ((if v5 = 0 then
 some (0)
 else
 some (a2)) : Option (Int32)) (fun (v6 : Int32) =>
 ltt (sI h4 34 12 v6) (fun (h8 : HP) =>
 bd3 (lp_Mo_yearsOf_26 a1 a2 a3 400 0 a1 h8) (fun (v20 : Int32) (v21 : Int32) (h22 : HP) =>
 bd1 (f_Mo_runs h22) (fun (h23 : HP) =>
 (if a3 = 0 then
 bd2 (f_Mo_brokeAll h23) (fun (v27 : Int32) (h28 : HP) =>
 some (v27, h28))
 else
 bd2 (f_Mo_throughNow h23) (fun (v25 : Int32) (h26 : HP) =>
 some (v25, h26)))))))))
set_option maxRecDepth 20000 in
set_option maxHeartbeats 4000000 in
theorem mlp_Mo_yearsOf_26 (l : Launch) (g : GG) (ad : Nat → Nat) (Q : Option Value → va_W → Prop) (a1 : Int32) (a2 : Int32) (a3 : Int32) : ∀ (fu : Nat) (v9 : Int32) (v10 : Int32) (h11 : HP), Jj (fun q : Int32 × Int32 × HP => Vw (kx_Mo_yearsOf l g Q) 0 0 97 [(5, .int (q.1)), (4, .int (q.2.1)), (0, .ref (ad 34)), (1, .int a1), (2, .int a2), (3, .int a3)] [] (pic g ad q.2.2)) (lp_Mo_yearsOf_26 a1 a2 a3 fu v9 v10 h11) (Vw (kx_Mo_yearsOf l g Q) 0 0 26 [(5, .int v9), (4, .int v10), (0, .ref (ad 34)), (1, .int a1), (2, .int a2), (3, .int a3)] [] (pic g ad h11)) := by
  intro fu
  induction fu with
  | zero =>
    intro v9 v10 h11
    exact J_none
  | succ fu ih =>
    intro v9 v10 h11
    rw [lp_Mo_yearsOf_26]
    refine J_iload 0 rfl d_Mo_yearsOf_26 ?_
    refine J_aload_n 2 rfl d_Mo_yearsOf_28 ?_
    refine P_gI fo_Mo_183_34 rfl d_Mo_yearsOf_29 (fun v12 => ?_)
    refine J_icmp_ge 97 rfl d_Mo_yearsOf_32 (fun c13 => ?_) (fun c13 => ?_)
    · exact J_exit [0, 1, 2, 3, 4, 5] rfl (fun hx => hx)
    · refine J_ldcw (v := 1103515245) kc_Mo_325 d_Mo_yearsOf_35 ?_
      refine J_iload 1 rfl d_Mo_yearsOf_38 ?_
      refine J_imul d_Mo_yearsOf_40 ?_
      refine J_sipush (v := 12345) rfl d_Mo_yearsOf_41 ?_
      refine J_iadd d_Mo_yearsOf_44 ?_
      refine P_ist (lv' := fun v14 => [(4, .int v14), (5, .int v9), (0, .ref (ad 34)), (1, .int a1), (2, .int a2), (3, .int a3)]) (Nat.le_of_ble_eq_true rfl) (fun _ => rfl) d_Mo_yearsOf_45 (fun v14 => ?_)
      refine J_aload_n 2 rfl d_Mo_yearsOf_47 ?_
      refine J_getR fo_Mo_37_34 rfl d_Mo_yearsOf_48 ?_
      refine J_iload 1 rfl d_Mo_yearsOf_51 ?_
      refine J_iload 0 rfl d_Mo_yearsOf_53 ?_
      refine J_bipush (v := 16) rfl d_Mo_yearsOf_55 ?_
      refine J_iushr d_Mo_yearsOf_57 ?_
      refine J_bipush (v := 24) rfl d_Mo_yearsOf_58 ?_
      refine J_irem (by decide) d_Mo_yearsOf_60 ?_
      refine P_wa (by decide) rfl rfl d_Mo_yearsOf_61 (fun h15 => ?_)
      refine J_ldcw (v := 1103515245) kc_Mo_325 d_Mo_yearsOf_62 ?_
      refine J_iload 0 rfl d_Mo_yearsOf_65 ?_
      refine J_imul d_Mo_yearsOf_67 ?_
      refine J_sipush (v := 12345) rfl d_Mo_yearsOf_68 ?_
      refine J_iadd d_Mo_yearsOf_71 ?_
      refine P_ist (lv' := fun v16 => [(4, .int v16), (5, .int v9), (0, .ref (ad 34)), (1, .int a1), (2, .int a2), (3, .int a3)]) (Nat.le_of_ble_eq_true rfl) (fun _ => rfl) d_Mo_yearsOf_72 (fun v16 => ?_)
      refine J_aload_n 2 rfl d_Mo_yearsOf_74 ?_
      refine J_getR fo_Mo_40_34 rfl d_Mo_yearsOf_75 ?_
      refine J_iload 1 rfl d_Mo_yearsOf_78 ?_
      refine J_iload 0 rfl d_Mo_yearsOf_80 ?_
      refine J_bipush (v := 16) rfl d_Mo_yearsOf_82 ?_
      refine J_iushr d_Mo_yearsOf_84 ?_
      refine J_aload_n 2 rfl d_Mo_yearsOf_85 ?_
      refine P_gI fo_Mo_127_34 rfl d_Mo_yearsOf_86 (fun v17 => ?_)
      refine P_irem d_Mo_yearsOf_89 ?_
      refine P_wa (by decide) rfl rfl d_Mo_yearsOf_90 (fun h18 => ?_)
      refine P_inc (w := 1) (lv' := fun v19 => [(5, .int v19), (4, .int v16), (0, .ref (ad 34)), (1, .int a1), (2, .int a2), (3, .int a3)]) 1 rfl rfl (Nat.le_of_ble_eq_true rfl) (fun _ => rfl) d_Mo_yearsOf_91 (fun v19 => ?_)
      refine J_goto 26 rfl d_Mo_yearsOf_94 ?_
      exact J_sub [0, 1, 2, 3, 4, 5] rfl (ih _ _ _)
set_option maxRecDepth 20000 in
set_option maxHeartbeats 4000000 in
theorem m_Mo_yearsOf (l : Launch) (g : GG) (ad : Nat → Nat) (a1 : Int32) (a2 : Int32) (a3 : Int32) (h0 : HP) : CM l g ad y_Mo_yearsOf b_Mo_yearsOf 6 (some .int) rm_Mo_yearsOf [.ref (ad 34), .int a1, .int a2, .int a3] h0 enI (f_Mo_yearsOf a1 a2 a3 h0) := by
  refine CM.of (by decide) (Nat.le_of_ble_eq_true rfl) (fun Q => ?_)
  show Jj _ _ (Vw (kx_Mo_yearsOf l g Q) 0 0 0 _ _ _)
  refine J_sub [0, 1, 2, 3] (lv' := [(0, .ref (ad 34)), (1, .int a1), (2, .int a2), (3, .int a3)]) rfl ?_
  unfold f_Mo_yearsOf
  refine J_aload_n 0 rfl d_Mo_yearsOf_0 ?_
  refine J_callVv (m_Mo_asTold l g ad _) ok_Mo_asTold rc_34 wi_Mo_asTold wl_Mo_Mo_asTold wk_Mo_235 ⟨rfl, rfl, Nat.le_of_ble_eq_true rfl, Nat.le_of_ble_eq_true rfl⟩ ⟨Nat.zero_le _, Nat.zero_le _⟩ (rest := []) rfl rfl (Nat.le_of_ble_eq_true rfl) d_Mo_yearsOf_1 (fun h4 => ?_)
  refine J_iload_n 1 rfl d_Mo_yearsOf_4 ?_
  refine J_istore (lv' := [(4, .int a1), (0, .ref (ad 34)), (1, .int a1), (2, .int a2), (3, .int a3)]) (Nat.le_of_ble_eq_true rfl) rfl d_Mo_yearsOf_5 ?_
  refine J_aload_n 1 rfl d_Mo_yearsOf_7 ?_
  refine J_aload_n 1 rfl d_Mo_yearsOf_8 ?_
  refine P_gI fo_Mo_127_34 rfl d_Mo_yearsOf_9 (fun v5 => ?_)
  refine J_bd1 (fun (v6 : Int32) => Vw (kx_Mo_yearsOf l g Q) 0 0 20 [(4, .int a1), (0, .ref (ad 34)), (1, .int a1), (2, .int a2), (3, .int a3)] [.int v6, .ref (ad 34)] (pic g ad h4)) ?_ (fun v6 => ?_)
  · refine J_if_ne 19 rfl d_Mo_yearsOf_12 (fun c7 => ?_) (fun c7 => ?_)
    · refine J_iload_n 3 rfl d_Mo_yearsOf_19 ?_
      exact J_exit [0, 1, 2, 3, 4] rfl (fun hx => hx)
    · refine J_iconst (v := 0) rfl d_Mo_yearsOf_15 ?_
      refine J_goto 20 rfl d_Mo_yearsOf_16 ?_
      exact J_exit [0, 1, 2, 3, 4] rfl (fun hx => hx)
  · refine P_wI fo_Mo_183_34 rfl d_Mo_yearsOf_20 (fun h8 => ?_)
    refine J_iconst (v := 0) rfl d_Mo_yearsOf_23 ?_
    refine J_istore (lv' := [(5, .int 0), (4, .int a1), (0, .ref (ad 34)), (1, .int a1), (2, .int a2), (3, .int a3)]) (Nat.le_of_ble_eq_true rfl) rfl d_Mo_yearsOf_24 ?_
    refine J_bd3 (fun (v20 : Int32) (v21 : Int32) (h22 : HP) => Vw (kx_Mo_yearsOf l g Q) 0 0 97 [(5, .int v20), (4, .int v21), (0, .ref (ad 34)), (1, .int a1), (2, .int a2), (3, .int a3)] [] (pic g ad h22)) ?_ (fun v20 v21 h22 => ?_)
    · exact J_sub [0, 1, 2, 3, 4, 5] rfl (mlp_Mo_yearsOf_26 l g ad Q a1 a2 a3 400 _ _ _)
    · refine J_aload_n 2 rfl d_Mo_yearsOf_97 ?_
      refine J_callVv (m_Mo_runs l g ad _) ok_Mo_runs rc_34 wi_Mo_runs wl_Mo_Mo_runs wk_Mo_238 ⟨rfl, rfl, Nat.le_of_ble_eq_true rfl, Nat.le_of_ble_eq_true rfl⟩ ⟨Nat.zero_le _, Nat.zero_le _⟩ (rest := []) rfl rfl (Nat.le_of_ble_eq_true rfl) d_Mo_yearsOf_98 (fun h23 => ?_)
      refine J_iload_n 5 rfl d_Mo_yearsOf_101 ?_
      refine J_if_ne 112 rfl d_Mo_yearsOf_102 (fun c24 => ?_) (fun c24 => ?_)
      · refine J_aload_n 2 rfl d_Mo_yearsOf_112 ?_
        refine J_callVi (m_Mo_throughNow l g ad _) ok_Mo_throughNow rc_34 wi_Mo_throughNow wl_Mo_Mo_throughNow wk_Mo_248 ⟨rfl, rfl, Nat.le_of_ble_eq_true rfl, Nat.le_of_ble_eq_true rfl⟩ ⟨Nat.zero_le _, Nat.zero_le _⟩ (rest := []) rfl rfl (Nat.le_of_ble_eq_true rfl) d_Mo_yearsOf_113 (fun v25 h26 => ?_)
        exact J_iret (Nat.le_refl _) (Nat.le_refl _) d_Mo_yearsOf_116 rfl (fun hx => hx)
      · refine J_aload_n 2 rfl d_Mo_yearsOf_105 ?_
        refine J_callVi (m_Mo_brokeAll l g ad _) ok_Mo_brokeAll rc_34 wi_Mo_brokeAll wl_Mo_Mo_brokeAll wk_Mo_282 ⟨rfl, rfl, Nat.le_of_ble_eq_true rfl, Nat.le_of_ble_eq_true rfl⟩ ⟨Nat.zero_le _, Nat.zero_le _⟩ (rest := []) rfl rfl (Nat.le_of_ble_eq_true rfl) d_Mo_yearsOf_106 (fun v27 h28 => ?_)
        refine J_goto 116 rfl d_Mo_yearsOf_109 ?_
        exact J_iret (Nat.le_refl _) (Nat.le_refl _) d_Mo_yearsOf_116 rfl (fun hx => hx)
def f_Mo_years (a1 : Int32) (a2 : Int32) (a3 : Int32) (h0 : HP) : Option (Int32 × HP) :=
 bd2 (f_Mo_in a2 0 8 h0) (fun (v4 : Int32) (h5 : HP) =>
 (if v4 = 0 then
 some ((-2), h5)
 else
 bd2 (f_Mo_isTwo a3 h5) (fun (v7 : Int32) (h8 : HP) =>
 (if v7 = 0 then
 some ((-2), h8)
 else
 bd2 (f_Mo_yearsOf a1 a2 a3 h8) (fun (v10 : Int32) (h11 : HP) =>
 some (v10, h11))))))
set_option maxRecDepth 20000 in
set_option maxHeartbeats 4000000 in
theorem m_Mo_years (l : Launch) (g : GG) (ad : Nat → Nat) (a1 : Int32) (a2 : Int32) (a3 : Int32) (h0 : HP) : CM l g ad y_Mo_years b_Mo_years 4 (some .int) rm_Mo_years [.ref (ad 34), .int a1, .int a2, .int a3] h0 enI (f_Mo_years a1 a2 a3 h0) := by
  refine CM.of (by decide) (Nat.le_of_ble_eq_true rfl) (fun Q => ?_)
  show Jj _ _ (Vw (kx_Mo_years l g Q) 0 0 0 _ _ _)
  refine J_sub [0, 1, 2, 3] (lv' := [(0, .ref (ad 34)), (1, .int a1), (2, .int a2), (3, .int a3)]) rfl ?_
  unfold f_Mo_years
  refine J_iload_n 2 rfl d_Mo_years_0 ?_
  refine J_iconst (v := 0) rfl d_Mo_years_1 ?_
  refine J_bipush (v := 8) rfl d_Mo_years_2 ?_
  refine J_callSi (m_Mo_in l g ad _ _ _ _) ok_Mo_in ws_Mo_in wk_Mo_115 ⟨rfl, rfl, Nat.le_of_ble_eq_true rfl, Nat.le_of_ble_eq_true rfl⟩ ⟨Nat.zero_le _, Nat.zero_le _⟩ (rest := []) rfl rfl (Nat.le_of_ble_eq_true rfl) d_Mo_years_4 (fun v4 h5 => ?_)
  refine J_if_eq 27 rfl d_Mo_years_7 (fun c6 => ?_) (fun c6 => ?_)
  · refine J_bipush (v := (-2)) rfl d_Mo_years_27 ?_
    exact J_iret (Nat.le_refl _) (Nat.le_refl _) d_Mo_years_29 rfl (fun hx => hx)
  · refine J_iload_n 3 rfl d_Mo_years_10 ?_
    refine J_callSi (m_Mo_isTwo l g ad _ _) ok_Mo_isTwo ws_Mo_isTwo wk_Mo_153 ⟨rfl, rfl, Nat.le_of_ble_eq_true rfl, Nat.le_of_ble_eq_true rfl⟩ ⟨Nat.zero_le _, Nat.zero_le _⟩ (rest := []) rfl rfl (Nat.le_of_ble_eq_true rfl) d_Mo_years_11 (fun v7 h8 => ?_)
    refine J_if_eq 27 rfl d_Mo_years_14 (fun c9 => ?_) (fun c9 => ?_)
    · refine J_bipush (v := (-2)) rfl d_Mo_years_27 ?_
      exact J_iret (Nat.le_refl _) (Nat.le_refl _) d_Mo_years_29 rfl (fun hx => hx)
    · refine J_aload_n 0 rfl d_Mo_years_17 ?_
      refine J_iload_n 1 rfl d_Mo_years_18 ?_
      refine J_iload_n 2 rfl d_Mo_years_19 ?_
      refine J_iload_n 3 rfl d_Mo_years_20 ?_
      refine J_callVi (m_Mo_yearsOf l g ad _ _ _ _) ok_Mo_yearsOf rc_34 wi_Mo_yearsOf wl_Mo_Mo_yearsOf wk_Mo_326 ⟨rfl, rfl, Nat.le_of_ble_eq_true rfl, Nat.le_of_ble_eq_true rfl⟩ ⟨Nat.zero_le _, Nat.zero_le _⟩ (rest := []) rfl rfl (Nat.le_of_ble_eq_true rfl) d_Mo_years_21 (fun v10 h11 => ?_)
      refine J_goto 29 rfl d_Mo_years_24 ?_
      exact J_iret (Nat.le_refl _) (Nat.le_refl _) d_Mo_years_29 rfl (fun hx => hx)
def lp_Mo_sheet_59 (a1 : Int32) (a2 : Int32) (a3 : Int32) : Nat → Int32 → HP → Option (Int32 × HP)
 | 0, _, _ => none
 | fu + 1, v15, h16 =>
 (if 60 ≤ v15 then
 some (v15, h16)
 else
 ckk (inb ((60 * a1) + v15) 240) (ltt (wA h16 1 ((60 * a1) + v15) 0) (fun (h18 : HP) =>
 ltt (v15 + 1) (fun (v19 : Int32) =>
 lp_Mo_sheet_59 a1 a2 a3 fu v19 h18))))
def f_Mo_sheet (a1 : Int32) (a2 : Int32) (a3 : Int32) (h0 : HP) : Option (Int32 × HP) :=
 bd2 (f_Mo_isSheet a1 h0) (fun (v4 : Int32) (h5 : HP) =>
 (if v4 = 0 then
 some ((-2), h5)
 else
 bd2 (f_Mo_in a2 0 2 h5) (fun (v7 : Int32) (h8 : HP) =>
 (if v7 = 0 then
 some ((-2), h8)
 else
 (if a3 ≤ 60 then
 (if 0 ≤ a3 then
 ckk (inb a1 4) (ltt (wA h8 4 a1 1) (fun (h12 : HP) =>
 ckk (inb a1 4) (ltt (wA h12 3 a1 a2) (fun (h13 : HP) =>
 ckk (inb a1 4) (ltt (wA h13 2 a1 a3) (fun (h14 : HP) =>
 bd2 (lp_Mo_sheet_59 a1 a2 a3 400 0 h14) (fun (v20 : Int32) (h21 : HP) =>
 some (a3, h21))))))))
 else
 bd2 (f_Mo_meets 5 h8) (fun (v22 : Int32) (h23 : HP) =>
 some (v22, h23)))
 else
 some ((-2), h8))))))
set_option maxRecDepth 20000 in
set_option maxHeartbeats 4000000 in
theorem mlp_Mo_sheet_59 (l : Launch) (g : GG) (ad : Nat → Nat) (Q : Option Value → va_W → Prop) (a1 : Int32) (a2 : Int32) (a3 : Int32) : ∀ (fu : Nat) (v15 : Int32) (h16 : HP), Jj (fun q : Int32 × HP => Vw (kx_Mo_sheet l g Q) 0 0 85 [(4, .int (q.1)), (0, .ref (ad 34)), (1, .int a1), (2, .int a2), (3, .int a3)] [] (pic g ad q.2)) (lp_Mo_sheet_59 a1 a2 a3 fu v15 h16) (Vw (kx_Mo_sheet l g Q) 0 0 59 [(4, .int v15), (0, .ref (ad 34)), (1, .int a1), (2, .int a2), (3, .int a3)] [] (pic g ad h16)) := by
  intro fu
  induction fu with
  | zero =>
    intro v15 h16
    exact J_none
  | succ fu ih =>
    intro v15 h16
    rw [lp_Mo_sheet_59]
    refine J_iload 0 rfl d_Mo_sheet_59 ?_
    refine J_bipush (v := 60) rfl d_Mo_sheet_61 ?_
    refine J_icmp_ge 85 rfl d_Mo_sheet_63 (fun c17 => ?_) (fun c17 => ?_)
    · exact J_exit [0, 1, 2, 3, 4] rfl (fun hx => hx)
    · refine J_aload_n 1 rfl d_Mo_sheet_66 ?_
      refine J_getR fo_Mo_107_34 rfl d_Mo_sheet_67 ?_
      refine J_bipush (v := 60) rfl d_Mo_sheet_70 ?_
      refine J_iload_n 2 rfl d_Mo_sheet_72 ?_
      refine J_imul d_Mo_sheet_73 ?_
      refine J_iload 0 rfl d_Mo_sheet_74 ?_
      refine J_iadd d_Mo_sheet_76 ?_
      refine J_iconst (v := 0) rfl d_Mo_sheet_77 ?_
      refine P_wa (by decide) rfl rfl d_Mo_sheet_78 (fun h18 => ?_)
      refine P_inc (w := 1) (lv' := fun v19 => [(4, .int v19), (0, .ref (ad 34)), (1, .int a1), (2, .int a2), (3, .int a3)]) 0 rfl rfl (Nat.le_of_ble_eq_true rfl) (fun _ => rfl) d_Mo_sheet_79 (fun v19 => ?_)
      refine J_goto 59 rfl d_Mo_sheet_82 ?_
      exact J_sub [0, 1, 2, 3, 4] rfl (ih _ _)
set_option maxRecDepth 20000 in
set_option maxHeartbeats 4000000 in
theorem m_Mo_sheet (l : Launch) (g : GG) (ad : Nat → Nat) (a1 : Int32) (a2 : Int32) (a3 : Int32) (h0 : HP) : CM l g ad y_Mo_sheet b_Mo_sheet 5 (some .int) rm_Mo_sheet [.ref (ad 34), .int a1, .int a2, .int a3] h0 enI (f_Mo_sheet a1 a2 a3 h0) := by
  refine CM.of (by decide) (Nat.le_of_ble_eq_true rfl) (fun Q => ?_)
  show Jj _ _ (Vw (kx_Mo_sheet l g Q) 0 0 0 _ _ _)
  refine J_sub [0, 1, 2, 3] (lv' := [(0, .ref (ad 34)), (1, .int a1), (2, .int a2), (3, .int a3)]) rfl ?_
  unfold f_Mo_sheet
  refine J_iload_n 1 rfl d_Mo_sheet_0 ?_
  refine J_callSi (m_Mo_isSheet l g ad _ _) ok_Mo_isSheet ws_Mo_isSheet wk_Mo_174 ⟨rfl, rfl, Nat.le_of_ble_eq_true rfl, Nat.le_of_ble_eq_true rfl⟩ ⟨Nat.zero_le _, Nat.zero_le _⟩ (rest := []) rfl rfl (Nat.le_of_ble_eq_true rfl) d_Mo_sheet_1 (fun v4 h5 => ?_)
  refine J_if_eq 22 rfl d_Mo_sheet_4 (fun c6 => ?_) (fun c6 => ?_)
  · refine J_bipush (v := (-2)) rfl d_Mo_sheet_22 ?_
    exact J_iret (Nat.le_refl _) (Nat.le_refl _) d_Mo_sheet_24 rfl (fun hx => hx)
  · refine J_iload_n 2 rfl d_Mo_sheet_7 ?_
    refine J_iconst (v := 0) rfl d_Mo_sheet_8 ?_
    refine J_iconst (v := 2) rfl d_Mo_sheet_9 ?_
    refine J_callSi (m_Mo_in l g ad _ _ _ _) ok_Mo_in ws_Mo_in wk_Mo_115 ⟨rfl, rfl, Nat.le_of_ble_eq_true rfl, Nat.le_of_ble_eq_true rfl⟩ ⟨Nat.zero_le _, Nat.zero_le _⟩ (rest := []) rfl rfl (Nat.le_of_ble_eq_true rfl) d_Mo_sheet_10 (fun v7 h8 => ?_)
    refine J_if_eq 22 rfl d_Mo_sheet_13 (fun c9 => ?_) (fun c9 => ?_)
    · refine J_bipush (v := (-2)) rfl d_Mo_sheet_22 ?_
      exact J_iret (Nat.le_refl _) (Nat.le_refl _) d_Mo_sheet_24 rfl (fun hx => hx)
    · refine J_iload_n 3 rfl d_Mo_sheet_16 ?_
      refine J_bipush (v := 60) rfl d_Mo_sheet_17 ?_
      refine J_icmp_le 25 rfl d_Mo_sheet_19 (fun c10 => ?_) (fun c10 => ?_)
      · refine J_iload_n 3 rfl d_Mo_sheet_25 ?_
        refine J_if_ge 35 rfl d_Mo_sheet_26 (fun c11 => ?_) (fun c11 => ?_)
        · refine J_aload_n 0 rfl d_Mo_sheet_35 ?_
          refine J_getR fo_Mo_97_34 rfl d_Mo_sheet_36 ?_
          refine J_iload_n 1 rfl d_Mo_sheet_39 ?_
          refine J_iconst (v := 1) rfl d_Mo_sheet_40 ?_
          refine P_wza (by decide) (by decide) rfl rfl d_Mo_sheet_41 (fun h12 => ?_)
          refine J_aload_n 0 rfl d_Mo_sheet_42 ?_
          refine J_getR fo_Mo_101_34 rfl d_Mo_sheet_43 ?_
          refine J_iload_n 1 rfl d_Mo_sheet_46 ?_
          refine J_iload_n 2 rfl d_Mo_sheet_47 ?_
          refine P_wa (by decide) rfl rfl d_Mo_sheet_48 (fun h13 => ?_)
          refine J_aload_n 0 rfl d_Mo_sheet_49 ?_
          refine J_getR fo_Mo_104_34 rfl d_Mo_sheet_50 ?_
          refine J_iload_n 1 rfl d_Mo_sheet_53 ?_
          refine J_iload_n 3 rfl d_Mo_sheet_54 ?_
          refine P_wa (by decide) rfl rfl d_Mo_sheet_55 (fun h14 => ?_)
          refine J_iconst (v := 0) rfl d_Mo_sheet_56 ?_
          refine J_istore (lv' := [(4, .int 0), (0, .ref (ad 34)), (1, .int a1), (2, .int a2), (3, .int a3)]) (Nat.le_of_ble_eq_true rfl) rfl d_Mo_sheet_57 ?_
          refine J_bd2 (fun (v20 : Int32) (h21 : HP) => Vw (kx_Mo_sheet l g Q) 0 0 85 [(4, .int v20), (0, .ref (ad 34)), (1, .int a1), (2, .int a2), (3, .int a3)] [] (pic g ad h21)) ?_ (fun v20 h21 => ?_)
          · exact J_sub [0, 1, 2, 3, 4] rfl (mlp_Mo_sheet_59 l g ad Q a1 a2 a3 400 _ _)
          · refine J_iload_n 4 rfl d_Mo_sheet_85 ?_
            exact J_iret (Nat.le_refl _) (Nat.le_refl _) d_Mo_sheet_86 rfl (fun hx => hx)
        · refine J_aload_n 0 rfl d_Mo_sheet_29 ?_
          refine J_iconst (v := 5) rfl d_Mo_sheet_30 ?_
          refine J_callVi (m_Mo_meets l g ad _ _) ok_Mo_meets rc_34 wi_Mo_meets wl_Mo_Mo_meets wk_Mo_177 ⟨rfl, rfl, Nat.le_of_ble_eq_true rfl, Nat.le_of_ble_eq_true rfl⟩ ⟨Nat.zero_le _, Nat.zero_le _⟩ (rest := []) rfl rfl (Nat.le_of_ble_eq_true rfl) d_Mo_sheet_31 (fun v22 h23 => ?_)
          exact J_iret (Nat.le_refl _) (Nat.le_refl _) d_Mo_sheet_34 rfl (fun hx => hx)
      · refine J_bipush (v := (-2)) rfl d_Mo_sheet_22 ?_
        exact J_iret (Nat.le_refl _) (Nat.le_refl _) d_Mo_sheet_24 rfl (fun hx => hx)
def f_Mo_lose (a1 : Int32) (h0 : HP) : Option (Int32 × HP) :=
 bd2 (f_Mo_isSheet a1 h0) (fun (v2 : Int32) (h3 : HP) =>
 (if v2 = 0 then
 some ((-2), h3)
 else
 ckk (inb a1 4) (ltt (rA h3 4 a1) (fun (v5 : Int32) =>
 (if v5 = 0 then
 bd2 (f_Mo_meets 1 h3) (fun (v9 : Int32) (h10 : HP) =>
 some (v9, h10))
 else
 ckk (inb a1 4) (ltt (wA h3 4 a1 0) (fun (h7 : HP) =>
 ckk (inb a1 4) (ltt (rA h7 2 a1) (fun (v8 : Int32) =>
 some (v8, h7))))))))))
set_option maxRecDepth 20000 in
set_option maxHeartbeats 4000000 in
theorem m_Mo_lose (l : Launch) (g : GG) (ad : Nat → Nat) (a1 : Int32) (h0 : HP) : CM l g ad y_Mo_lose b_Mo_lose 2 (some .int) rm_Mo_lose [.ref (ad 34), .int a1] h0 enI (f_Mo_lose a1 h0) := by
  refine CM.of (by decide) (Nat.le_of_ble_eq_true rfl) (fun Q => ?_)
  show Jj _ _ (Vw (kx_Mo_lose l g Q) 0 0 0 _ _ _)
  refine J_sub [0, 1] (lv' := [(0, .ref (ad 34)), (1, .int a1)]) rfl ?_
  unfold f_Mo_lose
  refine J_iload_n 1 rfl d_Mo_lose_0 ?_
  refine J_callSi (m_Mo_isSheet l g ad _ _) ok_Mo_isSheet ws_Mo_isSheet wk_Mo_174 ⟨rfl, rfl, Nat.le_of_ble_eq_true rfl, Nat.le_of_ble_eq_true rfl⟩ ⟨Nat.zero_le _, Nat.zero_le _⟩ (rest := []) rfl rfl (Nat.le_of_ble_eq_true rfl) d_Mo_lose_1 (fun v2 h3 => ?_)
  refine J_if_ne 10 rfl d_Mo_lose_4 (fun c4 => ?_) (fun c4 => ?_)
  · refine J_aload_n 0 rfl d_Mo_lose_10 ?_
    refine J_getR fo_Mo_97_34 rfl d_Mo_lose_11 ?_
    refine J_iload_n 1 rfl d_Mo_lose_14 ?_
    refine P_za (by decide) rfl rfl d_Mo_lose_15 (fun v5 => ?_)
    refine J_if_ne 25 rfl d_Mo_lose_16 (fun c6 => ?_) (fun c6 => ?_)
    · refine J_aload_n 0 rfl d_Mo_lose_25 ?_
      refine J_getR fo_Mo_97_34 rfl d_Mo_lose_26 ?_
      refine J_iload_n 1 rfl d_Mo_lose_29 ?_
      refine J_iconst (v := 0) rfl d_Mo_lose_30 ?_
      refine P_wza (by decide) (by decide) rfl rfl d_Mo_lose_31 (fun h7 => ?_)
      refine J_aload_n 0 rfl d_Mo_lose_32 ?_
      refine J_getR fo_Mo_104_34 rfl d_Mo_lose_33 ?_
      refine J_iload_n 1 rfl d_Mo_lose_36 ?_
      refine P_ia (by decide) rfl rfl d_Mo_lose_37 (fun v8 => ?_)
      exact J_iret (Nat.le_refl _) (Nat.le_refl _) d_Mo_lose_38 rfl (fun hx => hx)
    · refine J_aload_n 0 rfl d_Mo_lose_19 ?_
      refine J_iconst (v := 1) rfl d_Mo_lose_20 ?_
      refine J_callVi (m_Mo_meets l g ad _ _) ok_Mo_meets rc_34 wi_Mo_meets wl_Mo_Mo_meets wk_Mo_177 ⟨rfl, rfl, Nat.le_of_ble_eq_true rfl, Nat.le_of_ble_eq_true rfl⟩ ⟨Nat.zero_le _, Nat.zero_le _⟩ (rest := []) rfl rfl (Nat.le_of_ble_eq_true rfl) d_Mo_lose_21 (fun v9 h10 => ?_)
      exact J_iret (Nat.le_refl _) (Nat.le_refl _) d_Mo_lose_24 rfl (fun hx => hx)
  · refine J_bipush (v := (-2)) rfl d_Mo_lose_7 ?_
    exact J_iret (Nat.le_refl _) (Nat.le_refl _) d_Mo_lose_9 rfl (fun hx => hx)
def f_Mo_lacks (a1 : Int32) (a2 : Int32) (a3 : Int32) (h0 : HP) : Option (Int32 × HP) :=
 ckk (inb a1 4) (ltt (rA h0 4 a1) (fun (v4 : Int32) =>
 (if v4 = 0 then
 some (1, h0)
 else
 ckk (inb a1 4) (ltt (rA h0 3 a1) (fun (v6 : Int32) =>
 (if v6 = a2 then
 ckk (inb a1 4) (ltt (rA h0 2 a1) (fun (v8 : Int32) =>
 bd2 (f_Mo_in a3 0 (v8 - 1) h0) (fun (v9 : Int32) (h10 : HP) =>
 (if v9 = 0 then
 some (2, h10)
 else
 some (0, h10)))))
 else
 some (3, h0)))))))
set_option maxRecDepth 20000 in
set_option maxHeartbeats 4000000 in
theorem m_Mo_lacks (l : Launch) (g : GG) (ad : Nat → Nat) (a1 : Int32) (a2 : Int32) (a3 : Int32) (h0 : HP) : CM l g ad y_Mo_lacks b_Mo_lacks 4 (some .int) rm_Mo_lacks [.ref (ad 34), .int a1, .int a2, .int a3] h0 enI (f_Mo_lacks a1 a2 a3 h0) := by
  refine CM.of (by decide) (Nat.le_of_ble_eq_true rfl) (fun Q => ?_)
  show Jj _ _ (Vw (kx_Mo_lacks l g Q) 0 0 0 _ _ _)
  refine J_sub [0, 1, 2, 3] (lv' := [(0, .ref (ad 34)), (1, .int a1), (2, .int a2), (3, .int a3)]) rfl ?_
  unfold f_Mo_lacks
  refine J_aload_n 0 rfl d_Mo_lacks_0 ?_
  refine J_getR fo_Mo_97_34 rfl d_Mo_lacks_1 ?_
  refine J_iload_n 1 rfl d_Mo_lacks_4 ?_
  refine P_za (by decide) rfl rfl d_Mo_lacks_5 (fun v4 => ?_)
  refine J_if_ne 13 rfl d_Mo_lacks_6 (fun c5 => ?_) (fun c5 => ?_)
  · refine J_aload_n 0 rfl d_Mo_lacks_13 ?_
    refine J_getR fo_Mo_101_34 rfl d_Mo_lacks_14 ?_
    refine J_iload_n 1 rfl d_Mo_lacks_17 ?_
    refine P_ia (by decide) rfl rfl d_Mo_lacks_18 (fun v6 => ?_)
    refine J_iload_n 2 rfl d_Mo_lacks_19 ?_
    refine J_icmp_eq 27 rfl d_Mo_lacks_20 (fun c7 => ?_) (fun c7 => ?_)
    · refine J_iload_n 3 rfl d_Mo_lacks_27 ?_
      refine J_iconst (v := 0) rfl d_Mo_lacks_28 ?_
      refine J_aload_n 0 rfl d_Mo_lacks_29 ?_
      refine J_getR fo_Mo_104_34 rfl d_Mo_lacks_30 ?_
      refine J_iload_n 1 rfl d_Mo_lacks_33 ?_
      refine P_ia (by decide) rfl rfl d_Mo_lacks_34 (fun v8 => ?_)
      refine J_iconst (v := 1) rfl d_Mo_lacks_35 ?_
      refine J_isub d_Mo_lacks_36 ?_
      refine J_callSi (m_Mo_in l g ad _ _ _ _) ok_Mo_in ws_Mo_in wk_Mo_115 ⟨rfl, rfl, Nat.le_of_ble_eq_true rfl, Nat.le_of_ble_eq_true rfl⟩ ⟨Nat.zero_le _, Nat.zero_le _⟩ (rest := []) rfl rfl (Nat.le_of_ble_eq_true rfl) d_Mo_lacks_37 (fun v9 h10 => ?_)
      refine J_if_eq 47 rfl d_Mo_lacks_40 (fun c11 => ?_) (fun c11 => ?_)
      · refine J_iconst (v := 2) rfl d_Mo_lacks_47 ?_
        exact J_iret (Nat.le_refl _) (Nat.le_refl _) d_Mo_lacks_48 rfl (fun hx => hx)
      · refine J_iconst (v := 0) rfl d_Mo_lacks_43 ?_
        refine J_goto 48 rfl d_Mo_lacks_44 ?_
        exact J_iret (Nat.le_refl _) (Nat.le_refl _) d_Mo_lacks_48 rfl (fun hx => hx)
    · refine J_iconst (v := 3) rfl d_Mo_lacks_23 ?_
      refine J_goto 48 rfl d_Mo_lacks_24 ?_
      exact J_iret (Nat.le_refl _) (Nat.le_refl _) d_Mo_lacks_48 rfl (fun hx => hx)
  · refine J_iconst (v := 1) rfl d_Mo_lacks_9 ?_
    refine J_goto 48 rfl d_Mo_lacks_10 ?_
    exact J_iret (Nat.le_refl _) (Nat.le_refl _) d_Mo_lacks_48 rfl (fun hx => hx)
def f_Mo_keep (a1 : Int32) (a2 : Int32) (a3 : Int32) (h0 : HP) : Option (HP) :=
 ckk (inb a1 4) (ltt (rA h0 3 a1) (fun (v4 : Int32) =>
 bd1 ((if v4 = 0 then
 some ((Int32.toInt8 a3).toInt32)
 else
 ckk (inb a1 4) (ltt (rA h0 3 a1) (fun (v7 : Int32) =>
 (if v7 = 1 then
 some ((Int32.toInt16 a3).toInt32)
 else
 some (a3))))) : Option (Int32)) (fun (v5 : Int32) =>
 ckk (inb ((60 * a1) + a2) 240) (ltt (wA h0 1 ((60 * a1) + a2) v5) (fun (h9 : HP) =>
 some h9)))))
set_option maxRecDepth 20000 in
set_option maxHeartbeats 4000000 in
theorem m_Mo_keep (l : Launch) (g : GG) (ad : Nat → Nat) (a1 : Int32) (a2 : Int32) (a3 : Int32) (h0 : HP) : CM l g ad y_Mo_keep b_Mo_keep 4 none rm_Mo_keep [.ref (ad 34), .int a1, .int a2, .int a3] h0 enV (f_Mo_keep a1 a2 a3 h0) := by
  refine CM.of (by decide) (Nat.le_of_ble_eq_true rfl) (fun Q => ?_)
  show Jj _ _ (Vw (kx_Mo_keep l g Q) 0 0 0 _ _ _)
  refine J_sub [0, 1, 2, 3] (lv' := [(0, .ref (ad 34)), (1, .int a1), (2, .int a2), (3, .int a3)]) rfl ?_
  unfold f_Mo_keep
  refine J_aload_n 0 rfl d_Mo_keep_0 ?_
  refine J_getR fo_Mo_107_34 rfl d_Mo_keep_1 ?_
  refine J_bipush (v := 60) rfl d_Mo_keep_4 ?_
  refine J_iload_n 1 rfl d_Mo_keep_6 ?_
  refine J_imul d_Mo_keep_7 ?_
  refine J_iload_n 2 rfl d_Mo_keep_8 ?_
  refine J_iadd d_Mo_keep_9 ?_
  refine J_aload_n 0 rfl d_Mo_keep_10 ?_
  refine J_getR fo_Mo_101_34 rfl d_Mo_keep_11 ?_
  refine J_iload_n 1 rfl d_Mo_keep_14 ?_
  refine P_ia (by decide) rfl rfl d_Mo_keep_15 (fun v4 => ?_)
  refine J_bd1 (fun (v5 : Int32) => Vw (kx_Mo_keep l g Q) 0 0 40 [(0, .ref (ad 34)), (1, .int a1), (2, .int a2), (3, .int a3)] [.int v5, .int ((60 * a1) + a2), .ref (ad 1)] (pic g ad h0)) ?_ (fun v5 => ?_)
  · refine J_if_ne 24 rfl d_Mo_keep_16 (fun c6 => ?_) (fun c6 => ?_)
    · refine J_aload_n 0 rfl d_Mo_keep_24 ?_
      refine J_getR fo_Mo_101_34 rfl d_Mo_keep_25 ?_
      refine J_iload_n 1 rfl d_Mo_keep_28 ?_
      refine P_ia (by decide) rfl rfl d_Mo_keep_29 (fun v7 => ?_)
      refine J_iconst (v := 1) rfl d_Mo_keep_30 ?_
      refine J_icmp_ne 39 rfl d_Mo_keep_31 (fun c8 => ?_) (fun c8 => ?_)
      · refine J_iload_n 3 rfl d_Mo_keep_39 ?_
        exact J_exit [0, 1, 2, 3] rfl (fun hx => hx)
      · refine J_iload_n 3 rfl d_Mo_keep_34 ?_
        refine J_i2s d_Mo_keep_35 ?_
        refine J_goto 40 rfl d_Mo_keep_36 ?_
        exact J_exit [0, 1, 2, 3] rfl (fun hx => hx)
    · refine J_iload_n 3 rfl d_Mo_keep_19 ?_
      refine J_i2b d_Mo_keep_20 ?_
      refine J_goto 40 rfl d_Mo_keep_21 ?_
      exact J_exit [0, 1, 2, 3] rfl (fun hx => hx)
  · refine P_wa (by decide) rfl rfl d_Mo_keep_40 (fun h9 => ?_)
    exact J_vret (Nat.le_refl _) (Nat.le_refl _) d_Mo_keep_41 rfl (fun hx => hx)
