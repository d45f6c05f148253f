def lp_CS_mixBale_6 (a1 : Int64) (a2 : Int32) : Nat → Int32 → Int64 → HP → Option (Int32 × Int64 × HP)
 | 0, _, _, _ => none
 | fu + 1, v3, v4, h5 =>
 (if 3 ≤ v3 then
 some (v3, v4, h5)
 else
 bd2 (f_CS_bale a2 v3 h5) (fun (v7 : Int32) (h8 : HP) =>
 bd2 (f_CS_mix v4 (Int32.toInt64 v7) h8) (fun (v9 : Int64) (h10 : HP) =>
 ltt (v3 + 1) (fun (v11 : Int32) =>
 lp_CS_mixBale_6 a1 a2 fu v11 v9 h10))))
def f_CS_mixBale (a1 : Int64) (a2 : Int32) (h0 : HP) : Option (Int64 × HP) :=
 bd3 (lp_CS_mixBale_6 a1 a2 400 0 a1 h0) (fun (v12 : Int32) (v13 : Int64) (h14 : HP) =>
 bd2 (f_CS_bear a2 0 h14) (fun (v15 : Int32) (h16 : HP) =>
 bd2 (f_CS_mix v13 (Int32.toInt64 v15) h16) (fun (v17 : Int64) (h18 : HP) =>
 bd2 (f_CS_bear a2 1 h18) (fun (v19 : Int32) (h20 : HP) =>
 bd2 (f_CS_mix v17 (Int32.toInt64 v19) h20) (fun (v21 : Int64) (h22 : HP) =>
 bd2 (f_CS_when a2 0 h22) (fun (v23 : Int32) (h24 : HP) =>
 bd2 (f_CS_mix v21 (Int32.toInt64 v23) h24) (fun (v25 : Int64) (h26 : HP) =>
 bd2 (f_CS_when a2 1 h26) (fun (v27 : Int32) (h28 : HP) =>
 bd2 (f_CS_mix v25 (Int32.toInt64 v27) h28) (fun (v29 : Int64) (h30 : HP) =>
 some (v29, h30))))))))))
set_option maxRecDepth 20000 in
set_option maxHeartbeats 4000000 in
theorem mlp_CS_mixBale_6 (l : Launch) (g : GG) (ad : Nat → Nat) (Q : Option Value → va_W → Prop) (a1 : Int64) (a2 : Int32) : ∀ (fu : Nat) (v3 : Int32) (v4 : Int64) (h5 : HP), Jj (fun q : Int32 × Int64 × HP => Vw (kx_CS_mixBale l g Q) 0 0 33 [(6, .int (q.1)), (4, .long (q.2.1)), (0, .ref (ad 71)), (1, .long a1), (3, .int a2)] [] (pic g ad q.2.2)) (lp_CS_mixBale_6 a1 a2 fu v3 v4 h5) (Vw (kx_CS_mixBale l g Q) 0 0 6 [(6, .int v3), (4, .long v4), (0, .ref (ad 71)), (1, .long a1), (3, .int a2)] [] (pic g ad h5)) := by
  intro fu
  induction fu with
  | zero =>
    intro v3 v4 h5
    exact J_none
  | succ fu ih =>
    intro v3 v4 h5
    rw [lp_CS_mixBale_6]
    refine J_iload 0 rfl d_CS_mixBale_6 ?_
    refine J_iconst (v := 3) rfl d_CS_mixBale_8 ?_
    refine J_icmp_ge 33 rfl d_CS_mixBale_9 (fun c6 => ?_) (fun c6 => ?_)
    · exact J_exit [0, 1, 2, 3, 4] rfl (fun hx => hx)
    · refine J_lload 1 rfl d_CS_mixBale_12 ?_
      refine J_aload_n 2 rfl d_CS_mixBale_14 ?_
      refine J_iload_n 4 rfl d_CS_mixBale_15 ?_
      refine J_iload 0 rfl d_CS_mixBale_16 ?_
      refine J_callVi (m_CS_bale l g ad _ _ _) ok_CS_bale rc_71 wi_CS_bale wl_CS_CS_bale wk_CS_319 ⟨rfl, rfl, Nat.le_of_ble_eq_true rfl, Nat.le_of_ble_eq_true rfl⟩ ⟨Nat.zero_le _, Nat.zero_le _⟩ (rest := [.long v4]) rfl rfl (Nat.le_of_ble_eq_true rfl) d_CS_mixBale_18 (fun v7 h8 => ?_)
      refine J_i2l d_CS_mixBale_21 ?_
      refine J_callSl (m_CS_mix l g ad _ _ _) ok_CS_mix ws_CS_mix wk_CS_277 ⟨rfl, rfl, Nat.le_of_ble_eq_true rfl, Nat.le_of_ble_eq_true rfl⟩ ⟨Nat.zero_le _, Nat.zero_le _⟩ (rest := []) rfl rfl (Nat.le_of_ble_eq_true rfl) d_CS_mixBale_22 (fun v9 h10 => ?_)
      refine J_lstore (lv' := [(4, .long v9), (6, .int v3), (0, .ref (ad 71)), (1, .long a1), (3, .int a2)]) (Nat.le_of_ble_eq_true rfl) rfl d_CS_mixBale_25 ?_
      refine P_inc (w := 1) (lv' := fun v11 => [(6, .int v11), (4, .long v9), (0, .ref (ad 71)), (1, .long a1), (3, .int a2)]) 1 rfl rfl (Nat.le_of_ble_eq_true rfl) (fun _ => rfl) d_CS_mixBale_27 (fun v11 => ?_)
      refine J_goto 6 rfl d_CS_mixBale_30 ?_
      exact J_sub [0, 1, 2, 3, 4] rfl (ih _ _ _)
set_option maxRecDepth 20000 in
set_option maxHeartbeats 4000000 in
theorem m_CS_mixBale (l : Launch) (g : GG) (ad : Nat → Nat) (a1 : Int64) (a2 : Int32) (h0 : HP) : CM l g ad y_CS_mixBale b_CS_mixBale 7 (some .long) rm_CS_mixBale [.ref (ad 71), .long a1, .int a2] h0 enL (f_CS_mixBale a1 a2 h0) := by
  refine CM.of (by decide) (Nat.le_of_ble_eq_true rfl) (fun Q => ?_)
  show Jj _ _ (Vw (kx_CS_mixBale l g Q) 0 0 0 _ _ _)
  refine J_sub [0, 1, 2] (lv' := [(0, .ref (ad 71)), (1, .long a1), (3, .int a2)]) rfl ?_
  unfold f_CS_mixBale
  refine J_lload_n 1 rfl d_CS_mixBale_0 ?_
  refine J_lstore (lv' := [(4, .long a1), (0, .ref (ad 71)), (1, .long a1), (3, .int a2)]) (Nat.le_of_ble_eq_true rfl) rfl d_CS_mixBale_1 ?_
  refine J_iconst (v := 0) rfl d_CS_mixBale_3 ?_
  refine J_istore (lv' := [(6, .int 0), (4, .long a1), (0, .ref (ad 71)), (1, .long a1), (3, .int a2)]) (Nat.le_of_ble_eq_true rfl) rfl d_CS_mixBale_4 ?_
  refine J_bd3 (fun (v12 : Int32) (v13 : Int64) (h14 : HP) => Vw (kx_CS_mixBale l g Q) 0 0 33 [(6, .int v12), (4, .long v13), (0, .ref (ad 71)), (1, .long a1), (3, .int a2)] [] (pic g ad h14)) ?_ (fun v12 v13 h14 => ?_)
  · exact J_sub [0, 1, 2, 3, 4] rfl (mlp_CS_mixBale_6 l g ad Q a1 a2 400 _ _ _)
  · refine J_lload 1 rfl d_CS_mixBale_33 ?_
    refine J_aload_n 2 rfl d_CS_mixBale_35 ?_
    refine J_iload_n 4 rfl d_CS_mixBale_36 ?_
    refine J_iconst (v := 0) rfl d_CS_mixBale_37 ?_
    refine J_callVi (m_CS_bear l g ad _ _ _) ok_CS_bear rc_71 wi_CS_bear wl_CS_CS_bear wk_CS_322 ⟨rfl, rfl, Nat.le_of_ble_eq_true rfl, Nat.le_of_ble_eq_true rfl⟩ ⟨Nat.zero_le _, Nat.zero_le _⟩ (rest := [.long v13]) rfl rfl (Nat.le_of_ble_eq_true rfl) d_CS_mixBale_38 (fun v15 h16 => ?_)
    refine J_i2l d_CS_mixBale_41 ?_
    refine J_callSl (m_CS_mix l g ad _ _ _) ok_CS_mix ws_CS_mix wk_CS_277 ⟨rfl, rfl, Nat.le_of_ble_eq_true rfl, Nat.le_of_ble_eq_true rfl⟩ ⟨Nat.zero_le _, Nat.zero_le _⟩ (rest := []) rfl rfl (Nat.le_of_ble_eq_true rfl) d_CS_mixBale_42 (fun v17 h18 => ?_)
    refine J_aload_n 2 rfl d_CS_mixBale_45 ?_
    refine J_iload_n 4 rfl d_CS_mixBale_46 ?_
    refine J_iconst (v := 1) rfl d_CS_mixBale_47 ?_
    refine J_callVi (m_CS_bear l g ad _ _ _) ok_CS_bear rc_71 wi_CS_bear wl_CS_CS_bear wk_CS_322 ⟨rfl, rfl, Nat.le_of_ble_eq_true rfl, Nat.le_of_ble_eq_true rfl⟩ ⟨Nat.zero_le _, Nat.zero_le _⟩ (rest := [.long v17]) rfl rfl (Nat.le_of_ble_eq_true rfl) d_CS_mixBale_48 (fun v19 h20 => ?_)
    refine J_i2l d_CS_mixBale_51 ?_
    refine J_callSl (m_CS_mix l g ad _ _ _) ok_CS_mix ws_CS_mix wk_CS_277 ⟨rfl, rfl, Nat.le_of_ble_eq_true rfl, Nat.le_of_ble_eq_true rfl⟩ ⟨Nat.zero_le _, Nat.zero_le _⟩ (rest := []) rfl rfl (Nat.le_of_ble_eq_true rfl) d_CS_mixBale_52 (fun v21 h22 => ?_)
    refine J_lstore (lv' := [(4, .long v21), (6, .int v12), (0, .ref (ad 71)), (1, .long a1), (3, .int a2)]) (Nat.le_of_ble_eq_true rfl) rfl d_CS_mixBale_55 ?_
    refine J_lload 0 rfl d_CS_mixBale_57 ?_
    refine J_aload_n 2 rfl d_CS_mixBale_59 ?_
    refine J_iload_n 4 rfl d_CS_mixBale_60 ?_
    refine J_iconst (v := 0) rfl d_CS_mixBale_61 ?_
    refine J_callVi (m_CS_when l g ad _ _ _) ok_CS_when rc_71 wi_CS_when wl_CS_CS_when wk_CS_325 ⟨rfl, rfl, Nat.le_of_ble_eq_true rfl, Nat.le_of_ble_eq_true rfl⟩ ⟨Nat.zero_le _, Nat.zero_le _⟩ (rest := [.long v21]) rfl rfl (Nat.le_of_ble_eq_true rfl) d_CS_mixBale_62 (fun v23 h24 => ?_)
    refine J_i2l d_CS_mixBale_65 ?_
    refine J_callSl (m_CS_mix l g ad _ _ _) ok_CS_mix ws_CS_mix wk_CS_277 ⟨rfl, rfl, Nat.le_of_ble_eq_true rfl, Nat.le_of_ble_eq_true rfl⟩ ⟨Nat.zero_le _, Nat.zero_le _⟩ (rest := []) rfl rfl (Nat.le_of_ble_eq_true rfl) d_CS_mixBale_66 (fun v25 h26 => ?_)
    refine J_aload_n 2 rfl d_CS_mixBale_69 ?_
    refine J_iload_n 4 rfl d_CS_mixBale_70 ?_
    refine J_iconst (v := 1) rfl d_CS_mixBale_71 ?_
    refine J_callVi (m_CS_when l g ad _ _ _) ok_CS_when rc_71 wi_CS_when wl_CS_CS_when wk_CS_325 ⟨rfl, rfl, Nat.le_of_ble_eq_true rfl, Nat.le_of_ble_eq_true rfl⟩ ⟨Nat.zero_le _, Nat.zero_le _⟩ (rest := [.long v25]) rfl rfl (Nat.le_of_ble_eq_true rfl) d_CS_mixBale_72 (fun v27 h28 => ?_)
    refine J_i2l d_CS_mixBale_75 ?_
    refine J_callSl (m_CS_mix l g ad _ _ _) ok_CS_mix ws_CS_mix wk_CS_277 ⟨rfl, rfl, Nat.le_of_ble_eq_true rfl, Nat.le_of_ble_eq_true rfl⟩ ⟨Nat.zero_le _, Nat.zero_le _⟩ (rest := []) rfl rfl (Nat.le_of_ble_eq_true rfl) d_CS_mixBale_76 (fun v29 h30 => ?_)
    exact J_lret (Nat.le_refl _) (Nat.le_refl _) d_CS_mixBale_79 rfl (fun hx => hx)
def lp_CS_mixDay_6 (a1 : Int64) (a2 : Int32) (a3 : Int32) : Nat → Int32 → Int64 → HP → Option (Int32 × Int64 × HP)
 | 0, _, _, _ => none
 | fu + 1, v4, v5, h6 =>
 (if 6 ≤ v4 then
 some (v4, v5, h6)
 else
 bd2 (f_CS_at a2 a3 v4 h6) (fun (v8 : Int32) (h9 : HP) =>
 bd2 (f_CS_mix v5 (Int32.toInt64 v8) h9) (fun (v10 : Int64) (h11 : HP) =>
 ltt (v4 + 1) (fun (v12 : Int32) =>
 lp_CS_mixDay_6 a1 a2 a3 fu v12 v10 h11))))
def f_CS_mixDay (a1 : Int64) (a2 : Int32) (a3 : Int32) (h0 : HP) : Option (Int64 × HP) :=
 bd3 (lp_CS_mixDay_6 a1 a2 a3 400 0 a1 h0) (fun (v13 : Int32) (v14 : Int64) (h15 : HP) =>
 some (v14, h15))
set_option maxRecDepth 20000 in
set_option maxHeartbeats 4000000 in
theorem mlp_CS_mixDay_6 (l : Launch) (g : GG) (ad : Nat → Nat) (Q : Option Value → va_W → Prop) (a1 : Int64) (a2 : Int32) (a3 : Int32) : ∀ (fu : Nat) (v4 : Int32) (v5 : Int64) (h6 : HP), Jj (fun q : Int32 × Int64 × HP => Vw (kx_CS_mixDay l g Q) 0 0 36 [(7, .int (q.1)), (5, .long (q.2.1)), (0, .ref (ad 71)), (1, .long a1), (3, .int a2), (4, .int a3)] [] (pic g ad q.2.2)) (lp_CS_mixDay_6 a1 a2 a3 fu v4 v5 h6) (Vw (kx_CS_mixDay l g Q) 0 0 6 [(7, .int v4), (5, .long v5), (0, .ref (ad 71)), (1, .long a1), (3, .int a2), (4, .int a3)] [] (pic g ad h6)) := by
  intro fu
  induction fu with
  | zero =>
    intro v4 v5 h6
    exact J_none
  | succ fu ih =>
    intro v4 v5 h6
    rw [lp_CS_mixDay_6]
    refine J_iload 0 rfl d_CS_mixDay_6 ?_
    refine J_bipush (v := 6) rfl d_CS_mixDay_8 ?_
    refine J_icmp_ge 36 rfl d_CS_mixDay_10 (fun c7 => ?_) (fun c7 => ?_)
    · exact J_exit [0, 1, 2, 3, 4, 5] rfl (fun hx => hx)
    · refine J_lload 1 rfl d_CS_mixDay_13 ?_
      refine J_aload_n 2 rfl d_CS_mixDay_15 ?_
      refine J_iload_n 4 rfl d_CS_mixDay_16 ?_
      refine J_iload 5 rfl d_CS_mixDay_17 ?_
      refine J_iload 0 rfl d_CS_mixDay_19 ?_
      refine J_callVi (m_CS_at l g ad _ _ _ _) ok_CS_at rc_71 wi_CS_at wl_CS_CS_at wk_CS_348 ⟨rfl, rfl, Nat.le_of_ble_eq_true rfl, Nat.le_of_ble_eq_true rfl⟩ ⟨Nat.zero_le _, Nat.zero_le _⟩ (rest := [.long v5]) rfl rfl (Nat.le_of_ble_eq_true rfl) d_CS_mixDay_21 (fun v8 h9 => ?_)
      refine J_i2l d_CS_mixDay_24 ?_
      refine J_callSl (m_CS_mix l g ad _ _ _) ok_CS_mix ws_CS_mix wk_CS_277 ⟨rfl, rfl, Nat.le_of_ble_eq_true rfl, Nat.le_of_ble_eq_true rfl⟩ ⟨Nat.zero_le _, Nat.zero_le _⟩ (rest := []) rfl rfl (Nat.le_of_ble_eq_true rfl) d_CS_mixDay_25 (fun v10 h11 => ?_)
      refine J_lstore (lv' := [(5, .long v10), (7, .int v4), (0, .ref (ad 71)), (1, .long a1), (3, .int a2), (4, .int a3)]) (Nat.le_of_ble_eq_true rfl) rfl d_CS_mixDay_28 ?_
      refine P_inc (w := 1) (lv' := fun v12 => [(7, .int v12), (5, .long v10), (0, .ref (ad 71)), (1, .long a1), (3, .int a2), (4, .int a3)]) 1 rfl rfl (Nat.le_of_ble_eq_true rfl) (fun _ => rfl) d_CS_mixDay_30 (fun v12 => ?_)
      refine J_goto 6 rfl d_CS_mixDay_33 ?_
      exact J_sub [0, 1, 2, 3, 4, 5] rfl (ih _ _ _)
set_option maxRecDepth 20000 in
set_option maxHeartbeats 4000000 in
theorem m_CS_mixDay (l : Launch) (g : GG) (ad : Nat → Nat) (a1 : Int64) (a2 : Int32) (a3 : Int32) (h0 : HP) : CM l g ad y_CS_mixDay b_CS_mixDay 8 (some .long) rm_CS_mixDay [.ref (ad 71), .long a1, .int a2, .int a3] h0 enL (f_CS_mixDay a1 a2 a3 h0) := by
  refine CM.of (by decide) (Nat.le_of_ble_eq_true rfl) (fun Q => ?_)
  show Jj _ _ (Vw (kx_CS_mixDay l g Q) 0 0 0 _ _ _)
  refine J_sub [0, 1, 2, 3] (lv' := [(0, .ref (ad 71)), (1, .long a1), (3, .int a2), (4, .int a3)]) rfl ?_
  unfold f_CS_mixDay
  refine J_lload_n 1 rfl d_CS_mixDay_0 ?_
  refine J_lstore (lv' := [(5, .long a1), (0, .ref (ad 71)), (1, .long a1), (3, .int a2), (4, .int a3)]) (Nat.le_of_ble_eq_true rfl) rfl d_CS_mixDay_1 ?_
  refine J_iconst (v := 0) rfl d_CS_mixDay_3 ?_
  refine J_istore (lv' := [(7, .int 0), (5, .long a1), (0, .ref (ad 71)), (1, .long a1), (3, .int a2), (4, .int a3)]) (Nat.le_of_ble_eq_true rfl) rfl d_CS_mixDay_4 ?_
  refine J_bd3 (fun (v13 : Int32) (v14 : Int64) (h15 : HP) => Vw (kx_CS_mixDay l g Q) 0 0 36 [(7, .int v13), (5, .long v14), (0, .ref (ad 71)), (1, .long a1), (3, .int a2), (4, .int a3)] [] (pic g ad h15)) ?_ (fun v13 v14 h15 => ?_)
  · exact J_sub [0, 1, 2, 3, 4, 5] rfl (mlp_CS_mixDay_6 l g ad Q a1 a2 a3 400 _ _ _)
  · refine J_lload 1 rfl d_CS_mixDay_36 ?_
    exact J_lret (Nat.le_refl _) (Nat.le_refl _) d_CS_mixDay_38 rfl (fun hx => hx)
def f_CS_mixCamel (a1 : Int64) (a2 : Int32) (h0 : HP) : Option (Int64 × HP) :=
 bd2 (f_CS_camel a2 0 h0) (fun (v3 : Int32) (h4 : HP) =>
 bd2 (f_CS_mix a1 (Int32.toInt64 v3) h4) (fun (v5 : Int64) (h6 : HP) =>
 bd2 (f_CS_camel a2 1 h6) (fun (v7 : Int32) (h8 : HP) =>
 bd2 (f_CS_mix v5 (Int32.toInt64 v7) h8) (fun (v9 : Int64) (h10 : HP) =>
 bd2 (f_CS_mixDay v9 0 a2 h10) (fun (v11 : Int64) (h12 : HP) =>
 bd2 (f_CS_mixDay v11 7 a2 h12) (fun (v13 : Int64) (h14 : HP) =>
 bd2 (f_CS_mixDay v13 14 a2 h14) (fun (v15 : Int64) (h16 : HP) =>
 bd2 (f_CS_mixDay v15 23 a2 h16) (fun (v17 : Int64) (h18 : HP) =>
 bd2 (f_CS_last a2 5 h18) (fun (v19 : Int32) (h20 : HP) =>
 bd2 (f_CS_mix v17 (Int32.toInt64 v19) h20) (fun (v21 : Int64) (h22 : HP) =>
 bd2 (f_CS_was a2 0 h22) (fun (v23 : Int32) (h24 : HP) =>
 bd2 (f_CS_mix v21 (Int32.toInt64 v23) h24) (fun (v25 : Int64) (h26 : HP) =>
 bd2 (f_CS_was a2 1 h26) (fun (v27 : Int32) (h28 : HP) =>
 bd2 (f_CS_mix v25 (Int32.toInt64 v27) h28) (fun (v29 : Int64) (h30 : HP) =>
 bd2 (f_CS_ask a2 h30) (fun (v31 : Int32) (h32 : HP) =>
 bd2 (f_CS_mix v29 (Int32.toInt64 v31) h32) (fun (v33 : Int64) (h34 : HP) =>
 bd2 (f_CS_chance 5 a2 0 h34) (fun (v35 : Int64) (h36 : HP) =>
 bd2 (f_CS_mix v33 v35 h36) (fun (v37 : Int64) (h38 : HP) =>
 bd2 (f_CS_chance 5 a2 1 h38) (fun (v39 : Int64) (h40 : HP) =>
 bd2 (f_CS_mix v37 v39 h40) (fun (v41 : Int64) (h42 : HP) =>
 some (v41, h42)))))))))))))))))))))
set_option maxRecDepth 20000 in
set_option maxHeartbeats 4000000 in
theorem m_CS_mixCamel (l : Launch) (g : GG) (ad : Nat → Nat) (a1 : Int64) (a2 : Int32) (h0 : HP) : CM l g ad y_CS_mixCamel b_CS_mixCamel 6 (some .long) rm_CS_mixCamel [.ref (ad 71), .long a1, .int a2] h0 enL (f_CS_mixCamel a1 a2 h0) := by
  refine CM.of (by decide) (Nat.le_of_ble_eq_true rfl) (fun Q => ?_)
  show Jj _ _ (Vw (kx_CS_mixCamel l g Q) 0 0 0 _ _ _)
  refine J_sub [0, 1, 2] (lv' := [(0, .ref (ad 71)), (1, .long a1), (3, .int a2)]) rfl ?_
  unfold f_CS_mixCamel
  refine J_lload_n 1 rfl d_CS_mixCamel_0 ?_
  refine J_aload_n 0 rfl d_CS_mixCamel_1 ?_
  refine J_iload_n 2 rfl d_CS_mixCamel_2 ?_
  refine J_iconst (v := 0) rfl d_CS_mixCamel_3 ?_
  refine J_callVi (m_CS_camel l g ad _ _ _) ok_CS_camel rc_71 wi_CS_camel wl_CS_CS_camel wk_CS_328 ⟨rfl, rfl, Nat.le_of_ble_eq_true rfl, Nat.le_of_ble_eq_true rfl⟩ ⟨Nat.zero_le _, Nat.zero_le _⟩ (rest := [.long a1]) rfl rfl (Nat.le_of_ble_eq_true rfl) d_CS_mixCamel_4 (fun v3 h4 => ?_)
  refine J_i2l d_CS_mixCamel_7 ?_
  refine J_callSl (m_CS_mix l g ad _ _ _) ok_CS_mix ws_CS_mix wk_CS_277 ⟨rfl, rfl, Nat.le_of_ble_eq_true rfl, Nat.le_of_ble_eq_true rfl⟩ ⟨Nat.zero_le _, Nat.zero_le _⟩ (rest := []) rfl rfl (Nat.le_of_ble_eq_true rfl) d_CS_mixCamel_8 (fun v5 h6 => ?_)
  refine J_aload_n 0 rfl d_CS_mixCamel_11 ?_
  refine J_iload_n 2 rfl d_CS_mixCamel_12 ?_
  refine J_iconst (v := 1) rfl d_CS_mixCamel_13 ?_
  refine J_callVi (m_CS_camel l g ad _ _ _) ok_CS_camel rc_71 wi_CS_camel wl_CS_CS_camel wk_CS_328 ⟨rfl, rfl, Nat.le_of_ble_eq_true rfl, Nat.le_of_ble_eq_true rfl⟩ ⟨Nat.zero_le _, Nat.zero_le _⟩ (rest := [.long v5]) rfl rfl (Nat.le_of_ble_eq_true rfl) d_CS_mixCamel_14 (fun v7 h8 => ?_)
  refine J_i2l d_CS_mixCamel_17 ?_
  refine J_callSl (m_CS_mix l g ad _ _ _) ok_CS_mix ws_CS_mix wk_CS_277 ⟨rfl, rfl, Nat.le_of_ble_eq_true rfl, Nat.le_of_ble_eq_true rfl⟩ ⟨Nat.zero_le _, Nat.zero_le _⟩ (rest := []) rfl rfl (Nat.le_of_ble_eq_true rfl) d_CS_mixCamel_18 (fun v9 h10 => ?_)
  refine J_lstore (lv' := [(4, .long v9), (0, .ref (ad 71)), (1, .long a1), (3, .int a2)]) (Nat.le_of_ble_eq_true rfl) rfl d_CS_mixCamel_21 ?_
  refine J_aload_n 1 rfl d_CS_mixCamel_23 ?_
  refine J_lload 0 rfl d_CS_mixCamel_24 ?_
  refine J_iconst (v := 0) rfl d_CS_mixCamel_26 ?_
  refine J_iload_n 3 rfl d_CS_mixCamel_27 ?_
  refine J_callVl (m_CS_mixDay l g ad _ _ _ _) ok_CS_mixDay rc_71 wi_CS_mixDay wl_CS_CS_mixDay wk_CS_331 ⟨rfl, rfl, Nat.le_of_ble_eq_true rfl, Nat.le_of_ble_eq_true rfl⟩ ⟨Nat.zero_le _, Nat.zero_le _⟩ (rest := []) rfl rfl (Nat.le_of_ble_eq_true rfl) d_CS_mixCamel_28 (fun v11 h12 => ?_)
  refine J_lstore (lv' := [(4, .long v11), (0, .ref (ad 71)), (1, .long a1), (3, .int a2)]) (Nat.le_of_ble_eq_true rfl) rfl d_CS_mixCamel_31 ?_
  refine J_aload_n 1 rfl d_CS_mixCamel_33 ?_
  refine J_lload 0 rfl d_CS_mixCamel_34 ?_
  refine J_bipush (v := 7) rfl d_CS_mixCamel_36 ?_
  refine J_iload_n 3 rfl d_CS_mixCamel_38 ?_
  refine J_callVl (m_CS_mixDay l g ad _ _ _ _) ok_CS_mixDay rc_71 wi_CS_mixDay wl_CS_CS_mixDay wk_CS_331 ⟨rfl, rfl, Nat.le_of_ble_eq_true rfl, Nat.le_of_ble_eq_true rfl⟩ ⟨Nat.zero_le _, Nat.zero_le _⟩ (rest := []) rfl rfl (Nat.le_of_ble_eq_true rfl) d_CS_mixCamel_39 (fun v13 h14 => ?_)
  refine J_lstore (lv' := [(4, .long v13), (0, .ref (ad 71)), (1, .long a1), (3, .int a2)]) (Nat.le_of_ble_eq_true rfl) rfl d_CS_mixCamel_42 ?_
  refine J_aload_n 1 rfl d_CS_mixCamel_44 ?_
  refine J_lload 0 rfl d_CS_mixCamel_45 ?_
  refine J_bipush (v := 14) rfl d_CS_mixCamel_47 ?_
  refine J_iload_n 3 rfl d_CS_mixCamel_49 ?_
  refine J_callVl (m_CS_mixDay l g ad _ _ _ _) ok_CS_mixDay rc_71 wi_CS_mixDay wl_CS_CS_mixDay wk_CS_331 ⟨rfl, rfl, Nat.le_of_ble_eq_true rfl, Nat.le_of_ble_eq_true rfl⟩ ⟨Nat.zero_le _, Nat.zero_le _⟩ (rest := []) rfl rfl (Nat.le_of_ble_eq_true rfl) d_CS_mixCamel_50 (fun v15 h16 => ?_)
  refine J_lstore (lv' := [(4, .long v15), (0, .ref (ad 71)), (1, .long a1), (3, .int a2)]) (Nat.le_of_ble_eq_true rfl) rfl d_CS_mixCamel_53 ?_
  refine J_aload_n 1 rfl d_CS_mixCamel_55 ?_
  refine J_lload 0 rfl d_CS_mixCamel_56 ?_
  refine J_bipush (v := 23) rfl d_CS_mixCamel_58 ?_
  refine J_iload_n 3 rfl d_CS_mixCamel_60 ?_
  refine J_callVl (m_CS_mixDay l g ad _ _ _ _) ok_CS_mixDay rc_71 wi_CS_mixDay wl_CS_CS_mixDay wk_CS_331 ⟨rfl, rfl, Nat.le_of_ble_eq_true rfl, Nat.le_of_ble_eq_true rfl⟩ ⟨Nat.zero_le _, Nat.zero_le _⟩ (rest := []) rfl rfl (Nat.le_of_ble_eq_true rfl) d_CS_mixCamel_61 (fun v17 h18 => ?_)
  refine J_lstore (lv' := [(4, .long v17), (0, .ref (ad 71)), (1, .long a1), (3, .int a2)]) (Nat.le_of_ble_eq_true rfl) rfl d_CS_mixCamel_64 ?_
  refine J_lload 0 rfl d_CS_mixCamel_66 ?_
  refine J_aload_n 1 rfl d_CS_mixCamel_68 ?_
  refine J_iload_n 3 rfl d_CS_mixCamel_69 ?_
  refine J_iconst (v := 5) rfl d_CS_mixCamel_70 ?_
  refine J_callVi (m_CS_last l g ad _ _ _) ok_CS_last rc_71 wi_CS_last wl_CS_CS_last wk_CS_335 ⟨rfl, rfl, Nat.le_of_ble_eq_true rfl, Nat.le_of_ble_eq_true rfl⟩ ⟨Nat.zero_le _, Nat.zero_le _⟩ (rest := [.long v17]) rfl rfl (Nat.le_of_ble_eq_true rfl) d_CS_mixCamel_71 (fun v19 h20 => ?_)
  refine J_i2l d_CS_mixCamel_74 ?_
  refine J_callSl (m_CS_mix l g ad _ _ _) ok_CS_mix ws_CS_mix wk_CS_277 ⟨rfl, rfl, Nat.le_of_ble_eq_true rfl, Nat.le_of_ble_eq_true rfl⟩ ⟨Nat.zero_le _, Nat.zero_le _⟩ (rest := []) rfl rfl (Nat.le_of_ble_eq_true rfl) d_CS_mixCamel_75 (fun v21 h22 => ?_)
  refine J_lstore (lv' := [(4, .long v21), (0, .ref (ad 71)), (1, .long a1), (3, .int a2)]) (Nat.le_of_ble_eq_true rfl) rfl d_CS_mixCamel_78 ?_
  refine J_lload 0 rfl d_CS_mixCamel_80 ?_
  refine J_aload_n 1 rfl d_CS_mixCamel_82 ?_
  refine J_iload_n 3 rfl d_CS_mixCamel_83 ?_
  refine J_iconst (v := 0) rfl d_CS_mixCamel_84 ?_
  refine J_callVi (m_CS_was l g ad _ _ _) ok_CS_was rc_71 wi_CS_was wl_CS_CS_was wk_CS_338 ⟨rfl, rfl, Nat.le_of_ble_eq_true rfl, Nat.le_of_ble_eq_true rfl⟩ ⟨Nat.zero_le _, Nat.zero_le _⟩ (rest := [.long v21]) rfl rfl (Nat.le_of_ble_eq_true rfl) d_CS_mixCamel_85 (fun v23 h24 => ?_)
  refine J_i2l d_CS_mixCamel_88 ?_
  refine J_callSl (m_CS_mix l g ad _ _ _) ok_CS_mix ws_CS_mix wk_CS_277 ⟨rfl, rfl, Nat.le_of_ble_eq_true rfl, Nat.le_of_ble_eq_true rfl⟩ ⟨Nat.zero_le _, Nat.zero_le _⟩ (rest := []) rfl rfl (Nat.le_of_ble_eq_true rfl) d_CS_mixCamel_89 (fun v25 h26 => ?_)
  refine J_aload_n 1 rfl d_CS_mixCamel_92 ?_
  refine J_iload_n 3 rfl d_CS_mixCamel_93 ?_
  refine J_iconst (v := 1) rfl d_CS_mixCamel_94 ?_
  refine J_callVi (m_CS_was l g ad _ _ _) ok_CS_was rc_71 wi_CS_was wl_CS_CS_was wk_CS_338 ⟨rfl, rfl, Nat.le_of_ble_eq_true rfl, Nat.le_of_ble_eq_true rfl⟩ ⟨Nat.zero_le _, Nat.zero_le _⟩ (rest := [.long v25]) rfl rfl (Nat.le_of_ble_eq_true rfl) d_CS_mixCamel_95 (fun v27 h28 => ?_)
  refine J_i2l d_CS_mixCamel_98 ?_
  refine J_callSl (m_CS_mix l g ad _ _ _) ok_CS_mix ws_CS_mix wk_CS_277 ⟨rfl, rfl, Nat.le_of_ble_eq_true rfl, Nat.le_of_ble_eq_true rfl⟩ ⟨Nat.zero_le _, Nat.zero_le _⟩ (rest := []) rfl rfl (Nat.le_of_ble_eq_true rfl) d_CS_mixCamel_99 (fun v29 h30 => ?_)
  refine J_lstore (lv' := [(4, .long v29), (0, .ref (ad 71)), (1, .long a1), (3, .int a2)]) (Nat.le_of_ble_eq_true rfl) rfl d_CS_mixCamel_102 ?_
  refine J_lload 0 rfl d_CS_mixCamel_104 ?_
  refine J_aload_n 1 rfl d_CS_mixCamel_106 ?_
  refine J_iload_n 3 rfl d_CS_mixCamel_107 ?_
  refine J_callVi (m_CS_ask l g ad _ _) ok_CS_ask rc_71 wi_CS_ask wl_CS_CS_ask wk_CS_341 ⟨rfl, rfl, Nat.le_of_ble_eq_true rfl, Nat.le_of_ble_eq_true rfl⟩ ⟨Nat.zero_le _, Nat.zero_le _⟩ (rest := [.long v29]) rfl rfl (Nat.le_of_ble_eq_true rfl) d_CS_mixCamel_108 (fun v31 h32 => ?_)
  refine J_i2l d_CS_mixCamel_111 ?_
  refine J_callSl (m_CS_mix l g ad _ _ _) ok_CS_mix ws_CS_mix wk_CS_277 ⟨rfl, rfl, Nat.le_of_ble_eq_true rfl, Nat.le_of_ble_eq_true rfl⟩ ⟨Nat.zero_le _, Nat.zero_le _⟩ (rest := []) rfl rfl (Nat.le_of_ble_eq_true rfl) d_CS_mixCamel_112 (fun v33 h34 => ?_)
  refine J_lstore (lv' := [(4, .long v33), (0, .ref (ad 71)), (1, .long a1), (3, .int a2)]) (Nat.le_of_ble_eq_true rfl) rfl d_CS_mixCamel_115 ?_
  refine J_lload 0 rfl d_CS_mixCamel_117 ?_
  refine J_aload_n 1 rfl d_CS_mixCamel_119 ?_
  refine J_iconst (v := 5) rfl d_CS_mixCamel_120 ?_
  refine J_iload_n 3 rfl d_CS_mixCamel_121 ?_
  refine J_iconst (v := 0) rfl d_CS_mixCamel_122 ?_
  refine J_callVl (m_CS_chance l g ad _ _ _ _) ok_CS_chance rc_71 wi_CS_chance wl_CS_CS_chance wk_CS_344 ⟨rfl, rfl, Nat.le_of_ble_eq_true rfl, Nat.le_of_ble_eq_true rfl⟩ ⟨Nat.zero_le _, Nat.zero_le _⟩ (rest := [.long v33]) rfl rfl (Nat.le_of_ble_eq_true rfl) d_CS_mixCamel_123 (fun v35 h36 => ?_)
  refine J_callSl (m_CS_mix l g ad _ _ _) ok_CS_mix ws_CS_mix wk_CS_277 ⟨rfl, rfl, Nat.le_of_ble_eq_true rfl, Nat.le_of_ble_eq_true rfl⟩ ⟨Nat.zero_le _, Nat.zero_le _⟩ (rest := []) rfl rfl (Nat.le_of_ble_eq_true rfl) d_CS_mixCamel_126 (fun v37 h38 => ?_)
  refine J_aload_n 1 rfl d_CS_mixCamel_129 ?_
  refine J_iconst (v := 5) rfl d_CS_mixCamel_130 ?_
  refine J_iload_n 3 rfl d_CS_mixCamel_131 ?_
  refine J_iconst (v := 1) rfl d_CS_mixCamel_132 ?_
  refine J_callVl (m_CS_chance l g ad _ _ _ _) ok_CS_chance rc_71 wi_CS_chance wl_CS_CS_chance wk_CS_344 ⟨rfl, rfl, Nat.le_of_ble_eq_true rfl, Nat.le_of_ble_eq_true rfl⟩ ⟨Nat.zero_le _, Nat.zero_le _⟩ (rest := [.long v37]) rfl rfl (Nat.le_of_ble_eq_true rfl) d_CS_mixCamel_133 (fun v39 h40 => ?_)
  refine J_callSl (m_CS_mix l g ad _ _ _) ok_CS_mix ws_CS_mix wk_CS_277 ⟨rfl, rfl, Nat.le_of_ble_eq_true rfl, Nat.le_of_ble_eq_true rfl⟩ ⟨Nat.zero_le _, Nat.zero_le _⟩ (rest := []) rfl rfl (Nat.le_of_ble_eq_true rfl) d_CS_mixCamel_136 (fun v41 h42 => ?_)
  exact J_lret (Nat.le_refl _) (Nat.le_refl _) d_CS_mixCamel_139 rfl (fun hx => hx)
def lp_CS_digest_6 : Nat → Int32 → Int64 → HP → Option (Int32 × Int64 × HP)
 | 0, _, _, _ => none
 | fu + 1, v1, v2, h3 =>
 (if 8 ≤ v1 then
 some (v1, v2, h3)
 else
 bd2 (f_CS_count v1 h3) (fun (v5 : Int32) (h6 : HP) =>
 bd2 (f_CS_mix v2 (Int32.toInt64 v5) h6) (fun (v7 : Int64) (h8 : HP) =>
 ltt (v1 + 1) (fun (v9 : Int32) =>
 lp_CS_digest_6 fu v9 v7 h8))))
def lp_CS_digest_31 : Nat → Int32 → Int64 → HP → Option (Int32 × Int64 × HP)
 | 0, _, _, _ => none
 | fu + 1, v13, v14, h15 =>
 (if 2 ≤ v13 then
 some (v13, v14, h15)
 else
 bd2 (f_CS_fault v13 h15) (fun (v17 : Int32) (h18 : HP) =>
 bd2 (f_CS_mix v14 (Int32.toInt64 v17) h18) (fun (v19 : Int64) (h20 : HP) =>
 ltt (v13 + 1) (fun (v21 : Int32) =>
 lp_CS_digest_31 fu v21 v19 h20))))
def lp_CS_digest_55 : Nat → Int32 → Int64 → HP → Option (Int32 × Int64 × HP)
 | 0, _, _, _ => none
 | fu + 1, v25, v26, h27 =>
 ltt (rI h27 66 4) (fun (v28 : Int32) =>
 (if v28 ≤ v25 then
 some (v25, v26, h27)
 else
 bd2 (f_CS_mixBale v26 v25 h27) (fun (v30 : Int64) (h31 : HP) =>
 ltt (v25 + 1) (fun (v32 : Int32) =>
 lp_CS_digest_55 fu v32 v30 h31))))
def lp_CS_digest_81 : Nat → Int32 → Int64 → HP → Option (Int32 × Int64 × HP)
 | 0, _, _, _ => none
 | fu + 1, v36, v37, h38 =>
 ltt (rI h38 70 4) (fun (v39 : Int32) =>
 (if v39 ≤ v36 then
 some (v36, v37, h38)
 else
 bd2 (f_CS_mixCamel v37 v36 h38) (fun (v41 : Int64) (h42 : HP) =>
 ltt (v36 + 1) (fun (v43 : Int32) =>
 lp_CS_digest_81 fu v43 v41 h42))))
def f_CS_digest (h0 : HP) : Option (Int64 × HP) :=
 bd3 (lp_CS_digest_6 400 0 17 h0) (fun (v10 : Int32) (v11 : Int64) (h12 : HP) =>
 bd3 (lp_CS_digest_31 400 0 v11 h12) (fun (v22 : Int32) (v23 : Int64) (h24 : HP) =>
 bd3 (lp_CS_digest_55 400 0 v23 h24) (fun (v33 : Int32) (v34 : Int64) (h35 : HP) =>
 bd3 (lp_CS_digest_81 400 0 v34 h35) (fun (v44 : Int32) (v45 : Int64) (h46 : HP) =>
 bd2 (f_CS_through h46) (fun (v47 : Int32) (h48 : HP) =>
 bd2 (f_CS_mix v45 (Int32.toInt64 v47) h48) (fun (v49 : Int64) (h50 : HP) =>
 bd2 (f_CS_lost h50) (fun (v51 : Int32) (h52 : HP) =>
 bd2 (f_CS_mix v49 (Int32.toInt64 v51) h52) (fun (v53 : Int64) (h54 : HP) =>
 bd2 (f_CS_first 0 h54) (fun (v55 : Int32) (h56 : HP) =>
 bd2 (f_CS_mix v53 (Int32.toInt64 v55) h56) (fun (v57 : Int64) (h58 : HP) =>
 bd2 (f_CS_first 1 h58) (fun (v59 : Int32) (h60 : HP) =>
 bd2 (f_CS_mix v57 (Int32.toInt64 v59) h60) (fun (v61 : Int64) (h62 : HP) =>
 bd2 (f_CS_best h62) (fun (v63 : Int32) (h64 : HP) =>
 bd2 (f_CS_mix v61 (Int32.toInt64 v63) h64) (fun (v65 : Int64) (h66 : HP) =>
 bd2 (f_CS_whole h66) (fun (v67 : Int32) (h68 : HP) =>
 bd2 (f_CS_mix v65 (Int32.toInt64 v67) h68) (fun (v69 : Int64) (h70 : HP) =>
 bd2 (f_CS_tired h70) (fun (v71 : Int32) (h72 : HP) =>
 bd2 (f_CS_mix v69 (Int32.toInt64 v71) h72) (fun (v73 : Int64) (h74 : HP) =>
 bd2 (f_CS_spare (-1) h74) (fun (v75 : Int32) (h76 : HP) =>
 bd2 (f_CS_mix v73 (Int32.toInt64 v75) h76) (fun (v77 : Int64) (h78 : HP) =>
 bd2 (f_CS_spare 0 h78) (fun (v79 : Int32) (h80 : HP) =>
 bd2 (f_CS_mix v77 (Int32.toInt64 v79) h80) (fun (v81 : Int64) (h82 : HP) =>
 bd2 (f_CS_never h82) (fun (v83 : Int32) (h84 : HP) =>
 bd2 (f_CS_mix v81 (Int32.toInt64 v83) h84) (fun (v85 : Int64) (h86 : HP) =>
 bd2 (f_CS_years 7 6 0 h86) (fun (v87 : Int32) (h88 : HP) =>
 bd2 (f_CS_mix v85 (Int32.toInt64 v87) h88) (fun (v89 : Int64) (h90 : HP) =>
 bd2 (f_CS_years 7 6 1 h90) (fun (v91 : Int32) (h92 : HP) =>
 bd2 (f_CS_mix v89 (Int32.toInt64 v91) h92) (fun (v93 : Int64) (h94 : HP) =>
 some (v93, h94)))))))))))))))))))))))))))))
set_option maxRecDepth 20000 in
set_option maxHeartbeats 4000000 in
theorem mlp_CS_digest_6 (l : Launch) (g : GG) (ad : Nat → Nat) (Q : Option Value → va_W → Prop) : ∀ (fu : Nat) (v1 : Int32) (v2 : Int64) (h3 : HP), Jj (fun q : Int32 × Int64 × HP => Vw (kx_CS_digest l g Q) 0 0 29 [(3, .int (q.1)), (1, .long (q.2.1)), (0, .ref (ad 71))] [] (pic g ad q.2.2)) (lp_CS_digest_6 fu v1 v2 h3) (Vw (kx_CS_digest l g Q) 0 0 6 [(3, .int v1), (1, .long v2), (0, .ref (ad 71))] [] (pic g ad h3)) := by
  intro fu
  induction fu with
  | zero =>
    intro v1 v2 h3
    exact J_none
  | succ fu ih =>
    intro v1 v2 h3
    rw [lp_CS_digest_6]
    refine J_iload_n 0 rfl d_CS_digest_6 ?_
    refine J_bipush (v := 8) rfl d_CS_digest_7 ?_
    refine J_icmp_ge 29 rfl d_CS_digest_9 (fun c4 => ?_) (fun c4 => ?_)
    · exact J_exit [0, 1, 2] rfl (fun hx => hx)
    · refine J_lload_n 1 rfl d_CS_digest_12 ?_
      refine J_aload_n 2 rfl d_CS_digest_13 ?_
      refine J_iload_n 0 rfl d_CS_digest_14 ?_
      refine J_callVi (m_CS_count l g ad _ _) ok_CS_count rc_71 wi_CS_count wl_CS_CS_count wk_CS_274 ⟨rfl, rfl, Nat.le_of_ble_eq_true rfl, Nat.le_of_ble_eq_true rfl⟩ ⟨Nat.zero_le _, Nat.zero_le _⟩ (rest := [.long v2]) rfl rfl (Nat.le_of_ble_eq_true rfl) d_CS_digest_15 (fun v5 h6 => ?_)
      refine J_i2l d_CS_digest_18 ?_
      refine J_callSl (m_CS_mix l g ad _ _ _) ok_CS_mix ws_CS_mix wk_CS_277 ⟨rfl, rfl, Nat.le_of_ble_eq_true rfl, Nat.le_of_ble_eq_true rfl⟩ ⟨Nat.zero_le _, Nat.zero_le _⟩ (rest := []) rfl rfl (Nat.le_of_ble_eq_true rfl) d_CS_digest_19 (fun v7 h8 => ?_)
      refine J_lstore_n (lv' := [(1, .long v7), (3, .int v1), (0, .ref (ad 71))]) 1 rfl (Nat.le_of_ble_eq_true rfl) rfl d_CS_digest_22 ?_
      refine P_inc (w := 1) (lv' := fun v9 => [(3, .int v9), (1, .long v7), (0, .ref (ad 71))]) 1 rfl rfl (Nat.le_of_ble_eq_true rfl) (fun _ => rfl) d_CS_digest_23 (fun v9 => ?_)
      refine J_goto 6 rfl d_CS_digest_26 ?_
      exact J_sub [0, 1, 2] rfl (ih _ _ _)
set_option maxRecDepth 20000 in
set_option maxHeartbeats 4000000 in
theorem mlp_CS_digest_31 (l : Launch) (g : GG) (ad : Nat → Nat) (Q : Option Value → va_W → Prop) : ∀ (fu : Nat) (v13 : Int32) (v14 : Int64) (h15 : HP), Jj (fun q : Int32 × Int64 × HP => Vw (kx_CS_digest l g Q) 0 0 53 [(3, .int (q.1)), (1, .long (q.2.1)), (0, .ref (ad 71))] [] (pic g ad q.2.2)) (lp_CS_digest_31 fu v13 v14 h15) (Vw (kx_CS_digest l g Q) 0 0 31 [(3, .int v13), (1, .long v14), (0, .ref (ad 71))] [] (pic g ad h15)) := by
  intro fu
  induction fu with
  | zero =>
    intro v13 v14 h15
    exact J_none
  | succ fu ih =>
    intro v13 v14 h15
    rw [lp_CS_digest_31]
    refine J_iload_n 0 rfl d_CS_digest_31 ?_
    refine J_iconst (v := 2) rfl d_CS_digest_32 ?_
    refine J_icmp_ge 53 rfl d_CS_digest_33 (fun c16 => ?_) (fun c16 => ?_)
    · exact J_exit [0, 1, 2] rfl (fun hx => hx)
    · refine J_lload_n 1 rfl d_CS_digest_36 ?_
      refine J_aload_n 2 rfl d_CS_digest_37 ?_
      refine J_iload_n 0 rfl d_CS_digest_38 ?_
      refine J_callVi (m_CS_fault l g ad _ _) ok_CS_fault rc_71 wi_CS_fault wl_CS_CS_fault wk_CS_281 ⟨rfl, rfl, Nat.le_of_ble_eq_true rfl, Nat.le_of_ble_eq_true rfl⟩ ⟨Nat.zero_le _, Nat.zero_le _⟩ (rest := [.long v14]) rfl rfl (Nat.le_of_ble_eq_true rfl) d_CS_digest_39 (fun v17 h18 => ?_)
      refine J_i2l d_CS_digest_42 ?_
      refine J_callSl (m_CS_mix l g ad _ _ _) ok_CS_mix ws_CS_mix wk_CS_277 ⟨rfl, rfl, Nat.le_of_ble_eq_true rfl, Nat.le_of_ble_eq_true rfl⟩ ⟨Nat.zero_le _, Nat.zero_le _⟩ (rest := []) rfl rfl (Nat.le_of_ble_eq_true rfl) d_CS_digest_43 (fun v19 h20 => ?_)
      refine J_lstore_n (lv' := [(1, .long v19), (3, .int v13), (0, .ref (ad 71))]) 1 rfl (Nat.le_of_ble_eq_true rfl) rfl d_CS_digest_46 ?_
      refine P_inc (w := 1) (lv' := fun v21 => [(3, .int v21), (1, .long v19), (0, .ref (ad 71))]) 1 rfl rfl (Nat.le_of_ble_eq_true rfl) (fun _ => rfl) d_CS_digest_47 (fun v21 => ?_)
      refine J_goto 31 rfl d_CS_digest_50 ?_
      exact J_sub [0, 1, 2] rfl (ih _ _ _)
set_option maxRecDepth 20000 in
set_option maxHeartbeats 4000000 in
theorem mlp_CS_digest_55 (l : Launch) (g : GG) (ad : Nat → Nat) (Q : Option Value → va_W → Prop) : ∀ (fu : Nat) (v25 : Int32) (v26 : Int64) (h27 : HP), Jj (fun q : Int32 × Int64 × HP => Vw (kx_CS_digest l g Q) 0 0 79 [(3, .int (q.1)), (1, .long (q.2.1)), (0, .ref (ad 71))] [] (pic g ad q.2.2)) (lp_CS_digest_55 fu v25 v26 h27) (Vw (kx_CS_digest l g Q) 0 0 55 [(3, .int v25), (1, .long v26), (0, .ref (ad 71))] [] (pic g ad h27)) := by
  intro fu
  induction fu with
  | zero =>
    intro v25 v26 h27
    exact J_none
  | succ fu ih =>
    intro v25 v26 h27
    rw [lp_CS_digest_55]
    refine J_iload_n 0 rfl d_CS_digest_55 ?_
    refine J_aload_n 2 rfl d_CS_digest_56 ?_
    refine J_getR fo_CS_19_71 rfl d_CS_digest_57 ?_
    refine P_gI fo_CS_269_66 rfl d_CS_digest_60 (fun v28 => ?_)
    refine J_icmp_ge 79 rfl d_CS_digest_63 (fun c29 => ?_) (fun c29 => ?_)
    · exact J_exit [0, 1, 2] rfl (fun hx => hx)
    · refine J_aload_n 2 rfl d_CS_digest_66 ?_
      refine J_lload_n 1 rfl d_CS_digest_67 ?_
      refine J_iload_n 0 rfl d_CS_digest_68 ?_
      refine J_callVl (m_CS_mixBale l g ad _ _ _) ok_CS_mixBale rc_71 wi_CS_mixBale wl_CS_CS_mixBale wk_CS_284 ⟨rfl, rfl, Nat.le_of_ble_eq_true rfl, Nat.le_of_ble_eq_true rfl⟩ ⟨Nat.zero_le _, Nat.zero_le _⟩ (rest := []) rfl rfl (Nat.le_of_ble_eq_true rfl) d_CS_digest_69 (fun v30 h31 => ?_)
      refine J_lstore_n (lv' := [(1, .long v30), (3, .int v25), (0, .ref (ad 71))]) 1 rfl (Nat.le_of_ble_eq_true rfl) rfl d_CS_digest_72 ?_
      refine P_inc (w := 1) (lv' := fun v32 => [(3, .int v32), (1, .long v30), (0, .ref (ad 71))]) 1 rfl rfl (Nat.le_of_ble_eq_true rfl) (fun _ => rfl) d_CS_digest_73 (fun v32 => ?_)
      refine J_goto 55 rfl d_CS_digest_76 ?_
      exact J_sub [0, 1, 2] rfl (ih _ _ _)
set_option maxRecDepth 20000 in
set_option maxHeartbeats 4000000 in
theorem mlp_CS_digest_81 (l : Launch) (g : GG) (ad : Nat → Nat) (Q : Option Value → va_W → Prop) : ∀ (fu : Nat) (v36 : Int32) (v37 : Int64) (h38 : HP), Jj (fun q : Int32 × Int64 × HP => Vw (kx_CS_digest l g Q) 0 0 105 [(3, .int (q.1)), (1, .long (q.2.1)), (0, .ref (ad 71))] [] (pic g ad q.2.2)) (lp_CS_digest_81 fu v36 v37 h38) (Vw (kx_CS_digest l g Q) 0 0 81 [(3, .int v36), (1, .long v37), (0, .ref (ad 71))] [] (pic g ad h38)) := by
  intro fu
  induction fu with
  | zero =>
    intro v36 v37 h38
    exact J_none
  | succ fu ih =>
    intro v36 v37 h38
    rw [lp_CS_digest_81]
    refine J_iload_n 0 rfl d_CS_digest_81 ?_
    refine J_aload_n 2 rfl d_CS_digest_82 ?_
    refine J_getR fo_CS_10_71 rfl d_CS_digest_83 ?_
    refine P_gI fo_CS_229_70 rfl d_CS_digest_86 (fun v39 => ?_)
    refine J_icmp_ge 105 rfl d_CS_digest_89 (fun c40 => ?_) (fun c40 => ?_)
    · exact J_exit [0, 1, 2] rfl (fun hx => hx)
    · refine J_aload_n 2 rfl d_CS_digest_92 ?_
      refine J_lload_n 1 rfl d_CS_digest_93 ?_
      refine J_iload_n 0 rfl d_CS_digest_94 ?_
      refine J_callVl (m_CS_mixCamel l g ad _ _ _) ok_CS_mixCamel rc_71 wi_CS_mixCamel wl_CS_CS_mixCamel wk_CS_288 ⟨rfl, rfl, Nat.le_of_ble_eq_true rfl, Nat.le_of_ble_eq_true rfl⟩ ⟨Nat.zero_le _, Nat.zero_le _⟩ (rest := []) rfl rfl (Nat.le_of_ble_eq_true rfl) d_CS_digest_95 (fun v41 h42 => ?_)
      refine J_lstore_n (lv' := [(1, .long v41), (3, .int v36), (0, .ref (ad 71))]) 1 rfl (Nat.le_of_ble_eq_true rfl) rfl d_CS_digest_98 ?_
      refine P_inc (w := 1) (lv' := fun v43 => [(3, .int v43), (1, .long v41), (0, .ref (ad 71))]) 1 rfl rfl (Nat.le_of_ble_eq_true rfl) (fun _ => rfl) d_CS_digest_99 (fun v43 => ?_)
      refine J_goto 81 rfl d_CS_digest_102 ?_
      exact J_sub [0, 1, 2] rfl (ih _ _ _)
set_option maxRecDepth 20000 in
set_option maxHeartbeats 4000000 in
theorem m_CS_digest (l : Launch) (g : GG) (ad : Nat → Nat) (h0 : HP) : CM l g ad y_CS_digest b_CS_digest 4 (some .long) rm_CS_digest [.ref (ad 71)] h0 enL (f_CS_digest h0) := by
  refine CM.of (by decide) (Nat.le_of_ble_eq_true rfl) (fun Q => ?_)
  show Jj _ _ (Vw (kx_CS_digest l g Q) 0 0 0 _ _ _)
  refine J_sub [0] (lv' := [(0, .ref (ad 71))]) rfl ?_
  unfold f_CS_digest
  refine J_ldc2 (v := 17) kl_CS_272 d_CS_digest_0 ?_
  refine J_lstore_n (lv' := [(1, .long 17), (0, .ref (ad 71))]) 1 rfl (Nat.le_of_ble_eq_true rfl) rfl d_CS_digest_3 ?_
  refine J_iconst (v := 0) rfl d_CS_digest_4 ?_
  refine J_istore_n (lv' := [(3, .int 0), (1, .long 17), (0, .ref (ad 71))]) 3 rfl (Nat.le_of_ble_eq_true rfl) rfl d_CS_digest_5 ?_
  refine J_bd3 (fun (v10 : Int32) (v11 : Int64) (h12 : HP) => Vw (kx_CS_digest l g Q) 0 0 29 [(3, .int v10), (1, .long v11), (0, .ref (ad 71))] [] (pic g ad h12)) ?_ (fun v10 v11 h12 => ?_)
  · exact J_sub [0, 1, 2] rfl (mlp_CS_digest_6 l g ad Q 400 _ _ _)
  · refine J_iconst (v := 0) rfl d_CS_digest_29 ?_
    refine J_istore_n (lv' := [(3, .int 0), (1, .long v11), (0, .ref (ad 71))]) 3 rfl (Nat.le_of_ble_eq_true rfl) rfl d_CS_digest_30 ?_
    refine J_bd3 (fun (v22 : Int32) (v23 : Int64) (h24 : HP) => Vw (kx_CS_digest l g Q) 0 0 53 [(3, .int v22), (1, .long v23), (0, .ref (ad 71))] [] (pic g ad h24)) ?_ (fun v22 v23 h24 => ?_)
    · exact J_sub [0, 1, 2] rfl (mlp_CS_digest_31 l g ad Q 400 _ _ _)
    · refine J_iconst (v := 0) rfl d_CS_digest_53 ?_
      refine J_istore_n (lv' := [(3, .int 0), (1, .long v23), (0, .ref (ad 71))]) 3 rfl (Nat.le_of_ble_eq_true rfl) rfl d_CS_digest_54 ?_
      refine J_bd3 (fun (v33 : Int32) (v34 : Int64) (h35 : HP) => Vw (kx_CS_digest l g Q) 0 0 79 [(3, .int v33), (1, .long v34), (0, .ref (ad 71))] [] (pic g ad h35)) ?_ (fun v33 v34 h35 => ?_)
      · exact J_sub [0, 1, 2] rfl (mlp_CS_digest_55 l g ad Q 400 _ _ _)
      · refine J_iconst (v := 0) rfl d_CS_digest_79 ?_
        refine J_istore_n (lv' := [(3, .int 0), (1, .long v34), (0, .ref (ad 71))]) 3 rfl (Nat.le_of_ble_eq_true rfl) rfl d_CS_digest_80 ?_
        refine J_bd3 (fun (v44 : Int32) (v45 : Int64) (h46 : HP) => Vw (kx_CS_digest l g Q) 0 0 105 [(3, .int v44), (1, .long v45), (0, .ref (ad 71))] [] (pic g ad h46)) ?_ (fun v44 v45 h46 => ?_)
        · exact J_sub [0, 1, 2] rfl (mlp_CS_digest_81 l g ad Q 400 _ _ _)
        · refine J_lload_n 1 rfl d_CS_digest_105 ?_
          refine J_aload_n 2 rfl d_CS_digest_106 ?_
          refine J_callVi (m_CS_through l g ad _) ok_CS_through rc_71 wi_CS_through wl_CS_CS_through wk_CS_291 ⟨rfl, rfl, Nat.le_of_ble_eq_true rfl, Nat.le_of_ble_eq_true rfl⟩ ⟨Nat.zero_le _, Nat.zero_le _⟩ (rest := [.long v45]) rfl rfl (Nat.le_of_ble_eq_true rfl) d_CS_digest_107 (fun v47 h48 => ?_)
          refine J_i2l d_CS_digest_110 ?_
          refine J_callSl (m_CS_mix l g ad _ _ _) ok_CS_mix ws_CS_mix wk_CS_277 ⟨rfl, rfl, Nat.le_of_ble_eq_true rfl, Nat.le_of_ble_eq_true rfl⟩ ⟨Nat.zero_le _, Nat.zero_le _⟩ (rest := []) rfl rfl (Nat.le_of_ble_eq_true rfl) d_CS_digest_111 (fun v49 h50 => ?_)
          refine J_aload_n 2 rfl d_CS_digest_114 ?_
          refine J_callVi (m_CS_lost l g ad _) ok_CS_lost rc_71 wi_CS_lost wl_CS_CS_lost wk_CS_294 ⟨rfl, rfl, Nat.le_of_ble_eq_true rfl, Nat.le_of_ble_eq_true rfl⟩ ⟨Nat.zero_le _, Nat.zero_le _⟩ (rest := [.long v49]) rfl rfl (Nat.le_of_ble_eq_true rfl) d_CS_digest_115 (fun v51 h52 => ?_)
          refine J_i2l d_CS_digest_118 ?_
          refine J_callSl (m_CS_mix l g ad _ _ _) ok_CS_mix ws_CS_mix wk_CS_277 ⟨rfl, rfl, Nat.le_of_ble_eq_true rfl, Nat.le_of_ble_eq_true rfl⟩ ⟨Nat.zero_le _, Nat.zero_le _⟩ (rest := []) rfl rfl (Nat.le_of_ble_eq_true rfl) d_CS_digest_119 (fun v53 h54 => ?_)
          refine J_lstore_n (lv' := [(1, .long v53), (3, .int v44), (0, .ref (ad 71))]) 1 rfl (Nat.le_of_ble_eq_true rfl) rfl d_CS_digest_122 ?_
          refine J_lload_n 0 rfl d_CS_digest_123 ?_
          refine J_aload_n 2 rfl d_CS_digest_124 ?_
          refine J_iconst (v := 0) rfl d_CS_digest_125 ?_
          refine J_callVi (m_CS_first l g ad _ _) ok_CS_first rc_71 wi_CS_first wl_CS_CS_first wk_CS_297 ⟨rfl, rfl, Nat.le_of_ble_eq_true rfl, Nat.le_of_ble_eq_true rfl⟩ ⟨Nat.zero_le _, Nat.zero_le _⟩ (rest := [.long v53]) rfl rfl (Nat.le_of_ble_eq_true rfl) d_CS_digest_126 (fun v55 h56 => ?_)
          refine J_i2l d_CS_digest_129 ?_
          refine J_callSl (m_CS_mix l g ad _ _ _) ok_CS_mix ws_CS_mix wk_CS_277 ⟨rfl, rfl, Nat.le_of_ble_eq_true rfl, Nat.le_of_ble_eq_true rfl⟩ ⟨Nat.zero_le _, Nat.zero_le _⟩ (rest := []) rfl rfl (Nat.le_of_ble_eq_true rfl) d_CS_digest_130 (fun v57 h58 => ?_)
          refine J_aload_n 2 rfl d_CS_digest_133 ?_
          refine J_iconst (v := 1) rfl d_CS_digest_134 ?_
          refine J_callVi (m_CS_first l g ad _ _) ok_CS_first rc_71 wi_CS_first wl_CS_CS_first wk_CS_297 ⟨rfl, rfl, Nat.le_of_ble_eq_true rfl, Nat.le_of_ble_eq_true rfl⟩ ⟨Nat.zero_le _, Nat.zero_le _⟩ (rest := [.long v57]) rfl rfl (Nat.le_of_ble_eq_true rfl) d_CS_digest_135 (fun v59 h60 => ?_)
          refine J_i2l d_CS_digest_138 ?_
          refine J_callSl (m_CS_mix l g ad _ _ _) ok_CS_mix ws_CS_mix wk_CS_277 ⟨rfl, rfl, Nat.le_of_ble_eq_true rfl, Nat.le_of_ble_eq_true rfl⟩ ⟨Nat.zero_le _, Nat.zero_le _⟩ (rest := []) rfl rfl (Nat.le_of_ble_eq_true rfl) d_CS_digest_139 (fun v61 h62 => ?_)
          refine J_lstore_n (lv' := [(1, .long v61), (3, .int v44), (0, .ref (ad 71))]) 1 rfl (Nat.le_of_ble_eq_true rfl) rfl d_CS_digest_142 ?_
          refine J_lload_n 0 rfl d_CS_digest_143 ?_
          refine J_aload_n 2 rfl d_CS_digest_144 ?_
          refine J_callVi (m_CS_best l g ad _) ok_CS_best rc_71 wi_CS_best wl_CS_CS_best wk_CS_300 ⟨rfl, rfl, Nat.le_of_ble_eq_true rfl, Nat.le_of_ble_eq_true rfl⟩ ⟨Nat.zero_le _, Nat.zero_le _⟩ (rest := [.long v61]) rfl rfl (Nat.le_of_ble_eq_true rfl) d_CS_digest_145 (fun v63 h64 => ?_)
          refine J_i2l d_CS_digest_148 ?_
          refine J_callSl (m_CS_mix l g ad _ _ _) ok_CS_mix ws_CS_mix wk_CS_277 ⟨rfl, rfl, Nat.le_of_ble_eq_true rfl, Nat.le_of_ble_eq_true rfl⟩ ⟨Nat.zero_le _, Nat.zero_le _⟩ (rest := []) rfl rfl (Nat.le_of_ble_eq_true rfl) d_CS_digest_149 (fun v65 h66 => ?_)
          refine J_aload_n 2 rfl d_CS_digest_152 ?_
          refine J_callVi (m_CS_whole l g ad _) ok_CS_whole rc_71 wi_CS_whole wl_CS_CS_whole wk_CS_303 ⟨rfl, rfl, Nat.le_of_ble_eq_true rfl, Nat.le_of_ble_eq_true rfl⟩ ⟨Nat.zero_le _, Nat.zero_le _⟩ (rest := [.long v65]) rfl rfl (Nat.le_of_ble_eq_true rfl) d_CS_digest_153 (fun v67 h68 => ?_)
          refine J_i2l d_CS_digest_156 ?_
          refine J_callSl (m_CS_mix l g ad _ _ _) ok_CS_mix ws_CS_mix wk_CS_277 ⟨rfl, rfl, Nat.le_of_ble_eq_true rfl, Nat.le_of_ble_eq_true rfl⟩ ⟨Nat.zero_le _, Nat.zero_le _⟩ (rest := []) rfl rfl (Nat.le_of_ble_eq_true rfl) d_CS_digest_157 (fun v69 h70 => ?_)
          refine J_aload_n 2 rfl d_CS_digest_160 ?_
          refine J_callVi (m_CS_tired l g ad _) ok_CS_tired rc_71 wi_CS_tired wl_CS_CS_tired wk_CS_306 ⟨rfl, rfl, Nat.le_of_ble_eq_true rfl, Nat.le_of_ble_eq_true rfl⟩ ⟨Nat.zero_le _, Nat.zero_le _⟩ (rest := [.long v69]) rfl rfl (Nat.le_of_ble_eq_true rfl) d_CS_digest_161 (fun v71 h72 => ?_)
          refine J_i2l d_CS_digest_164 ?_
          refine J_callSl (m_CS_mix l g ad _ _ _) ok_CS_mix ws_CS_mix wk_CS_277 ⟨rfl, rfl, Nat.le_of_ble_eq_true rfl, Nat.le_of_ble_eq_true rfl⟩ ⟨Nat.zero_le _, Nat.zero_le _⟩ (rest := []) rfl rfl (Nat.le_of_ble_eq_true rfl) d_CS_digest_165 (fun v73 h74 => ?_)
          refine J_lstore_n (lv' := [(1, .long v73), (3, .int v44), (0, .ref (ad 71))]) 1 rfl (Nat.le_of_ble_eq_true rfl) rfl d_CS_digest_168 ?_
          refine J_lload_n 0 rfl d_CS_digest_169 ?_
          refine J_aload_n 2 rfl d_CS_digest_170 ?_
          refine J_iconst (v := (-1)) rfl d_CS_digest_171 ?_
          refine J_callVi (m_CS_spare l g ad _ _) ok_CS_spare rc_71 wi_CS_spare wl_CS_CS_spare wk_CS_309 ⟨rfl, rfl, Nat.le_of_ble_eq_true rfl, Nat.le_of_ble_eq_true rfl⟩ ⟨Nat.zero_le _, Nat.zero_le _⟩ (rest := [.long v73]) rfl rfl (Nat.le_of_ble_eq_true rfl) d_CS_digest_172 (fun v75 h76 => ?_)
          refine J_i2l d_CS_digest_175 ?_
          refine J_callSl (m_CS_mix l g ad _ _ _) ok_CS_mix ws_CS_mix wk_CS_277 ⟨rfl, rfl, Nat.le_of_ble_eq_true rfl, Nat.le_of_ble_eq_true rfl⟩ ⟨Nat.zero_le _, Nat.zero_le _⟩ (rest := []) rfl rfl (Nat.le_of_ble_eq_true rfl) d_CS_digest_176 (fun v77 h78 => ?_)
          refine J_aload_n 2 rfl d_CS_digest_179 ?_
          refine J_iconst (v := 0) rfl d_CS_digest_180 ?_
          refine J_callVi (m_CS_spare l g ad _ _) ok_CS_spare rc_71 wi_CS_spare wl_CS_CS_spare wk_CS_309 ⟨rfl, rfl, Nat.le_of_ble_eq_true rfl, Nat.le_of_ble_eq_true rfl⟩ ⟨Nat.zero_le _, Nat.zero_le _⟩ (rest := [.long v77]) rfl rfl (Nat.le_of_ble_eq_true rfl) d_CS_digest_181 (fun v79 h80 => ?_)
          refine J_i2l d_CS_digest_184 ?_
          refine J_callSl (m_CS_mix l g ad _ _ _) ok_CS_mix ws_CS_mix wk_CS_277 ⟨rfl, rfl, Nat.le_of_ble_eq_true rfl, Nat.le_of_ble_eq_true rfl⟩ ⟨Nat.zero_le _, Nat.zero_le _⟩ (rest := []) rfl rfl (Nat.le_of_ble_eq_true rfl) d_CS_digest_185 (fun v81 h82 => ?_)
          refine J_lstore_n (lv' := [(1, .long v81), (3, .int v44), (0, .ref (ad 71))]) 1 rfl (Nat.le_of_ble_eq_true rfl) rfl d_CS_digest_188 ?_
          refine J_lload_n 0 rfl d_CS_digest_189 ?_
          refine J_aload_n 2 rfl d_CS_digest_190 ?_
          refine J_callVi (m_CS_never l g ad _) ok_CS_never rc_71 wi_CS_never wl_CS_CS_never wk_CS_312 ⟨rfl, rfl, Nat.le_of_ble_eq_true rfl, Nat.le_of_ble_eq_true rfl⟩ ⟨Nat.zero_le _, Nat.zero_le _⟩ (rest := [.long v81]) rfl rfl (Nat.le_of_ble_eq_true rfl) d_CS_digest_191 (fun v83 h84 => ?_)
          refine J_i2l d_CS_digest_194 ?_
          refine J_callSl (m_CS_mix l g ad _ _ _) ok_CS_mix ws_CS_mix wk_CS_277 ⟨rfl, rfl, Nat.le_of_ble_eq_true rfl, Nat.le_of_ble_eq_true rfl⟩ ⟨Nat.zero_le _, Nat.zero_le _⟩ (rest := []) rfl rfl (Nat.le_of_ble_eq_true rfl) d_CS_digest_195 (fun v85 h86 => ?_)
          refine J_lstore_n (lv' := [(1, .long v85), (3, .int v44), (0, .ref (ad 71))]) 1 rfl (Nat.le_of_ble_eq_true rfl) rfl d_CS_digest_198 ?_
          refine J_lload_n 0 rfl d_CS_digest_199 ?_
          refine J_aload_n 2 rfl d_CS_digest_200 ?_
          refine J_bipush (v := 7) rfl d_CS_digest_201 ?_
          refine J_bipush (v := 6) rfl d_CS_digest_203 ?_
          refine J_iconst (v := 0) rfl d_CS_digest_205 ?_
          refine J_callVi (m_CS_years l g ad _ _ _ _) ok_CS_years rc_71 wi_CS_years wl_CS_CS_years wk_CS_315 ⟨rfl, rfl, Nat.le_of_ble_eq_true rfl, Nat.le_of_ble_eq_true rfl⟩ ⟨Nat.zero_le _, Nat.zero_le _⟩ (rest := [.long v85]) rfl rfl (Nat.le_of_ble_eq_true rfl) d_CS_digest_206 (fun v87 h88 => ?_)
          refine J_i2l d_CS_digest_209 ?_
          refine J_callSl (m_CS_mix l g ad _ _ _) ok_CS_mix ws_CS_mix wk_CS_277 ⟨rfl, rfl, Nat.le_of_ble_eq_true rfl, Nat.le_of_ble_eq_true rfl⟩ ⟨Nat.zero_le _, Nat.zero_le _⟩ (rest := []) rfl rfl (Nat.le_of_ble_eq_true rfl) d_CS_digest_210 (fun v89 h90 => ?_)
          refine J_aload_n 2 rfl d_CS_digest_213 ?_
          refine J_bipush (v := 7) rfl d_CS_digest_214 ?_
          refine J_bipush (v := 6) rfl d_CS_digest_216 ?_
          refine J_iconst (v := 1) rfl d_CS_digest_218 ?_
          refine J_callVi (m_CS_years l g ad _ _ _ _) ok_CS_years rc_71 wi_CS_years wl_CS_CS_years wk_CS_315 ⟨rfl, rfl, Nat.le_of_ble_eq_true rfl, Nat.le_of_ble_eq_true rfl⟩ ⟨Nat.zero_le _, Nat.zero_le _⟩ (rest := [.long v89]) rfl rfl (Nat.le_of_ble_eq_true rfl) d_CS_digest_219 (fun v91 h92 => ?_)
          refine J_i2l d_CS_digest_222 ?_
          refine J_callSl (m_CS_mix l g ad _ _ _) ok_CS_mix ws_CS_mix wk_CS_277 ⟨rfl, rfl, Nat.le_of_ble_eq_true rfl, Nat.le_of_ble_eq_true rfl⟩ ⟨Nat.zero_le _, Nat.zero_le _⟩ (rest := []) rfl rfl (Nat.le_of_ble_eq_true rfl) d_CS_digest_223 (fun v93 h94 => ?_)
          exact J_lret (Nat.le_refl _) (Nat.le_refl _) d_CS_digest_226 rfl (fun hx => hx)
def f_Mo_in (a1 : Int32) (a2 : Int32) (a3 : Int32) (h0 : HP) : Option (Int32 × HP) :=
 (if a1 < a2 then
 some (0, h0)
 else
 (if a3 < a1 then
 some (0, h0)
 else
 some (1, h0)))
set_option maxRecDepth 20000 in
set_option maxHeartbeats 4000000 in
theorem m_Mo_in (l : Launch) (g : GG) (ad : Nat → Nat) (a1 : Int32) (a2 : Int32) (a3 : Int32) (h0 : HP) : CM l g ad y_Mo_in b_Mo_in 3 (some .boolean) rm_Mo_in [.int a1, .int a2, .int a3] h0 enI (f_Mo_in a1 a2 a3 h0) := by
  refine CM.of (by decide) (Nat.le_of_ble_eq_true rfl) (fun Q => ?_)
  show Jj _ _ (Vw (kx_Mo_in l g Q) 0 0 0 _ _ _)
  refine J_sub [0, 1, 2] (lv' := [(0, .int a1), (1, .int a2), (2, .int a3)]) rfl ?_
  unfold f_Mo_in
  refine J_iload_n 0 rfl d_Mo_in_0 ?_
  refine J_iload_n 1 rfl d_Mo_in_1 ?_
  refine J_icmp_lt 14 rfl d_Mo_in_2 (fun c4 => ?_) (fun c4 => ?_)
  · refine J_iconst (v := 0) rfl d_Mo_in_14 ?_
    exact J_zret (Nat.le_refl _) (Nat.le_refl _) d_Mo_in_15 rfl (zfit (Or.inl rfl)).1 (fun hx => hx)
  · refine J_iload_n 0 rfl d_Mo_in_5 ?_
    refine J_iload_n 2 rfl d_Mo_in_6 ?_
    refine J_icmp_gt 14 rfl d_Mo_in_7 (fun c5 => ?_) (fun c5 => ?_)
    · refine J_iconst (v := 0) rfl d_Mo_in_14 ?_
      exact J_zret (Nat.le_refl _) (Nat.le_refl _) d_Mo_in_15 rfl (zfit (Or.inl rfl)).1 (fun hx => hx)
    · refine J_iconst (v := 1) rfl d_Mo_in_10 ?_
      refine J_goto 15 rfl d_Mo_in_11 ?_
      exact J_zret (Nat.le_refl _) (Nat.le_refl _) d_Mo_in_15 rfl (zfit (Or.inr rfl)).1 (fun hx => hx)
def f_Mo_isText (a1 : Int32) (h0 : HP) : Option (Int32 × HP) :=
 bd2 (f_Mo_in a1 0 1 h0) (fun (v2 : Int32) (h3 : HP) =>
 ckk (z01 v2) (some (v2, h3)))
set_option maxRecDepth 20000 in
set_option maxHeartbeats 4000000 in
theorem m_Mo_isText (l : Launch) (g : GG) (ad : Nat → Nat) (a1 : Int32) (h0 : HP) : CM l g ad y_Mo_isText b_Mo_isText 1 (some .boolean) rm_Mo_isText [.int a1] h0 enI (f_Mo_isText a1 h0) := by
  refine CM.of (by decide) (Nat.le_of_ble_eq_true rfl) (fun Q => ?_)
  show Jj _ _ (Vw (kx_Mo_isText l g Q) 0 0 0 _ _ _)
  refine J_sub [0] (lv' := [(0, .int a1)]) rfl ?_
  unfold f_Mo_isText
  refine J_iload_n 0 rfl d_Mo_isText_0 ?_
  refine J_iconst (v := 0) rfl d_Mo_isText_1 ?_
  refine J_iconst (v := 1) rfl d_Mo_isText_2 ?_
  refine J_callSi (m_Mo_in l g ad _ _ _ _) ok_Mo_in ws_Mo_in wk_Mo_115 ⟨rfl, rfl, Nat.le_of_ble_eq_true rfl, Nat.le_of_ble_eq_true rfl⟩ ⟨Nat.zero_le _, Nat.zero_le _⟩ (rest := []) rfl rfl (Nat.le_of_ble_eq_true rfl) d_Mo_isText_3 (fun v2 h3 => ?_)
  exact P_zret (Nat.le_refl _) (Nat.le_refl _) d_Mo_isText_6 rfl (fun hx => hx)
def f_Mo_type (a1 : Int32) (a2 : Int32) (h0 : HP) : Option (Int32 × HP) :=
 bd2 (f_Mo_isText a1 h0) (fun (v3 : Int32) (h4 : HP) =>
 (if v3 = 0 then
 some ((-2), h4)
 else
 bd2 (f_Mo_in a2 0 255 h4) (fun (v6 : Int32) (h7 : HP) =>
 (if v6 = 0 then
 some ((-2), h7)
 else
 ckk (inb a1 2) (ltt (rA h7 33 a1) (fun (v9 : Int32) =>
 bd1 ((if a1 = 0 then
 some (23)
 else
 some (39)) : Option (Int32)) (fun (v10 : Int32) =>
 (if v9 = v10 then
 some ((-4), h7)
 else
 ckk (inb a1 2) (ltt (rA h7 33 a1) (fun (v13 : Int32) =>
 ckk (inb ((39 * a1) + v13) 78) (ltt (wA h7 32 ((39 * a1) + v13) a2) (fun (h14 : HP) =>
 ckk (inb a1 2) (ltt (rA h14 33 a1) (fun (v15 : Int32) =>
 ckk (inb a1 2) (ltt (wA h14 33 a1 (v15 + 1)) (fun (h16 : HP) =>
 ckk (inb a1 2) (ltt (rA h16 33 a1) (fun (v17 : Int32) =>
 some (v17, h16)))))))))))))))))))
set_option maxRecDepth 20000 in
set_option maxHeartbeats 4000000 in
theorem m_Mo_type (l : Launch) (g : GG) (ad : Nat → Nat) (a1 : Int32) (a2 : Int32) (h0 : HP) : CM l g ad y_Mo_type b_Mo_type 3 (some .int) rm_Mo_type [.ref (ad 34), .int a1, .int a2] h0 enI (f_Mo_type a1 a2 h0) := by
  refine CM.of (by decide) (Nat.le_of_ble_eq_true rfl) (fun Q => ?_)
  show Jj _ _ (Vw (kx_Mo_type l g Q) 0 0 0 _ _ _)
  refine J_sub [0, 1, 2] (lv' := [(0, .ref (ad 34)), (1, .int a1), (2, .int a2)]) rfl ?_
  unfold f_Mo_type
  refine J_iload_n 1 rfl d_Mo_type_0 ?_
  refine J_callSi (m_Mo_isText l g ad _ _) ok_Mo_isText ws_Mo_isText wk_Mo_119 ⟨rfl, rfl, Nat.le_of_ble_eq_true rfl, Nat.le_of_ble_eq_true rfl⟩ ⟨Nat.zero_le _, Nat.zero_le _⟩ (rest := []) rfl rfl (Nat.le_of_ble_eq_true rfl) d_Mo_type_1 (fun v3 h4 => ?_)
  refine J_if_eq 18 rfl d_Mo_type_4 (fun c5 => ?_) (fun c5 => ?_)
  · refine J_bipush (v := (-2)) rfl d_Mo_type_18 ?_
    exact J_iret (Nat.le_refl _) (Nat.le_refl _) d_Mo_type_20 rfl (fun hx => hx)
  · refine J_iload_n 2 rfl d_Mo_type_7 ?_
    refine J_iconst (v := 0) rfl d_Mo_type_8 ?_
    refine J_sipush (v := 255) rfl d_Mo_type_9 ?_
    refine J_callSi (m_Mo_in l g ad _ _ _ _) ok_Mo_in ws_Mo_in wk_Mo_115 ⟨rfl, rfl, Nat.le_of_ble_eq_true rfl, Nat.le_of_ble_eq_true rfl⟩ ⟨Nat.zero_le _, Nat.zero_le _⟩ (rest := []) rfl rfl (Nat.le_of_ble_eq_true rfl) d_Mo_type_12 (fun v6 h7 => ?_)
    refine J_if_ne 21 rfl d_Mo_type_15 (fun c8 => ?_) (fun c8 => ?_)
    · refine J_aload_n 0 rfl d_Mo_type_21 ?_
      refine J_getR fo_Mo_7_34 rfl d_Mo_type_22 ?_
      refine J_iload_n 1 rfl d_Mo_type_25 ?_
      refine P_ia (by decide) rfl rfl d_Mo_type_26 (fun v9 => ?_)
      refine J_iload_n 1 rfl d_Mo_type_27 ?_
      refine J_bd1 (fun (v10 : Int32) => Vw (kx_Mo_type l g Q) 0 0 38 [(0, .ref (ad 34)), (1, .int a1), (2, .int a2)] [.int v10, .int v9] (pic g ad h7)) ?_ (fun v10 => ?_)
      · refine J_if_ne 36 rfl d_Mo_type_28 (fun c11 => ?_) (fun c11 => ?_)
        · refine J_bipush (v := 39) rfl d_Mo_type_36 ?_
          exact J_exit [0, 1, 2] rfl (fun hx => hx)
        · refine J_bipush (v := 23) rfl d_Mo_type_31 ?_
          refine J_goto 38 rfl d_Mo_type_33 ?_
          exact J_exit [0, 1, 2] rfl (fun hx => hx)
      · refine J_icmp_ne 44 rfl d_Mo_type_38 (fun c12 => ?_) (fun c12 => ?_)
        · refine J_aload_n 0 rfl d_Mo_type_44 ?_
          refine J_getR fo_Mo_13_34 rfl d_Mo_type_45 ?_
          refine J_bipush (v := 39) rfl d_Mo_type_48 ?_
          refine J_iload_n 1 rfl d_Mo_type_50 ?_
          refine J_imul d_Mo_type_51 ?_
          refine J_aload_n 0 rfl d_Mo_type_52 ?_
          refine J_getR fo_Mo_7_34 rfl d_Mo_type_53 ?_
          refine J_iload_n 1 rfl d_Mo_type_56 ?_
          refine P_ia (by decide) rfl rfl d_Mo_type_57 (fun v13 => ?_)
          refine J_iadd d_Mo_type_58 ?_
          refine J_iload_n 2 rfl d_Mo_type_59 ?_
          refine P_wa (by decide) rfl rfl d_Mo_type_60 (fun h14 => ?_)
          refine J_aload_n 0 rfl d_Mo_type_61 ?_
          refine J_getR fo_Mo_7_34 rfl d_Mo_type_62 ?_
          refine J_iload_n 1 rfl d_Mo_type_65 ?_
          refine J_dup2 rfl rfl d_Mo_type_66 ?_
          refine P_ia (by decide) rfl rfl d_Mo_type_67 (fun v15 => ?_)
          refine J_iconst (v := 1) rfl d_Mo_type_68 ?_
          refine J_iadd d_Mo_type_69 ?_
          refine P_wa (by decide) rfl rfl d_Mo_type_70 (fun h16 => ?_)
          refine J_aload_n 0 rfl d_Mo_type_71 ?_
          refine J_getR fo_Mo_7_34 rfl d_Mo_type_72 ?_
          refine J_iload_n 1 rfl d_Mo_type_75 ?_
          refine P_ia (by decide) rfl rfl d_Mo_type_76 (fun v17 => ?_)
          exact J_iret (Nat.le_refl _) (Nat.le_refl _) d_Mo_type_77 rfl (fun hx => hx)
        · refine J_bipush (v := (-4)) rfl d_Mo_type_41 ?_
          exact J_iret (Nat.le_refl _) (Nat.le_refl _) d_Mo_type_43 rfl (fun hx => hx)
    · refine J_bipush (v := (-2)) rfl d_Mo_type_18 ?_
      exact J_iret (Nat.le_refl _) (Nat.le_refl _) d_Mo_type_20 rfl (fun hx => hx)
def f_Mo_wipe (a1 : Int32) (h0 : HP) : Option (Int32 × HP) :=
 bd2 (f_Mo_isText a1 h0) (fun (v2 : Int32) (h3 : HP) =>
 (if v2 = 0 then
 some ((-2), h3)
 else
 ckk (inb a1 2) (ltt (rA h3 33 a1) (fun (v5 : Int32) =>
 ckk (inb a1 2) (ltt (wA h3 33 a1 0) (fun (h6 : HP) =>
 some (v5, h6)))))))
set_option maxRecDepth 20000 in
set_option maxHeartbeats 4000000 in
theorem m_Mo_wipe (l : Launch) (g : GG) (ad : Nat → Nat) (a1 : Int32) (h0 : HP) : CM l g ad y_Mo_wipe b_Mo_wipe 3 (some .int) rm_Mo_wipe [.ref (ad 34), .int a1] h0 enI (f_Mo_wipe a1 h0) := by
  refine CM.of (by decide) (Nat.le_of_ble_eq_true rfl) (fun Q => ?_)
  show Jj _ _ (Vw (kx_Mo_wipe l g Q) 0 0 0 _ _ _)
  refine J_sub [0, 1] (lv' := [(0, .ref (ad 34)), (1, .int a1)]) rfl ?_
  unfold f_Mo_wipe
  refine J_iload_n 1 rfl d_Mo_wipe_0 ?_
  refine J_callSi (m_Mo_isText l g ad _ _) ok_Mo_isText ws_Mo_isText wk_Mo_119 ⟨rfl, rfl, Nat.le_of_ble_eq_true rfl, Nat.le_of_ble_eq_true rfl⟩ ⟨Nat.zero_le _, Nat.zero_le _⟩ (rest := []) rfl rfl (Nat.le_of_ble_eq_true rfl) d_Mo_wipe_1 (fun v2 h3 => ?_)
  refine J_if_ne 10 rfl d_Mo_wipe_4 (fun c4 => ?_) (fun c4 => ?_)
  · refine J_aload_n 0 rfl d_Mo_wipe_10 ?_
    refine J_getR fo_Mo_7_34 rfl d_Mo_wipe_11 ?_
    refine J_iload_n 1 rfl d_Mo_wipe_14 ?_
    refine P_ia (by decide) rfl rfl d_Mo_wipe_15 (fun v5 => ?_)
    refine J_istore_n (lv' := [(2, .int v5), (0, .ref (ad 34)), (1, .int a1)]) 2 rfl (Nat.le_of_ble_eq_true rfl) rfl d_Mo_wipe_16 ?_
    refine J_aload_n 1 rfl d_Mo_wipe_17 ?_
    refine J_getR fo_Mo_7_34 rfl d_Mo_wipe_18 ?_
    refine J_iload_n 2 rfl d_Mo_wipe_21 ?_
    refine J_iconst (v := 0) rfl d_Mo_wipe_22 ?_
    refine P_wa (by decide) rfl rfl d_Mo_wipe_23 (fun h6 => ?_)
    refine J_iload_n 0 rfl d_Mo_wipe_24 ?_
    exact J_iret (Nat.le_refl _) (Nat.le_refl _) d_Mo_wipe_25 rfl (fun hx => hx)
  · refine J_bipush (v := (-2)) rfl d_Mo_wipe_7 ?_
    exact J_iret (Nat.le_refl _) (Nat.le_refl _) d_Mo_wipe_9 rfl (fun hx => hx)
def f_Mo_undo (a1 : Int32) (h0 : HP) : Option (Int32 × HP) :=
 bd2 (f_Mo_isText a1 h0) (fun (v2 : Int32) (h3 : HP) =>
 (if v2 = 0 then
 some ((-2), h3)
 else
 ckk (inb a1 2) (ltt (rA h3 33 a1) (fun (v5 : Int32) =>
 (if v5 = 0 then
 some ((-3), h3)
 else
 ckk (inb a1 2) (ltt (rA h3 33 a1) (fun (v7 : Int32) =>
 ckk (inb a1 2) (ltt (wA h3 33 a1 (v7 - 1)) (fun (h8 : HP) =>
 ckk (inb a1 2) (ltt (rA h8 33 a1) (fun (v9 : Int32) =>
 some (v9, h8))))))))))))
set_option maxRecDepth 20000 in
set_option maxHeartbeats 4000000 in
theorem m_Mo_undo (l : Launch) (g : GG) (ad : Nat → Nat) (a1 : Int32) (h0 : HP) : CM l g ad y_Mo_undo b_Mo_undo 2 (some .int) rm_Mo_undo [.ref (ad 34), .int a1] h0 enI (f_Mo_undo a1 h0) := by
  refine CM.of (by decide) (Nat.le_of_ble_eq_true rfl) (fun Q => ?_)
  show Jj _ _ (Vw (kx_Mo_undo l g Q) 0 0 0 _ _ _)
  refine J_sub [0, 1] (lv' := [(0, .ref (ad 34)), (1, .int a1)]) rfl ?_
  unfold f_Mo_undo
  refine J_iload_n 1 rfl d_Mo_undo_0 ?_
  refine J_callSi (m_Mo_isText l g ad _ _) ok_Mo_isText ws_Mo_isText wk_Mo_119 ⟨rfl, rfl, Nat.le_of_ble_eq_true rfl, Nat.le_of_ble_eq_true rfl⟩ ⟨Nat.zero_le _, Nat.zero_le _⟩ (rest := []) rfl rfl (Nat.le_of_ble_eq_true rfl) d_Mo_undo_1 (fun v2 h3 => ?_)
  refine J_if_ne 10 rfl d_Mo_undo_4 (fun c4 => ?_) (fun c4 => ?_)
  · refine J_aload_n 0 rfl d_Mo_undo_10 ?_
    refine J_getR fo_Mo_7_34 rfl d_Mo_undo_11 ?_
    refine J_iload_n 1 rfl d_Mo_undo_14 ?_
    refine P_ia (by decide) rfl rfl d_Mo_undo_15 (fun v5 => ?_)
    refine J_if_ne 22 rfl d_Mo_undo_16 (fun c6 => ?_) (fun c6 => ?_)
    · refine J_aload_n 0 rfl d_Mo_undo_22 ?_
      refine J_getR fo_Mo_7_34 rfl d_Mo_undo_23 ?_
      refine J_iload_n 1 rfl d_Mo_undo_26 ?_
      refine J_dup2 rfl rfl d_Mo_undo_27 ?_
      refine P_ia (by decide) rfl rfl d_Mo_undo_28 (fun v7 => ?_)
      refine J_iconst (v := 1) rfl d_Mo_undo_29 ?_
      refine J_isub d_Mo_undo_30 ?_
      refine P_wa (by decide) rfl rfl d_Mo_undo_31 (fun h8 => ?_)
      refine J_aload_n 0 rfl d_Mo_undo_32 ?_
      refine J_getR fo_Mo_7_34 rfl d_Mo_undo_33 ?_
      refine J_iload_n 1 rfl d_Mo_undo_36 ?_
      refine P_ia (by decide) rfl rfl d_Mo_undo_37 (fun v9 => ?_)
      exact J_iret (Nat.le_refl _) (Nat.le_refl _) d_Mo_undo_38 rfl (fun hx => hx)
    · refine J_bipush (v := (-3)) rfl d_Mo_undo_19 ?_
      exact J_iret (Nat.le_refl _) (Nat.le_refl _) d_Mo_undo_21 rfl (fun hx => hx)
  · refine J_bipush (v := (-2)) rfl d_Mo_undo_7 ?_
    exact J_iret (Nat.le_refl _) (Nat.le_refl _) d_Mo_undo_9 rfl (fun hx => hx)
def f_Mo_byteAt (a1 : Int32) (a2 : Int32) (h0 : HP) : Option (Int32 × HP) :=
 ckk (inb a1 2) (ltt (rA h0 33 a1) (fun (v3 : Int32) =>
 (if v3 ≤ a2 then
 some ((-1), h0)
 else
 ckk (inb ((39 * a1) + a2) 78) (ltt (rA h0 32 ((39 * a1) + a2)) (fun (v5 : Int32) =>
 some (v5, h0))))))
set_option maxRecDepth 20000 in
set_option maxHeartbeats 4000000 in
theorem m_Mo_byteAt (l : Launch) (g : GG) (ad : Nat → Nat) (a1 : Int32) (a2 : Int32) (h0 : HP) : CM l g ad y_Mo_byteAt b_Mo_byteAt 3 (some .int) rm_Mo_byteAt [.ref (ad 34), .int a1, .int a2] h0 enI (f_Mo_byteAt a1 a2 h0) := by
  refine CM.of (by decide) (Nat.le_of_ble_eq_true rfl) (fun Q => ?_)
  show Jj _ _ (Vw (kx_Mo_byteAt l g Q) 0 0 0 _ _ _)
  refine J_sub [0, 1, 2] (lv' := [(0, .ref (ad 34)), (1, .int a1), (2, .int a2)]) rfl ?_
  unfold f_Mo_byteAt
  refine J_iload_n 2 rfl d_Mo_byteAt_0 ?_
  refine J_aload_n 0 rfl d_Mo_byteAt_1 ?_
  refine J_getR fo_Mo_7_34 rfl d_Mo_byteAt_2 ?_
  refine J_iload_n 1 rfl d_Mo_byteAt_5 ?_
  refine P_ia (by decide) rfl rfl d_Mo_byteAt_6 (fun v3 => ?_)
  refine J_icmp_ge 24 rfl d_Mo_byteAt_7 (fun c4 => ?_) (fun c4 => ?_)
  · refine J_iconst (v := (-1)) rfl d_Mo_byteAt_24 ?_
    exact J_iret (Nat.le_refl _) (Nat.le_refl _) d_Mo_byteAt_25 rfl (fun hx => hx)
  · refine J_aload_n 0 rfl d_Mo_byteAt_10 ?_
    refine J_getR fo_Mo_13_34 rfl d_Mo_byteAt_11 ?_
    refine J_bipush (v := 39) rfl d_Mo_byteAt_14 ?_
    refine J_iload_n 1 rfl d_Mo_byteAt_16 ?_
    refine J_imul d_Mo_byteAt_17 ?_
    refine J_iload_n 2 rfl d_Mo_byteAt_18 ?_
    refine J_iadd d_Mo_byteAt_19 ?_
    refine P_ia (by decide) rfl rfl d_Mo_byteAt_20 (fun v5 => ?_)
    refine J_goto 25 rfl d_Mo_byteAt_21 ?_
    exact J_iret (Nat.le_refl _) (Nat.le_refl _) d_Mo_byteAt_25 rfl (fun hx => hx)
def f_Mo_readsCamel (a1 : Int32) (a2 : Int32) (h0 : HP) : Option (Int32 × HP) :=
 bd2 (f_Mo_byteAt 0 a2 h0) (fun (v3 : Int32) (h4 : HP) =>
 bd1 ((if v3 = 121 then
 some (0)
 else
 (if v3 = 111 then
 some (1)
 else
 (if v3 = 115 then
 some (2)
 else
 some ((-1))))) : Option (Int32)) (fun (v5 : Int32) =>
 bd2 (f_Mo_byteAt 0 (a2 + 1) h4) (fun (v9 : Int32) (h10 : HP) =>
 (if a1 = 8 then
 some (0, h10)
 else
 (if v5 = (-1) then
 some (0, h10)
 else
 bd2 (f_Mo_in v9 49 57 h10) (fun (v13 : Int32) (h14 : HP) =>
 (if v13 = 0 then
 some (1, h14)
 else
 ckk (inb a1 9) (ltt (wA h14 31 a1 v5) (fun (h16 : HP) =>
 ckk (inb a1 9) (ltt (wA h16 30 a1 (v9 - 48)) (fun (h17 : HP) =>
 some (2, h17))))))))))))
set_option maxRecDepth 20000 in
set_option maxHeartbeats 4000000 in
theorem m_Mo_readsCamel (l : Launch) (g : GG) (ad : Nat → Nat) (a1 : Int32) (a2 : Int32) (h0 : HP) : CM l g ad y_Mo_readsCamel b_Mo_readsCamel 6 (some .int) rm_Mo_readsCamel [.ref (ad 34), .int a1, .int a2] h0 enI (f_Mo_readsCamel a1 a2 h0) := by
  refine CM.of (by decide) (Nat.le_of_ble_eq_true rfl) (fun Q => ?_)
  show Jj _ _ (Vw (kx_Mo_readsCamel l g Q) 0 0 0 _ _ _)
  refine J_sub [0, 1, 2] (lv' := [(0, .ref (ad 34)), (1, .int a1), (2, .int a2)]) rfl ?_
  unfold f_Mo_readsCamel
  refine J_aload_n 0 rfl d_Mo_readsCamel_0 ?_
  refine J_iconst (v := 0) rfl d_Mo_readsCamel_1 ?_
  refine J_iload_n 2 rfl d_Mo_readsCamel_2 ?_
  refine J_callVi (m_Mo_byteAt l g ad _ _ _) ok_Mo_byteAt rc_34 wi_Mo_byteAt wl_Mo_Mo_byteAt wk_Mo_123 ⟨rfl, rfl, Nat.le_of_ble_eq_true rfl, Nat.le_of_ble_eq_true rfl⟩ ⟨Nat.zero_le _, Nat.zero_le _⟩ (rest := []) rfl rfl (Nat.le_of_ble_eq_true rfl) d_Mo_readsCamel_3 (fun v3 h4 => ?_)
  refine J_istore_n (lv' := [(3, .int v3), (0, .ref (ad 34)), (1, .int a1), (2, .int a2)]) 3 rfl (Nat.le_of_ble_eq_true rfl) rfl d_Mo_readsCamel_6 ?_
  refine J_iload_n 0 rfl d_Mo_readsCamel_7 ?_
  refine J_bipush (v := 121) rfl d_Mo_readsCamel_8 ?_
  refine J_bd1 (fun (v5 : Int32) => Vw (kx_Mo_readsCamel l g Q) 0 0 38 [(3, .int v3), (0, .ref (ad 34)), (1, .int a1), (2, .int a2)] [.int v5] (pic g ad h4)) ?_ (fun v5 => ?_)
  · refine J_icmp_ne 17 rfl d_Mo_readsCamel_10 (fun c6 => ?_) (fun c6 => ?_)
    · refine J_iload_n 0 rfl d_Mo_readsCamel_17 ?_
      refine J_bipush (v := 111) rfl d_Mo_readsCamel_18 ?_
      refine J_icmp_ne 27 rfl d_Mo_readsCamel_20 (fun c7 => ?_) (fun c7 => ?_)
      · refine J_iload_n 0 rfl d_Mo_readsCamel_27 ?_
        refine J_bipush (v := 115) rfl d_Mo_readsCamel_28 ?_
        refine J_icmp_ne 37 rfl d_Mo_readsCamel_30 (fun c8 => ?_) (fun c8 => ?_)
        · refine J_iconst (v := (-1)) rfl d_Mo_readsCamel_37 ?_
          exact J_exit [0, 1, 2, 3] rfl (fun hx => hx)
        · refine J_iconst (v := 2) rfl d_Mo_readsCamel_33 ?_
          refine J_goto 38 rfl d_Mo_readsCamel_34 ?_
          exact J_exit [0, 1, 2, 3] rfl (fun hx => hx)
      · refine J_iconst (v := 1) rfl d_Mo_readsCamel_23 ?_
        refine J_goto 38 rfl d_Mo_readsCamel_24 ?_
        exact J_exit [0, 1, 2, 3] rfl (fun hx => hx)
    · refine J_iconst (v := 0) rfl d_Mo_readsCamel_13 ?_
      refine J_goto 38 rfl d_Mo_readsCamel_14 ?_
      exact J_exit [0, 1, 2, 3] rfl (fun hx => hx)
  · refine J_istore (lv' := [(4, .int v5), (3, .int v3), (0, .ref (ad 34)), (1, .int a1), (2, .int a2)]) (Nat.le_of_ble_eq_true rfl) rfl d_Mo_readsCamel_38 ?_
    refine J_aload_n 2 rfl d_Mo_readsCamel_40 ?_
    refine J_iconst (v := 0) rfl d_Mo_readsCamel_41 ?_
    refine J_iload_n 4 rfl d_Mo_readsCamel_42 ?_
    refine J_iconst (v := 1) rfl d_Mo_readsCamel_43 ?_
    refine J_iadd d_Mo_readsCamel_44 ?_
    refine J_callVi (m_Mo_byteAt l g ad _ _ _) ok_Mo_byteAt rc_34 wi_Mo_byteAt wl_Mo_Mo_byteAt wk_Mo_123 ⟨rfl, rfl, Nat.le_of_ble_eq_true rfl, Nat.le_of_ble_eq_true rfl⟩ ⟨Nat.zero_le _, Nat.zero_le _⟩ (rest := []) rfl rfl (Nat.le_of_ble_eq_true rfl) d_Mo_readsCamel_45 (fun v9 h10 => ?_)
    refine J_istore (lv' := [(5, .int v9), (4, .int v5), (3, .int v3), (0, .ref (ad 34)), (1, .int a1), (2, .int a2)]) (Nat.le_of_ble_eq_true rfl) rfl d_Mo_readsCamel_48 ?_
    refine J_iload_n 4 rfl d_Mo_readsCamel_50 ?_
    refine J_bipush (v := 8) rfl d_Mo_readsCamel_51 ?_
    refine J_icmp_eq 62 rfl d_Mo_readsCamel_53 (fun c11 => ?_) (fun c11 => ?_)
    · refine J_iconst (v := 0) rfl d_Mo_readsCamel_62 ?_
      exact J_iret (Nat.le_refl _) (Nat.le_refl _) d_Mo_readsCamel_63 rfl (fun hx => hx)
    · refine J_iload 1 rfl d_Mo_readsCamel_56 ?_
      refine J_iconst (v := (-1)) rfl d_Mo_readsCamel_58 ?_
      refine J_icmp_ne 64 rfl d_Mo_readsCamel_59 (fun c12 => ?_) (fun c12 => ?_)
      · refine J_iload 0 rfl d_Mo_readsCamel_64 ?_
        refine J_bipush (v := 49) rfl d_Mo_readsCamel_66 ?_
        refine J_bipush (v := 57) rfl d_Mo_readsCamel_68 ?_
        refine J_callSi (m_Mo_in l g ad _ _ _ _) ok_Mo_in ws_Mo_in wk_Mo_115 ⟨rfl, rfl, Nat.le_of_ble_eq_true rfl, Nat.le_of_ble_eq_true rfl⟩ ⟨Nat.zero_le _, Nat.zero_le _⟩ (rest := []) rfl rfl (Nat.le_of_ble_eq_true rfl) d_Mo_readsCamel_70 (fun v13 h14 => ?_)
        refine J_if_ne 78 rfl d_Mo_readsCamel_73 (fun c15 => ?_) (fun c15 => ?_)
        · refine J_aload_n 3 rfl d_Mo_readsCamel_78 ?_
          refine J_getR fo_Mo_16_34 rfl d_Mo_readsCamel_79 ?_
          refine J_iload_n 4 rfl d_Mo_readsCamel_82 ?_
          refine J_iload 1 rfl d_Mo_readsCamel_83 ?_
          refine P_wa (by decide) rfl rfl d_Mo_readsCamel_85 (fun h16 => ?_)
          refine J_aload_n 3 rfl d_Mo_readsCamel_86 ?_
          refine J_getR fo_Mo_19_34 rfl d_Mo_readsCamel_87 ?_
          refine J_iload_n 4 rfl d_Mo_readsCamel_90 ?_
          refine J_iload 0 rfl d_Mo_readsCamel_91 ?_
          refine J_bipush (v := 48) rfl d_Mo_readsCamel_93 ?_
          refine J_isub d_Mo_readsCamel_95 ?_
          refine P_wa (by decide) rfl rfl d_Mo_readsCamel_96 (fun h17 => ?_)
          refine J_iconst (v := 2) rfl d_Mo_readsCamel_97 ?_
          exact J_iret (Nat.le_refl _) (Nat.le_refl _) d_Mo_readsCamel_98 rfl (fun hx => hx)
        · refine J_iconst (v := 1) rfl d_Mo_readsCamel_76 ?_
          exact J_iret (Nat.le_refl _) (Nat.le_refl _) d_Mo_readsCamel_77 rfl (fun hx => hx)
      · refine J_iconst (v := 0) rfl d_Mo_readsCamel_62 ?_
        exact J_iret (Nat.le_refl _) (Nat.le_refl _) d_Mo_readsCamel_63 rfl (fun hx => hx)
def f_Mo_readsBale (a1 : Int32) (a2 : Int32) (h0 : HP) : Option (Int32 × HP) :=
 bd2 (f_Mo_byteAt 1 a2 h0) (fun (v3 : Int32) (h4 : HP) =>
 bd2 (f_Mo_byteAt 1 (a2 + 1) h4) (fun (v5 : Int32) (h6 : HP) =>
 bd2 (f_Mo_byteAt 1 (a2 + 2) h6) (fun (v7 : Int32) (h8 : HP) =>
 (if a1 = 10 then
 some (0, h8)
 else
 bd2 (f_Mo_in v3 97 104 h8) (fun (v10 : Int32) (h11 : HP) =>
 (if v10 = 0 then
 some (0, h11)
 else
 bd2 (f_Mo_in v5 49 57 h11) (fun (v13 : Int32) (h14 : HP) =>
 (if v13 = 0 then
 some (1, h14)
 else
 bd2 (f_Mo_in v7 97 120 h14) (fun (v16 : Int32) (h17 : HP) =>
 (if v16 = 0 then
 some (2, h17)
 else
 ckk (inb a1 11) (ltt (wA h17 29 a1 (v3 - 97)) (fun (h19 : HP) =>
 ckk (inb a1 11) (ltt (wA h19 28 a1 (v5 - 48)) (fun (h20 : HP) =>
 ckk (inb a1 11) (ltt (wA h20 27 a1 (v7 - 97)) (fun (h21 : HP) =>
 some (3, h21)))))))))))))))))
set_option maxRecDepth 20000 in
set_option maxHeartbeats 4000000 in
theorem m_Mo_readsBale (l : Launch) (g : GG) (ad : Nat → Nat) (a1 : Int32) (a2 : Int32) (h0 : HP) : CM l g ad y_Mo_readsBale b_Mo_readsBale 6 (some .int) rm_Mo_readsBale [.ref (ad 34), .int a1, .int a2] h0 enI (f_Mo_readsBale a1 a2 h0) := by
  refine CM.of (by decide) (Nat.le_of_ble_eq_true rfl) (fun Q => ?_)
  show Jj _ _ (Vw (kx_Mo_readsBale l g Q) 0 0 0 _ _ _)
  refine J_sub [0, 1, 2] (lv' := [(0, .ref (ad 34)), (1, .int a1), (2, .int a2)]) rfl ?_
  unfold f_Mo_readsBale
  refine J_aload_n 0 rfl d_Mo_readsBale_0 ?_
  refine J_iconst (v := 1) rfl d_Mo_readsBale_1 ?_
  refine J_iload_n 2 rfl d_Mo_readsBale_2 ?_
  refine J_callVi (m_Mo_byteAt l g ad _ _ _) ok_Mo_byteAt rc_34 wi_Mo_byteAt wl_Mo_Mo_byteAt wk_Mo_123 ⟨rfl, rfl, Nat.le_of_ble_eq_true rfl, Nat.le_of_ble_eq_true rfl⟩ ⟨Nat.zero_le _, Nat.zero_le _⟩ (rest := []) rfl rfl (Nat.le_of_ble_eq_true rfl) d_Mo_readsBale_3 (fun v3 h4 => ?_)
  refine J_istore_n (lv' := [(3, .int v3), (0, .ref (ad 34)), (1, .int a1), (2, .int a2)]) 3 rfl (Nat.le_of_ble_eq_true rfl) rfl d_Mo_readsBale_6 ?_
  refine J_aload_n 1 rfl d_Mo_readsBale_7 ?_
  refine J_iconst (v := 1) rfl d_Mo_readsBale_8 ?_
  refine J_iload_n 3 rfl d_Mo_readsBale_9 ?_
  refine J_iconst (v := 1) rfl d_Mo_readsBale_10 ?_
  refine J_iadd d_Mo_readsBale_11 ?_
  refine J_callVi (m_Mo_byteAt l g ad _ _ _) ok_Mo_byteAt rc_34 wi_Mo_byteAt wl_Mo_Mo_byteAt wk_Mo_123 ⟨rfl, rfl, Nat.le_of_ble_eq_true rfl, Nat.le_of_ble_eq_true rfl⟩ ⟨Nat.zero_le _, Nat.zero_le _⟩ (rest := []) rfl rfl (Nat.le_of_ble_eq_true rfl) d_Mo_readsBale_12 (fun v5 h6 => ?_)
  refine J_istore (lv' := [(4, .int v5), (3, .int v3), (0, .ref (ad 34)), (1, .int a1), (2, .int a2)]) (Nat.le_of_ble_eq_true rfl) rfl d_Mo_readsBale_15 ?_
  refine J_aload_n 2 rfl d_Mo_readsBale_17 ?_
  refine J_iconst (v := 1) rfl d_Mo_readsBale_18 ?_
  refine J_iload_n 4 rfl d_Mo_readsBale_19 ?_
  refine J_iconst (v := 2) rfl d_Mo_readsBale_20 ?_
  refine J_iadd d_Mo_readsBale_21 ?_
  refine J_callVi (m_Mo_byteAt l g ad _ _ _) ok_Mo_byteAt rc_34 wi_Mo_byteAt wl_Mo_Mo_byteAt wk_Mo_123 ⟨rfl, rfl, Nat.le_of_ble_eq_true rfl, Nat.le_of_ble_eq_true rfl⟩ ⟨Nat.zero_le _, Nat.zero_le _⟩ (rest := []) rfl rfl (Nat.le_of_ble_eq_true rfl) d_Mo_readsBale_22 (fun v7 h8 => ?_)
  refine J_istore (lv' := [(5, .int v7), (4, .int v5), (3, .int v3), (0, .ref (ad 34)), (1, .int a1), (2, .int a2)]) (Nat.le_of_ble_eq_true rfl) rfl d_Mo_readsBale_25 ?_
  refine J_iload_n 4 rfl d_Mo_readsBale_27 ?_
  refine J_bipush (v := 10) rfl d_Mo_readsBale_28 ?_
  refine J_icmp_eq 44 rfl d_Mo_readsBale_30 (fun c9 => ?_) (fun c9 => ?_)
  · refine J_iconst (v := 0) rfl d_Mo_readsBale_44 ?_
    exact J_iret (Nat.le_refl _) (Nat.le_refl _) d_Mo_readsBale_45 rfl (fun hx => hx)
  · refine J_iload_n 2 rfl d_Mo_readsBale_33 ?_
    refine J_bipush (v := 97) rfl d_Mo_readsBale_34 ?_
    refine J_bipush (v := 104) rfl d_Mo_readsBale_36 ?_
    refine J_callSi (m_Mo_in l g ad _ _ _ _) ok_Mo_in ws_Mo_in wk_Mo_115 ⟨rfl, rfl, Nat.le_of_ble_eq_true rfl, Nat.le_of_ble_eq_true rfl⟩ ⟨Nat.zero_le _, Nat.zero_le _⟩ (rest := []) rfl rfl (Nat.le_of_ble_eq_true rfl) d_Mo_readsBale_38 (fun v10 h11 => ?_)
    refine J_if_ne 46 rfl d_Mo_readsBale_41 (fun c12 => ?_) (fun c12 => ?_)
    · refine J_iload 1 rfl d_Mo_readsBale_46 ?_
      refine J_bipush (v := 49) rfl d_Mo_readsBale_48 ?_
      refine J_bipush (v := 57) rfl d_Mo_readsBale_50 ?_
      refine J_callSi (m_Mo_in l g ad _ _ _ _) ok_Mo_in ws_Mo_in wk_Mo_115 ⟨rfl, rfl, Nat.le_of_ble_eq_true rfl, Nat.le_of_ble_eq_true rfl⟩ ⟨Nat.zero_le _, Nat.zero_le _⟩ (rest := []) rfl rfl (Nat.le_of_ble_eq_true rfl) d_Mo_readsBale_52 (fun v13 h14 => ?_)
      refine J_if_ne 60 rfl d_Mo_readsBale_55 (fun c15 => ?_) (fun c15 => ?_)
      · refine J_iload 0 rfl d_Mo_readsBale_60 ?_
        refine J_bipush (v := 97) rfl d_Mo_readsBale_62 ?_
        refine J_bipush (v := 120) rfl d_Mo_readsBale_64 ?_
        refine J_callSi (m_Mo_in l g ad _ _ _ _) ok_Mo_in ws_Mo_in wk_Mo_115 ⟨rfl, rfl, Nat.le_of_ble_eq_true rfl, Nat.le_of_ble_eq_true rfl⟩ ⟨Nat.zero_le _, Nat.zero_le _⟩ (rest := []) rfl rfl (Nat.le_of_ble_eq_true rfl) d_Mo_readsBale_66 (fun v16 h17 => ?_)
        refine J_if_ne 74 rfl d_Mo_readsBale_69 (fun c18 => ?_) (fun c18 => ?_)
        · refine J_aload_n 3 rfl d_Mo_readsBale_74 ?_
          refine J_getR fo_Mo_22_34 rfl d_Mo_readsBale_75 ?_
          refine J_iload_n 4 rfl d_Mo_readsBale_78 ?_
          refine J_iload_n 2 rfl d_Mo_readsBale_79 ?_
          refine J_bipush (v := 97) rfl d_Mo_readsBale_80 ?_
          refine J_isub d_Mo_readsBale_82 ?_
          refine P_wa (by decide) rfl rfl d_Mo_readsBale_83 (fun h19 => ?_)
          refine J_aload_n 3 rfl d_Mo_readsBale_84 ?_
          refine J_getR fo_Mo_25_34 rfl d_Mo_readsBale_85 ?_
          refine J_iload_n 4 rfl d_Mo_readsBale_88 ?_
          refine J_iload 1 rfl d_Mo_readsBale_89 ?_
          refine J_bipush (v := 48) rfl d_Mo_readsBale_91 ?_
          refine J_isub d_Mo_readsBale_93 ?_
          refine P_wa (by decide) rfl rfl d_Mo_readsBale_94 (fun h20 => ?_)
          refine J_aload_n 3 rfl d_Mo_readsBale_95 ?_
          refine J_getR fo_Mo_28_34 rfl d_Mo_readsBale_96 ?_
          refine J_iload_n 4 rfl d_Mo_readsBale_99 ?_
          refine J_iload 0 rfl d_Mo_readsBale_100 ?_
          refine J_bipush (v := 97) rfl d_Mo_readsBale_102 ?_
          refine J_isub d_Mo_readsBale_104 ?_
          refine P_wa (by decide) rfl rfl d_Mo_readsBale_105 (fun h21 => ?_)
          refine J_iconst (v := 3) rfl d_Mo_readsBale_106 ?_
          exact J_iret (Nat.le_refl _) (Nat.le_refl _) d_Mo_readsBale_107 rfl (fun hx => hx)
        · refine J_iconst (v := 2) rfl d_Mo_readsBale_72 ?_
          exact J_iret (Nat.le_refl _) (Nat.le_refl _) d_Mo_readsBale_73 rfl (fun hx => hx)
      · refine J_iconst (v := 1) rfl d_Mo_readsBale_58 ?_
        exact J_iret (Nat.le_refl _) (Nat.le_refl _) d_Mo_readsBale_59 rfl (fun hx => hx)
    · refine J_iconst (v := 0) rfl d_Mo_readsBale_44 ?_
      exact J_iret (Nat.le_refl _) (Nat.le_refl _) d_Mo_readsBale_45 rfl (fun hx => hx)
