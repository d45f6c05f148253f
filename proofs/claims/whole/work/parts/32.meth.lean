def lp_Mo_digest_6 : Nat → Int32 → Int64 → HP → Option (Int32 × Int64 × HP)
 | 0, _, _, _ => none
 | fu + 1, v1, v2, h3 =>
 (if 8 ≤ v1 then
 some (v1, v2, h3)
 else
 bd2 (f_Mo_count v1 h3) (fun (v5 : Int32) (h6 : HP) =>
 ltt ((31 * v2) + (Int32.toInt64 v5)) (fun (v7 : Int64) =>
 ltt (v1 + 1) (fun (v8 : Int32) =>
 lp_Mo_digest_6 fu v8 v7 h6))))
def lp_Mo_digest_59 : Nat → Int32 → Int64 → HP → Option (Int32 × Int64 × HP)
 | 0, _, _, _ => none
 | fu + 1, v18, v19, h20 =>
 ltt (rI h20 34 5) (fun (v21 : Int32) =>
 (if v21 ≤ v18 then
 some (v18, v19, h20)
 else
 bd2 (f_Mo_baleDigest v19 v18 h20) (fun (v23 : Int64) (h24 : HP) =>
 ltt (v18 + 1) (fun (v25 : Int32) =>
 lp_Mo_digest_59 fu v25 v23 h24))))
def lp_Mo_digest_82 : Nat → Int32 → Int64 → HP → Option (Int32 × Int64 × HP)
 | 0, _, _, _ => none
 | fu + 1, v29, v30, h31 =>
 ltt (rI h31 34 2) (fun (v32 : Int32) =>
 (if v32 ≤ v29 then
 some (v29, v30, h31)
 else
 bd2 (f_Mo_camelDigest v30 v29 h31) (fun (v34 : Int64) (h35 : HP) =>
 ltt (v29 + 1) (fun (v36 : Int32) =>
 lp_Mo_digest_82 fu v36 v34 h35))))
def f_Mo_digest (h0 : HP) : Option (Int64 × HP) :=
 bd3 (lp_Mo_digest_6 400 0 17 h0) (fun (v9 : Int32) (v10 : Int64) (h11 : HP) =>
 bd2 (f_Mo_faultOf 0 h11) (fun (v12 : Int32) (h13 : HP) =>
 ltt ((31 * v10) + (Int32.toInt64 v12)) (fun (v14 : Int64) =>
 bd2 (f_Mo_faultOf 1 h13) (fun (v15 : Int32) (h16 : HP) =>
 ltt ((31 * v14) + (Int32.toInt64 v15)) (fun (v17 : Int64) =>
 bd3 (lp_Mo_digest_59 400 0 v17 h16) (fun (v26 : Int32) (v27 : Int64) (h28 : HP) =>
 bd3 (lp_Mo_digest_82 400 0 v27 h28) (fun (v37 : Int32) (v38 : Int64) (h39 : HP) =>
 bd2 (f_Mo_throughOf h39) (fun (v40 : Int32) (h41 : HP) =>
 ltt ((31 * v38) + (Int32.toInt64 v40)) (fun (v42 : Int64) =>
 bd2 (f_Mo_lostOf h41) (fun (v43 : Int32) (h44 : HP) =>
 ltt ((31 * v42) + (Int32.toInt64 v43)) (fun (v45 : Int64) =>
 bd2 (f_Mo_firstOf 0 h44) (fun (v46 : Int32) (h47 : HP) =>
 ltt ((31 * v45) + (Int32.toInt64 v46)) (fun (v48 : Int64) =>
 bd2 (f_Mo_firstOf 1 h47) (fun (v49 : Int32) (h50 : HP) =>
 ltt ((31 * v48) + (Int32.toInt64 v49)) (fun (v51 : Int64) =>
 bd2 (f_Mo_bestOf h50) (fun (v52 : Int32) (h53 : HP) =>
 ltt ((31 * v51) + (Int32.toInt64 v52)) (fun (v54 : Int64) =>
 bd2 (f_Mo_wholeOf h53) (fun (v55 : Int32) (h56 : HP) =>
 ltt ((31 * v54) + (Int32.toInt64 v55)) (fun (v57 : Int64) =>
 bd2 (f_Mo_tiredOf h56) (fun (v58 : Int32) (h59 : HP) =>
 ltt ((31 * v57) + (Int32.toInt64 v58)) (fun (v60 : Int64) =>
 bd2 (f_Mo_spareBy h59) (fun (v61 : Int32) (h62 : HP) =>
 ltt ((31 * v60) + (Int32.toInt64 v61)) (fun (v63 : Int64) =>
 bd2 (f_Mo_ofRow v61 0 h62) (fun (v64 : Int32) (h65 : HP) =>
 ltt ((31 * v63) + (Int32.toInt64 v64)) (fun (v66 : Int64) =>
 bd2 (f_Mo_neverNow h65) (fun (v67 : Int32) (h68 : HP) =>
 ltt ((31 * v66) + (Int32.toInt64 v67)) (fun (v69 : Int64) =>
 bd2 (f_Mo_yearsOf 7 6 0 h68) (fun (v70 : Int32) (h71 : HP) =>
 ltt ((31 * v69) + (Int32.toInt64 v70)) (fun (v72 : Int64) =>
 bd2 (f_Mo_yearsOf 7 6 1 h71) (fun (v73 : Int32) (h74 : HP) =>
 some ((31 * v72) + (Int32.toInt64 v73), h74)))))))))))))))))))))))))))))))
set_option maxRecDepth 20000 in
set_option maxHeartbeats 4000000 in
theorem mlp_Mo_digest_6 (l : Launch) (g : GG) (ad : Nat → Nat) (Q : Option Value → va_W → Prop) : ∀ (fu : Nat) (v1 : Int32) (v2 : Int64) (h3 : HP), Jj (fun q : Int32 × Int64 × HP => Vw (kx_Mo_digest l g Q) 0 0 31 [(3, .int (q.1)), (1, .long (q.2.1)), (0, .ref (ad 34))] [] (pic g ad q.2.2)) (lp_Mo_digest_6 fu v1 v2 h3) (Vw (kx_Mo_digest l g Q) 0 0 6 [(3, .int v1), (1, .long v2), (0, .ref (ad 34))] [] (pic g ad h3)) := by
  intro fu
  induction fu with
  | zero =>
    intro v1 v2 h3
    exact J_none
  | succ fu ih =>
    intro v1 v2 h3
    rw [lp_Mo_digest_6]
    refine J_iload_n 0 rfl d_Mo_digest_6 ?_
    refine J_bipush (v := 8) rfl d_Mo_digest_7 ?_
    refine J_icmp_ge 31 rfl d_Mo_digest_9 (fun c4 => ?_) (fun c4 => ?_)
    · exact J_exit [0, 1, 2] rfl (fun hx => hx)
    · refine J_ldc2 (v := 31) kl_Mo_346 d_Mo_digest_12 ?_
      refine J_lload_n 1 rfl d_Mo_digest_15 ?_
      refine J_lmul d_Mo_digest_16 ?_
      refine J_aload_n 2 rfl d_Mo_digest_17 ?_
      refine J_iload_n 0 rfl d_Mo_digest_18 ?_
      refine J_callVi (m_Mo_count l g ad _ _) ok_Mo_count rc_34 wi_Mo_count wl_Mo_Mo_count wk_Mo_354 ⟨rfl, rfl, Nat.le_of_ble_eq_true rfl, Nat.le_of_ble_eq_true rfl⟩ ⟨Nat.zero_le _, Nat.zero_le _⟩ (rest := [.long (31 * v2)]) rfl rfl (Nat.le_of_ble_eq_true rfl) d_Mo_digest_19 (fun v5 h6 => ?_)
      refine J_i2l d_Mo_digest_22 ?_
      refine J_ladd d_Mo_digest_23 ?_
      refine P_lst_n (lv' := fun v7 => [(1, .long v7), (3, .int v1), (0, .ref (ad 34))]) 1 rfl (Nat.le_of_ble_eq_true rfl) (fun _ => rfl) d_Mo_digest_24 (fun v7 => ?_)
      refine P_inc (w := 1) (lv' := fun v8 => [(3, .int v8), (1, .long v7), (0, .ref (ad 34))]) 1 rfl rfl (Nat.le_of_ble_eq_true rfl) (fun _ => rfl) d_Mo_digest_25 (fun v8 => ?_)
      refine J_goto 6 rfl d_Mo_digest_28 ?_
      exact J_sub [0, 1, 2] rfl (ih _ _ _)
set_option maxRecDepth 20000 in
set_option maxHeartbeats 4000000 in
theorem mlp_Mo_digest_59 (l : Launch) (g : GG) (ad : Nat → Nat) (Q : Option Value → va_W → Prop) : ∀ (fu : Nat) (v18 : Int32) (v19 : Int64) (h20 : HP), Jj (fun q : Int32 × Int64 × HP => Vw (kx_Mo_digest l g Q) 0 0 80 [(3, .int (q.1)), (1, .long (q.2.1)), (0, .ref (ad 34))] [] (pic g ad q.2.2)) (lp_Mo_digest_59 fu v18 v19 h20) (Vw (kx_Mo_digest l g Q) 0 0 59 [(3, .int v18), (1, .long v19), (0, .ref (ad 34))] [] (pic g ad h20)) := by
  intro fu
  induction fu with
  | zero =>
    intro v18 v19 h20
    exact J_none
  | succ fu ih =>
    intro v18 v19 h20
    rw [lp_Mo_digest_59]
    refine J_iload_n 0 rfl d_Mo_digest_59 ?_
    refine J_aload_n 2 rfl d_Mo_digest_60 ?_
    refine P_gI fo_Mo_131_34 rfl d_Mo_digest_61 (fun v21 => ?_)
    refine J_icmp_ge 80 rfl d_Mo_digest_64 (fun c22 => ?_) (fun c22 => ?_)
    · exact J_exit [0, 1, 2] rfl (fun hx => hx)
    · refine J_aload_n 2 rfl d_Mo_digest_67 ?_
      refine J_lload_n 1 rfl d_Mo_digest_68 ?_
      refine J_iload_n 0 rfl d_Mo_digest_69 ?_
      refine J_callVl (m_Mo_baleDigest l g ad _ _ _) ok_Mo_baleDigest rc_34 wi_Mo_baleDigest wl_Mo_Mo_baleDigest wk_Mo_357 ⟨rfl, rfl, Nat.le_of_ble_eq_true rfl, Nat.le_of_ble_eq_true rfl⟩ ⟨Nat.zero_le _, Nat.zero_le _⟩ (rest := []) rfl rfl (Nat.le_of_ble_eq_true rfl) d_Mo_digest_70 (fun v23 h24 => ?_)
      refine J_lstore_n (lv' := [(1, .long v23), (3, .int v18), (0, .ref (ad 34))]) 1 rfl (Nat.le_of_ble_eq_true rfl) rfl d_Mo_digest_73 ?_
      refine P_inc (w := 1) (lv' := fun v25 => [(3, .int v25), (1, .long v23), (0, .ref (ad 34))]) 1 rfl rfl (Nat.le_of_ble_eq_true rfl) (fun _ => rfl) d_Mo_digest_74 (fun v25 => ?_)
      refine J_goto 59 rfl d_Mo_digest_77 ?_
      exact J_sub [0, 1, 2] rfl (ih _ _ _)
set_option maxRecDepth 20000 in
set_option maxHeartbeats 4000000 in
theorem mlp_Mo_digest_82 (l : Launch) (g : GG) (ad : Nat → Nat) (Q : Option Value → va_W → Prop) : ∀ (fu : Nat) (v29 : Int32) (v30 : Int64) (h31 : HP), Jj (fun q : Int32 × Int64 × HP => Vw (kx_Mo_digest l g Q) 0 0 103 [(3, .int (q.1)), (1, .long (q.2.1)), (0, .ref (ad 34))] [] (pic g ad q.2.2)) (lp_Mo_digest_82 fu v29 v30 h31) (Vw (kx_Mo_digest l g Q) 0 0 82 [(3, .int v29), (1, .long v30), (0, .ref (ad 34))] [] (pic g ad h31)) := by
  intro fu
  induction fu with
  | zero =>
    intro v29 v30 h31
    exact J_none
  | succ fu ih =>
    intro v29 v30 h31
    rw [lp_Mo_digest_82]
    refine J_iload_n 0 rfl d_Mo_digest_82 ?_
    refine J_aload_n 2 rfl d_Mo_digest_83 ?_
    refine P_gI fo_Mo_127_34 rfl d_Mo_digest_84 (fun v32 => ?_)
    refine J_icmp_ge 103 rfl d_Mo_digest_87 (fun c33 => ?_) (fun c33 => ?_)
    · exact J_exit [0, 1, 2] rfl (fun hx => hx)
    · refine J_aload_n 2 rfl d_Mo_digest_90 ?_
      refine J_lload_n 1 rfl d_Mo_digest_91 ?_
      refine J_iload_n 0 rfl d_Mo_digest_92 ?_
      refine J_callVl (m_Mo_camelDigest l g ad _ _ _) ok_Mo_camelDigest rc_34 wi_Mo_camelDigest wl_Mo_Mo_camelDigest wk_Mo_361 ⟨rfl, rfl, Nat.le_of_ble_eq_true rfl, Nat.le_of_ble_eq_true rfl⟩ ⟨Nat.zero_le _, Nat.zero_le _⟩ (rest := []) rfl rfl (Nat.le_of_ble_eq_true rfl) d_Mo_digest_93 (fun v34 h35 => ?_)
      refine J_lstore_n (lv' := [(1, .long v34), (3, .int v29), (0, .ref (ad 34))]) 1 rfl (Nat.le_of_ble_eq_true rfl) rfl d_Mo_digest_96 ?_
      refine P_inc (w := 1) (lv' := fun v36 => [(3, .int v36), (1, .long v34), (0, .ref (ad 34))]) 1 rfl rfl (Nat.le_of_ble_eq_true rfl) (fun _ => rfl) d_Mo_digest_97 (fun v36 => ?_)
      refine J_goto 82 rfl d_Mo_digest_100 ?_
      exact J_sub [0, 1, 2] rfl (ih _ _ _)
set_option maxRecDepth 20000 in
set_option maxHeartbeats 4000000 in
theorem m_Mo_digest (l : Launch) (g : GG) (ad : Nat → Nat) (h0 : HP) : CM l g ad y_Mo_digest b_Mo_digest 4 (some .long) rm_Mo_digest [.ref (ad 34)] h0 enL (f_Mo_digest h0) := by
  refine CM.of (by decide) (Nat.le_of_ble_eq_true rfl) (fun Q => ?_)
  show Jj _ _ (Vw (kx_Mo_digest l g Q) 0 0 0 _ _ _)
  refine J_sub [0] (lv' := [(0, .ref (ad 34))]) rfl ?_
  unfold f_Mo_digest
  refine J_ldc2 (v := 17) kl_Mo_352 d_Mo_digest_0 ?_
  refine J_lstore_n (lv' := [(1, .long 17), (0, .ref (ad 34))]) 1 rfl (Nat.le_of_ble_eq_true rfl) rfl d_Mo_digest_3 ?_
  refine J_iconst (v := 0) rfl d_Mo_digest_4 ?_
  refine J_istore_n (lv' := [(3, .int 0), (1, .long 17), (0, .ref (ad 34))]) 3 rfl (Nat.le_of_ble_eq_true rfl) rfl d_Mo_digest_5 ?_
  refine J_bd3 (fun (v9 : Int32) (v10 : Int64) (h11 : HP) => Vw (kx_Mo_digest l g Q) 0 0 31 [(3, .int v9), (1, .long v10), (0, .ref (ad 34))] [] (pic g ad h11)) ?_ (fun v9 v10 h11 => ?_)
  · exact J_sub [0, 1, 2] rfl (mlp_Mo_digest_6 l g ad Q 400 _ _ _)
  · refine J_ldc2 (v := 31) kl_Mo_346 d_Mo_digest_31 ?_
    refine J_lload_n 1 rfl d_Mo_digest_34 ?_
    refine J_lmul d_Mo_digest_35 ?_
    refine J_aload_n 2 rfl d_Mo_digest_36 ?_
    refine J_iconst (v := 0) rfl d_Mo_digest_37 ?_
    refine J_callVi (m_Mo_faultOf l g ad _ _) ok_Mo_faultOf rc_34 wi_Mo_faultOf wl_Mo_Mo_faultOf wk_Mo_144 ⟨rfl, rfl, Nat.le_of_ble_eq_true rfl, Nat.le_of_ble_eq_true rfl⟩ ⟨Nat.zero_le _, Nat.zero_le _⟩ (rest := [.long (31 * v10)]) rfl rfl (Nat.le_of_ble_eq_true rfl) d_Mo_digest_38 (fun v12 h13 => ?_)
    refine J_i2l d_Mo_digest_41 ?_
    refine J_ladd d_Mo_digest_42 ?_
    refine P_lst_n (lv' := fun v14 => [(1, .long v14), (3, .int v9), (0, .ref (ad 34))]) 1 rfl (Nat.le_of_ble_eq_true rfl) (fun _ => rfl) d_Mo_digest_43 (fun v14 => ?_)
    refine J_ldc2 (v := 31) kl_Mo_346 d_Mo_digest_44 ?_
    refine J_lload_n 0 rfl d_Mo_digest_47 ?_
    refine J_lmul d_Mo_digest_48 ?_
    refine J_aload_n 2 rfl d_Mo_digest_49 ?_
    refine J_iconst (v := 1) rfl d_Mo_digest_50 ?_
    refine J_callVi (m_Mo_faultOf l g ad _ _) ok_Mo_faultOf rc_34 wi_Mo_faultOf wl_Mo_Mo_faultOf wk_Mo_144 ⟨rfl, rfl, Nat.le_of_ble_eq_true rfl, Nat.le_of_ble_eq_true rfl⟩ ⟨Nat.zero_le _, Nat.zero_le _⟩ (rest := [.long (31 * v14)]) rfl rfl (Nat.le_of_ble_eq_true rfl) d_Mo_digest_51 (fun v15 h16 => ?_)
    refine J_i2l d_Mo_digest_54 ?_
    refine J_ladd d_Mo_digest_55 ?_
    refine P_lst_n (lv' := fun v17 => [(1, .long v17), (3, .int v9), (0, .ref (ad 34))]) 1 rfl (Nat.le_of_ble_eq_true rfl) (fun _ => rfl) d_Mo_digest_56 (fun v17 => ?_)
    refine J_iconst (v := 0) rfl d_Mo_digest_57 ?_
    refine J_istore_n (lv' := [(3, .int 0), (1, .long v17), (0, .ref (ad 34))]) 3 rfl (Nat.le_of_ble_eq_true rfl) rfl d_Mo_digest_58 ?_
    refine J_bd3 (fun (v26 : Int32) (v27 : Int64) (h28 : HP) => Vw (kx_Mo_digest l g Q) 0 0 80 [(3, .int v26), (1, .long v27), (0, .ref (ad 34))] [] (pic g ad h28)) ?_ (fun v26 v27 h28 => ?_)
    · exact J_sub [0, 1, 2] rfl (mlp_Mo_digest_59 l g ad Q 400 _ _ _)
    · refine J_iconst (v := 0) rfl d_Mo_digest_80 ?_
      refine J_istore_n (lv' := [(3, .int 0), (1, .long v27), (0, .ref (ad 34))]) 3 rfl (Nat.le_of_ble_eq_true rfl) rfl d_Mo_digest_81 ?_
      refine J_bd3 (fun (v37 : Int32) (v38 : Int64) (h39 : HP) => Vw (kx_Mo_digest l g Q) 0 0 103 [(3, .int v37), (1, .long v38), (0, .ref (ad 34))] [] (pic g ad h39)) ?_ (fun v37 v38 h39 => ?_)
      · exact J_sub [0, 1, 2] rfl (mlp_Mo_digest_82 l g ad Q 400 _ _ _)
      · refine J_ldc2 (v := 31) kl_Mo_346 d_Mo_digest_103 ?_
        refine J_lload_n 1 rfl d_Mo_digest_106 ?_
        refine J_lmul d_Mo_digest_107 ?_
        refine J_aload_n 2 rfl d_Mo_digest_108 ?_
        refine J_callVi (m_Mo_throughOf l g ad _) ok_Mo_throughOf rc_34 wi_Mo_throughOf wl_Mo_Mo_throughOf wk_Mo_252 ⟨rfl, rfl, Nat.le_of_ble_eq_true rfl, Nat.le_of_ble_eq_true rfl⟩ ⟨Nat.zero_le _, Nat.zero_le _⟩ (rest := [.long (31 * v38)]) rfl rfl (Nat.le_of_ble_eq_true rfl) d_Mo_digest_109 (fun v40 h41 => ?_)
        refine J_i2l d_Mo_digest_112 ?_
        refine J_ladd d_Mo_digest_113 ?_
        refine P_lst_n (lv' := fun v42 => [(1, .long v42), (3, .int v37), (0, .ref (ad 34))]) 1 rfl (Nat.le_of_ble_eq_true rfl) (fun _ => rfl) d_Mo_digest_114 (fun v42 => ?_)
        refine J_ldc2 (v := 31) kl_Mo_346 d_Mo_digest_115 ?_
        refine J_lload_n 0 rfl d_Mo_digest_118 ?_
        refine J_lmul d_Mo_digest_119 ?_
        refine J_aload_n 2 rfl d_Mo_digest_120 ?_
        refine J_callVi (m_Mo_lostOf l g ad _) ok_Mo_lostOf rc_34 wi_Mo_lostOf wl_Mo_Mo_lostOf wk_Mo_255 ⟨rfl, rfl, Nat.le_of_ble_eq_true rfl, Nat.le_of_ble_eq_true rfl⟩ ⟨Nat.zero_le _, Nat.zero_le _⟩ (rest := [.long (31 * v42)]) rfl rfl (Nat.le_of_ble_eq_true rfl) d_Mo_digest_121 (fun v43 h44 => ?_)
        refine J_i2l d_Mo_digest_124 ?_
        refine J_ladd d_Mo_digest_125 ?_
        refine P_lst_n (lv' := fun v45 => [(1, .long v45), (3, .int v37), (0, .ref (ad 34))]) 1 rfl (Nat.le_of_ble_eq_true rfl) (fun _ => rfl) d_Mo_digest_126 (fun v45 => ?_)
        refine J_ldc2 (v := 31) kl_Mo_346 d_Mo_digest_127 ?_
        refine J_lload_n 0 rfl d_Mo_digest_130 ?_
        refine J_lmul d_Mo_digest_131 ?_
        refine J_aload_n 2 rfl d_Mo_digest_132 ?_
        refine J_iconst (v := 0) rfl d_Mo_digest_133 ?_
        refine J_callVi (m_Mo_firstOf l g ad _ _) ok_Mo_firstOf rc_34 wi_Mo_firstOf wl_Mo_Mo_firstOf wk_Mo_258 ⟨rfl, rfl, Nat.le_of_ble_eq_true rfl, Nat.le_of_ble_eq_true rfl⟩ ⟨Nat.zero_le _, Nat.zero_le _⟩ (rest := [.long (31 * v45)]) rfl rfl (Nat.le_of_ble_eq_true rfl) d_Mo_digest_134 (fun v46 h47 => ?_)
        refine J_i2l d_Mo_digest_137 ?_
        refine J_ladd d_Mo_digest_138 ?_
        refine P_lst_n (lv' := fun v48 => [(1, .long v48), (3, .int v37), (0, .ref (ad 34))]) 1 rfl (Nat.le_of_ble_eq_true rfl) (fun _ => rfl) d_Mo_digest_139 (fun v48 => ?_)
        refine J_ldc2 (v := 31) kl_Mo_346 d_Mo_digest_140 ?_
        refine J_lload_n 0 rfl d_Mo_digest_143 ?_
        refine J_lmul d_Mo_digest_144 ?_
        refine J_aload_n 2 rfl d_Mo_digest_145 ?_
        refine J_iconst (v := 1) rfl d_Mo_digest_146 ?_
        refine J_callVi (m_Mo_firstOf l g ad _ _) ok_Mo_firstOf rc_34 wi_Mo_firstOf wl_Mo_Mo_firstOf wk_Mo_258 ⟨rfl, rfl, Nat.le_of_ble_eq_true rfl, Nat.le_of_ble_eq_true rfl⟩ ⟨Nat.zero_le _, Nat.zero_le _⟩ (rest := [.long (31 * v48)]) rfl rfl (Nat.le_of_ble_eq_true rfl) d_Mo_digest_147 (fun v49 h50 => ?_)
        refine J_i2l d_Mo_digest_150 ?_
        refine J_ladd d_Mo_digest_151 ?_
        refine P_lst_n (lv' := fun v51 => [(1, .long v51), (3, .int v37), (0, .ref (ad 34))]) 1 rfl (Nat.le_of_ble_eq_true rfl) (fun _ => rfl) d_Mo_digest_152 (fun v51 => ?_)
        refine J_ldc2 (v := 31) kl_Mo_346 d_Mo_digest_153 ?_
        refine J_lload_n 0 rfl d_Mo_digest_156 ?_
        refine J_lmul d_Mo_digest_157 ?_
        refine J_aload_n 2 rfl d_Mo_digest_158 ?_
        refine J_callVi (m_Mo_bestOf l g ad _) ok_Mo_bestOf rc_34 wi_Mo_bestOf wl_Mo_Mo_bestOf wk_Mo_261 ⟨rfl, rfl, Nat.le_of_ble_eq_true rfl, Nat.le_of_ble_eq_true rfl⟩ ⟨Nat.zero_le _, Nat.zero_le _⟩ (rest := [.long (31 * v51)]) rfl rfl (Nat.le_of_ble_eq_true rfl) d_Mo_digest_159 (fun v52 h53 => ?_)
        refine J_i2l d_Mo_digest_162 ?_
        refine J_ladd d_Mo_digest_163 ?_
        refine P_lst_n (lv' := fun v54 => [(1, .long v54), (3, .int v37), (0, .ref (ad 34))]) 1 rfl (Nat.le_of_ble_eq_true rfl) (fun _ => rfl) d_Mo_digest_164 (fun v54 => ?_)
        refine J_ldc2 (v := 31) kl_Mo_346 d_Mo_digest_165 ?_
        refine J_lload_n 0 rfl d_Mo_digest_168 ?_
        refine J_lmul d_Mo_digest_169 ?_
        refine J_aload_n 2 rfl d_Mo_digest_170 ?_
        refine J_callVi (m_Mo_wholeOf l g ad _) ok_Mo_wholeOf rc_34 wi_Mo_wholeOf wl_Mo_Mo_wholeOf wk_Mo_264 ⟨rfl, rfl, Nat.le_of_ble_eq_true rfl, Nat.le_of_ble_eq_true rfl⟩ ⟨Nat.zero_le _, Nat.zero_le _⟩ (rest := [.long (31 * v54)]) rfl rfl (Nat.le_of_ble_eq_true rfl) d_Mo_digest_171 (fun v55 h56 => ?_)
        refine J_i2l d_Mo_digest_174 ?_
        refine J_ladd d_Mo_digest_175 ?_
        refine P_lst_n (lv' := fun v57 => [(1, .long v57), (3, .int v37), (0, .ref (ad 34))]) 1 rfl (Nat.le_of_ble_eq_true rfl) (fun _ => rfl) d_Mo_digest_176 (fun v57 => ?_)
        refine J_ldc2 (v := 31) kl_Mo_346 d_Mo_digest_177 ?_
        refine J_lload_n 0 rfl d_Mo_digest_180 ?_
        refine J_lmul d_Mo_digest_181 ?_
        refine J_aload_n 2 rfl d_Mo_digest_182 ?_
        refine J_callVi (m_Mo_tiredOf l g ad _) ok_Mo_tiredOf rc_34 wi_Mo_tiredOf wl_Mo_Mo_tiredOf wk_Mo_270 ⟨rfl, rfl, Nat.le_of_ble_eq_true rfl, Nat.le_of_ble_eq_true rfl⟩ ⟨Nat.zero_le _, Nat.zero_le _⟩ (rest := [.long (31 * v57)]) rfl rfl (Nat.le_of_ble_eq_true rfl) d_Mo_digest_183 (fun v58 h59 => ?_)
        refine J_i2l d_Mo_digest_186 ?_
        refine J_ladd d_Mo_digest_187 ?_
        refine P_lst_n (lv' := fun v60 => [(1, .long v60), (3, .int v37), (0, .ref (ad 34))]) 1 rfl (Nat.le_of_ble_eq_true rfl) (fun _ => rfl) d_Mo_digest_188 (fun v60 => ?_)
        refine J_aload_n 2 rfl d_Mo_digest_189 ?_
        refine J_callVi (m_Mo_spareBy l g ad _) ok_Mo_spareBy rc_34 wi_Mo_spareBy wl_Mo_Mo_spareBy wk_Mo_288 ⟨rfl, rfl, Nat.le_of_ble_eq_true rfl, Nat.le_of_ble_eq_true rfl⟩ ⟨Nat.zero_le _, Nat.zero_le _⟩ (rest := []) rfl rfl (Nat.le_of_ble_eq_true rfl) d_Mo_digest_190 (fun v61 h62 => ?_)
        refine J_istore_n (lv' := [(3, .int v61), (1, .long v60), (0, .ref (ad 34))]) 3 rfl (Nat.le_of_ble_eq_true rfl) rfl d_Mo_digest_193 ?_
        refine J_ldc2 (v := 31) kl_Mo_346 d_Mo_digest_194 ?_
        refine J_lload_n 1 rfl d_Mo_digest_197 ?_
        refine J_lmul d_Mo_digest_198 ?_
        refine J_iload_n 0 rfl d_Mo_digest_199 ?_
        refine J_i2l d_Mo_digest_200 ?_
        refine J_ladd d_Mo_digest_201 ?_
        refine P_lst_n (lv' := fun v63 => [(1, .long v63), (3, .int v61), (0, .ref (ad 34))]) 1 rfl (Nat.le_of_ble_eq_true rfl) (fun _ => rfl) d_Mo_digest_202 (fun v63 => ?_)
        refine J_ldc2 (v := 31) kl_Mo_346 d_Mo_digest_203 ?_
        refine J_lload_n 0 rfl d_Mo_digest_206 ?_
        refine J_lmul d_Mo_digest_207 ?_
        refine J_aload_n 2 rfl d_Mo_digest_208 ?_
        refine J_iload_n 1 rfl d_Mo_digest_209 ?_
        refine J_iconst (v := 0) rfl d_Mo_digest_210 ?_
        refine J_callVi (m_Mo_ofRow l g ad _ _ _) ok_Mo_ofRow rc_34 wi_Mo_ofRow wl_Mo_Mo_ofRow wk_Mo_291 ⟨rfl, rfl, Nat.le_of_ble_eq_true rfl, Nat.le_of_ble_eq_true rfl⟩ ⟨Nat.zero_le _, Nat.zero_le _⟩ (rest := [.long (31 * v63)]) rfl rfl (Nat.le_of_ble_eq_true rfl) d_Mo_digest_211 (fun v64 h65 => ?_)
        refine J_i2l d_Mo_digest_214 ?_
        refine J_ladd d_Mo_digest_215 ?_
        refine P_lst_n (lv' := fun v66 => [(1, .long v66), (3, .int v61), (0, .ref (ad 34))]) 1 rfl (Nat.le_of_ble_eq_true rfl) (fun _ => rfl) d_Mo_digest_216 (fun v66 => ?_)
        refine J_ldc2 (v := 31) kl_Mo_346 d_Mo_digest_217 ?_
        refine J_lload_n 0 rfl d_Mo_digest_220 ?_
        refine J_lmul d_Mo_digest_221 ?_
        refine J_aload_n 2 rfl d_Mo_digest_222 ?_
        refine J_callVi (m_Mo_neverNow l g ad _) ok_Mo_neverNow rc_34 wi_Mo_neverNow wl_Mo_Mo_neverNow wk_Mo_301 ⟨rfl, rfl, Nat.le_of_ble_eq_true rfl, Nat.le_of_ble_eq_true rfl⟩ ⟨Nat.zero_le _, Nat.zero_le _⟩ (rest := [.long (31 * v66)]) rfl rfl (Nat.le_of_ble_eq_true rfl) d_Mo_digest_223 (fun v67 h68 => ?_)
        refine J_i2l d_Mo_digest_226 ?_
        refine J_ladd d_Mo_digest_227 ?_
        refine P_lst_n (lv' := fun v69 => [(1, .long v69), (3, .int v61), (0, .ref (ad 34))]) 1 rfl (Nat.le_of_ble_eq_true rfl) (fun _ => rfl) d_Mo_digest_228 (fun v69 => ?_)
        refine J_ldc2 (v := 31) kl_Mo_346 d_Mo_digest_229 ?_
        refine J_lload_n 0 rfl d_Mo_digest_232 ?_
        refine J_lmul d_Mo_digest_233 ?_
        refine J_aload_n 2 rfl d_Mo_digest_234 ?_
        refine J_bipush (v := 7) rfl d_Mo_digest_235 ?_
        refine J_bipush (v := 6) rfl d_Mo_digest_237 ?_
        refine J_iconst (v := 0) rfl d_Mo_digest_239 ?_
        refine J_callVi (m_Mo_yearsOf l g ad _ _ _ _) ok_Mo_yearsOf rc_34 wi_Mo_yearsOf wl_Mo_Mo_yearsOf wk_Mo_326 ⟨rfl, rfl, Nat.le_of_ble_eq_true rfl, Nat.le_of_ble_eq_true rfl⟩ ⟨Nat.zero_le _, Nat.zero_le _⟩ (rest := [.long (31 * v69)]) rfl rfl (Nat.le_of_ble_eq_true rfl) d_Mo_digest_240 (fun v70 h71 => ?_)
        refine J_i2l d_Mo_digest_243 ?_
        refine J_ladd d_Mo_digest_244 ?_
        refine P_lst_n (lv' := fun v72 => [(1, .long v72), (3, .int v61), (0, .ref (ad 34))]) 1 rfl (Nat.le_of_ble_eq_true rfl) (fun _ => rfl) d_Mo_digest_245 (fun v72 => ?_)
        refine J_ldc2 (v := 31) kl_Mo_346 d_Mo_digest_246 ?_
        refine J_lload_n 0 rfl d_Mo_digest_249 ?_
        refine J_lmul d_Mo_digest_250 ?_
        refine J_aload_n 2 rfl d_Mo_digest_251 ?_
        refine J_bipush (v := 7) rfl d_Mo_digest_252 ?_
        refine J_bipush (v := 6) rfl d_Mo_digest_254 ?_
        refine J_iconst (v := 1) rfl d_Mo_digest_256 ?_
        refine J_callVi (m_Mo_yearsOf l g ad _ _ _ _) ok_Mo_yearsOf rc_34 wi_Mo_yearsOf wl_Mo_Mo_yearsOf wk_Mo_326 ⟨rfl, rfl, Nat.le_of_ble_eq_true rfl, Nat.le_of_ble_eq_true rfl⟩ ⟨Nat.zero_le _, Nat.zero_le _⟩ (rest := [.long (31 * v72)]) rfl rfl (Nat.le_of_ble_eq_true rfl) d_Mo_digest_257 (fun v73 h74 => ?_)
        refine J_i2l d_Mo_digest_260 ?_
        refine J_ladd d_Mo_digest_261 ?_
        exact J_lret (Nat.le_refl _) (Nat.le_refl _) d_Mo_digest_262 rfl (fun hx => hx)
