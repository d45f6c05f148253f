def lp_Mo_readsParts_48 (v2 : Int32) (a1 : Int32) : Nat → Int32 → Int32 → HP → Option (Int32 × HP)
 | 0, _, _, _ => none
 | fu + 1, v12, v13, h14 =>
 ckk (inb a1 2) (ltt (rA h14 33 a1) (fun (v15 : Int32) =>
 (if v12 < v15 then
 bd2 ((if a1 = 0 then
 bd2 (f_Mo_readsCamel v13 v12 h14) (fun (v22 : Int32) (h23 : HP) =>
 some (v22, h23))
 else
 bd2 (f_Mo_readsBale v13 v12 h14) (fun (v20 : Int32) (h21 : HP) =>
 some (v20, h21))) : Option (Int32 × HP)) (fun (v17 : Int32) (h18 : HP) =>
 (if v2 ≤ v17 then
 ltt (v13 + 1) (fun (v25 : Int32) =>
 ltt (v12 + v2) (fun (v26 : Int32) =>
 ckk (inb a1 2) (ltt (rA h18 33 a1) (fun (v27 : Int32) =>
 (if v26 = v27 then
 bd1 ((if a1 = 0 then
 some (v25)
 else
 ltt (rI h18 34 2) (fun (v35 : Int32) =>
 some (v35))) : Option (Int32)) (fun (v33 : Int32) =>
 ltt (sI h18 34 2 v33) (fun (h36 : HP) =>
 bd1 ((if a1 = 1 then
 some (v25)
 else
 ltt (rI h36 34 5) (fun (v39 : Int32) =>
 some (v39))) : Option (Int32)) (fun (v37 : Int32) =>
 ltt (sI h36 34 5 v37) (fun (h40 : HP) =>
 some ((-1), h40)))))
 else
 bd2 (f_Mo_byteAt a1 v26 h18) (fun (v29 : Int32) (h30 : HP) =>
 (if v29 = 59 then
 ltt (v26 + 1) (fun (v32 : Int32) =>
 lp_Mo_readsParts_48 v2 a1 fu v32 v25 h30)
 else
 some (v26, h30))))))))
 else
 some (v12 + v17, h18)))
 else
 (if v12 ≤ 0 then
 some ((-1), h14)
 else
 bd2 ((if a1 = 0 then
 bd2 (f_Mo_readsCamel v13 v12 h14) (fun (v47 : Int32) (h48 : HP) =>
 some (v47, h48))
 else
 bd2 (f_Mo_readsBale v13 v12 h14) (fun (v45 : Int32) (h46 : HP) =>
 some (v45, h46))) : Option (Int32 × HP)) (fun (v42 : Int32) (h43 : HP) =>
 (if v2 ≤ v42 then
 ltt (v13 + 1) (fun (v50 : Int32) =>
 ltt (v12 + v2) (fun (v51 : Int32) =>
 ckk (inb a1 2) (ltt (rA h43 33 a1) (fun (v52 : Int32) =>
 (if v51 = v52 then
 bd1 ((if a1 = 0 then
 some (v50)
 else
 ltt (rI h43 34 2) (fun (v60 : Int32) =>
 some (v60))) : Option (Int32)) (fun (v58 : Int32) =>
 ltt (sI h43 34 2 v58) (fun (h61 : HP) =>
 bd1 ((if a1 = 1 then
 some (v50)
 else
 ltt (rI h61 34 5) (fun (v64 : Int32) =>
 some (v64))) : Option (Int32)) (fun (v62 : Int32) =>
 ltt (sI h61 34 5 v62) (fun (h65 : HP) =>
 some ((-1), h65)))))
 else
 bd2 (f_Mo_byteAt a1 v51 h43) (fun (v54 : Int32) (h55 : HP) =>
 (if v54 = 59 then
 ltt (v51 + 1) (fun (v57 : Int32) =>
 lp_Mo_readsParts_48 v2 a1 fu v57 v50 h55)
 else
 some (v51, h55))))))))
 else
 some (v12 + v42, h43)))))))
def f_Mo_readsParts (a1 : Int32) (h0 : HP) : Option (Int32 × HP) :=
 bd1 ((if a1 = 0 then
 some (2)
 else
 some (3)) : Option (Int32)) (fun (v2 : Int32) =>
 bd1 ((if a1 = 0 then
 some (0)
 else
 ltt (rI h0 34 2) (fun (v6 : Int32) =>
 some (v6))) : Option (Int32)) (fun (v4 : Int32) =>
 ltt (sI h0 34 2 v4) (fun (h7 : HP) =>
 bd1 ((if a1 = 1 then
 some (0)
 else
 ltt (rI h7 34 5) (fun (v10 : Int32) =>
 some (v10))) : Option (Int32)) (fun (v8 : Int32) =>
 ltt (sI h7 34 5 v8) (fun (h11 : HP) =>
 lp_Mo_readsParts_48 v2 a1 400 0 0 h11)))))
set_option maxRecDepth 20000 in
set_option maxHeartbeats 4000000 in
theorem mlp_Mo_readsParts_48 (l : Launch) (g : GG) (ad : Nat → Nat) (Q : Option Value → va_W → Prop) (v2 : Int32) (a1 : Int32) : ∀ (fu : Nat) (v12 : Int32) (v13 : Int32) (h14 : HP), Jj (fun a : Int32 × HP => Q (enI a).1 (pic g ad (enI a).2)) (lp_Mo_readsParts_48 v2 a1 fu v12 v13 h14) (Vw (kx_Mo_readsParts l g Q) 0 0 48 [(4, .int v12), (3, .int v13), (2, .int v2), (0, .ref (ad 34)), (1, .int a1)] [] (pic g ad h14)) := by
  intro fu
  induction fu with
  | zero =>
    intro v12 v13 h14
    exact J_none
  | succ fu ih =>
    intro v12 v13 h14
    rw [lp_Mo_readsParts_48]
    refine J_iload 0 rfl d_Mo_readsParts_48 ?_
    refine J_aload_n 3 rfl d_Mo_readsParts_50 ?_
    refine J_getR fo_Mo_7_34 rfl d_Mo_readsParts_51 ?_
    refine J_iload_n 4 rfl d_Mo_readsParts_54 ?_
    refine P_ia (by decide) rfl rfl d_Mo_readsParts_55 (fun v15 => ?_)
    refine J_icmp_lt 64 rfl d_Mo_readsParts_56 (fun c16 => ?_) (fun c16 => ?_)
    · refine J_iload_n 4 rfl d_Mo_readsParts_64 ?_
      refine J_bd2 (fun (v17 : Int32) (h18 : HP) => Vw (kx_Mo_readsParts l g Q) 0 0 85 [(4, .int v12), (3, .int v13), (2, .int v2), (0, .ref (ad 34)), (1, .int a1)] [.int v17] (pic g ad h18)) ?_ (fun v17 h18 => ?_)
      · refine J_if_ne 78 rfl d_Mo_readsParts_65 (fun c19 => ?_) (fun c19 => ?_)
        · refine J_aload_n 3 rfl d_Mo_readsParts_78 ?_
          refine J_iload_n 1 rfl d_Mo_readsParts_79 ?_
          refine J_iload 0 rfl d_Mo_readsParts_80 ?_
          refine J_callVi (m_Mo_readsBale l g ad _ _ _) ok_Mo_readsBale rc_34 wi_Mo_readsBale wl_Mo_Mo_readsBale wk_Mo_137 ⟨rfl, rfl, Nat.le_of_ble_eq_true rfl, Nat.le_of_ble_eq_true rfl⟩ ⟨Nat.zero_le _, Nat.zero_le _⟩ (rest := []) rfl rfl (Nat.le_of_ble_eq_true rfl) d_Mo_readsParts_82 (fun v20 h21 => ?_)
          exact J_exit [0, 1, 2, 3, 4] rfl (fun hx => hx)
        · refine J_aload_n 3 rfl d_Mo_readsParts_68 ?_
          refine J_iload_n 1 rfl d_Mo_readsParts_69 ?_
          refine J_iload 0 rfl d_Mo_readsParts_70 ?_
          refine J_callVi (m_Mo_readsCamel l g ad _ _ _) ok_Mo_readsCamel rc_34 wi_Mo_readsCamel wl_Mo_Mo_readsCamel wk_Mo_134 ⟨rfl, rfl, Nat.le_of_ble_eq_true rfl, Nat.le_of_ble_eq_true rfl⟩ ⟨Nat.zero_le _, Nat.zero_le _⟩ (rest := []) rfl rfl (Nat.le_of_ble_eq_true rfl) d_Mo_readsParts_72 (fun v22 h23 => ?_)
          refine J_goto 85 rfl d_Mo_readsParts_75 ?_
          exact J_exit [0, 1, 2, 3, 4] rfl (fun hx => hx)
      · refine J_istore (lv' := [(5, .int v17), (4, .int v12), (3, .int v13), (2, .int v2), (0, .ref (ad 34)), (1, .int a1)]) (Nat.le_of_ble_eq_true rfl) rfl d_Mo_readsParts_85 ?_
        refine J_iload 0 rfl d_Mo_readsParts_87 ?_
        refine J_iload_n 3 rfl d_Mo_readsParts_89 ?_
        refine J_icmp_ge 99 rfl d_Mo_readsParts_90 (fun c24 => ?_) (fun c24 => ?_)
        · refine P_inc (w := 1) (lv' := fun v25 => [(3, .int v25), (5, .int v17), (4, .int v12), (2, .int v2), (0, .ref (ad 34)), (1, .int a1)]) 2 rfl rfl (Nat.le_of_ble_eq_true rfl) (fun _ => rfl) d_Mo_readsParts_99 (fun v25 => ?_)
          refine J_iload 2 rfl d_Mo_readsParts_102 ?_
          refine J_iload_n 3 rfl d_Mo_readsParts_104 ?_
          refine J_iadd d_Mo_readsParts_105 ?_
          refine P_ist (lv' := fun v26 => [(4, .int v26), (3, .int v25), (5, .int v17), (2, .int v2), (0, .ref (ad 34)), (1, .int a1)]) (Nat.le_of_ble_eq_true rfl) (fun _ => rfl) d_Mo_readsParts_106 (fun v26 => ?_)
          refine J_iload 0 rfl d_Mo_readsParts_108 ?_
          refine J_aload_n 4 rfl d_Mo_readsParts_110 ?_
          refine J_getR fo_Mo_7_34 rfl d_Mo_readsParts_111 ?_
          refine J_iload_n 5 rfl d_Mo_readsParts_114 ?_
          refine P_ia (by decide) rfl rfl d_Mo_readsParts_115 (fun v27 => ?_)
          refine J_icmp_ne 154 rfl d_Mo_readsParts_116 (fun c28 => ?_) (fun c28 => ?_)
          · refine J_aload_n 4 rfl d_Mo_readsParts_154 ?_
            refine J_iload_n 5 rfl d_Mo_readsParts_155 ?_
            refine J_iload 0 rfl d_Mo_readsParts_156 ?_
            refine J_callVi (m_Mo_byteAt l g ad _ _ _) ok_Mo_byteAt rc_34 wi_Mo_byteAt wl_Mo_Mo_byteAt wk_Mo_123 ⟨rfl, rfl, Nat.le_of_ble_eq_true rfl, Nat.le_of_ble_eq_true rfl⟩ ⟨Nat.zero_le _, Nat.zero_le _⟩ (rest := []) rfl rfl (Nat.le_of_ble_eq_true rfl) d_Mo_readsParts_158 (fun v29 h30 => ?_)
            refine J_bipush (v := 59) rfl d_Mo_readsParts_161 ?_
            refine J_icmp_eq 169 rfl d_Mo_readsParts_163 (fun c31 => ?_) (fun c31 => ?_)
            · refine P_inc (w := 1) (lv' := fun v32 => [(4, .int v32), (3, .int v25), (5, .int v17), (2, .int v2), (0, .ref (ad 34)), (1, .int a1)]) 0 rfl rfl (Nat.le_of_ble_eq_true rfl) (fun _ => rfl) d_Mo_readsParts_169 (fun v32 => ?_)
              refine J_goto 48 rfl d_Mo_readsParts_172 ?_
              exact J_sub [0, 1, 3, 4, 5] rfl (ih _ _ _)
            · refine J_iload 0 rfl d_Mo_readsParts_166 ?_
              exact J_iret (Nat.le_refl _) (Nat.le_refl _) d_Mo_readsParts_168 rfl (fun hx => hx)
          · refine J_aload_n 4 rfl d_Mo_readsParts_119 ?_
            refine J_iload_n 5 rfl d_Mo_readsParts_120 ?_
            refine J_bd1 (fun (v33 : Int32) => Vw (kx_Mo_readsParts l g Q) 0 0 132 [(4, .int v26), (3, .int v25), (5, .int v17), (2, .int v2), (0, .ref (ad 34)), (1, .int a1)] [.int v33, .ref (ad 34)] (pic g ad h18)) ?_ (fun v33 => ?_)
            · refine J_if_ne 128 rfl d_Mo_readsParts_121 (fun c34 => ?_) (fun c34 => ?_)
              · refine J_aload_n 4 rfl d_Mo_readsParts_128 ?_
                refine P_gI fo_Mo_127_34 rfl d_Mo_readsParts_129 (fun v35 => ?_)
                exact J_exit [0, 1, 2, 3, 4, 5] rfl (fun hx => hx)
              · refine J_iload_n 1 rfl d_Mo_readsParts_124 ?_
                refine J_goto 132 rfl d_Mo_readsParts_125 ?_
                exact J_exit [0, 1, 2, 3, 4, 5] rfl (fun hx => hx)
            · refine P_wI fo_Mo_127_34 rfl d_Mo_readsParts_132 (fun h36 => ?_)
              refine J_aload_n 4 rfl d_Mo_readsParts_135 ?_
              refine J_iload_n 5 rfl d_Mo_readsParts_136 ?_
              refine J_iconst (v := 1) rfl d_Mo_readsParts_137 ?_
              refine J_bd1 (fun (v37 : Int32) => Vw (kx_Mo_readsParts l g Q) 0 0 149 [(4, .int v26), (3, .int v25), (5, .int v17), (2, .int v2), (0, .ref (ad 34)), (1, .int a1)] [.int v37, .ref (ad 34)] (pic g ad h36)) ?_ (fun v37 => ?_)
              · refine J_icmp_ne 145 rfl d_Mo_readsParts_138 (fun c38 => ?_) (fun c38 => ?_)
                · refine J_aload_n 4 rfl d_Mo_readsParts_145 ?_
                  refine P_gI fo_Mo_131_34 rfl d_Mo_readsParts_146 (fun v39 => ?_)
                  exact J_exit [0, 1, 2, 3, 4, 5] rfl (fun hx => hx)
                · refine J_iload_n 1 rfl d_Mo_readsParts_141 ?_
                  refine J_goto 149 rfl d_Mo_readsParts_142 ?_
                  exact J_exit [0, 1, 2, 3, 4, 5] rfl (fun hx => hx)
              · refine P_wI fo_Mo_131_34 rfl d_Mo_readsParts_149 (fun h40 => ?_)
                refine J_iconst (v := (-1)) rfl d_Mo_readsParts_152 ?_
                exact J_iret (Nat.le_refl _) (Nat.le_refl _) d_Mo_readsParts_153 rfl (fun hx => hx)
        · refine J_iload 1 rfl d_Mo_readsParts_93 ?_
          refine J_iload 0 rfl d_Mo_readsParts_95 ?_
          refine J_iadd d_Mo_readsParts_97 ?_
          exact J_iret (Nat.le_refl _) (Nat.le_refl _) d_Mo_readsParts_98 rfl (fun hx => hx)
    · refine J_iload 0 rfl d_Mo_readsParts_59 ?_
      refine J_if_le 175 rfl d_Mo_readsParts_61 (fun c41 => ?_) (fun c41 => ?_)
      · refine J_iconst (v := (-1)) rfl d_Mo_readsParts_175 ?_
        exact J_iret (Nat.le_refl _) (Nat.le_refl _) d_Mo_readsParts_176 rfl (fun hx => hx)
      · refine J_iload_n 4 rfl d_Mo_readsParts_64 ?_
        refine J_bd2 (fun (v42 : Int32) (h43 : HP) => Vw (kx_Mo_readsParts l g Q) 0 0 85 [(4, .int v12), (3, .int v13), (2, .int v2), (0, .ref (ad 34)), (1, .int a1)] [.int v42] (pic g ad h43)) ?_ (fun v42 h43 => ?_)
        · refine J_if_ne 78 rfl d_Mo_readsParts_65 (fun c44 => ?_) (fun c44 => ?_)
          · refine J_aload_n 3 rfl d_Mo_readsParts_78 ?_
            refine J_iload_n 1 rfl d_Mo_readsParts_79 ?_
            refine J_iload 0 rfl d_Mo_readsParts_80 ?_
            refine J_callVi (m_Mo_readsBale l g ad _ _ _) ok_Mo_readsBale rc_34 wi_Mo_readsBale wl_Mo_Mo_readsBale wk_Mo_137 ⟨rfl, rfl, Nat.le_of_ble_eq_true rfl, Nat.le_of_ble_eq_true rfl⟩ ⟨Nat.zero_le _, Nat.zero_le _⟩ (rest := []) rfl rfl (Nat.le_of_ble_eq_true rfl) d_Mo_readsParts_82 (fun v45 h46 => ?_)
            exact J_exit [0, 1, 2, 3, 4] rfl (fun hx => hx)
          · refine J_aload_n 3 rfl d_Mo_readsParts_68 ?_
            refine J_iload_n 1 rfl d_Mo_readsParts_69 ?_
            refine J_iload 0 rfl d_Mo_readsParts_70 ?_
            refine J_callVi (m_Mo_readsCamel l g ad _ _ _) ok_Mo_readsCamel rc_34 wi_Mo_readsCamel wl_Mo_Mo_readsCamel wk_Mo_134 ⟨rfl, rfl, Nat.le_of_ble_eq_true rfl, Nat.le_of_ble_eq_true rfl⟩ ⟨Nat.zero_le _, Nat.zero_le _⟩ (rest := []) rfl rfl (Nat.le_of_ble_eq_true rfl) d_Mo_readsParts_72 (fun v47 h48 => ?_)
            refine J_goto 85 rfl d_Mo_readsParts_75 ?_
            exact J_exit [0, 1, 2, 3, 4] rfl (fun hx => hx)
        · refine J_istore (lv' := [(5, .int v42), (4, .int v12), (3, .int v13), (2, .int v2), (0, .ref (ad 34)), (1, .int a1)]) (Nat.le_of_ble_eq_true rfl) rfl d_Mo_readsParts_85 ?_
          refine J_iload 0 rfl d_Mo_readsParts_87 ?_
          refine J_iload_n 3 rfl d_Mo_readsParts_89 ?_
          refine J_icmp_ge 99 rfl d_Mo_readsParts_90 (fun c49 => ?_) (fun c49 => ?_)
          · refine P_inc (w := 1) (lv' := fun v50 => [(3, .int v50), (5, .int v42), (4, .int v12), (2, .int v2), (0, .ref (ad 34)), (1, .int a1)]) 2 rfl rfl (Nat.le_of_ble_eq_true rfl) (fun _ => rfl) d_Mo_readsParts_99 (fun v50 => ?_)
            refine J_iload 2 rfl d_Mo_readsParts_102 ?_
            refine J_iload_n 3 rfl d_Mo_readsParts_104 ?_
            refine J_iadd d_Mo_readsParts_105 ?_
            refine P_ist (lv' := fun v51 => [(4, .int v51), (3, .int v50), (5, .int v42), (2, .int v2), (0, .ref (ad 34)), (1, .int a1)]) (Nat.le_of_ble_eq_true rfl) (fun _ => rfl) d_Mo_readsParts_106 (fun v51 => ?_)
            refine J_iload 0 rfl d_Mo_readsParts_108 ?_
            refine J_aload_n 4 rfl d_Mo_readsParts_110 ?_
            refine J_getR fo_Mo_7_34 rfl d_Mo_readsParts_111 ?_
            refine J_iload_n 5 rfl d_Mo_readsParts_114 ?_
            refine P_ia (by decide) rfl rfl d_Mo_readsParts_115 (fun v52 => ?_)
            refine J_icmp_ne 154 rfl d_Mo_readsParts_116 (fun c53 => ?_) (fun c53 => ?_)
            · refine J_aload_n 4 rfl d_Mo_readsParts_154 ?_
              refine J_iload_n 5 rfl d_Mo_readsParts_155 ?_
              refine J_iload 0 rfl d_Mo_readsParts_156 ?_
              refine J_callVi (m_Mo_byteAt l g ad _ _ _) ok_Mo_byteAt rc_34 wi_Mo_byteAt wl_Mo_Mo_byteAt wk_Mo_123 ⟨rfl, rfl, Nat.le_of_ble_eq_true rfl, Nat.le_of_ble_eq_true rfl⟩ ⟨Nat.zero_le _, Nat.zero_le _⟩ (rest := []) rfl rfl (Nat.le_of_ble_eq_true rfl) d_Mo_readsParts_158 (fun v54 h55 => ?_)
              refine J_bipush (v := 59) rfl d_Mo_readsParts_161 ?_
              refine J_icmp_eq 169 rfl d_Mo_readsParts_163 (fun c56 => ?_) (fun c56 => ?_)
              · refine P_inc (w := 1) (lv' := fun v57 => [(4, .int v57), (3, .int v50), (5, .int v42), (2, .int v2), (0, .ref (ad 34)), (1, .int a1)]) 0 rfl rfl (Nat.le_of_ble_eq_true rfl) (fun _ => rfl) d_Mo_readsParts_169 (fun v57 => ?_)
                refine J_goto 48 rfl d_Mo_readsParts_172 ?_
                exact J_sub [0, 1, 3, 4, 5] rfl (ih _ _ _)
              · refine J_iload 0 rfl d_Mo_readsParts_166 ?_
                exact J_iret (Nat.le_refl _) (Nat.le_refl _) d_Mo_readsParts_168 rfl (fun hx => hx)
            · refine J_aload_n 4 rfl d_Mo_readsParts_119 ?_
              refine J_iload_n 5 rfl d_Mo_readsParts_120 ?_
              refine J_bd1 (fun (v58 : Int32) => Vw (kx_Mo_readsParts l g Q) 0 0 132 [(4, .int v51), (3, .int v50), (5, .int v42), (2, .int v2), (0, .ref (ad 34)), (1, .int a1)] [.int v58, .ref (ad 34)] (pic g ad h43)) ?_ (fun v58 => ?_)
              · refine J_if_ne 128 rfl d_Mo_readsParts_121 (fun c59 => ?_) (fun c59 => ?_)
                · refine J_aload_n 4 rfl d_Mo_readsParts_128 ?_
                  refine P_gI fo_Mo_127_34 rfl d_Mo_readsParts_129 (fun v60 => ?_)
                  exact J_exit [0, 1, 2, 3, 4, 5] rfl (fun hx => hx)
                · refine J_iload_n 1 rfl d_Mo_readsParts_124 ?_
                  refine J_goto 132 rfl d_Mo_readsParts_125 ?_
                  exact J_exit [0, 1, 2, 3, 4, 5] rfl (fun hx => hx)
              · refine P_wI fo_Mo_127_34 rfl d_Mo_readsParts_132 (fun h61 => ?_)
                refine J_aload_n 4 rfl d_Mo_readsParts_135 ?_
                refine J_iload_n 5 rfl d_Mo_readsParts_136 ?_
                refine J_iconst (v := 1) rfl d_Mo_readsParts_137 ?_
                refine J_bd1 (fun (v62 : Int32) => Vw (kx_Mo_readsParts l g Q) 0 0 149 [(4, .int v51), (3, .int v50), (5, .int v42), (2, .int v2), (0, .ref (ad 34)), (1, .int a1)] [.int v62, .ref (ad 34)] (pic g ad h61)) ?_ (fun v62 => ?_)
                · refine J_icmp_ne 145 rfl d_Mo_readsParts_138 (fun c63 => ?_) (fun c63 => ?_)
                  · refine J_aload_n 4 rfl d_Mo_readsParts_145 ?_
                    refine P_gI fo_Mo_131_34 rfl d_Mo_readsParts_146 (fun v64 => ?_)
                    exact J_exit [0, 1, 2, 3, 4, 5] rfl (fun hx => hx)
                  · refine J_iload_n 1 rfl d_Mo_readsParts_141 ?_
                    refine J_goto 149 rfl d_Mo_readsParts_142 ?_
                    exact J_exit [0, 1, 2, 3, 4, 5] rfl (fun hx => hx)
                · refine P_wI fo_Mo_131_34 rfl d_Mo_readsParts_149 (fun h65 => ?_)
                  refine J_iconst (v := (-1)) rfl d_Mo_readsParts_152 ?_
                  exact J_iret (Nat.le_refl _) (Nat.le_refl _) d_Mo_readsParts_153 rfl (fun hx => hx)
          · refine J_iload 1 rfl d_Mo_readsParts_93 ?_
            refine J_iload 0 rfl d_Mo_readsParts_95 ?_
            refine J_iadd d_Mo_readsParts_97 ?_
            exact J_iret (Nat.le_refl _) (Nat.le_refl _) d_Mo_readsParts_98 rfl (fun hx => hx)
set_option maxRecDepth 20000 in
set_option maxHeartbeats 4000000 in
theorem m_Mo_readsParts (l : Launch) (g : GG) (ad : Nat → Nat) (a1 : Int32) (h0 : HP) : CM l g ad y_Mo_readsParts b_Mo_readsParts 6 (some .int) rm_Mo_readsParts [.ref (ad 34), .int a1] h0 enI (f_Mo_readsParts a1 h0) := by
  refine CM.of (by decide) (Nat.le_of_ble_eq_true rfl) (fun Q => ?_)
  show Jj _ _ (Vw (kx_Mo_readsParts l g Q) 0 0 0 _ _ _)
  refine J_sub [0, 1] (lv' := [(0, .ref (ad 34)), (1, .int a1)]) rfl ?_
  unfold f_Mo_readsParts
  refine J_iload_n 1 rfl d_Mo_readsParts_0 ?_
  refine J_bd1 (fun (v2 : Int32) => Vw (kx_Mo_readsParts l g Q) 0 0 9 [(0, .ref (ad 34)), (1, .int a1)] [.int v2] (pic g ad h0)) ?_ (fun v2 => ?_)
  · refine J_if_ne 8 rfl d_Mo_readsParts_1 (fun c3 => ?_) (fun c3 => ?_)
    · refine J_iconst (v := 3) rfl d_Mo_readsParts_8 ?_
      exact J_exit [0, 1] rfl (fun hx => hx)
    · refine J_iconst (v := 2) rfl d_Mo_readsParts_4 ?_
      refine J_goto 9 rfl d_Mo_readsParts_5 ?_
      exact J_exit [0, 1] rfl (fun hx => hx)
  · refine J_istore_n (lv' := [(2, .int v2), (0, .ref (ad 34)), (1, .int a1)]) 2 rfl (Nat.le_of_ble_eq_true rfl) rfl d_Mo_readsParts_9 ?_
    refine J_iconst (v := 0) rfl d_Mo_readsParts_10 ?_
    refine J_istore_n (lv' := [(3, .int 0), (2, .int v2), (0, .ref (ad 34)), (1, .int a1)]) 3 rfl (Nat.le_of_ble_eq_true rfl) rfl d_Mo_readsParts_11 ?_
    refine J_iconst (v := 0) rfl d_Mo_readsParts_12 ?_
    refine J_istore (lv' := [(4, .int 0), (3, .int 0), (2, .int v2), (0, .ref (ad 34)), (1, .int a1)]) (Nat.le_of_ble_eq_true rfl) rfl d_Mo_readsParts_13 ?_
    refine J_aload_n 3 rfl d_Mo_readsParts_15 ?_
    refine J_iload_n 4 rfl d_Mo_readsParts_16 ?_
    refine J_bd1 (fun (v4 : Int32) => Vw (kx_Mo_readsParts l g Q) 0 0 28 [(4, .int 0), (3, .int 0), (2, .int v2), (0, .ref (ad 34)), (1, .int a1)] [.int v4, .ref (ad 34)] (pic g ad h0)) ?_ (fun v4 => ?_)
    · refine J_if_ne 24 rfl d_Mo_readsParts_17 (fun c5 => ?_) (fun c5 => ?_)
      · refine J_aload_n 3 rfl d_Mo_readsParts_24 ?_
        refine P_gI fo_Mo_127_34 rfl d_Mo_readsParts_25 (fun v6 => ?_)
        exact J_exit [0, 1, 2, 3, 4] rfl (fun hx => hx)
      · refine J_iconst (v := 0) rfl d_Mo_readsParts_20 ?_
        refine J_goto 28 rfl d_Mo_readsParts_21 ?_
        exact J_exit [0, 1, 2, 3, 4] rfl (fun hx => hx)
    · refine P_wI fo_Mo_127_34 rfl d_Mo_readsParts_28 (fun h7 => ?_)
      refine J_aload_n 3 rfl d_Mo_readsParts_31 ?_
      refine J_iload_n 4 rfl d_Mo_readsParts_32 ?_
      refine J_iconst (v := 1) rfl d_Mo_readsParts_33 ?_
      refine J_bd1 (fun (v8 : Int32) => Vw (kx_Mo_readsParts l g Q) 0 0 45 [(4, .int 0), (3, .int 0), (2, .int v2), (0, .ref (ad 34)), (1, .int a1)] [.int v8, .ref (ad 34)] (pic g ad h7)) ?_ (fun v8 => ?_)
      · refine J_icmp_ne 41 rfl d_Mo_readsParts_34 (fun c9 => ?_) (fun c9 => ?_)
        · refine J_aload_n 3 rfl d_Mo_readsParts_41 ?_
          refine P_gI fo_Mo_131_34 rfl d_Mo_readsParts_42 (fun v10 => ?_)
          exact J_exit [0, 1, 2, 3, 4] rfl (fun hx => hx)
        · refine J_iconst (v := 0) rfl d_Mo_readsParts_37 ?_
          refine J_goto 45 rfl d_Mo_readsParts_38 ?_
          exact J_exit [0, 1, 2, 3, 4] rfl (fun hx => hx)
      · refine P_wI fo_Mo_131_34 rfl d_Mo_readsParts_45 (fun h11 => ?_)
        exact J_sub [0, 1, 2, 3, 4] rfl (mlp_Mo_readsParts_48 l g ad Q v2 a1 400 _ _ _)
def f_Mo_faultOf (a1 : Int32) (h0 : HP) : Option (Int32 × HP) :=
 bd2 (f_Mo_readsParts 0 h0) (fun (v2 : Int32) (h3 : HP) =>
 bd2 (f_Mo_readsParts 1 h3) (fun (v4 : Int32) (h5 : HP) =>
 (if a1 = 0 then
 some (v2, h5)
 else
 some (v4, h5))))
set_option maxRecDepth 20000 in
set_option maxHeartbeats 4000000 in
theorem m_Mo_faultOf (l : Launch) (g : GG) (ad : Nat → Nat) (a1 : Int32) (h0 : HP) : CM l g ad y_Mo_faultOf b_Mo_faultOf 4 (some .int) rm_Mo_faultOf [.ref (ad 34), .int a1] h0 enI (f_Mo_faultOf a1 h0) := by
  refine CM.of (by decide) (Nat.le_of_ble_eq_true rfl) (fun Q => ?_)
  show Jj _ _ (Vw (kx_Mo_faultOf l g Q) 0 0 0 _ _ _)
  refine J_sub [0, 1] (lv' := [(0, .ref (ad 34)), (1, .int a1)]) rfl ?_
  unfold f_Mo_faultOf
  refine J_aload_n 0 rfl d_Mo_faultOf_0 ?_
  refine J_iconst (v := 0) rfl d_Mo_faultOf_1 ?_
  refine J_callVi (m_Mo_readsParts l g ad _ _) ok_Mo_readsParts rc_34 wi_Mo_readsParts wl_Mo_Mo_readsParts wk_Mo_140 ⟨rfl, rfl, Nat.le_of_ble_eq_true rfl, Nat.le_of_ble_eq_true rfl⟩ ⟨Nat.zero_le _, Nat.zero_le _⟩ (rest := []) rfl rfl (Nat.le_of_ble_eq_true rfl) d_Mo_faultOf_2 (fun v2 h3 => ?_)
  refine J_istore_n (lv' := [(2, .int v2), (0, .ref (ad 34)), (1, .int a1)]) 2 rfl (Nat.le_of_ble_eq_true rfl) rfl d_Mo_faultOf_5 ?_
  refine J_aload_n 1 rfl d_Mo_faultOf_6 ?_
  refine J_iconst (v := 1) rfl d_Mo_faultOf_7 ?_
  refine J_callVi (m_Mo_readsParts l g ad _ _) ok_Mo_readsParts rc_34 wi_Mo_readsParts wl_Mo_Mo_readsParts wk_Mo_140 ⟨rfl, rfl, Nat.le_of_ble_eq_true rfl, Nat.le_of_ble_eq_true rfl⟩ ⟨Nat.zero_le _, Nat.zero_le _⟩ (rest := []) rfl rfl (Nat.le_of_ble_eq_true rfl) d_Mo_faultOf_8 (fun v4 h5 => ?_)
  refine J_istore_n (lv' := [(3, .int v4), (2, .int v2), (0, .ref (ad 34)), (1, .int a1)]) 3 rfl (Nat.le_of_ble_eq_true rfl) rfl d_Mo_faultOf_11 ?_
  refine J_iload_n 3 rfl d_Mo_faultOf_12 ?_
  refine J_if_ne 20 rfl d_Mo_faultOf_13 (fun c6 => ?_) (fun c6 => ?_)
  · refine J_iload_n 0 rfl d_Mo_faultOf_20 ?_
    exact J_iret (Nat.le_refl _) (Nat.le_refl _) d_Mo_faultOf_21 rfl (fun hx => hx)
  · refine J_iload_n 1 rfl d_Mo_faultOf_16 ?_
    refine J_goto 21 rfl d_Mo_faultOf_17 ?_
    exact J_iret (Nat.le_refl _) (Nat.le_refl _) d_Mo_faultOf_21 rfl (fun hx => hx)
def f_Mo_fault (a1 : Int32) (h0 : HP) : Option (Int32 × HP) :=
 bd2 (f_Mo_isText a1 h0) (fun (v2 : Int32) (h3 : HP) =>
 (if v2 = 0 then
 some ((-2), h3)
 else
 bd2 (f_Mo_faultOf a1 h3) (fun (v5 : Int32) (h6 : HP) =>
 some (v5, h6))))
set_option maxRecDepth 20000 in
set_option maxHeartbeats 4000000 in
theorem m_Mo_fault (l : Launch) (g : GG) (ad : Nat → Nat) (a1 : Int32) (h0 : HP) : CM l g ad y_Mo_fault b_Mo_fault 2 (some .int) rm_Mo_fault [.ref (ad 34), .int a1] h0 enI (f_Mo_fault a1 h0) := by
  refine CM.of (by decide) (Nat.le_of_ble_eq_true rfl) (fun Q => ?_)
  show Jj _ _ (Vw (kx_Mo_fault l g Q) 0 0 0 _ _ _)
  refine J_sub [0, 1] (lv' := [(0, .ref (ad 34)), (1, .int a1)]) rfl ?_
  unfold f_Mo_fault
  refine J_iload_n 1 rfl d_Mo_fault_0 ?_
  refine J_callSi (m_Mo_isText l g ad _ _) ok_Mo_isText ws_Mo_isText wk_Mo_119 ⟨rfl, rfl, Nat.le_of_ble_eq_true rfl, Nat.le_of_ble_eq_true rfl⟩ ⟨Nat.zero_le _, Nat.zero_le _⟩ (rest := []) rfl rfl (Nat.le_of_ble_eq_true rfl) d_Mo_fault_1 (fun v2 h3 => ?_)
  refine J_if_eq 15 rfl d_Mo_fault_4 (fun c4 => ?_) (fun c4 => ?_)
  · refine J_bipush (v := (-2)) rfl d_Mo_fault_15 ?_
    exact J_iret (Nat.le_refl _) (Nat.le_refl _) d_Mo_fault_17 rfl (fun hx => hx)
  · refine J_aload_n 0 rfl d_Mo_fault_7 ?_
    refine J_iload_n 1 rfl d_Mo_fault_8 ?_
    refine J_callVi (m_Mo_faultOf l g ad _ _) ok_Mo_faultOf rc_34 wi_Mo_faultOf wl_Mo_Mo_faultOf wk_Mo_144 ⟨rfl, rfl, Nat.le_of_ble_eq_true rfl, Nat.le_of_ble_eq_true rfl⟩ ⟨Nat.zero_le _, Nat.zero_le _⟩ (rest := []) rfl rfl (Nat.le_of_ble_eq_true rfl) d_Mo_fault_9 (fun v5 h6 => ?_)
    refine J_goto 17 rfl d_Mo_fault_12 ?_
    exact J_iret (Nat.le_refl _) (Nat.le_refl _) d_Mo_fault_17 rfl (fun hx => hx)
def f_Mo_reads (h0 : HP) : Option (HP) :=
 bd2 (f_Mo_faultOf 0 h0) (fun (v1 : Int32) (h2 : HP) =>
 some h2)
set_option maxRecDepth 20000 in
set_option maxHeartbeats 4000000 in
theorem m_Mo_reads (l : Launch) (g : GG) (ad : Nat → Nat) (h0 : HP) : CM l g ad y_Mo_reads b_Mo_reads 2 none rm_Mo_reads [.ref (ad 34)] h0 enV (f_Mo_reads h0) := by
  refine CM.of (by decide) (Nat.le_of_ble_eq_true rfl) (fun Q => ?_)
  show Jj _ _ (Vw (kx_Mo_reads l g Q) 0 0 0 _ _ _)
  refine J_sub [0] (lv' := [(0, .ref (ad 34))]) rfl ?_
  unfold f_Mo_reads
  refine J_aload_n 0 rfl d_Mo_reads_0 ?_
  refine J_iconst (v := 0) rfl d_Mo_reads_1 ?_
  refine J_callVi (m_Mo_faultOf l g ad _ _) ok_Mo_faultOf rc_34 wi_Mo_faultOf wl_Mo_Mo_faultOf wk_Mo_144 ⟨rfl, rfl, Nat.le_of_ble_eq_true rfl, Nat.le_of_ble_eq_true rfl⟩ ⟨Nat.zero_le _, Nat.zero_le _⟩ (rest := []) rfl rfl (Nat.le_of_ble_eq_true rfl) d_Mo_reads_2 (fun v1 h2 => ?_)
  refine J_istore_n (lv' := [(1, .int v1), (0, .ref (ad 34))]) 1 rfl (Nat.le_of_ble_eq_true rfl) rfl d_Mo_reads_5 ?_
  exact J_vret (Nat.le_refl _) (Nat.le_refl _) d_Mo_reads_6 rfl (fun hx => hx)
def f_Mo_isCamel (a1 : Int32) (h0 : HP) : Option (Int32 × HP) :=
 bd1 (f_Mo_reads h0) (fun (h2 : HP) =>
 ltt (rI h2 34 2) (fun (v3 : Int32) =>
 bd2 (f_Mo_in a1 0 (v3 - 1) h2) (fun (v4 : Int32) (h5 : HP) =>
 ckk (z01 v4) (some (v4, h5)))))
set_option maxRecDepth 20000 in
set_option maxHeartbeats 4000000 in
theorem m_Mo_isCamel (l : Launch) (g : GG) (ad : Nat → Nat) (a1 : Int32) (h0 : HP) : CM l g ad y_Mo_isCamel b_Mo_isCamel 2 (some .boolean) rm_Mo_isCamel [.ref (ad 34), .int a1] h0 enI (f_Mo_isCamel a1 h0) := by
  refine CM.of (by decide) (Nat.le_of_ble_eq_true rfl) (fun Q => ?_)
  show Jj _ _ (Vw (kx_Mo_isCamel l g Q) 0 0 0 _ _ _)
  refine J_sub [0, 1] (lv' := [(0, .ref (ad 34)), (1, .int a1)]) rfl ?_
  unfold f_Mo_isCamel
  refine J_aload_n 0 rfl d_Mo_isCamel_0 ?_
  refine J_callVv (m_Mo_reads l g ad _) ok_Mo_reads rc_34 wi_Mo_reads wl_Mo_Mo_reads wk_Mo_147 ⟨rfl, rfl, Nat.le_of_ble_eq_true rfl, Nat.le_of_ble_eq_true rfl⟩ ⟨Nat.zero_le _, Nat.zero_le _⟩ (rest := []) rfl rfl (Nat.le_of_ble_eq_true rfl) d_Mo_isCamel_1 (fun h2 => ?_)
  refine J_iload_n 1 rfl d_Mo_isCamel_4 ?_
  refine J_iconst (v := 0) rfl d_Mo_isCamel_5 ?_
  refine J_aload_n 0 rfl d_Mo_isCamel_6 ?_
  refine P_gI fo_Mo_127_34 rfl d_Mo_isCamel_7 (fun v3 => ?_)
  refine J_iconst (v := 1) rfl d_Mo_isCamel_10 ?_
  refine J_isub d_Mo_isCamel_11 ?_
  refine J_callSi (m_Mo_in l g ad _ _ _ _) ok_Mo_in ws_Mo_in wk_Mo_115 ⟨rfl, rfl, Nat.le_of_ble_eq_true rfl, Nat.le_of_ble_eq_true rfl⟩ ⟨Nat.zero_le _, Nat.zero_le _⟩ (rest := []) rfl rfl (Nat.le_of_ble_eq_true rfl) d_Mo_isCamel_12 (fun v4 h5 => ?_)
  exact P_zret (Nat.le_refl _) (Nat.le_refl _) d_Mo_isCamel_15 rfl (fun hx => hx)
def f_Mo_isTwo (a1 : Int32) (h0 : HP) : Option (Int32 × HP) :=
 bd2 (f_Mo_in a1 0 1 h0) (fun (v2 : Int32) (h3 : HP) =>
 ckk (z01 v2) (some (v2, h3)))
set_option maxRecDepth 20000 in
set_option maxHeartbeats 4000000 in
theorem m_Mo_isTwo (l : Launch) (g : GG) (ad : Nat → Nat) (a1 : Int32) (h0 : HP) : CM l g ad y_Mo_isTwo b_Mo_isTwo 1 (some .boolean) rm_Mo_isTwo [.int a1] h0 enI (f_Mo_isTwo a1 h0) := by
  refine CM.of (by decide) (Nat.le_of_ble_eq_true rfl) (fun Q => ?_)
  show Jj _ _ (Vw (kx_Mo_isTwo l g Q) 0 0 0 _ _ _)
  refine J_sub [0] (lv' := [(0, .int a1)]) rfl ?_
  unfold f_Mo_isTwo
  refine J_iload_n 0 rfl d_Mo_isTwo_0 ?_
  refine J_iconst (v := 0) rfl d_Mo_isTwo_1 ?_
  refine J_iconst (v := 1) rfl d_Mo_isTwo_2 ?_
  refine J_callSi (m_Mo_in l g ad _ _ _ _) ok_Mo_in ws_Mo_in wk_Mo_115 ⟨rfl, rfl, Nat.le_of_ble_eq_true rfl, Nat.le_of_ble_eq_true rfl⟩ ⟨Nat.zero_le _, Nat.zero_le _⟩ (rest := []) rfl rfl (Nat.le_of_ble_eq_true rfl) d_Mo_isTwo_3 (fun v2 h3 => ?_)
  exact P_zret (Nat.le_refl _) (Nat.le_refl _) d_Mo_isTwo_6 rfl (fun hx => hx)
def f_Mo_camelOf (a1 : Int32) (a2 : Int32) (h0 : HP) : Option (Int32 × HP) :=
 (if a2 = 0 then
 ckk (inb a1 9) (ltt (rA h0 31 a1) (fun (v5 : Int32) =>
 some (v5, h0)))
 else
 ckk (inb a1 9) (ltt (rA h0 30 a1) (fun (v4 : Int32) =>
 some (4 * v4, h0))))
set_option maxRecDepth 20000 in
set_option maxHeartbeats 4000000 in
theorem m_Mo_camelOf (l : Launch) (g : GG) (ad : Nat → Nat) (a1 : Int32) (a2 : Int32) (h0 : HP) : CM l g ad y_Mo_camelOf b_Mo_camelOf 3 (some .int) rm_Mo_camelOf [.ref (ad 34), .int a1, .int a2] h0 enI (f_Mo_camelOf a1 a2 h0) := by
  refine CM.of (by decide) (Nat.le_of_ble_eq_true rfl) (fun Q => ?_)
  show Jj _ _ (Vw (kx_Mo_camelOf l g Q) 0 0 0 _ _ _)
  refine J_sub [0, 1, 2] (lv' := [(0, .ref (ad 34)), (1, .int a1), (2, .int a2)]) rfl ?_
  unfold f_Mo_camelOf
  refine J_iload_n 2 rfl d_Mo_camelOf_0 ?_
  refine J_if_ne 13 rfl d_Mo_camelOf_1 (fun c3 => ?_) (fun c3 => ?_)
  · refine J_iconst (v := 4) rfl d_Mo_camelOf_13 ?_
    refine J_aload_n 0 rfl d_Mo_camelOf_14 ?_
    refine J_getR fo_Mo_19_34 rfl d_Mo_camelOf_15 ?_
    refine J_iload_n 1 rfl d_Mo_camelOf_18 ?_
    refine P_ia (by decide) rfl rfl d_Mo_camelOf_19 (fun v4 => ?_)
    refine J_imul d_Mo_camelOf_20 ?_
    exact J_iret (Nat.le_refl _) (Nat.le_refl _) d_Mo_camelOf_21 rfl (fun hx => hx)
  · refine J_aload_n 0 rfl d_Mo_camelOf_4 ?_
    refine J_getR fo_Mo_16_34 rfl d_Mo_camelOf_5 ?_
    refine J_iload_n 1 rfl d_Mo_camelOf_8 ?_
    refine P_ia (by decide) rfl rfl d_Mo_camelOf_9 (fun v5 => ?_)
    refine J_goto 21 rfl d_Mo_camelOf_10 ?_
    exact J_iret (Nat.le_refl _) (Nat.le_refl _) d_Mo_camelOf_21 rfl (fun hx => hx)
def f_Mo_camel (a1 : Int32) (a2 : Int32) (h0 : HP) : Option (Int32 × HP) :=
 bd2 (f_Mo_isCamel a1 h0) (fun (v3 : Int32) (h4 : HP) =>
 (if v3 = 0 then
 some ((-2), h4)
 else
 bd2 (f_Mo_isTwo a2 h4) (fun (v6 : Int32) (h7 : HP) =>
 (if v6 = 0 then
 some ((-2), h7)
 else
 bd2 (f_Mo_camelOf a1 a2 h7) (fun (v9 : Int32) (h10 : HP) =>
 some (v9, h10))))))
set_option maxRecDepth 20000 in
set_option maxHeartbeats 4000000 in
theorem m_Mo_camel (l : Launch) (g : GG) (ad : Nat → Nat) (a1 : Int32) (a2 : Int32) (h0 : HP) : CM l g ad y_Mo_camel b_Mo_camel 3 (some .int) rm_Mo_camel [.ref (ad 34), .int a1, .int a2] h0 enI (f_Mo_camel a1 a2 h0) := by
  refine CM.of (by decide) (Nat.le_of_ble_eq_true rfl) (fun Q => ?_)
  show Jj _ _ (Vw (kx_Mo_camel l g Q) 0 0 0 _ _ _)
  refine J_sub [0, 1, 2] (lv' := [(0, .ref (ad 34)), (1, .int a1), (2, .int a2)]) rfl ?_
  unfold f_Mo_camel
  refine J_aload_n 0 rfl d_Mo_camel_0 ?_
  refine J_iload_n 1 rfl d_Mo_camel_1 ?_
  refine J_callVi (m_Mo_isCamel l g ad _ _) ok_Mo_isCamel rc_34 wi_Mo_isCamel wl_Mo_Mo_isCamel wk_Mo_150 ⟨rfl, rfl, Nat.le_of_ble_eq_true rfl, Nat.le_of_ble_eq_true rfl⟩ ⟨Nat.zero_le _, Nat.zero_le _⟩ (rest := []) rfl rfl (Nat.le_of_ble_eq_true rfl) d_Mo_camel_2 (fun v3 h4 => ?_)
  refine J_if_eq 24 rfl d_Mo_camel_5 (fun c5 => ?_) (fun c5 => ?_)
  · refine J_bipush (v := (-2)) rfl d_Mo_camel_24 ?_
    exact J_iret (Nat.le_refl _) (Nat.le_refl _) d_Mo_camel_26 rfl (fun hx => hx)
  · refine J_iload_n 2 rfl d_Mo_camel_8 ?_
    refine J_callSi (m_Mo_isTwo l g ad _ _) ok_Mo_isTwo ws_Mo_isTwo wk_Mo_153 ⟨rfl, rfl, Nat.le_of_ble_eq_true rfl, Nat.le_of_ble_eq_true rfl⟩ ⟨Nat.zero_le _, Nat.zero_le _⟩ (rest := []) rfl rfl (Nat.le_of_ble_eq_true rfl) d_Mo_camel_9 (fun v6 h7 => ?_)
    refine J_if_eq 24 rfl d_Mo_camel_12 (fun c8 => ?_) (fun c8 => ?_)
    · refine J_bipush (v := (-2)) rfl d_Mo_camel_24 ?_
      exact J_iret (Nat.le_refl _) (Nat.le_refl _) d_Mo_camel_26 rfl (fun hx => hx)
    · refine J_aload_n 0 rfl d_Mo_camel_15 ?_
      refine J_iload_n 1 rfl d_Mo_camel_16 ?_
      refine J_iload_n 2 rfl d_Mo_camel_17 ?_
      refine J_callVi (m_Mo_camelOf l g ad _ _ _) ok_Mo_camelOf rc_34 wi_Mo_camelOf wl_Mo_Mo_camelOf wk_Mo_156 ⟨rfl, rfl, Nat.le_of_ble_eq_true rfl, Nat.le_of_ble_eq_true rfl⟩ ⟨Nat.zero_le _, Nat.zero_le _⟩ (rest := []) rfl rfl (Nat.le_of_ble_eq_true rfl) d_Mo_camel_18 (fun v9 h10 => ?_)
      refine J_goto 26 rfl d_Mo_camel_21 ?_
      exact J_iret (Nat.le_refl _) (Nat.le_refl _) d_Mo_camel_26 rfl (fun hx => hx)
def f_Mo_isBale (a1 : Int32) (h0 : HP) : Option (Int32 × HP) :=
 bd1 (f_Mo_reads h0) (fun (h2 : HP) =>
 ltt (rI h2 34 5) (fun (v3 : Int32) =>
 bd2 (f_Mo_in a1 0 (v3 - 1) h2) (fun (v4 : Int32) (h5 : HP) =>
 ckk (z01 v4) (some (v4, h5)))))
set_option maxRecDepth 20000 in
set_option maxHeartbeats 4000000 in
theorem m_Mo_isBale (l : Launch) (g : GG) (ad : Nat → Nat) (a1 : Int32) (h0 : HP) : CM l g ad y_Mo_isBale b_Mo_isBale 2 (some .boolean) rm_Mo_isBale [.ref (ad 34), .int a1] h0 enI (f_Mo_isBale a1 h0) := by
  refine CM.of (by decide) (Nat.le_of_ble_eq_true rfl) (fun Q => ?_)
  show Jj _ _ (Vw (kx_Mo_isBale l g Q) 0 0 0 _ _ _)
  refine J_sub [0, 1] (lv' := [(0, .ref (ad 34)), (1, .int a1)]) rfl ?_
  unfold f_Mo_isBale
  refine J_aload_n 0 rfl d_Mo_isBale_0 ?_
  refine J_callVv (m_Mo_reads l g ad _) ok_Mo_reads rc_34 wi_Mo_reads wl_Mo_Mo_reads wk_Mo_147 ⟨rfl, rfl, Nat.le_of_ble_eq_true rfl, Nat.le_of_ble_eq_true rfl⟩ ⟨Nat.zero_le _, Nat.zero_le _⟩ (rest := []) rfl rfl (Nat.le_of_ble_eq_true rfl) d_Mo_isBale_1 (fun h2 => ?_)
  refine J_iload_n 1 rfl d_Mo_isBale_4 ?_
  refine J_iconst (v := 0) rfl d_Mo_isBale_5 ?_
  refine J_aload_n 0 rfl d_Mo_isBale_6 ?_
  refine P_gI fo_Mo_131_34 rfl d_Mo_isBale_7 (fun v3 => ?_)
  refine J_iconst (v := 1) rfl d_Mo_isBale_10 ?_
  refine J_isub d_Mo_isBale_11 ?_
  refine J_callSi (m_Mo_in l g ad _ _ _ _) ok_Mo_in ws_Mo_in wk_Mo_115 ⟨rfl, rfl, Nat.le_of_ble_eq_true rfl, Nat.le_of_ble_eq_true rfl⟩ ⟨Nat.zero_le _, Nat.zero_le _⟩ (rest := []) rfl rfl (Nat.le_of_ble_eq_true rfl) d_Mo_isBale_12 (fun v4 h5 => ?_)
  exact P_zret (Nat.le_refl _) (Nat.le_refl _) d_Mo_isBale_15 rfl (fun hx => hx)
def f_Mo_baleOf (a1 : Int32) (a2 : Int32) (h0 : HP) : Option (Int32 × HP) :=
 (if a2 = 0 then
 ckk (inb a1 11) (ltt (rA h0 29 a1) (fun (v7 : Int32) =>
 some (v7, h0)))
 else
 (if a2 = 1 then
 ckk (inb a1 11) (ltt (rA h0 28 a1) (fun (v6 : Int32) =>
 some (v6, h0)))
 else
 ckk (inb a1 11) (ltt (rA h0 27 a1) (fun (v5 : Int32) =>
 some (v5, h0)))))
set_option maxRecDepth 20000 in
set_option maxHeartbeats 4000000 in
theorem m_Mo_baleOf (l : Launch) (g : GG) (ad : Nat → Nat) (a1 : Int32) (a2 : Int32) (h0 : HP) : CM l g ad y_Mo_baleOf b_Mo_baleOf 3 (some .int) rm_Mo_baleOf [.ref (ad 34), .int a1, .int a2] h0 enI (f_Mo_baleOf a1 a2 h0) := by
  refine CM.of (by decide) (Nat.le_of_ble_eq_true rfl) (fun Q => ?_)
  show Jj _ _ (Vw (kx_Mo_baleOf l g Q) 0 0 0 _ _ _)
  refine J_sub [0, 1, 2] (lv' := [(0, .ref (ad 34)), (1, .int a1), (2, .int a2)]) rfl ?_
  unfold f_Mo_baleOf
  refine J_iload_n 2 rfl d_Mo_baleOf_0 ?_
  refine J_if_ne 13 rfl d_Mo_baleOf_1 (fun c3 => ?_) (fun c3 => ?_)
  · refine J_iload_n 2 rfl d_Mo_baleOf_13 ?_
    refine J_iconst (v := 1) rfl d_Mo_baleOf_14 ?_
    refine J_icmp_ne 27 rfl d_Mo_baleOf_15 (fun c4 => ?_) (fun c4 => ?_)
    · refine J_aload_n 0 rfl d_Mo_baleOf_27 ?_
      refine J_getR fo_Mo_28_34 rfl d_Mo_baleOf_28 ?_
      refine J_iload_n 1 rfl d_Mo_baleOf_31 ?_
      refine P_ia (by decide) rfl rfl d_Mo_baleOf_32 (fun v5 => ?_)
      exact J_iret (Nat.le_refl _) (Nat.le_refl _) d_Mo_baleOf_33 rfl (fun hx => hx)
    · refine J_aload_n 0 rfl d_Mo_baleOf_18 ?_
      refine J_getR fo_Mo_25_34 rfl d_Mo_baleOf_19 ?_
      refine J_iload_n 1 rfl d_Mo_baleOf_22 ?_
      refine P_ia (by decide) rfl rfl d_Mo_baleOf_23 (fun v6 => ?_)
      refine J_goto 33 rfl d_Mo_baleOf_24 ?_
      exact J_iret (Nat.le_refl _) (Nat.le_refl _) d_Mo_baleOf_33 rfl (fun hx => hx)
  · refine J_aload_n 0 rfl d_Mo_baleOf_4 ?_
    refine J_getR fo_Mo_22_34 rfl d_Mo_baleOf_5 ?_
    refine J_iload_n 1 rfl d_Mo_baleOf_8 ?_
    refine P_ia (by decide) rfl rfl d_Mo_baleOf_9 (fun v7 => ?_)
    refine J_goto 33 rfl d_Mo_baleOf_10 ?_
    exact J_iret (Nat.le_refl _) (Nat.le_refl _) d_Mo_baleOf_33 rfl (fun hx => hx)
def f_Mo_bale (a1 : Int32) (a2 : Int32) (h0 : HP) : Option (Int32 × HP) :=
 bd2 (f_Mo_isBale a1 h0) (fun (v3 : Int32) (h4 : HP) =>
 (if v3 = 0 then
 some ((-2), h4)
 else
 bd2 (f_Mo_in a2 0 2 h4) (fun (v6 : Int32) (h7 : HP) =>
 (if v6 = 0 then
 some ((-2), h7)
 else
 bd2 (f_Mo_baleOf a1 a2 h7) (fun (v9 : Int32) (h10 : HP) =>
 some (v9, h10))))))
set_option maxRecDepth 20000 in
set_option maxHeartbeats 4000000 in
theorem m_Mo_bale (l : Launch) (g : GG) (ad : Nat → Nat) (a1 : Int32) (a2 : Int32) (h0 : HP) : CM l g ad y_Mo_bale b_Mo_bale 3 (some .int) rm_Mo_bale [.ref (ad 34), .int a1, .int a2] h0 enI (f_Mo_bale a1 a2 h0) := by
  refine CM.of (by decide) (Nat.le_of_ble_eq_true rfl) (fun Q => ?_)
  show Jj _ _ (Vw (kx_Mo_bale l g Q) 0 0 0 _ _ _)
  refine J_sub [0, 1, 2] (lv' := [(0, .ref (ad 34)), (1, .int a1), (2, .int a2)]) rfl ?_
  unfold f_Mo_bale
  refine J_aload_n 0 rfl d_Mo_bale_0 ?_
  refine J_iload_n 1 rfl d_Mo_bale_1 ?_
  refine J_callVi (m_Mo_isBale l g ad _ _) ok_Mo_isBale rc_34 wi_Mo_isBale wl_Mo_Mo_isBale wk_Mo_159 ⟨rfl, rfl, Nat.le_of_ble_eq_true rfl, Nat.le_of_ble_eq_true rfl⟩ ⟨Nat.zero_le _, Nat.zero_le _⟩ (rest := []) rfl rfl (Nat.le_of_ble_eq_true rfl) d_Mo_bale_2 (fun v3 h4 => ?_)
  refine J_if_eq 26 rfl d_Mo_bale_5 (fun c5 => ?_) (fun c5 => ?_)
  · refine J_bipush (v := (-2)) rfl d_Mo_bale_26 ?_
    exact J_iret (Nat.le_refl _) (Nat.le_refl _) d_Mo_bale_28 rfl (fun hx => hx)
  · refine J_iload_n 2 rfl d_Mo_bale_8 ?_
    refine J_iconst (v := 0) rfl d_Mo_bale_9 ?_
    refine J_iconst (v := 2) rfl d_Mo_bale_10 ?_
    refine J_callSi (m_Mo_in l g ad _ _ _ _) ok_Mo_in ws_Mo_in wk_Mo_115 ⟨rfl, rfl, Nat.le_of_ble_eq_true rfl, Nat.le_of_ble_eq_true rfl⟩ ⟨Nat.zero_le _, Nat.zero_le _⟩ (rest := []) rfl rfl (Nat.le_of_ble_eq_true rfl) d_Mo_bale_11 (fun v6 h7 => ?_)
    refine J_if_eq 26 rfl d_Mo_bale_14 (fun c8 => ?_) (fun c8 => ?_)
    · refine J_bipush (v := (-2)) rfl d_Mo_bale_26 ?_
      exact J_iret (Nat.le_refl _) (Nat.le_refl _) d_Mo_bale_28 rfl (fun hx => hx)
    · refine J_aload_n 0 rfl d_Mo_bale_17 ?_
      refine J_iload_n 1 rfl d_Mo_bale_18 ?_
      refine J_iload_n 2 rfl d_Mo_bale_19 ?_
      refine J_callVi (m_Mo_baleOf l g ad _ _ _) ok_Mo_baleOf rc_34 wi_Mo_baleOf wl_Mo_Mo_baleOf wk_Mo_162 ⟨rfl, rfl, Nat.le_of_ble_eq_true rfl, Nat.le_of_ble_eq_true rfl⟩ ⟨Nat.zero_le _, Nat.zero_le _⟩ (rest := []) rfl rfl (Nat.le_of_ble_eq_true rfl) d_Mo_bale_20 (fun v9 h10 => ?_)
      refine J_goto 28 rfl d_Mo_bale_23 ?_
      exact J_iret (Nat.le_refl _) (Nat.le_refl _) d_Mo_bale_28 rfl (fun hx => hx)
def f_Mo_isDay (a1 : Int32) (h0 : HP) : Option (Int32 × HP) :=
 bd2 (f_Mo_in a1 0 23 h0) (fun (v2 : Int32) (h3 : HP) =>
 ckk (z01 v2) (some (v2, h3)))
set_option maxRecDepth 20000 in
set_option maxHeartbeats 4000000 in
theorem m_Mo_isDay (l : Launch) (g : GG) (ad : Nat → Nat) (a1 : Int32) (h0 : HP) : CM l g ad y_Mo_isDay b_Mo_isDay 1 (some .boolean) rm_Mo_isDay [.int a1] h0 enI (f_Mo_isDay a1 h0) := by
  refine CM.of (by decide) (Nat.le_of_ble_eq_true rfl) (fun Q => ?_)
  show Jj _ _ (Vw (kx_Mo_isDay l g Q) 0 0 0 _ _ _)
  refine J_sub [0] (lv' := [(0, .int a1)]) rfl ?_
  unfold f_Mo_isDay
  refine J_iload_n 0 rfl d_Mo_isDay_0 ?_
  refine J_iconst (v := 0) rfl d_Mo_isDay_1 ?_
  refine J_bipush (v := 23) rfl d_Mo_isDay_2 ?_
  refine J_callSi (m_Mo_in l g ad _ _ _ _) ok_Mo_in ws_Mo_in wk_Mo_115 ⟨rfl, rfl, Nat.le_of_ble_eq_true rfl, Nat.le_of_ble_eq_true rfl⟩ ⟨Nat.zero_le _, Nat.zero_le _⟩ (rest := []) rfl rfl (Nat.le_of_ble_eq_true rfl) d_Mo_isDay_4 (fun v2 h3 => ?_)
  exact P_zret (Nat.le_refl _) (Nat.le_refl _) d_Mo_isDay_7 rfl (fun hx => hx)
def f_Mo_isEight (a1 : Int32) (h0 : HP) : Option (Int32 × HP) :=
 bd2 (f_Mo_in a1 0 7 h0) (fun (v2 : Int32) (h3 : HP) =>
 ckk (z01 v2) (some (v2, h3)))
set_option maxRecDepth 20000 in
set_option maxHeartbeats 4000000 in
theorem m_Mo_isEight (l : Launch) (g : GG) (ad : Nat → Nat) (a1 : Int32) (h0 : HP) : CM l g ad y_Mo_isEight b_Mo_isEight 1 (some .boolean) rm_Mo_isEight [.int a1] h0 enI (f_Mo_isEight a1 h0) := by
  refine CM.of (by decide) (Nat.le_of_ble_eq_true rfl) (fun Q => ?_)
  show Jj _ _ (Vw (kx_Mo_isEight l g Q) 0 0 0 _ _ _)
  refine J_sub [0] (lv' := [(0, .int a1)]) rfl ?_
  unfold f_Mo_isEight
  refine J_iload_n 0 rfl d_Mo_isEight_0 ?_
  refine J_iconst (v := 0) rfl d_Mo_isEight_1 ?_
  refine J_bipush (v := 7) rfl d_Mo_isEight_2 ?_
  refine J_callSi (m_Mo_in l g ad _ _ _ _) ok_Mo_in ws_Mo_in wk_Mo_115 ⟨rfl, rfl, Nat.le_of_ble_eq_true rfl, Nat.le_of_ble_eq_true rfl⟩ ⟨Nat.zero_le _, Nat.zero_le _⟩ (rest := []) rfl rfl (Nat.le_of_ble_eq_true rfl) d_Mo_isEight_4 (fun v2 h3 => ?_)
  exact P_zret (Nat.le_refl _) (Nat.le_refl _) d_Mo_isEight_7 rfl (fun hx => hx)
def f_Mo_straw (a1 : Int32) (a2 : Int32) (h0 : HP) : Option (Int32 × HP) :=
 bd2 (f_Mo_isDay a1 h0) (fun (v3 : Int32) (h4 : HP) =>
 (if v3 = 0 then
 some ((-2), h4)
 else
 bd2 (f_Mo_isEight a2 h4) (fun (v6 : Int32) (h7 : HP) =>
 (if v6 = 0 then
 some ((-2), h7)
 else
 ltt (rI h7 34 9) (fun (v9 : Int32) =>
 (if v9 = 8 then
 some ((-4), h7)
 else
 ltt (rI h7 34 9) (fun (v11 : Int32) =>
 ckk (inb v11 8) (ltt (wA h7 26 v11 a1) (fun (h12 : HP) =>
 ltt (rI h12 34 9) (fun (v13 : Int32) =>
 ckk (inb v13 8) (ltt (wA h12 25 v13 a2) (fun (h14 : HP) =>
 ltt (rI h14 34 9) (fun (v15 : Int32) =>
 ltt (sI h14 34 9 (v15 + 1)) (fun (h16 : HP) =>
 ltt (rI h16 34 9) (fun (v17 : Int32) =>
 some (v17, h16))))))))))))))))
set_option maxRecDepth 20000 in
set_option maxHeartbeats 4000000 in
theorem m_Mo_straw (l : Launch) (g : GG) (ad : Nat → Nat) (a1 : Int32) (a2 : Int32) (h0 : HP) : CM l g ad y_Mo_straw b_Mo_straw 3 (some .int) rm_Mo_straw [.ref (ad 34), .int a1, .int a2] h0 enI (f_Mo_straw a1 a2 h0) := by
  refine CM.of (by decide) (Nat.le_of_ble_eq_true rfl) (fun Q => ?_)
  show Jj _ _ (Vw (kx_Mo_straw l g Q) 0 0 0 _ _ _)
  refine J_sub [0, 1, 2] (lv' := [(0, .ref (ad 34)), (1, .int a1), (2, .int a2)]) rfl ?_
  unfold f_Mo_straw
  refine J_iload_n 1 rfl d_Mo_straw_0 ?_
  refine J_callSi (m_Mo_isDay l g ad _ _) ok_Mo_isDay ws_Mo_isDay wk_Mo_165 ⟨rfl, rfl, Nat.le_of_ble_eq_true rfl, Nat.le_of_ble_eq_true rfl⟩ ⟨Nat.zero_le _, Nat.zero_le _⟩ (rest := []) rfl rfl (Nat.le_of_ble_eq_true rfl) d_Mo_straw_1 (fun v3 h4 => ?_)
  refine J_if_eq 14 rfl d_Mo_straw_4 (fun c5 => ?_) (fun c5 => ?_)
  · refine J_bipush (v := (-2)) rfl d_Mo_straw_14 ?_
    exact J_iret (Nat.le_refl _) (Nat.le_refl _) d_Mo_straw_16 rfl (fun hx => hx)
  · refine J_iload_n 2 rfl d_Mo_straw_7 ?_
    refine J_callSi (m_Mo_isEight l g ad _ _) ok_Mo_isEight ws_Mo_isEight wk_Mo_168 ⟨rfl, rfl, Nat.le_of_ble_eq_true rfl, Nat.le_of_ble_eq_true rfl⟩ ⟨Nat.zero_le _, Nat.zero_le _⟩ (rest := []) rfl rfl (Nat.le_of_ble_eq_true rfl) d_Mo_straw_8 (fun v6 h7 => ?_)
    refine J_if_ne 17 rfl d_Mo_straw_11 (fun c8 => ?_) (fun c8 => ?_)
    · refine J_aload_n 0 rfl d_Mo_straw_17 ?_
      refine P_gI fo_Mo_171_34 rfl d_Mo_straw_18 (fun v9 => ?_)
      refine J_bipush (v := 8) rfl d_Mo_straw_21 ?_
      refine J_icmp_ne 29 rfl d_Mo_straw_23 (fun c10 => ?_) (fun c10 => ?_)
      · refine J_aload_n 0 rfl d_Mo_straw_29 ?_
        refine J_getR fo_Mo_31_34 rfl d_Mo_straw_30 ?_
        refine J_aload_n 0 rfl d_Mo_straw_33 ?_
        refine P_gI fo_Mo_171_34 rfl d_Mo_straw_34 (fun v11 => ?_)
        refine J_iload_n 1 rfl d_Mo_straw_37 ?_
        refine P_wa (by decide) rfl rfl d_Mo_straw_38 (fun h12 => ?_)
        refine J_aload_n 0 rfl d_Mo_straw_39 ?_
        refine J_getR fo_Mo_34_34 rfl d_Mo_straw_40 ?_
        refine J_aload_n 0 rfl d_Mo_straw_43 ?_
        refine P_gI fo_Mo_171_34 rfl d_Mo_straw_44 (fun v13 => ?_)
        refine J_iload_n 2 rfl d_Mo_straw_47 ?_
        refine P_wa (by decide) rfl rfl d_Mo_straw_48 (fun h14 => ?_)
        refine J_aload_n 0 rfl d_Mo_straw_49 ?_
        refine J_dup rfl d_Mo_straw_50 ?_
        refine P_gI fo_Mo_171_34 rfl d_Mo_straw_51 (fun v15 => ?_)
        refine J_iconst (v := 1) rfl d_Mo_straw_54 ?_
        refine J_iadd d_Mo_straw_55 ?_
        refine P_wI fo_Mo_171_34 rfl d_Mo_straw_56 (fun h16 => ?_)
        refine J_aload_n 0 rfl d_Mo_straw_59 ?_
        refine P_gI fo_Mo_171_34 rfl d_Mo_straw_60 (fun v17 => ?_)
        exact J_iret (Nat.le_refl _) (Nat.le_refl _) d_Mo_straw_63 rfl (fun hx => hx)
      · refine J_bipush (v := (-4)) rfl d_Mo_straw_26 ?_
        exact J_iret (Nat.le_refl _) (Nat.le_refl _) d_Mo_straw_28 rfl (fun hx => hx)
    · refine J_bipush (v := (-2)) rfl d_Mo_straw_14 ?_
      exact J_iret (Nat.le_refl _) (Nat.le_refl _) d_Mo_straw_16 rfl (fun hx => hx)
def f_Mo_back (h0 : HP) : Option (Int32 × HP) :=
 ltt (rI h0 34 9) (fun (v1 : Int32) =>
 (if v1 = 0 then
 some ((-3), h0)
 else
 ltt (rI h0 34 9) (fun (v3 : Int32) =>
 ltt (sI h0 34 9 (v3 - 1)) (fun (h4 : HP) =>
 ltt (rI h4 34 9) (fun (v5 : Int32) =>
 some (v5, h4))))))
set_option maxRecDepth 20000 in
set_option maxHeartbeats 4000000 in
theorem m_Mo_back (l : Launch) (g : GG) (ad : Nat → Nat) (h0 : HP) : CM l g ad y_Mo_back b_Mo_back 1 (some .int) rm_Mo_back [.ref (ad 34)] h0 enI (f_Mo_back h0) := by
  refine CM.of (by decide) (Nat.le_of_ble_eq_true rfl) (fun Q => ?_)
  show Jj _ _ (Vw (kx_Mo_back l g Q) 0 0 0 _ _ _)
  refine J_sub [0] (lv' := [(0, .ref (ad 34))]) rfl ?_
  unfold f_Mo_back
  refine J_aload_n 0 rfl d_Mo_back_0 ?_
  refine P_gI fo_Mo_171_34 rfl d_Mo_back_1 (fun v1 => ?_)
  refine J_if_ne 10 rfl d_Mo_back_4 (fun c2 => ?_) (fun c2 => ?_)
  · refine J_aload_n 0 rfl d_Mo_back_10 ?_
    refine J_dup rfl d_Mo_back_11 ?_
    refine P_gI fo_Mo_171_34 rfl d_Mo_back_12 (fun v3 => ?_)
    refine J_iconst (v := 1) rfl d_Mo_back_15 ?_
    refine J_isub d_Mo_back_16 ?_
    refine P_wI fo_Mo_171_34 rfl d_Mo_back_17 (fun h4 => ?_)
    refine J_aload_n 0 rfl d_Mo_back_20 ?_
    refine P_gI fo_Mo_171_34 rfl d_Mo_back_21 (fun v5 => ?_)
    exact J_iret (Nat.le_refl _) (Nat.le_refl _) d_Mo_back_24 rfl (fun hx => hx)
  · refine J_bipush (v := (-3)) rfl d_Mo_back_7 ?_
    exact J_iret (Nat.le_refl _) (Nat.le_refl _) d_Mo_back_9 rfl (fun hx => hx)
def f_Mo_isSheet (a1 : Int32) (h0 : HP) : Option (Int32 × HP) :=
 bd2 (f_Mo_in a1 0 3 h0) (fun (v2 : Int32) (h3 : HP) =>
 ckk (z01 v2) (some (v2, h3)))
set_option maxRecDepth 20000 in
set_option maxHeartbeats 4000000 in
theorem m_Mo_isSheet (l : Launch) (g : GG) (ad : Nat → Nat) (a1 : Int32) (h0 : HP) : CM l g ad y_Mo_isSheet b_Mo_isSheet 1 (some .boolean) rm_Mo_isSheet [.int a1] h0 enI (f_Mo_isSheet a1 h0) := by
  refine CM.of (by decide) (Nat.le_of_ble_eq_true rfl) (fun Q => ?_)
  show Jj _ _ (Vw (kx_Mo_isSheet l g Q) 0 0 0 _ _ _)
  refine J_sub [0] (lv' := [(0, .int a1)]) rfl ?_
  unfold f_Mo_isSheet
  refine J_iload_n 0 rfl d_Mo_isSheet_0 ?_
  refine J_iconst (v := 0) rfl d_Mo_isSheet_1 ?_
  refine J_iconst (v := 3) rfl d_Mo_isSheet_2 ?_
  refine J_callSi (m_Mo_in l g ad _ _ _ _) ok_Mo_in ws_Mo_in wk_Mo_115 ⟨rfl, rfl, Nat.le_of_ble_eq_true rfl, Nat.le_of_ble_eq_true rfl⟩ ⟨Nat.zero_le _, Nat.zero_le _⟩ (rest := []) rfl rfl (Nat.le_of_ble_eq_true rfl) d_Mo_isSheet_3 (fun v2 h3 => ?_)
  exact P_zret (Nat.le_refl _) (Nat.le_refl _) d_Mo_isSheet_6 rfl (fun hx => hx)
def f_Mo_meets (a1 : Int32) (h0 : HP) : Option (Int32 × HP) :=
 ltt (sI h0 34 44 a1) (fun (h2 : HP) =>
 some ((-10) - a1, h2))
set_option maxRecDepth 20000 in
set_option maxHeartbeats 4000000 in
theorem m_Mo_meets (l : Launch) (g : GG) (ad : Nat → Nat) (a1 : Int32) (h0 : HP) : CM l g ad y_Mo_meets b_Mo_meets 2 (some .int) rm_Mo_meets [.ref (ad 34), .int a1] h0 enI (f_Mo_meets a1 h0) := by
  refine CM.of (by decide) (Nat.le_of_ble_eq_true rfl) (fun Q => ?_)
  show Jj _ _ (Vw (kx_Mo_meets l g Q) 0 0 0 _ _ _)
  refine J_sub [0, 1] (lv' := [(0, .ref (ad 34)), (1, .int a1)]) rfl ?_
  unfold f_Mo_meets
  refine J_aload_n 0 rfl d_Mo_meets_0 ?_
  refine J_iload_n 1 rfl d_Mo_meets_1 ?_
  refine P_wI fo_Mo_329_34 rfl d_Mo_meets_2 (fun h2 => ?_)
  refine J_bipush (v := (-10)) rfl d_Mo_meets_5 ?_
  refine J_iload_n 1 rfl d_Mo_meets_7 ?_
  refine J_isub d_Mo_meets_8 ?_
  exact J_iret (Nat.le_refl _) (Nat.le_refl _) d_Mo_meets_9 rfl (fun hx => hx)
def lp_Mo_read_27 (a1 : Int32) : Nat → Int32 → HP → Option (Int32 × HP)
 | 0, _, _ => none
 | fu + 1, v7, h8 =>
 ckk (inb a1 4) (ltt (rA h8 2 a1) (fun (v9 : Int32) =>
 (if v9 ≤ (2 * v7) + 1 then
 some (v7, h8)
 else
 ckk (inb ((60 * a1) + (2 * v7)) 240) (ltt (rA h8 1 ((60 * a1) + (2 * v7))) (fun (v11 : Int32) =>
 ckk (inb (((60 * a1) + (2 * v7)) + 1) 240) (ltt (rA h8 1 (((60 * a1) + (2 * v7)) + 1)) (fun (v12 : Int32) =>
 bd2 (f_Mo_straw v11 v12 h8) (fun (v13 : Int32) (h14 : HP) =>
 (if v13 ≤ 0 then
 some (v7, h14)
 else
 ltt (v7 + 1) (fun (v16 : Int32) =>
 lp_Mo_read_27 a1 fu v16 h14))))))))))
def f_Mo_read (a1 : Int32) (h0 : HP) : Option (Int32 × HP) :=
 bd2 (f_Mo_isSheet a1 h0) (fun (v2 : Int32) (h3 : HP) =>
 (if v2 = 0 then
 some ((-2), h3)
 else
 ckk (inb a1 4) (ltt (rA h3 4 a1) (fun (v5 : Int32) =>
 (if v5 = 0 then
 bd2 (f_Mo_meets 1 h3) (fun (v19 : Int32) (h20 : HP) =>
 some (v19, h20))
 else
 bd2 (lp_Mo_read_27 a1 400 0 h3) (fun (v17 : Int32) (h18 : HP) =>
 some (v17, h18)))))))
set_option maxRecDepth 20000 in
set_option maxHeartbeats 4000000 in
theorem mlp_Mo_read_27 (l : Launch) (g : GG) (ad : Nat → Nat) (Q : Option Value → va_W → Prop) (a1 : Int32) : ∀ (fu : Nat) (v7 : Int32) (h8 : HP), Jj (fun q : Int32 × HP => Vw (kx_Mo_read l g Q) 0 0 82 [(2, .int (q.1)), (0, .ref (ad 34)), (1, .int a1)] [] (pic g ad q.2)) (lp_Mo_read_27 a1 fu v7 h8) (Vw (kx_Mo_read l g Q) 0 0 27 [(2, .int v7), (0, .ref (ad 34)), (1, .int a1)] [] (pic g ad h8)) := by
  intro fu
  induction fu with
  | zero =>
    intro v7 h8
    exact J_none
  | succ fu ih =>
    intro v7 h8
    rw [lp_Mo_read_27]
    refine J_iconst (v := 2) rfl d_Mo_read_27 ?_
    refine J_iload_n 0 rfl d_Mo_read_28 ?_
    refine J_imul d_Mo_read_29 ?_
    refine J_iconst (v := 1) rfl d_Mo_read_30 ?_
    refine J_iadd d_Mo_read_31 ?_
    refine J_aload_n 1 rfl d_Mo_read_32 ?_
    refine J_getR fo_Mo_104_34 rfl d_Mo_read_33 ?_
    refine J_iload_n 2 rfl d_Mo_read_36 ?_
    refine P_ia (by decide) rfl rfl d_Mo_read_37 (fun v9 => ?_)
    refine J_icmp_ge 82 rfl d_Mo_read_38 (fun c10 => ?_) (fun c10 => ?_)
    · exact J_exit [0, 1, 2] rfl (fun hx => hx)
    · refine J_aload_n 1 rfl d_Mo_read_41 ?_
      refine J_aload_n 1 rfl d_Mo_read_42 ?_
      refine J_getR fo_Mo_107_34 rfl d_Mo_read_43 ?_
      refine J_bipush (v := 60) rfl d_Mo_read_46 ?_
      refine J_iload_n 2 rfl d_Mo_read_48 ?_
      refine J_imul d_Mo_read_49 ?_
      refine J_iconst (v := 2) rfl d_Mo_read_50 ?_
      refine J_iload_n 0 rfl d_Mo_read_51 ?_
      refine J_imul d_Mo_read_52 ?_
      refine J_iadd d_Mo_read_53 ?_
      refine P_ia (by decide) rfl rfl d_Mo_read_54 (fun v11 => ?_)
      refine J_aload_n 1 rfl d_Mo_read_55 ?_
      refine J_getR fo_Mo_107_34 rfl d_Mo_read_56 ?_
      refine J_bipush (v := 60) rfl d_Mo_read_59 ?_
      refine J_iload_n 2 rfl d_Mo_read_61 ?_
      refine J_imul d_Mo_read_62 ?_
      refine J_iconst (v := 2) rfl d_Mo_read_63 ?_
      refine J_iload_n 0 rfl d_Mo_read_64 ?_
      refine J_imul d_Mo_read_65 ?_
      refine J_iadd d_Mo_read_66 ?_
      refine J_iconst (v := 1) rfl d_Mo_read_67 ?_
      refine J_iadd d_Mo_read_68 ?_
      refine P_ia (by decide) rfl rfl d_Mo_read_69 (fun v12 => ?_)
      refine J_callVi (m_Mo_straw l g ad _ _ _) ok_Mo_straw rc_34 wi_Mo_straw wl_Mo_Mo_straw wk_Mo_180 ⟨rfl, rfl, Nat.le_of_ble_eq_true rfl, Nat.le_of_ble_eq_true rfl⟩ ⟨Nat.zero_le _, Nat.zero_le _⟩ (rest := []) rfl rfl (Nat.le_of_ble_eq_true rfl) d_Mo_read_70 (fun v13 h14 => ?_)
      refine J_if_le 82 rfl d_Mo_read_73 (fun c15 => ?_) (fun c15 => ?_)
      · exact J_exit [0, 1, 2] rfl (fun hx => hx)
      · refine P_inc (w := 1) (lv' := fun v16 => [(2, .int v16), (0, .ref (ad 34)), (1, .int a1)]) 0 rfl rfl (Nat.le_of_ble_eq_true rfl) (fun _ => rfl) d_Mo_read_76 (fun v16 => ?_)
        refine J_goto 27 rfl d_Mo_read_79 ?_
        exact J_sub [0, 1, 2] rfl (ih _ _)
set_option maxRecDepth 20000 in
set_option maxHeartbeats 4000000 in
theorem m_Mo_read (l : Launch) (g : GG) (ad : Nat → Nat) (a1 : Int32) (h0 : HP) : CM l g ad y_Mo_read b_Mo_read 3 (some .int) rm_Mo_read [.ref (ad 34), .int a1] h0 enI (f_Mo_read a1 h0) := by
  refine CM.of (by decide) (Nat.le_of_ble_eq_true rfl) (fun Q => ?_)
  show Jj _ _ (Vw (kx_Mo_read l g Q) 0 0 0 _ _ _)
  refine J_sub [0, 1] (lv' := [(0, .ref (ad 34)), (1, .int a1)]) rfl ?_
  unfold f_Mo_read
  refine J_iload_n 1 rfl d_Mo_read_0 ?_
  refine J_callSi (m_Mo_isSheet l g ad _ _) ok_Mo_isSheet ws_Mo_isSheet wk_Mo_174 ⟨rfl, rfl, Nat.le_of_ble_eq_true rfl, Nat.le_of_ble_eq_true rfl⟩ ⟨Nat.zero_le _, Nat.zero_le _⟩ (rest := []) rfl rfl (Nat.le_of_ble_eq_true rfl) d_Mo_read_1 (fun v2 h3 => ?_)
  refine J_if_ne 10 rfl d_Mo_read_4 (fun c4 => ?_) (fun c4 => ?_)
  · refine J_aload_n 0 rfl d_Mo_read_10 ?_
    refine J_getR fo_Mo_97_34 rfl d_Mo_read_11 ?_
    refine J_iload_n 1 rfl d_Mo_read_14 ?_
    refine P_za (by decide) rfl rfl d_Mo_read_15 (fun v5 => ?_)
    refine J_if_ne 25 rfl d_Mo_read_16 (fun c6 => ?_) (fun c6 => ?_)
    · refine J_iconst (v := 0) rfl d_Mo_read_25 ?_
      refine J_istore_n (lv' := [(2, .int 0), (0, .ref (ad 34)), (1, .int a1)]) 2 rfl (Nat.le_of_ble_eq_true rfl) rfl d_Mo_read_26 ?_
      refine J_bd2 (fun (v17 : Int32) (h18 : HP) => Vw (kx_Mo_read l g Q) 0 0 82 [(2, .int v17), (0, .ref (ad 34)), (1, .int a1)] [] (pic g ad h18)) ?_ (fun v17 h18 => ?_)
      · exact J_sub [0, 1, 2] rfl (mlp_Mo_read_27 l g ad Q a1 400 _ _)
      · refine J_iload_n 0 rfl d_Mo_read_82 ?_
        exact J_iret (Nat.le_refl _) (Nat.le_refl _) d_Mo_read_83 rfl (fun hx => hx)
    · refine J_aload_n 0 rfl d_Mo_read_19 ?_
      refine J_iconst (v := 1) rfl d_Mo_read_20 ?_
      refine J_callVi (m_Mo_meets l g ad _ _) ok_Mo_meets rc_34 wi_Mo_meets wl_Mo_Mo_meets wk_Mo_177 ⟨rfl, rfl, Nat.le_of_ble_eq_true rfl, Nat.le_of_ble_eq_true rfl⟩ ⟨Nat.zero_le _, Nat.zero_le _⟩ (rest := []) rfl rfl (Nat.le_of_ble_eq_true rfl) d_Mo_read_21 (fun v19 h20 => ?_)
      exact J_iret (Nat.le_refl _) (Nat.le_refl _) d_Mo_read_24 rfl (fun hx => hx)
  · refine J_bipush (v := (-2)) rfl d_Mo_read_7 ?_
    exact J_iret (Nat.le_refl _) (Nat.le_refl _) d_Mo_read_9 rfl (fun hx => hx)
def lp_Mo_asTold_14 : Nat → Int32 → HP → Option (Int32 × HP)
 | 0, _, _ => none
 | fu + 1, v4, h5 =>
 ltt (rI h5 34 9) (fun (v6 : Int32) =>
 (if v6 ≤ v4 then
 some (v4, h5)
 else
 ckk (inb v4 8) (ltt (rA h5 26 v4) (fun (v8 : Int32) =>
 ckk (inb v4 17) (ltt (wA h5 24 v4 v8) (fun (h9 : HP) =>
 ckk (inb v4 8) (ltt (rA h9 25 v4) (fun (v10 : Int32) =>
 ckk (inb v4 17) (ltt (wA h9 23 v4 v10) (fun (h11 : HP) =>
 ltt (v4 + 1) (fun (v12 : Int32) =>
 lp_Mo_asTold_14 fu v12 h11)))))))))))
def f_Mo_asTold (h0 : HP) : Option (HP) :=
 bd1 (f_Mo_reads h0) (fun (h1 : HP) =>
 ltt (rI h1 34 9) (fun (v2 : Int32) =>
 ltt (sI h1 34 12 v2) (fun (h3 : HP) =>
 bd2 (lp_Mo_asTold_14 400 0 h3) (fun (v13 : Int32) (h14 : HP) =>
 ltt (sI h14 34 15 0) (fun (h15 : HP) =>
 some h15)))))
set_option maxRecDepth 20000 in
set_option maxHeartbeats 4000000 in
theorem mlp_Mo_asTold_14 (l : Launch) (g : GG) (ad : Nat → Nat) (Q : Option Value → va_W → Prop) : ∀ (fu : Nat) (v4 : Int32) (h5 : HP), Jj (fun q : Int32 × HP => Vw (kx_Mo_asTold l g Q) 0 0 52 [(1, .int (q.1)), (0, .ref (ad 34))] [] (pic g ad q.2)) (lp_Mo_asTold_14 fu v4 h5) (Vw (kx_Mo_asTold l g Q) 0 0 14 [(1, .int v4), (0, .ref (ad 34))] [] (pic g ad h5)) := by
  intro fu
  induction fu with
  | zero =>
    intro v4 h5
    exact J_none
  | succ fu ih =>
    intro v4 h5
    rw [lp_Mo_asTold_14]
    refine J_iload_n 0 rfl d_Mo_asTold_14 ?_
    refine J_aload_n 1 rfl d_Mo_asTold_15 ?_
    refine P_gI fo_Mo_171_34 rfl d_Mo_asTold_16 (fun v6 => ?_)
    refine J_icmp_ge 52 rfl d_Mo_asTold_19 (fun c7 => ?_) (fun c7 => ?_)
    · exact J_exit [0, 1] rfl (fun hx => hx)
    · refine J_aload_n 1 rfl d_Mo_asTold_22 ?_
      refine J_getR fo_Mo_37_34 rfl d_Mo_asTold_23 ?_
      refine J_iload_n 0 rfl d_Mo_asTold_26 ?_
      refine J_aload_n 1 rfl d_Mo_asTold_27 ?_
      refine J_getR fo_Mo_31_34 rfl d_Mo_asTold_28 ?_
      refine J_iload_n 0 rfl d_Mo_asTold_31 ?_
      refine P_ia (by decide) rfl rfl d_Mo_asTold_32 (fun v8 => ?_)
      refine P_wa (by decide) rfl rfl d_Mo_asTold_33 (fun h9 => ?_)
      refine J_aload_n 1 rfl d_Mo_asTold_34 ?_
      refine J_getR fo_Mo_40_34 rfl d_Mo_asTold_35 ?_
      refine J_iload_n 0 rfl d_Mo_asTold_38 ?_
      refine J_aload_n 1 rfl d_Mo_asTold_39 ?_
      refine J_getR fo_Mo_34_34 rfl d_Mo_asTold_40 ?_
      refine J_iload_n 0 rfl d_Mo_asTold_43 ?_
      refine P_ia (by decide) rfl rfl d_Mo_asTold_44 (fun v10 => ?_)
      refine P_wa (by decide) rfl rfl d_Mo_asTold_45 (fun h11 => ?_)
      refine P_inc (w := 1) (lv' := fun v12 => [(1, .int v12), (0, .ref (ad 34))]) 0 rfl rfl (Nat.le_of_ble_eq_true rfl) (fun _ => rfl) d_Mo_asTold_46 (fun v12 => ?_)
      refine J_goto 14 rfl d_Mo_asTold_49 ?_
      exact J_sub [0, 1] rfl (ih _ _)
set_option maxRecDepth 20000 in
set_option maxHeartbeats 4000000 in
theorem m_Mo_asTold (l : Launch) (g : GG) (ad : Nat → Nat) (h0 : HP) : CM l g ad y_Mo_asTold b_Mo_asTold 2 none rm_Mo_asTold [.ref (ad 34)] h0 enV (f_Mo_asTold h0) := by
  refine CM.of (by decide) (Nat.le_of_ble_eq_true rfl) (fun Q => ?_)
  show Jj _ _ (Vw (kx_Mo_asTold l g Q) 0 0 0 _ _ _)
  refine J_sub [0] (lv' := [(0, .ref (ad 34))]) rfl ?_
  unfold f_Mo_asTold
  refine J_aload_n 0 rfl d_Mo_asTold_0 ?_
  refine J_callVv (m_Mo_reads l g ad _) ok_Mo_reads rc_34 wi_Mo_reads wl_Mo_Mo_reads wk_Mo_147 ⟨rfl, rfl, Nat.le_of_ble_eq_true rfl, Nat.le_of_ble_eq_true rfl⟩ ⟨Nat.zero_le _, Nat.zero_le _⟩ (rest := []) rfl rfl (Nat.le_of_ble_eq_true rfl) d_Mo_asTold_1 (fun h1 => ?_)
  refine J_aload_n 0 rfl d_Mo_asTold_4 ?_
  refine J_aload_n 0 rfl d_Mo_asTold_5 ?_
  refine P_gI fo_Mo_171_34 rfl d_Mo_asTold_6 (fun v2 => ?_)
  refine P_wI fo_Mo_183_34 rfl d_Mo_asTold_9 (fun h3 => ?_)
  refine J_iconst (v := 0) rfl d_Mo_asTold_12 ?_
  refine J_istore_n (lv' := [(1, .int 0), (0, .ref (ad 34))]) 1 rfl (Nat.le_of_ble_eq_true rfl) rfl d_Mo_asTold_13 ?_
  refine J_bd2 (fun (v13 : Int32) (h14 : HP) => Vw (kx_Mo_asTold l g Q) 0 0 52 [(1, .int v13), (0, .ref (ad 34))] [] (pic g ad h14)) ?_ (fun v13 h14 => ?_)
  · exact J_sub [0, 1] rfl (mlp_Mo_asTold_14 l g ad Q 400 _ _)
  · refine J_aload_n 1 rfl d_Mo_asTold_52 ?_
    refine J_iconst (v := 0) rfl d_Mo_asTold_53 ?_
    refine P_wI fo_Mo_186_34 rfl d_Mo_asTold_54 (fun h15 => ?_)
    exact J_vret (Nat.le_refl _) (Nat.le_refl _) d_Mo_asTold_57 rfl (fun hx => hx)
def f_Mo_takes (a1 : Int32) (h0 : HP) : Option (Int32 × HP) :=
 ltt (rI h0 34 2) (fun (v2 : Int32) =>
 (if v2 ≤ a1 then
 some (0, h0)
 else
 ckk (inb a1 8) (ltt (rA h0 20 a1) (fun (v4 : Int32) =>
 (if v4 = 0 then
 some (1, h0)
 else
 some (0, h0))))))
set_option maxRecDepth 20000 in
set_option maxHeartbeats 4000000 in
theorem m_Mo_takes (l : Launch) (g : GG) (ad : Nat → Nat) (a1 : Int32) (h0 : HP) : CM l g ad y_Mo_takes b_Mo_takes 2 (some .boolean) rm_Mo_takes [.ref (ad 34), .int a1] h0 enI (f_Mo_takes a1 h0) := by
  refine CM.of (by decide) (Nat.le_of_ble_eq_true rfl) (fun Q => ?_)
  show Jj _ _ (Vw (kx_Mo_takes l g Q) 0 0 0 _ _ _)
  refine J_sub [0, 1] (lv' := [(0, .ref (ad 34)), (1, .int a1)]) rfl ?_
  unfold f_Mo_takes
  refine J_iload_n 1 rfl d_Mo_takes_0 ?_
  refine J_aload_n 0 rfl d_Mo_takes_1 ?_
  refine P_gI fo_Mo_127_34 rfl d_Mo_takes_2 (fun v2 => ?_)
  refine J_icmp_ge 21 rfl d_Mo_takes_5 (fun c3 => ?_) (fun c3 => ?_)
  · refine J_iconst (v := 0) rfl d_Mo_takes_21 ?_
    exact J_zret (Nat.le_refl _) (Nat.le_refl _) d_Mo_takes_22 rfl (zfit (Or.inl rfl)).1 (fun hx => hx)
  · refine J_aload_n 0 rfl d_Mo_takes_8 ?_
    refine J_getR fo_Mo_49_34 rfl d_Mo_takes_9 ?_
    refine J_iload_n 1 rfl d_Mo_takes_12 ?_
    refine P_ia (by decide) rfl rfl d_Mo_takes_13 (fun v4 => ?_)
    refine J_if_ne 21 rfl d_Mo_takes_14 (fun c5 => ?_) (fun c5 => ?_)
    · refine J_iconst (v := 0) rfl d_Mo_takes_21 ?_
      exact J_zret (Nat.le_refl _) (Nat.le_refl _) d_Mo_takes_22 rfl (zfit (Or.inl rfl)).1 (fun hx => hx)
    · refine J_iconst (v := 1) rfl d_Mo_takes_17 ?_
      refine J_goto 22 rfl d_Mo_takes_18 ?_
      exact J_zret (Nat.le_refl _) (Nat.le_refl _) d_Mo_takes_22 rfl (zfit (Or.inr rfl)).1 (fun hx => hx)
def f_Mo_breaks (a1 : Int32) (a2 : Int32) (h0 : HP) : Option (HP) :=
 ckk (inb a1 8) (ltt (rA h0 22 a1) (fun (v3 : Int32) =>
 ckk (inb a1 8) (ltt (rA h0 21 a1) (fun (v4 : Int32) =>
 (if v3 ≤ v4 then
 some h0
 else
 ckk (inb a1 8) (ltt (wA h0 20 a1 3) (fun (h6 : HP) =>
 ltt (rI h6 34 23) (fun (v7 : Int32) =>
 ckk (inb a1 8) (ltt (rA h6 22 a1) (fun (v8 : Int32) =>
 ltt (sI h6 34 23 (v7 + v8)) (fun (h9 : HP) =>
 ckk (inb a1 8) (ltt (wA h9 22 a1 0) (fun (h10 : HP) =>
 ckk (inb a1 8) (ltt (rA h10 21 a1) (fun (v11 : Int32) =>
 bd1 ((if v11 ≤ 3 then
 some (0)
 else
 ckk (inb a1 8) (ltt (rA h10 21 a1) (fun (v14 : Int32) =>
 some (v14 - 3)))) : Option (Int32)) (fun (v12 : Int32) =>
 ckk (inb a1 8) (ltt (wA h10 21 a1 v12) (fun (h15 : HP) =>
 ckk (inb a1 8) (ltt (rA h15 17 a1) (fun (v16 : Int32) =>
 ckk (inb a1 8) (ltt (wA h15 17 a1 (v16 + 1)) (fun (h17 : HP) =>
 ltt (rI h17 34 24) (fun (v18 : Int32) =>
 bd1 ((if v18 = (-1) then
 some (a1)
 else
 ltt (rI h17 34 24) (fun (v21 : Int32) =>
 (if v21 = a2 then
 ltt (rI h17 34 25) (fun (v24 : Int32) =>
 (if v24 ≤ a1 then
 ltt (rI h17 34 25) (fun (v26 : Int32) =>
 some (v26))
 else
 some (a1)))
 else
 ltt (rI h17 34 25) (fun (v23 : Int32) =>
 some (v23))))) : Option (Int32)) (fun (v19 : Int32) =>
 ltt (sI h17 34 25 v19) (fun (h27 : HP) =>
 ltt (rI h27 34 24) (fun (v28 : Int32) =>
 bd1 ((if v28 = (-1) then
 some (a2)
 else
 ltt (rI h27 34 24) (fun (v31 : Int32) =>
 some (v31))) : Option (Int32)) (fun (v29 : Int32) =>
 ltt (sI h27 34 24 v29) (fun (h32 : HP) =>
 some h32))))))))))))))))))))))))))))
set_option maxRecDepth 20000 in
set_option maxHeartbeats 4000000 in
theorem m_Mo_breaks (l : Launch) (g : GG) (ad : Nat → Nat) (a1 : Int32) (a2 : Int32) (h0 : HP) : CM l g ad y_Mo_breaks b_Mo_breaks 3 none rm_Mo_breaks [.ref (ad 34), .int a1, .int a2] h0 enV (f_Mo_breaks a1 a2 h0) := by
  refine CM.of (by decide) (Nat.le_of_ble_eq_true rfl) (fun Q => ?_)
  show Jj _ _ (Vw (kx_Mo_breaks l g Q) 0 0 0 _ _ _)
  refine J_sub [0, 1, 2] (lv' := [(0, .ref (ad 34)), (1, .int a1), (2, .int a2)]) rfl ?_
  unfold f_Mo_breaks
  refine J_aload_n 0 rfl d_Mo_breaks_0 ?_
  refine J_getR fo_Mo_43_34 rfl d_Mo_breaks_1 ?_
  refine J_iload_n 1 rfl d_Mo_breaks_4 ?_
  refine P_ia (by decide) rfl rfl d_Mo_breaks_5 (fun v3 => ?_)
  refine J_aload_n 0 rfl d_Mo_breaks_6 ?_
  refine J_getR fo_Mo_46_34 rfl d_Mo_breaks_7 ?_
  refine J_iload_n 1 rfl d_Mo_breaks_10 ?_
  refine P_ia (by decide) rfl rfl d_Mo_breaks_11 (fun v4 => ?_)
  refine J_icmp_le 138 rfl d_Mo_breaks_12 (fun c5 => ?_) (fun c5 => ?_)
  · exact J_vret (Nat.le_refl _) (Nat.le_refl _) d_Mo_breaks_138 rfl (fun hx => hx)
  · refine J_aload_n 0 rfl d_Mo_breaks_15 ?_
    refine J_getR fo_Mo_49_34 rfl d_Mo_breaks_16 ?_
    refine J_iload_n 1 rfl d_Mo_breaks_19 ?_
    refine J_iconst (v := 3) rfl d_Mo_breaks_20 ?_
    refine P_wa (by decide) rfl rfl d_Mo_breaks_21 (fun h6 => ?_)
    refine J_aload_n 0 rfl d_Mo_breaks_22 ?_
    refine J_dup rfl d_Mo_breaks_23 ?_
    refine P_gI fo_Mo_189_34 rfl d_Mo_breaks_24 (fun v7 => ?_)
    refine J_aload_n 0 rfl d_Mo_breaks_27 ?_
    refine J_getR fo_Mo_43_34 rfl d_Mo_breaks_28 ?_
    refine J_iload_n 1 rfl d_Mo_breaks_31 ?_
    refine P_ia (by decide) rfl rfl d_Mo_breaks_32 (fun v8 => ?_)
    refine J_iadd d_Mo_breaks_33 ?_
    refine P_wI fo_Mo_189_34 rfl d_Mo_breaks_34 (fun h9 => ?_)
    refine J_aload_n 0 rfl d_Mo_breaks_37 ?_
    refine J_getR fo_Mo_43_34 rfl d_Mo_breaks_38 ?_
    refine J_iload_n 1 rfl d_Mo_breaks_41 ?_
    refine J_iconst (v := 0) rfl d_Mo_breaks_42 ?_
    refine P_wa (by decide) rfl rfl d_Mo_breaks_43 (fun h10 => ?_)
    refine J_aload_n 0 rfl d_Mo_breaks_44 ?_
    refine J_getR fo_Mo_46_34 rfl d_Mo_breaks_45 ?_
    refine J_iload_n 1 rfl d_Mo_breaks_48 ?_
    refine J_aload_n 0 rfl d_Mo_breaks_49 ?_
    refine J_getR fo_Mo_46_34 rfl d_Mo_breaks_50 ?_
    refine J_iload_n 1 rfl d_Mo_breaks_53 ?_
    refine P_ia (by decide) rfl rfl d_Mo_breaks_54 (fun v11 => ?_)
    refine J_iconst (v := 3) rfl d_Mo_breaks_55 ?_
    refine J_bd1 (fun (v12 : Int32) => Vw (kx_Mo_breaks l g Q) 0 0 71 [(0, .ref (ad 34)), (1, .int a1), (2, .int a2)] [.int v12, .int a1, .ref (ad 21)] (pic g ad h10)) ?_ (fun v12 => ?_)
    · refine J_icmp_le 70 rfl d_Mo_breaks_56 (fun c13 => ?_) (fun c13 => ?_)
      · refine J_iconst (v := 0) rfl d_Mo_breaks_70 ?_
        exact J_exit [0, 1, 2] rfl (fun hx => hx)
      · refine J_aload_n 0 rfl d_Mo_breaks_59 ?_
        refine J_getR fo_Mo_46_34 rfl d_Mo_breaks_60 ?_
        refine J_iload_n 1 rfl d_Mo_breaks_63 ?_
        refine P_ia (by decide) rfl rfl d_Mo_breaks_64 (fun v14 => ?_)
        refine J_iconst (v := 3) rfl d_Mo_breaks_65 ?_
        refine J_isub d_Mo_breaks_66 ?_
        refine J_goto 71 rfl d_Mo_breaks_67 ?_
        exact J_exit [0, 1, 2] rfl (fun hx => hx)
    · refine P_wa (by decide) rfl rfl d_Mo_breaks_71 (fun h15 => ?_)
      refine J_aload_n 0 rfl d_Mo_breaks_72 ?_
      refine J_getR fo_Mo_58_34 rfl d_Mo_breaks_73 ?_
      refine J_iload_n 1 rfl d_Mo_breaks_76 ?_
      refine J_dup2 rfl rfl d_Mo_breaks_77 ?_
      refine P_ia (by decide) rfl rfl d_Mo_breaks_78 (fun v16 => ?_)
      refine J_iconst (v := 1) rfl d_Mo_breaks_79 ?_
      refine J_iadd d_Mo_breaks_80 ?_
      refine P_wa (by decide) rfl rfl d_Mo_breaks_81 (fun h17 => ?_)
      refine J_aload_n 0 rfl d_Mo_breaks_82 ?_
      refine J_aload_n 0 rfl d_Mo_breaks_83 ?_
      refine P_gI fo_Mo_192_34 rfl d_Mo_breaks_84 (fun v18 => ?_)
      refine J_iconst (v := (-1)) rfl d_Mo_breaks_87 ?_
      refine J_bd1 (fun (v19 : Int32) => Vw (kx_Mo_breaks l g Q) 0 0 115 [(0, .ref (ad 34)), (1, .int a1), (2, .int a2)] [.int v19, .ref (ad 34)] (pic g ad h17)) ?_ (fun v19 => ?_)
      · refine J_icmp_eq 107 rfl d_Mo_breaks_88 (fun c20 => ?_) (fun c20 => ?_)
        · refine J_iload_n 1 rfl d_Mo_breaks_107 ?_
          refine J_goto 115 rfl d_Mo_breaks_108 ?_
          exact J_exit [0, 1, 2] rfl (fun hx => hx)
        · refine J_aload_n 0 rfl d_Mo_breaks_91 ?_
          refine P_gI fo_Mo_192_34 rfl d_Mo_breaks_92 (fun v21 => ?_)
          refine J_iload_n 2 rfl d_Mo_breaks_95 ?_
          refine J_icmp_ne 111 rfl d_Mo_breaks_96 (fun c22 => ?_) (fun c22 => ?_)
          · refine J_aload_n 0 rfl d_Mo_breaks_111 ?_
            refine P_gI fo_Mo_195_34 rfl d_Mo_breaks_112 (fun v23 => ?_)
            exact J_exit [0, 1, 2] rfl (fun hx => hx)
          · refine J_iload_n 1 rfl d_Mo_breaks_99 ?_
            refine J_aload_n 0 rfl d_Mo_breaks_100 ?_
            refine P_gI fo_Mo_195_34 rfl d_Mo_breaks_101 (fun v24 => ?_)
            refine J_icmp_ge 111 rfl d_Mo_breaks_104 (fun c25 => ?_) (fun c25 => ?_)
            · refine J_aload_n 0 rfl d_Mo_breaks_111 ?_
              refine P_gI fo_Mo_195_34 rfl d_Mo_breaks_112 (fun v26 => ?_)
              exact J_exit [0, 1, 2] rfl (fun hx => hx)
            · refine J_iload_n 1 rfl d_Mo_breaks_107 ?_
              refine J_goto 115 rfl d_Mo_breaks_108 ?_
              exact J_exit [0, 1, 2] rfl (fun hx => hx)
      · refine P_wI fo_Mo_195_34 rfl d_Mo_breaks_115 (fun h27 => ?_)
        refine J_aload_n 0 rfl d_Mo_breaks_118 ?_
        refine J_aload_n 0 rfl d_Mo_breaks_119 ?_
        refine P_gI fo_Mo_192_34 rfl d_Mo_breaks_120 (fun v28 => ?_)
        refine J_iconst (v := (-1)) rfl d_Mo_breaks_123 ?_
        refine J_bd1 (fun (v29 : Int32) => Vw (kx_Mo_breaks l g Q) 0 0 135 [(0, .ref (ad 34)), (1, .int a1), (2, .int a2)] [.int v29, .ref (ad 34)] (pic g ad h27)) ?_ (fun v29 => ?_)
        · refine J_icmp_ne 131 rfl d_Mo_breaks_124 (fun c30 => ?_) (fun c30 => ?_)
          · refine J_aload_n 0 rfl d_Mo_breaks_131 ?_
            refine P_gI fo_Mo_192_34 rfl d_Mo_breaks_132 (fun v31 => ?_)
            exact J_exit [0, 1, 2] rfl (fun hx => hx)
          · refine J_iload_n 2 rfl d_Mo_breaks_127 ?_
            refine J_goto 135 rfl d_Mo_breaks_128 ?_
            exact J_exit [0, 1, 2] rfl (fun hx => hx)
        · refine P_wI fo_Mo_192_34 rfl d_Mo_breaks_135 (fun h32 => ?_)
          exact J_vret (Nat.le_refl _) (Nat.le_refl _) d_Mo_breaks_138 rfl (fun hx => hx)
def lp_Mo_bears_2 (a1 : Int32) : Nat → Int32 → HP → Option (Int32 × HP)
 | 0, _, _ => none
 | fu + 1, v2, h3 =>
 ltt (rI h3 34 5) (fun (v4 : Int32) =>
 (if v4 ≤ v2 then
 some (v2, h3)
 else
 ckk (inb v2 11) (ltt (rA h3 27 v2) (fun (v6 : Int32) =>
 bd1 ((if v6 = a1 then
 ckk (inb v2 11) (ltt (rA h3 29 v2) (fun (v9 : Int32) =>
 bd2 (f_Mo_takes v9 h3) (fun (v10 : Int32) (h11 : HP) =>
 (if v10 = 0 then
 some (h11)
 else
 ckk (inb v2 11) (ltt (rA h11 29 v2) (fun (v13 : Int32) =>
 ckk (inb v13 8) (ltt (rA h11 22 v13) (fun (v14 : Int32) =>
 ckk (inb v2 11) (ltt (rA h11 28 v2) (fun (v15 : Int32) =>
 ckk (inb v13 8) (ltt (wA h11 22 v13 (v14 + v15)) (fun (h16 : HP) =>
 ckk (inb v2 11) (ltt (rA h16 29 v2) (fun (v17 : Int32) =>
 bd1 (f_Mo_breaks v17 a1 h16) (fun (h18 : HP) =>
 some (h18))))))))))))))))
 else
 some (h3)) : Option (HP)) (fun (h7 : HP) =>
 ltt (v2 + 1) (fun (v19 : Int32) =>
 lp_Mo_bears_2 a1 fu v19 h7))))))
def f_Mo_bears (a1 : Int32) (h0 : HP) : Option (HP) :=
 bd2 (lp_Mo_bears_2 a1 400 0 h0) (fun (v20 : Int32) (h21 : HP) =>
 some h21)
set_option maxRecDepth 20000 in
set_option maxHeartbeats 4000000 in
theorem mlp_Mo_bears_2 (l : Launch) (g : GG) (ad : Nat → Nat) (Q : Option Value → va_W → Prop) (a1 : Int32) : ∀ (fu : Nat) (v2 : Int32) (h3 : HP), Jj (fun q : Int32 × HP => Vw (kx_Mo_bears l g Q) 0 0 70 [(2, .int (q.1)), (0, .ref (ad 34)), (1, .int a1)] [] (pic g ad q.2)) (lp_Mo_bears_2 a1 fu v2 h3) (Vw (kx_Mo_bears l g Q) 0 0 2 [(2, .int v2), (0, .ref (ad 34)), (1, .int a1)] [] (pic g ad h3)) := by
  intro fu
  induction fu with
  | zero =>
    intro v2 h3
    exact J_none
  | succ fu ih =>
    intro v2 h3
    rw [lp_Mo_bears_2]
    refine J_iload_n 0 rfl d_Mo_bears_2 ?_
    refine J_aload_n 1 rfl d_Mo_bears_3 ?_
    refine P_gI fo_Mo_131_34 rfl d_Mo_bears_4 (fun v4 => ?_)
    refine J_icmp_ge 70 rfl d_Mo_bears_7 (fun c5 => ?_) (fun c5 => ?_)
    · exact J_exit [0, 1, 2] rfl (fun hx => hx)
    · refine J_aload_n 1 rfl d_Mo_bears_10 ?_
      refine J_getR fo_Mo_28_34 rfl d_Mo_bears_11 ?_
      refine J_iload_n 0 rfl d_Mo_bears_14 ?_
      refine P_ia (by decide) rfl rfl d_Mo_bears_15 (fun v6 => ?_)
      refine J_iload_n 2 rfl d_Mo_bears_16 ?_
      refine J_bd1 (fun (h7 : HP) => Vw (kx_Mo_bears l g Q) 0 0 64 [(2, .int v2), (0, .ref (ad 34)), (1, .int a1)] [] (pic g ad h7)) ?_ (fun h7 => ?_)
      · refine J_icmp_ne 64 rfl d_Mo_bears_17 (fun c8 => ?_) (fun c8 => ?_)
        · exact J_exit [0, 1, 2] rfl (fun hx => hx)
        · refine J_aload_n 1 rfl d_Mo_bears_20 ?_
          refine J_aload_n 1 rfl d_Mo_bears_21 ?_
          refine J_getR fo_Mo_22_34 rfl d_Mo_bears_22 ?_
          refine J_iload_n 0 rfl d_Mo_bears_25 ?_
          refine P_ia (by decide) rfl rfl d_Mo_bears_26 (fun v9 => ?_)
          refine J_callVi (m_Mo_takes l g ad _ _) ok_Mo_takes rc_34 wi_Mo_takes wl_Mo_Mo_takes wk_Mo_198 ⟨rfl, rfl, Nat.le_of_ble_eq_true rfl, Nat.le_of_ble_eq_true rfl⟩ ⟨Nat.zero_le _, Nat.zero_le _⟩ (rest := []) rfl rfl (Nat.le_of_ble_eq_true rfl) d_Mo_bears_27 (fun v10 h11 => ?_)
          refine J_if_eq 64 rfl d_Mo_bears_30 (fun c12 => ?_) (fun c12 => ?_)
          · exact J_exit [0, 1, 2] rfl (fun hx => hx)
          · refine J_aload_n 1 rfl d_Mo_bears_33 ?_
            refine J_getR fo_Mo_43_34 rfl d_Mo_bears_34 ?_
            refine J_aload_n 1 rfl d_Mo_bears_37 ?_
            refine J_getR fo_Mo_22_34 rfl d_Mo_bears_38 ?_
            refine J_iload_n 0 rfl d_Mo_bears_41 ?_
            refine P_ia (by decide) rfl rfl d_Mo_bears_42 (fun v13 => ?_)
            refine J_dup2 rfl rfl d_Mo_bears_43 ?_
            refine P_ia (by decide) rfl rfl d_Mo_bears_44 (fun v14 => ?_)
            refine J_aload_n 1 rfl d_Mo_bears_45 ?_
            refine J_getR fo_Mo_25_34 rfl d_Mo_bears_46 ?_
            refine J_iload_n 0 rfl d_Mo_bears_49 ?_
            refine P_ia (by decide) rfl rfl d_Mo_bears_50 (fun v15 => ?_)
            refine J_iadd d_Mo_bears_51 ?_
            refine P_wa (by decide) rfl rfl d_Mo_bears_52 (fun h16 => ?_)
            refine J_aload_n 1 rfl d_Mo_bears_53 ?_
            refine J_aload_n 1 rfl d_Mo_bears_54 ?_
            refine J_getR fo_Mo_22_34 rfl d_Mo_bears_55 ?_
            refine J_iload_n 0 rfl d_Mo_bears_58 ?_
            refine P_ia (by decide) rfl rfl d_Mo_bears_59 (fun v17 => ?_)
            refine J_iload_n 2 rfl d_Mo_bears_60 ?_
            refine J_callVv (m_Mo_breaks l g ad _ _ _) ok_Mo_breaks rc_34 wi_Mo_breaks wl_Mo_Mo_breaks wk_Mo_201 ⟨rfl, rfl, Nat.le_of_ble_eq_true rfl, Nat.le_of_ble_eq_true rfl⟩ ⟨Nat.zero_le _, Nat.zero_le _⟩ (rest := []) rfl rfl (Nat.le_of_ble_eq_true rfl) d_Mo_bears_61 (fun h18 => ?_)
            exact J_exit [0, 1, 2] rfl (fun hx => hx)
      · refine P_inc (w := 1) (lv' := fun v19 => [(2, .int v19), (0, .ref (ad 34)), (1, .int a1)]) 0 rfl rfl (Nat.le_of_ble_eq_true rfl) (fun _ => rfl) d_Mo_bears_64 (fun v19 => ?_)
        refine J_goto 2 rfl d_Mo_bears_67 ?_
        exact J_sub [0, 1, 2] rfl (ih _ _)
set_option maxRecDepth 20000 in
set_option maxHeartbeats 4000000 in
theorem m_Mo_bears (l : Launch) (g : GG) (ad : Nat → Nat) (a1 : Int32) (h0 : HP) : CM l g ad y_Mo_bears b_Mo_bears 3 none rm_Mo_bears [.ref (ad 34), .int a1] h0 enV (f_Mo_bears a1 h0) := by
  refine CM.of (by decide) (Nat.le_of_ble_eq_true rfl) (fun Q => ?_)
  show Jj _ _ (Vw (kx_Mo_bears l g Q) 0 0 0 _ _ _)
  refine J_sub [0, 1] (lv' := [(0, .ref (ad 34)), (1, .int a1)]) rfl ?_
  unfold f_Mo_bears
  refine J_iconst (v := 0) rfl d_Mo_bears_0 ?_
  refine J_istore_n (lv' := [(2, .int 0), (0, .ref (ad 34)), (1, .int a1)]) 2 rfl (Nat.le_of_ble_eq_true rfl) rfl d_Mo_bears_1 ?_
  refine J_bd2 (fun (v20 : Int32) (h21 : HP) => Vw (kx_Mo_bears l g Q) 0 0 70 [(2, .int v20), (0, .ref (ad 34)), (1, .int a1)] [] (pic g ad h21)) ?_ (fun v20 h21 => ?_)
  · exact J_sub [0, 1, 2] rfl (mlp_Mo_bears_2 l g ad Q a1 400 _ _)
  · exact J_vret (Nat.le_refl _) (Nat.le_refl _) d_Mo_bears_70 rfl (fun hx => hx)
def f_Mo_isIn (a1 : Int32) (a2 : Int32) (h0 : HP) : Option (Int32 × HP) :=
 (if (a1 >>> (a2 &&& 31)) &&& 1 = 1 then
 some (1, h0)
 else
 some (0, h0))
set_option maxRecDepth 20000 in
set_option maxHeartbeats 4000000 in
theorem m_Mo_isIn (l : Launch) (g : GG) (ad : Nat → Nat) (a1 : Int32) (a2 : Int32) (h0 : HP) : CM l g ad y_Mo_isIn b_Mo_isIn 2 (some .boolean) rm_Mo_isIn [.int a1, .int a2] h0 enI (f_Mo_isIn a1 a2 h0) := by
  refine CM.of (by decide) (Nat.le_of_ble_eq_true rfl) (fun Q => ?_)
  show Jj _ _ (Vw (kx_Mo_isIn l g Q) 0 0 0 _ _ _)
  refine J_sub [0, 1] (lv' := [(0, .int a1), (1, .int a2)]) rfl ?_
  unfold f_Mo_isIn
  refine J_iload_n 0 rfl d_Mo_isIn_0 ?_
  refine J_iload_n 1 rfl d_Mo_isIn_1 ?_
  refine J_ishr d_Mo_isIn_2 ?_
  refine J_iconst (v := 1) rfl d_Mo_isIn_3 ?_
  refine J_iand d_Mo_isIn_4 ?_
  refine J_iconst (v := 1) rfl d_Mo_isIn_5 ?_
  refine J_icmp_ne 13 rfl d_Mo_isIn_6 (fun c3 => ?_) (fun c3 => ?_)
  · refine J_iconst (v := 0) rfl d_Mo_isIn_13 ?_
    exact J_zret (Nat.le_refl _) (Nat.le_refl _) d_Mo_isIn_14 rfl (zfit (Or.inl rfl)).1 (fun hx => hx)
  · refine J_iconst (v := 1) rfl d_Mo_isIn_9 ?_
    refine J_goto 14 rfl d_Mo_isIn_10 ?_
    exact J_zret (Nat.le_refl _) (Nat.le_refl _) d_Mo_isIn_14 rfl (zfit (Or.inr rfl)).1 (fun hx => hx)
