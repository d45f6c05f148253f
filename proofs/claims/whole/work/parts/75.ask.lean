/-! ask -/
def al (D : DT) (k : Nat) (F : Int32) (d a b : Nat) : Bool := (bt F a && bt F b) && decide (lb D k a d = lb D k b d)
def cnA (q : Nat → Bool) : Nat → Nat
  | 0 => 0
  | j + 1 => cnA q j + (if (decide (1 ≤ j) && q j) = true then 1 else 0)
def mxA (c : Nat → Nat) : Nat → Nat
  | 0 => 0
  | j + 1 => if 1 ≤ j then max (mxA c j) (c j) else mxA c j
theorem cnA_le (q : Nat → Bool) : ∀ j, cnA q j ≤ j
  | 0 => Nat.le_refl _
  | j + 1 => by
    have h := cnA_le q j
    show cnA q j + _ ≤ j + 1
    split <;> omega
theorem mxA_le {c : Nat → Nat} (hc : ∀ a, c a ≤ 10) : ∀ j, mxA c j ≤ 10
  | 0 => Nat.zero_le _
  | j + 1 => by
    have h := mxA_le hc j
    have h2 := hc j
    show (if 1 ≤ j then max (mxA c j) (c j) else mxA c j) ≤ 10
    split
    · exact Nat.max_le.mpr ⟨h, h2⟩
    · exact h
def cnt (D : DT) (k : Nat) (F : Int32) (d a : Nat) : Nat := cnA (fun b => al D k F d a b) 10
def mst (D : DT) (k : Nat) (F : Int32) (d : Nat) : Nat := mxA (fun a => cnt D k F d a) 10
theorem cnA_s (q : Nat → Bool) {j : Nat} (hj : 1 ≤ j) : cnA q (j + 1) = cnA q j + (if q j = true then 1 else 0) := by
  show cnA q j + (if (decide (1 ≤ j) && q j) = true then 1 else 0) = _
  rw [decide_eq_true hj, Bool.true_and]
theorem mxA_s (c : Nat → Nat) {j : Nat} (hj : 1 ≤ j) : mxA c (j + 1) = max (mxA c j) (c j) := if_pos hj
theorem l_n53 {D : DT} {k v : Nat} {v3 F : Int32} (hv : v ≤ 9) : ∀ (fu d : Nat) (h : HP), Mch (Dfg D k v) k h → d ≤ 24 → 24 < d + fu → (∀ j, j < d → h.1 45 (v * 24 + j) = lb D k v j) → ∃ w h', lp_Gu_noteLoads_53 (nI v) v3 (nI k) F fu (nI d) h = some (w, h') ∧ (∀ j, j < 24 → h'.1 45 (v * 24 + j) = lb D k v j) ∧ (∀ j, j < v * 24 → h'.1 45 j = h.1 45 j) ∧ FR [45] h h' := by
  intro fu
  induction fu with
  | zero => intro d h _ h1 h2; omega
  | succ fu ih =>
    intro d h hm hd hf hj
    have q : (24 ≤ nI d) ↔ 24 ≤ d := nI_leI (a := 24) (by omega) (by omega)
    rw [lp_Gu_noteLoads_53]
    simp only [q]
    by_cases he : 24 ≤ d
    · rw [if_pos he]
      exact ⟨_, h, rfl, fun j hj' => hj j (by omega), fun _ _ => rfl, FR.rf⟩
    · rw [if_neg he]
      have e1 := c_behind (w := 0) hm (show d < 24 by omega) (by omega) (by omega)
      have e2 : nI v * 24 + nI d = nI (v * 24 + d) := by
        rw [show nI v * (24 : Int32) = nI (v * 24) from pk_mul v 24, nI_add]
      have hb : inb (nI (v * 24 + d)) 240 = true := inb_lit (by omega) (by omega)
      rw [show f_Wa_behind (nI d) 0 h = some (lb D k v d, h) from e1, bd2_s, e2, hb, ckk_t, wA_nI (by omega), ltt_s, ltt_s, nI_1]
      obtain ⟨w, h', p1, p2, p3, p4⟩ := ih (d + 1) (sI h 45 (v * 24 + d) (lb D k v d)) (hm.fr (sI_na (by decide)) (sI_na (by decide))) (by omega) (by omega) (fun j hj' => by
        by_cases e : j = d
        · subst e
          exact sI_eq
        · rw [sI_nj (by omega)]
          exact hj j (by omega))
      refine ⟨w, h', p1, p2, fun j hj' => ?_, FR.tr (FR.s FR.rf (by decide)) p4⟩
      rw [p3 j hj', sI_nj (by omega)]
theorem l_n19 {D : DT} {k : Nat} {v3 F : Int32} (hk : k < dnc D) : ∀ (fu v x : Nat) (h : HP), CD (Dfg D k x) h → h.2.2 = 60 → 1 ≤ v → v ≤ 10 → 10 < v + fu → (∀ u j, 1 ≤ u → u < v → bt F u = true → j < 24 → h.1 45 (u * 24 + j) = lb D k u j) → ∃ w h', lp_Gu_noteLoads_19 v3 (nI k) F fu (nI v) h = some (w, h') ∧ (∀ u j, 1 ≤ u → u < 10 → bt F u = true → j < 24 → h'.1 45 (u * 24 + j) = lb D k u j) ∧ F1 67 k h h' := by
  intro fu
  induction fu with
  | zero => intro v x h _ _ _ h1 h2; omega
  | succ fu ih =>
    intro v x h hc h60 hv1 hv hf hl
    have b1 : dnc D ≤ 8 := hc.2.2.1
    have q : (9 < nI v) ↔ 9 < v := nI_ltI (a := 9) (by omega) (by omega)
    have qb := bit0 F (show v < 32 by omega)
    rw [lp_Gu_noteLoads_19]
    simp only [q, qb]
    by_cases he : 9 < v
    · have e : v = 10 := by omega
      subst e
      rw [if_pos he]
      exact ⟨_, h, rfl, hl, F1.rf⟩
    · rw [if_neg he]
      by_cases z : bt F v = false
      · rw [if_pos z, bd1_s, ltt_s, nI_1]
        exact ih (v + 1) x h hc h60 (by omega) (by omega) (by omega) (fun u j h1 h2 h3 h4 => by
          by_cases e : u = v
          · subst e
            rw [z] at h3
            cases h3
          · exact hl u j h1 (by omega) h3 h4)
      · rw [if_neg z]
        have hb : inb (nI k) 8 = true := inb_lit (by omega) (by omega)
        have c1 : CD (Dfg D k v) (sI h 67 k (nI v)) := by rw [← Dfg_2 (u := x)]; exact hc.fg h60 hv1 (by omega)
        obtain ⟨h1, e1, m1, f1⟩ := c_march (k := k) (D := Dfg D k v) hk c1
        have s1 : SF (sI h 67 k (nI v)) h1 := c_sf f1
        obtain ⟨w2, h2, e2, p2, p3, f2⟩ := l_n53 (D := D) (k := k) (v := v) (v3 := v3) (F := F) (by omega) 400 0 h1 m1 (Nat.zero_le _) (by omega) (fun j hj => absurd hj (Nat.not_lt_zero _))
        have s2 : SF h1 h2 := SF.ofs f2 (by decide) (by decide)
        have c45 : h1.1 45 = h.1 45 := by rw [f1.e 45, sI_na (by decide)]
        rw [hb, ckk_t, wA_nI (by omega), ltt_s, e1, bd1_s, show lp_Gu_noteLoads_53 (nI v) v3 (nI k) F 400 0 h1 = _ from e2, bd2_s, bd1_s, ltt_s, nI_1]
        obtain ⟨w, h', r1, r2, r3⟩ := ih (v + 1) v h2 ((c1.sf h60 s1).sf (s1.1.trans h60) s2) (s2.1.trans (s1.1.trans h60)) (by omega) (by omega) (by omega) (fun u j hu1 hu hu3 hj => by
          by_cases e : u = v
          · subst e
            exact p2 j hj
          · rw [p3 (u * 24 + j) (by omega), c45]
            exact hl u j hu1 (by omega) hu3 hj)
        exact ⟨w, h', r1, r2, (((F1.w (by decide)).tr (F1.c f1 (by decide) (by decide) (by decide))).tr (F1.c f2 (by decide) (by decide) (by decide))).tr r3⟩
def HL (D : DT) (k : Nat) (F : Int32) (f : Nat → Nat → Int32) : Prop := ∀ u j, 1 ≤ u → u < 10 → bt F u = true → j < 24 → f u j = lb D k u j
theorem c_note {D : DT} {k : Nat} {F : Int32} {h : HP} (t : QS D h) (hk : k < dnc D) : ∃ h', f_Gu_noteLoads (nI k) F h = some h' ∧ SF h h' ∧ HL D k F (fun u j => h'.1 45 (u * 24 + j)) := by
  have b1 := t.1.2.2.1
  have hb : inb (nI k) 8 = true := inb_lit (by omega) (by omega)
  have c0 : CD (Dfg D k (dfg D k)) h := by rw [Dfg_self]; exact t.1
  obtain ⟨w, h1, e1, p1, Fx⟩ := l_n19 (v3 := h.1 67 k) (F := F) hk 400 1 _ h c0 t.2.2.2.2.2.2.1 (by omega) (by omega) (by omega) (fun u j h1 h2 => by omega)
  have S := Fx.end.resolve_right (by decide)
  refine ⟨sI h1 67 k (h.1 67 k), ?_, S, fun u j h1 h2 h3 h4 => ?_⟩
  · unfold f_Gu_noteLoads
    rw [hb, ckk_t, rA_nI (by omega), ltt_s, show lp_Gu_noteLoads_19 (h.1 67 k) (nI k) F 400 1 h = _ from e1, bd2_s, ckk_t, wA_nI (by omega), ltt_s]
  · show (sI _ 67 k _).1 45 (u * 24 + j) = _
    rw [sI_na (by decide)]
    exact p1 u j h1 h2 h3 h4
theorem both_b {F : Int32} {a b : Nat} (ha : a < 32) (hb : b < 32) : (((F >>> (nI a &&& 31)) &&& (F >>> (nI b &&& 31))) &&& 1 = 0) ↔ (bt F a && bt F b) = false := by
  rw [(bt_and1 _).1, b_and, bt_shr0 F ha, bt_shr0 F hb]
theorem l_c18 {D : DT} {k d a : Nat} {F v4 : Int32} {h : HP} (hd : d < 24) (ha1 : 1 ≤ a) (ha : a < 10) (hL : HL D k F (fun u j => h.1 45 (u * 24 + j))) : ∀ (fu j : Nat), 1 ≤ j → j ≤ 10 → 10 < j + fu → ∃ w, lp_Gu_mostAlike_18 (nI a) v4 (nI d) F fu (nI j) (nI (cnA (fun b => al D k F d a b) j)) h = some (w, nI (cnt D k F d a), h) := by
  intro fu
  induction fu with
  | zero => intro j h1 h2; omega
  | succ fu ih =>
    intro j hj1 hj hf
    have q : (9 < nI j) ↔ 9 < j := nI_ltI (a := 9) (by omega) (by omega)
    have qb := both_b (F := F) (a := a) (b := j) (by omega) (by omega)
    rw [lp_Gu_mostAlike_18]
    simp only [q, qb]
    by_cases he : 9 < j
    · have e : j = 10 := by omega
      subst e
      rw [if_pos he]
      exact ⟨_, rfl⟩
    · rw [if_neg he]
      obtain ⟨w, p1⟩ := ih (j + 1) (by omega) (by omega) (by omega)
      refine ⟨w, ?_⟩
      rw [← p1, cnA_s _ hj1]
      by_cases z : (bt F a && bt F j) = false
      · have e : al D k F d a j = false := by
          unfold al
          rw [z]
          rfl
        rw [if_pos z, bd1_s, if_pos rfl, bd1_s, ltt_s, nI_1, e]
        rfl
      · rw [if_neg z, bd1_s, if_neg i1_0]
        have z' : (bt F a && bt F j) = true := by simpa using z
        have z1 := Bool.and_eq_true_iff.mp z'
        have e1 : nI a * 24 + nI d = nI (a * 24 + d) := by
          rw [show nI a * (24 : Int32) = nI (a * 24) from pk_mul a 24, nI_add]
        have e2 : nI j * 24 + nI d = nI (j * 24 + d) := by
          rw [show nI j * (24 : Int32) = nI (j * 24) from pk_mul j 24, nI_add]
        have hb1 : inb (nI (a * 24 + d)) 240 = true := inb_lit (by omega) (by omega)
        have hb2 : inb (nI (j * 24 + d)) 240 = true := inb_lit (by omega) (by omega)
        have l1 : h.1 45 (a * 24 + d) = lb D k a d := hL a d ha1 ha z1.1 hd
        have l2 : h.1 45 (j * 24 + d) = lb D k j d := hL j d hj1 (by omega) z1.2 hd
        rw [e1, hb1, ckk_t, rA_nI (by omega), l1, ltt_s, e2, hb2, ckk_t, rA_nI (by omega), l2, ltt_s]
        by_cases y : lb D k a d = lb D k j d
        · have e : al D k F d a j = true := by
            unfold al
            rw [z', decide_eq_true y]
            rfl
          rw [if_pos y, ltt_s, bd1_s, ltt_s, nI_1, nI_1, e]
          rfl
        · have e : al D k F d a j = false := by
            unfold al
            rw [decide_eq_false y, Bool.and_false]
          rw [if_neg y, bd1_s, ltt_s, nI_1, e]
          rfl
theorem mxI_n {x y : Nat} (hx : x < 1000) (hy : y < 1000) : mxI (nI x) (nI y) = nI (max x y) := by
  unfold mxI
  have q : (nI x < nI y) ↔ x < y := nI_ltI (by omega) (by omega)
  by_cases h : x < y
  · rw [if_pos (q.mpr h), Nat.max_eq_right (by omega)]
  · rw [if_neg (fun z => h (q.mp z)), Nat.max_eq_left (by omega)]
theorem l_c5 {D : DT} {k d : Nat} {F : Int32} {h : HP} (hd : d < 24) (hL : HL D k F (fun u j => h.1 45 (u * 24 + j))) : ∀ (fu a : Nat), 1 ≤ a → a ≤ 10 → 10 < a + fu → ∃ w, lp_Gu_mostAlike_5 (nI d) F fu (nI a) (nI (mxA (fun a => cnt D k F d a) a)) h = some (w, nI (mst D k F d), h) := by
  intro fu
  induction fu with
  | zero => intro j h1 h2; omega
  | succ fu ih =>
    intro a ha1 ha hf
    have q : (9 < nI a) ↔ 9 < a := nI_ltI (a := 9) (by omega) (by omega)
    rw [lp_Gu_mostAlike_5]
    simp only [q]
    by_cases he : 9 < a
    · have e : a = 10 := by omega
      subst e
      rw [if_pos he]
      exact ⟨_, rfl⟩
    · rw [if_neg he]
      obtain ⟨w2, e2⟩ := l_c18 (v4 := nI (mxA (fun a => cnt D k F d a) a)) hd ha1 (show a < 10 by omega) hL 400 1 (by omega) (by omega) (by omega)
      have c1 : cnA (fun b => al D k F d a b) 1 = 0 := rfl
      rw [c1] at e2
      have k1 := mxA_le (c := fun a => cnt D k F d a) (fun a => cnA_le _ 10) a
      have k2 : cnt D k F d a ≤ 10 := cnA_le _ 10
      rw [show lp_Gu_mostAlike_18 (nI a) (nI (mxA (fun a => cnt D k F d a) a)) (nI d) F 400 1 0 h = _ from e2, bd3_s, ltt_s, mxI_n (by omega) (by omega), ltt_s, nI_1, ← mxA_s (fun a => cnt D k F d a) ha1]
      exact ih (a + 1) (by omega) (by omega) (by omega)
theorem c_most {D : DT} {k d : Nat} {F : Int32} {h : HP} (hd : d < 24) (hL : HL D k F (fun u j => h.1 45 (u * 24 + j))) : f_Gu_mostAlike (nI d) F h = some (nI (mst D k F d), h) := by
  obtain ⟨w, e⟩ := l_c5 hd hL 400 1 (by omega) (by omega) (by omega)
  unfold f_Gu_mostAlike
  rw [show lp_Gu_mostAlike_5 (nI d) F 400 1 0 h = _ from e, bd3_s]
theorem l_c11 {s : Nat → Int32} {F a1 : Int32} {h : HP} (hj : ∀ d, d < 24 → f_Gu_mostAlike (nI d) F h = some (s d, h)) : ∀ (fu d : Nat), d < 24 → 24 < d + 1 + fu → ∃ v, lp_Gu_dayToLook_11 a1 F fu (nI (d + 1)) (nI (tmn s d)) h = some (v, nI (tmn s 23), h) := by
  intro fu
  induction fu with
  | zero => intro d h1 h2; omega
  | succ fu ih =>
    intro d hd hf
    have q : (24 ≤ nI (d + 1)) ↔ 24 ≤ d + 1 := nI_leI (a := 24) (by omega) (by omega)
    have ht := tmn_le s d
    rw [lp_Gu_dayToLook_11]
    simp only [q]
    by_cases he : 24 ≤ d + 1
    · have e : d = 23 := by omega
      subst e
      rw [if_pos he]
      exact ⟨_, rfl⟩
    · rw [if_neg he]
      rw [hj (d + 1) (by omega), bd2_s, hj (tmn s d) (by omega), bd2_s, tmn_s, bd1_s, ltt_s, nI_1]
      exact ih (d + 1) (by omega) (by omega)
def fgB (D : DT) (g : Nat → Nat → Int32) (m k : Nat) : Int32 := bts (fun v => decide (1 ≤ v) && snB (Dfg D k v) g m) 10
def askI (D : DT) (g : Nat → Nat → Int32) (m k : Nat) : Int32 := nI (tmn (fun d => nI (mst D k (fgB D g m k) d)) 23)
theorem qc_ask {D : DT} {h0 : HP} {m k : Nat} (t : QS D h0) (nb : NB m h0) (hk : k < dnc D) : Q h0 (f_CS_ask (nI k)) (askI D h0.1 m k) := fun h hs => by
  have t' := t.sf hs
  have b1 := t.1.2.2.1
  obtain ⟨h1, e1, s1⟩ := qc_figs t nb hk h hs
  obtain ⟨h2, e2, s2, hL⟩ := c_note (F := fgB D h0.1 m k) (t.sf s1) hk
  obtain ⟨w, e3⟩ := l_c11 (s := fun d => nI (mst D k (fgB D h0.1 m k) d)) (a1 := nI k) (fun d hd => c_most hd hL) 400 0 (by omega) (by omega)
  refine ⟨h2, ?_, s1.tr s2⟩
  unfold f_CS_ask f_Gu_dayToLook
  rw [c_isCamel t'.1, bd2_s, bI_if, if_pos (inb_lit hk (by omega)), e1, bd2_s, show f_Gu_noteLoads (nI k) (bts (fun v => decide (1 ≤ v) && snB (Dfg D k v) h0.1 m) 10) h1 = some h2 from e2, bd1_s, show lp_Gu_dayToLook_11 (nI k) (bts (fun v => decide (1 ≤ v) && snB (Dfg D k v) h0.1 m) 10) 400 1 0 h2 = _ from e3, bd3_s, bd2_s]
  rfl
theorem l_m40 {D : DT} {k d a : Nat} {F v10 v5 v6 a1 : Int32} {h : HP} (hd : d < 24) (ha1 : 1 ≤ a) (ha : a < 10) (hL : HL D k F (fun u j => h.1 5 (24 * u + j))) : ∀ (fu j : Nat), 1 ≤ j → j ≤ 10 → 10 < j + fu → ∃ w, lp_Mo_askOf_40 (nI a) v10 (nI d) v5 v6 F a1 fu (nI j) (nI (cnA (fun b => al D k F d a b) j)) h = some (w, nI (cnt D k F d a), h) := by
  intro fu
  induction fu with
  | zero => intro j h1 h2; omega
  | succ fu ih =>
    intro j hj1 hj hf
    have q : (10 ≤ nI j) ↔ 10 ≤ j := nI_leI (a := 10) (by omega) (by omega)
    rw [lp_Mo_askOf_40]
    simp only [q]
    by_cases he : 10 ≤ j
    · have e : j = 10 := by omega
      subst e
      rw [if_pos he]
      exact ⟨_, rfl⟩
    · rw [if_neg he]
      obtain ⟨w, p1⟩ := ih (j + 1) (by omega) (by omega) (by omega)
      refine ⟨w, ?_⟩
      rw [← p1, cnA_s _ hj1, m_isIn (show a < 32 by omega), bd2_s, tbit_bt (show a < 32 by omega)]
      have ad0 : ∀ x : Nat, nI x + 0 = nI (x + 0) := fun x => nI_add x 0
      by_cases z1 : bt F a = true
      · rw [if_pos z1, if_neg i1_0, m_isIn (show j < 32 by omega), bd2_s, tbit_bt (show j < 32 by omega)]
        by_cases z2 : bt F j = true
        · rw [if_pos z2, if_neg i1_0]
          have e1 : (24 : Int32) * nI a + nI d = nI (24 * a + d) := by
            rw [show (24 : Int32) * nI a = nI (24 * a) from pk_mul 24 a, nI_add]
          have e2 : (24 : Int32) * nI j + nI d = nI (24 * j + d) := by
            rw [show (24 : Int32) * nI j = nI (24 * j) from pk_mul 24 j, nI_add]
          have hb1 : inb (nI (24 * a + d)) 240 = true := inb_lit (by omega) (by omega)
          have hb2 : inb (nI (24 * j + d)) 240 = true := inb_lit (by omega) (by omega)
          have l1 : h.1 5 (24 * a + d) = lb D k a d := hL a d ha1 ha z1 hd
          have l2 : h.1 5 (24 * j + d) = lb D k j d := hL j d hj1 (by omega) z2 hd
          rw [e1, hb1, ckk_t, rA_nI (by omega), l1, ltt_s, e2, hb2, ckk_t, rA_nI (by omega), l2, ltt_s]
          by_cases y : lb D k a d = lb D k j d
          · have e : al D k F d a j = true := by
              unfold al
              rw [z1, z2, decide_eq_true y]
              rfl
            rw [if_pos y, bd2_s, ltt_s, ltt_s, nI_1, nI_1, e]
            rfl
          · have e : al D k F d a j = false := by
              unfold al
              rw [decide_eq_false y, Bool.and_false]
            rw [if_neg y, bd2_s, ltt_s, ltt_s, nI_1, ad0, e]
            rfl
        · have e : al D k F d a j = false := by
            unfold al
            rw [show bt F j = false from by simpa using z2, Bool.and_false]
            rfl
          rw [if_neg z2, if_pos rfl, bd2_s, ltt_s, ltt_s, nI_1, ad0, e]
          rfl
      · have e : al D k F d a j = false := by
          unfold al
          rw [show bt F a = false from by simpa using z1, Bool.false_and]
          rfl
        rw [if_neg z1, if_pos rfl, bd2_s, ltt_s, ltt_s, nI_1, ad0, e]
        rfl
theorem l_m27 {D : DT} {k d : Nat} {F v5 v6 a1 : Int32} {h : HP} (hd : d < 24) (hL : HL D k F (fun u j => h.1 5 (24 * u + j))) : ∀ (fu a : Nat), 1 ≤ a → a ≤ 10 → 10 < a + fu → ∃ w, lp_Mo_askOf_27 (nI d) v5 v6 F a1 fu (nI a) (nI (mxA (fun a => cnt D k F d a) a)) h = some (w, nI (mst D k F d), h) := by
  intro fu
  induction fu with
  | zero => intro j h1 h2; omega
  | succ fu ih =>
    intro a ha1 ha hf
    have q : (10 ≤ nI a) ↔ 10 ≤ a := nI_leI (a := 10) (by omega) (by omega)
    rw [lp_Mo_askOf_27]
    simp only [q]
    by_cases he : 10 ≤ a
    · have e : a = 10 := by omega
      subst e
      rw [if_pos he]
      exact ⟨_, rfl⟩
    · rw [if_neg he]
      obtain ⟨w2, e2⟩ := l_m40 (v10 := nI (mxA (fun a => cnt D k F d a) a)) (v5 := v5) (v6 := v6) (a1 := a1) hd ha1 (show a < 10 by omega) hL 400 1 (by omega) (by omega) (by omega)
      have c1 : cnA (fun b => al D k F d a b) 1 = 0 := rfl
      rw [c1] at e2
      have k1 := mxA_le (c := fun a => cnt D k F d a) (fun a => cnA_le _ 10) a
      have k2 : cnt D k F d a ≤ 10 := cnA_le _ 10
      have q2 : (nI (cnt D k F d a) ≤ nI (mxA (fun a => cnt D k F d a) a)) ↔ cnt D k F d a ≤ mxA (fun a => cnt D k F d a) a := nI_leI (by omega) (by omega)
      rw [show lp_Mo_askOf_40 (nI a) (nI (mxA (fun a => cnt D k F d a) a)) (nI d) v5 v6 F a1 400 1 0 h = _ from e2, bd3_s]
      obtain ⟨w, p1⟩ := ih (a + 1) (by omega) (by omega) (by omega)
      refine ⟨w, ?_⟩
      rw [← p1, mxA_s (fun a => cnt D k F d a) ha1]
      by_cases z : cnt D k F d a ≤ mxA (fun a => cnt D k F d a) a
      · rw [if_pos (q2.mpr z), bd1_s, ltt_s, nI_1, Nat.max_eq_left z]
      · rw [if_neg (fun y => z (q2.mp y)), bd1_s, ltt_s, nI_1, Nat.max_eq_right (by omega)]
theorem l_m14 {D : DT} {k : Nat} {F a1 : Int32} {h : HP} (hL : HL D k F (fun u j => h.1 5 (24 * u + j))) : ∀ (fu d : Nat), d < 24 → 24 < d + 1 + fu → ∃ v u, lp_Mo_askOf_14 F a1 fu (nI (d + 1)) (nI (mst D k F (tmn (fun d => nI (mst D k F d)) d))) (nI (tmn (fun d => nI (mst D k F d)) d)) h = some (v, u, nI (tmn (fun d => nI (mst D k F d)) 23), h) := by
  intro fu
  induction fu with
  | zero => intro d h1 h2; omega
  | succ fu ih =>
    intro d hd hf
    have q : (24 ≤ nI (d + 1)) ↔ 24 ≤ d + 1 := nI_leI (a := 24) (by omega) (by omega)
    have ht := tmn_le (fun d => nI (mst D k F d)) d
    rw [lp_Mo_askOf_14]
    simp only [q]
    by_cases he : 24 ≤ d + 1
    · have e : d = 23 := by omega
      subst e
      rw [if_pos he]
      exact ⟨_, _, rfl⟩
    · rw [if_neg he]
      obtain ⟨w2, e2⟩ := l_m27 (v5 := nI (mst D k F (tmn (fun d => nI (mst D k F d)) d))) (v6 := nI (tmn (fun d => nI (mst D k F d)) d)) (a1 := a1) (show d + 1 < 24 by omega) hL 400 1 (by omega) (by omega) (by omega)
      rw [show mxA (fun a => cnt D k F (d + 1) a) 1 = 0 from rfl] at e2
      rw [show lp_Mo_askOf_27 (nI (d + 1)) _ _ F a1 400 1 0 h = _ from e2, bd3_s, if_neg (nI_nm1 (by omega))]
      obtain ⟨v, u, p1⟩ := ih (d + 1) (by omega) (by omega)
      refine ⟨v, u, ?_⟩
      rw [← p1]
      have e : tmn (fun d => nI (mst D k F d)) (d + 1) = if nI (mst D k F (tmn (fun d => nI (mst D k F d)) d)) ≤ nI (mst D k F (d + 1)) then tmn (fun d => nI (mst D k F d)) d else d + 1 := rfl
      rw [e]
      by_cases z : nI (mst D k F (tmn (fun d => nI (mst D k F d)) d)) ≤ nI (mst D k F (d + 1))
      · rw [if_pos z, bd1_s, if_pos rfl, bd1_s, if_pos rfl, bd1_s, ltt_s, nI_1, if_pos z]
      · rw [if_neg z, bd1_s, if_neg i1_0, bd1_s, if_neg i1_0, bd1_s, ltt_s, nI_1, if_neg z]
theorem qm_ask {D : DT} {h0 : HP} {m k : Nat} (t : QS D h0) (nb : NB m h0) (hk : k < dnc D) : QM D h0 (f_Mo_askOf (nI k)) (askI D h0.1 m k) := fun h hs => by
  obtain ⟨h1, e1, s1, c1, l1⟩ := m_strong t nb hk h hs
  have hL : HL D k (fgB D h0.1 m k) (fun u j => h1.1 5 (24 * u + j)) := fun u j a1 a2 _ a4 => l1 u j a1 a2 a4
  obtain ⟨v, u, e2⟩ := l_m14 (a1 := nI k) hL 399 0 (by omega) (by omega)
  obtain ⟨w2, e3⟩ := l_m27 (v5 := 0) (v6 := -1) (a1 := nI k) (d := 0) (by omega) hL 400 1 (by omega) (by omega) (by omega)
  rw [show mxA (fun a => cnt D k (fgB D h0.1 m k) 0 a) 1 = 0 from rfl] at e3
  refine ⟨h1, ?_, s1, c1⟩
  unfold f_Mo_askOf
  rw [e1, bd2_s]
  have e4 : lp_Mo_askOf_14 (fgB D h0.1 m k) (nI k) 400 0 0 (-1) h1 = some (v, u, askI D h0.1 m k, h1) := by
    rw [show (400 : Nat) = 399 + 1 from rfl, lp_Mo_askOf_14, if_neg (by decide), show lp_Mo_askOf_27 0 0 (-1) (fgB D h0.1 m k) (nI k) 400 1 0 h1 = _ from e3, bd3_s, if_pos rfl, bd1_s, if_neg i1_0, bd1_s, if_neg i1_0, bd1_s, ltt_s]
    exact e2
  rw [show lp_Mo_askOf_14 (bts (fun v => decide (1 ≤ v) && snB (Dfg D k v) h0.1 m) 10) (nI k) 400 0 0 (-1) h1 = _ from e4, bd4_s]
theorem o_ask : op_ask Inv := fun a => Q.op (fun h0 hi => by
  obtain ⟨D, t⟩ := hi.qs
  obtain ⟨m, nb⟩ := t.2.2.2.2.2.2.2.2
  have b1 := t.1.2.2.1
  by_cases z1 : inb a (dnc D) = true
  · obtain ⟨k, k1, k2⟩ := (inb_iff (by omega)).mp z1
    refine ⟨askI D h0.1 m k, by rw [k2]; exact qc_ask t nb k1, fun h hs => ?_⟩
    obtain ⟨h1, e1, m1, s1⟩ := m_isCamel (a := a) (t.sf hs)
    unfold f_Mo_ask
    rw [e1, bd2_s, bI_if, if_pos z1, k2, bd2_id]
    exact (qm_ask t nb k1).q h1 (hs.tr s1)
  · refine ⟨-2, fun h hs => ⟨h, ?_, hs⟩, fun h hs => ?_⟩
    · unfold f_CS_ask
      rw [c_isCamel (t.sf hs).1, bd2_s, bI_if, if_neg z1]
    · obtain ⟨h1, e1, m1, s1⟩ := m_isCamel (a := a) (t.sf hs)
      refine ⟨h1, ?_, hs.tr s1⟩
      unfold f_Mo_ask
      rw [e1, bd2_s, bI_if, if_neg z1])
