/-! what is kept behind a day; sums over all camels -/
def av (s : WS) (w : Nat) : Nat := if w = 0 then a_ld s else if w = 1 then a_st s else if w = 2 then (if a_li s = 0 then 0 else 1) else if w = 3 then a_fe s else if w = 4 then a_br s else if w = 5 then a_bk s else a_sp s
theorem we_f (s : WS) : a_fe (we s) = a_fe s ∧ a_br (we s) = a_br s ∧ a_bk (we s) = a_bk s ∧ a_sp (we s) = a_sp s ∧ a_ff (we s) = a_ff s := by
  obtain ⟨ld, st, li, fe, br, bk, sp, ff⟩ := s
  exact ⟨rfl, rfl, rfl, rfl, rfl⟩
theorem W24 (D : DT) (k : Nat) : a_fe (WR D k 24) = av (WE D 23 k) 3 ∧ a_br (WR D k 24) = av (WE D 23 k) 4 ∧ a_bk (WR D k 24) = av (WE D 23 k) 5 ∧ a_sp (WR D k 24) = av (WE D 23 k) 7 := by
  obtain ⟨h1, h2, h3, h4, h5⟩ := we_f (WE D 23 k)
  rw [show WR D k 24 = we (WE D 23 k) from rfl]
  exact ⟨h1, h2, h3, h4⟩
theorem c_behind {D : DT} {k d w : Nat} {h : HP} (hm : Mch D k h) (hd : d < 24) (hw : w < 8) (h6 : w ≠ 6) : f_Wa_behind (nI d) (nI w) h = some (nI (av (WE D d k) w), h) := by
  have hk : KR h d (rmo (wM D d k (WR D k d))) (WE D d k) := hm.2 d hd
  have e1 : nI d * 8 + nI w = nI (d * 8 + w) := by
    rw [show nI d * 8 = nI (d * 8) from pk_mul d 8, nI_add]
  have hb : inb (nI (d * 8 + w)) 192 = true := inb_lit (by omega) (by omega)
  unfold f_Wa_behind
  simp only [e1, hb, ckk_t, ltt_s, rA_nI (show d * 8 + w < 2 ^ 31 by omega)]
  generalize WE D d k = s at hk ⊢
  obtain ⟨ld, st, li, fe, br, bk, sp, ff⟩ := s
  obtain ⟨k0, k1, k2, k3, k4, k5, k6, k7⟩ := hk
  have hc : w = 0 ∨ w = 1 ∨ w = 2 ∨ w = 3 ∨ w = 4 ∨ w = 5 ∨ w = 7 := by omega
  rcases hc with rfl | rfl | rfl | rfl | rfl | rfl | rfl
  · rw [Nat.add_zero, k0]; rfl
  · rw [k1]; rfl
  · rw [k2]
    show some ((if li = 0 then (0 : Int32) else 1), h) = some (nI (if li = 0 then 0 else 1), h)
    by_cases z : li = 0
    · rw [if_pos z, if_pos z]; rfl
    · rw [if_neg z, if_neg z]; rfl
  · rw [k3]; rfl
  · rw [k4]; rfl
  · rw [k5]; rfl
  · rw [k7]; rfl
theorem c_behind6 {D : DT} {k d : Nat} {h : HP} (hm : Mch D k h) (hd : d < 24) : f_Wa_behind (nI d) 6 h = some (nI (rmo (wM D d k (WR D k d))), h) := by
  have hk : KR h d (rmo (wM D d k (WR D k d))) (WE D d k) := hm.2 d hd
  have e1 : nI d * 8 + 6 = nI (d * 8 + 6) := by
    rw [show nI d * 8 = nI (d * 8) from pk_mul d 8]
    exact nI_add (d * 8) 6
  have hb : inb (nI (d * 8 + 6)) 192 = true := inb_lit (by omega) (by omega)
  unfold f_Wa_behind
  simp only [e1, hb, ckk_t, ltt_s, rA_nI (show d * 8 + 6 < 2 ^ 31 by omega)]
  generalize WE D d k = s at hk
  obtain ⟨ld, st, li, fe, br, bk, sp, ff⟩ := s
  rw [hk.2.2.2.2.2.2.1]
theorem Mch.f {D : DT} {k : Nat} {h : HP} (hm : Mch D k h) : h.1 53 11 = nI (a_bk (WR D k 24)) ∧ h.1 53 12 = ffI (a_ff (WR D k 24)) := by
  have h1 : CR0 24 (4 * dfg D k) h (WR D k 24) := hm.1
  generalize WR D k 24 = s at h1 ⊢
  obtain ⟨ld, st, li, fe, br, bk, sp, ff⟩ := s
  obtain ⟨c2, c3, c4, c10, c6, c7, c11, c8, c12⟩ := h1
  exact ⟨c11, c12⟩
theorem c_sf {h h' : HP} (f : FR [52, 53] h h') : SF h h' := SF.ofs f (by decide) (by decide)
theorem l_inAll {D : DT} {w : Nat} (hw : w < 8) (h6 : w ≠ 6) : ∀ (fu i : Nat) (h : HP), CD D h → i ≤ dnc D → dnc D < i + fu → ∃ v h', lp_Cv_inAll_4 (nI w) fu (nI i) (nI (sumN i (fun k => av (WE D 23 k) w))) h = some (v, nI (sumN (dnc D) (fun k => av (WE D 23 k) w)), h') ∧ FR [52, 53] h h' := by
  intro fu
  induction fu with
  | zero => intro i h _ h1 h2; omega
  | succ fu ih =>
    intro i h hc hi hf
    have b1 := hc.2.2.1
    have q : (nI (dnc D) ≤ nI i) ↔ dnc D ≤ i := nI_leI (by omega) (by omega)
    rw [lp_Cv_inAll_4]
    simp only [ltt_s, rI, hc.1, q]
    by_cases he : dnc D ≤ i
    · have e : i = dnc D := by omega
      subst e
      simp only [Nat.le_refl, if_true]
      exact ⟨_, h, rfl, FR.rf⟩
    · simp only [he, if_false]
      obtain ⟨h1, e1, m1, f1⟩ := c_march (k := i) (by omega) hc
      have e2 := c_behind (w := w) (d := 23) m1 (by omega) hw h6
      simp only [e1, bd1_s, show f_Wa_behind 23 (nI w) h1 = _ from e2, bd2_s, nI_add, nI_1]
      obtain ⟨v, h', p1, p2⟩ := ih (i + 1) h1 (hc.keep f1) (by omega) (by omega)
      exact ⟨v, h', p1, f1.tr p2⟩
theorem c_inAll {D : DT} {w : Nat} {h : HP} (hc : CD D h) (hw : w < 8) (h6 : w ≠ 6) : ∃ h', f_Cv_inAll (nI w) h = some (nI (sumN (dnc D) (fun k => av (WE D 23 k) w)), h') ∧ FR [52, 53] h h' := by
  have b1 := hc.2.2.1
  obtain ⟨v, h', e, f⟩ := l_inAll hw h6 400 0 h hc (Nat.zero_le _) (by omega)
  refine ⟨h', ?_, f⟩
  unfold f_Cv_inAll
  rw [show lp_Cv_inAll_4 (nI w) 400 0 0 h = _ from e, bd3_s]
theorem l_throughNow {D : DT} {h : HP} (h2 : h.1 34 2 = nI (dnc D)) (b1 : dnc D ≤ 8) (hr : MR (dnc D) 24 (fun k => WR D k 24) h) : ∀ (fu i : Nat), i ≤ dnc D → dnc D < i + fu → ∃ v, lp_Mo_throughNow_4 fu (nI i) (nI (sumN i (fun k => av (WE D 23 k) 4))) h = some (v, nI (sumN (dnc D) (fun k => av (WE D 23 k) 4)), h) := by
  intro fu
  induction fu with
  | zero => intro i h1 h2; omega
  | succ fu ih =>
    intro i hi hf
    have q : (nI (dnc D) ≤ nI i) ↔ dnc D ≤ i := nI_leI (by omega) (by omega)
    rw [lp_Mo_throughNow_4]
    simp only [ltt_s, rI, h2, q]
    by_cases he : dnc D ≤ i
    · have e : i = dnc D := by omega
      subst e
      simp only [Nat.le_refl, if_true]
      exact ⟨_, rfl⟩
    · simp only [he, if_false]
      have hb : inb (nI i) 8 = true := inb_lit (by omega) (by omega)
      have e1 : h.1 18 i = nI (av (WE D 23 i) 4) := by
        rw [(hr.1 i (by omega)).2.2.2.2.1]
        exact congrArg nI (W24 D i).2.1
      simp only [hb, ckk_t, rA_nI (show i < 2 ^ 31 by omega), e1, nI_add, nI_1]
      exact ih (i + 1) (by omega) (by omega)
theorem m_throughNow {D : DT} {h : HP} (h2 : h.1 34 2 = nI (dnc D)) (b1 : dnc D ≤ 8) (hr : MR (dnc D) 24 (fun k => WR D k 24) h) : f_Mo_throughNow h = some (nI (sumN (dnc D) (fun k => av (WE D 23 k) 4)), h) := by
  obtain ⟨v, e⟩ := l_throughNow h2 b1 hr 400 0 (Nat.zero_le _) (by omega)
  unfold f_Mo_throughNow
  rw [show lp_Mo_throughNow_4 400 0 0 h = _ from e, bd3_s]
theorem l_brokeAll {D : DT} {h : HP} (h2 : h.1 34 2 = nI (dnc D)) (b1 : dnc D ≤ 8) (hr : MR (dnc D) 24 (fun k => WR D k 24) h) : ∀ (fu i : Nat), i ≤ dnc D → dnc D < i + fu → ∃ v, lp_Mo_brokeAll_4 fu (nI i) (nI (sumN i (fun k => av (WE D 23 k) 5))) h = some (v, nI (sumN (dnc D) (fun k => av (WE D 23 k) 5)), h) := by
  intro fu
  induction fu with
  | zero => intro i h1 h2; omega
  | succ fu ih =>
    intro i hi hf
    have q : (nI (dnc D) ≤ nI i) ↔ dnc D ≤ i := nI_leI (by omega) (by omega)
    rw [lp_Mo_brokeAll_4]
    simp only [ltt_s, rI, h2, q]
    by_cases he : dnc D ≤ i
    · have e : i = dnc D := by omega
      subst e
      simp only [Nat.le_refl, if_true]
      exact ⟨_, rfl⟩
    · simp only [he, if_false]
      have hb : inb (nI i) 8 = true := inb_lit (by omega) (by omega)
      have e1 : h.1 17 i = nI (av (WE D 23 i) 5) := by
        rw [(hr.1 i (by omega)).2.2.2.2.2]
        exact congrArg nI (W24 D i).2.2.1
      simp only [hb, ckk_t, rA_nI (show i < 2 ^ 31 by omega), e1, nI_add, nI_1]
      exact ih (i + 1) (by omega) (by omega)
theorem m_brokeAll {D : DT} {h : HP} (h2 : h.1 34 2 = nI (dnc D)) (b1 : dnc D ≤ 8) (hr : MR (dnc D) 24 (fun k => WR D k 24) h) : f_Mo_brokeAll h = some (nI (sumN (dnc D) (fun k => av (WE D 23 k) 5)), h) := by
  obtain ⟨v, e⟩ := l_brokeAll h2 b1 hr 400 0 (Nat.zero_le _) (by omega)
  unfold f_Mo_brokeAll
  rw [show lp_Mo_brokeAll_4 400 0 0 h = _ from e, bd3_s]
theorem l_feesAll {D : DT} {h : HP} (h2 : h.1 34 2 = nI (dnc D)) (b1 : dnc D ≤ 8) (hr : MR (dnc D) 24 (fun k => WR D k 24) h) : ∀ (fu i : Nat), i ≤ dnc D → dnc D < i + fu → ∃ v, lp_Mo_feesAll_4 fu (nI i) (nI (sumN i (fun k => av (WE D 23 k) 3))) h = some (v, nI (sumN (dnc D) (fun k => av (WE D 23 k) 3)), h) := by
  intro fu
  induction fu with
  | zero => intro i h1 h2; omega
  | succ fu ih =>
    intro i hi hf
    have q : (nI (dnc D) ≤ nI i) ↔ dnc D ≤ i := nI_leI (by omega) (by omega)
    rw [lp_Mo_feesAll_4]
    simp only [ltt_s, rI, h2, q]
    by_cases he : dnc D ≤ i
    · have e : i = dnc D := by omega
      subst e
      simp only [Nat.le_refl, if_true]
      exact ⟨_, rfl⟩
    · simp only [he, if_false]
      have hb : inb (nI i) 8 = true := inb_lit (by omega) (by omega)
      have e1 : h.1 19 i = nI (av (WE D 23 i) 3) := by
        rw [(hr.1 i (by omega)).2.2.2.1]
        exact congrArg nI (W24 D i).1
      simp only [hb, ckk_t, rA_nI (show i < 2 ^ 31 by omega), e1, nI_add, nI_1]
      exact ih (i + 1) (by omega) (by omega)
theorem m_feesAll {D : DT} {h : HP} (h2 : h.1 34 2 = nI (dnc D)) (b1 : dnc D ≤ 8) (hr : MR (dnc D) 24 (fun k => WR D k 24) h) : f_Mo_feesAll h = some (nI (sumN (dnc D) (fun k => av (WE D 23 k) 3)), h) := by
  obtain ⟨v, e⟩ := l_feesAll h2 b1 hr 400 0 (Nat.zero_le _) (by omega)
  unfold f_Mo_feesAll
  rw [show lp_Mo_feesAll_4 400 0 0 h = _ from e, bd3_s]
