/-! the reference: wear and the day's end -/
theorem m_wears {D : DT} {d c : Nat} {σ : Nat → WS} {h : HP} (hd : d < 24) (hm : MD D h) (hr : MR (dnc D) d σ h) (hc : c < dnc D) (h1 : a_ld (σ c) ≤ 100) (h2 : a_st (σ c) ≤ 36) : f_Mo_wears (nI c) (nI d) h = some (if wears d (dso D c) (a_ld (σ c)) (a_st (σ c)) = true then 1 else 0, h) := by
  obtain ⟨m1, m2, -, -, -, -⟩ := hr.1 c hc
  obtain ⟨g1, g2, g3, g4, g5⟩ := hm.2.2.2.2.2.2.2.2.2 c hc
  have b1 := hm.2.2.1
  have hb : inb (nI c) 8 = true := inb_lit (by omega) (by omega)
  have hb9 : inb (nI c) 9 = true := inb_lit (by omega) (by omega)
  have hcl : c < 2 ^ 31 := by omega
  have q1 : (nI (dso D c) = 0) ↔ dso D c = 0 := nI_eq (b := 0) (by omega) (by omega)
  have q2 : (nI (dso D c) = 2) ↔ dso D c = 2 := nI_eq (b := 2) (by omega) (by omega)
  have q3 := rem3 hd
  have q4 : (2 * nI (a_ld (σ c)) ≤ nI (a_st (σ c))) ↔ 2 * a_ld (σ c) ≤ a_st (σ c) := by
    have e : (2 : Int32) * nI (a_ld (σ c)) = nI (2 * a_ld (σ c)) := pk_mul 2 _
    rw [e]
    exact nI_leI (by omega) (by omega)
  unfold f_Mo_wears wears
  simp only [hb9, hb, ckk_t, ltt_s, rA_nI hcl, g1, m1, m2, q1, q2, q3, q4]
  by_cases s0 : dso D c = 0
  · simp only [s0, if_true]
    by_cases z : d % 3 = 2 <;> simp [z]
  · simp only [s0, if_false]
    by_cases s2 : dso D c = 2
    · simp [s2]
    · simp only [s2, if_false]
      by_cases z : 2 * a_ld (σ c) ≤ a_st (σ c)
      · have z' : ¬ a_st (σ c) < 2 * a_ld (σ c) := by omega
        simp [z, z']
      · have z' : a_st (σ c) < 2 * a_ld (σ c) := by omega
        simp [z, z']
set_option maxHeartbeats 4000000 in
theorem m_ww {D : DT} {d c : Nat} {σ : Nat → WS} {h : HP} (hd : d < 24) (hm : MD D h) (hr : MR (dnc D) d σ h) (hc : c < dnc D) (ho : wok (4 * dfg D c) (σ c)) (hl : a_li (σ c) = 0) : ∃ h', f_Mo_tires (nI c) (nI d) h = some h' ∧ MR (dnc D) d (up σ c (ww d (dso D c) (4 * dfg D c) (σ c))) h' ∧ MJ h h' ∧ h'.1 34 16 = h.1 34 16 := by
  obtain ⟨ld, st, li, fe, br, bk, sp, ff, hs⟩ : ∃ a b c' d' e f g i, σ c = (a, b, c', d', e, f, g, i) := ⟨_, _, _, _, _, _, _, _, rfl⟩
  obtain ⟨m1, m2, m3, m4, m5, m6⟩ := hr.1 c hc
  obtain ⟨g1, g2, g3, g4, g5⟩ := hm.2.2.2.2.2.2.2.2.2 c hc
  have b1 := hm.2.2.1
  rw [hs] at ho
  obtain ⟨o1, o2, o3, o4, o5⟩ := ho
  have hwe := m_wears hd hm hr hc (by rw [hs]; show ld ≤ 100; omega) (by rw [hs]; show st ≤ 36; omega)
  rw [hs] at m1 m2 m3 m4 m5 m6 hl hwe ⊢
  simp only [a_ld, a_st, a_li, a_fe, a_br, a_bk] at m1 m2 m3 m4 m5 m6 hl hwe
  have hb : inb (nI c) 8 = true := inb_lit (by omega) (by omega)
  have hb9 : inb (nI c) 9 = true := inb_lit (by omega) (by omega)
  have hcl : c < 2 ^ 31 := by omega
  have q0 : (nI ld ≤ 0) ↔ ld ≤ 0 := nI_leI (b := 0) (by omega) (by omega)
  have q1 : (4 * nI (dfg D c) ≤ nI st) ↔ 4 * dfg D c ≤ st := by
    have e : (4 : Int32) * nI (dfg D c) = nI (4 * dfg D c) := pk_mul 4 _
    rw [e]
    exact nI_leI (by omega) (by omega)
  have q2 : (nI st ≤ 0) ↔ st ≤ 0 := nI_leI (b := 0) (by omega) (by omega)
  obtain ⟨st', hst⟩ : ∃ v, v = wst d (dso D c) (4 * dfg D c) ld st := ⟨_, rfl⟩
  have hst36 : st' ≤ 36 := by
    rw [hst]
    unfold wst
    split
    · split <;> omega
    · split <;> omega
  have r1 : MR (dnc D) d (up σ c (ld, st', li, fe, br, bk, sp, ff)) (sI h 21 c (nI st')) := by
    refine hr.set hc ⟨?_, ?_, ?_, ?_, ?_, ?_⟩ (by rw [hs]) (by rw [hs]) (fun a k hk ha => ?_) ⟨?_, ?_, ?_⟩
    · simp [rd_sI, m1]
    · simp [rd_sI]
    · simp [rd_sI, m3]
    · simp [rd_sI, m4]
    · simp [rd_sI, m5]
    · simp [rd_sI, m6]
    · rcases ha with rfl | rfl | rfl | rfl | rfl | rfl <;> simp [rd_sI, hk]
    · simp [rd_sI]
    · simp [rd_sI]
    · simp [rd_sI]
  obtain ⟨h', e2, r2, f2, k2, l2⟩ := m_breaks hd b1 hc (by rw [up_eq]; show ld ≤ 100; omega) (by rw [up_eq]; exact hst36) r1
  refine ⟨h', ?_, ?_, (MJ.s MJ.rf (by decide)).tr ⟨f2.mono (by decide), k2⟩, l2.trans (by simp [rd_sI])⟩
  · unfold f_Mo_tires
    simp only [hb, hb9, ckk_t, ltt_s, rA_nI hcl, wA_nI hcl, m1, m2, g2, q0, q1, q2, hwe, bd2_s]
    by_cases h0 : ld ≤ 0
    · simp only [h0, if_true]
      have hz : ld = 0 := by omega
      by_cases h4 : 4 * dfg D c ≤ st
      · have e3 : st' = st := by
          rw [hst]
          unfold wst
          rw [if_pos hz, if_neg (by omega)]
        have e4 : nI st + 0 = nI st' := by
          rw [e3]
          exact nI_add st 0
        simp only [h4, if_true, bd1_s, e4, e2]
      · have e3 : st' = st + 1 := by
          rw [hst]
          unfold wst
          rw [if_pos hz, if_pos (by omega)]
        simp only [h4, if_false, bd1_s, nI_1]
        rw [← e3]
        simp only [bd1_s, e2]
    · simp only [h0, if_false]
      by_cases hw : wears d (dso D c) ld st = true
      · have e3 : st' = st - 1 := by
          rw [hst]
          unfold wst
          rw [if_neg (by omega), if_pos hw]
        have hz : ¬ st ≤ 0 := by omega
        simp only [hw, if_true, one_ne, if_false, hz, bd1_s, n1_sub hz]
        rw [← e3]
        simp only [bd1_s, e2]
      · have e3 : st' = st := by
          rw [hst]
          unfold wst
          rw [if_neg (by omega), if_neg hw]
        have e4 : nI st - 0 = nI st' := by
          rw [e3]
          exact pk_sub (b := 0) (by omega)
        have e5 : (if (if wears d (dso D c) ld st = true then (1 : Int32) else 0) = 0 then some (0 : Int32) else if st ≤ 0 then some 0 else some 1) = some 0 := by
          rw [if_neg hw]
          rfl
        rw [e5]
        simp only [bd1_s, e4, e2]
  · rw [up_eq, up_up] at r2
    have e : ww d (dso D c) (4 * dfg D c) (ld, st, li, fe, br, bk, sp, ff) = wb d (ld, st', li, fe, br, bk, sp, ff) := by
      show (if li = 0 then (if ld = 0 then (ld, if st < 4 * dfg D c then st + 1 else st, li, fe, br, bk, sp, ff) else wb d (ld, if wears d (dso D c) ld st = true then st - 1 else st, li, fe, br, bk, sp, ff)) else (ld, st, li, fe, br, bk, sp, ff)) = _
      rw [if_pos hl, hst]
      by_cases hz : ld = 0
      · rw [if_pos hz, wb_f (by omega)]
        simp only [wst, hz, if_true]
      · rw [if_neg hz]
        simp only [wst, hz, if_false]
    rw [e]
    exact r2
/-- what is recorded of a camel behind a day -/
def RC (h : HP) (d k : Nat) (s : WS) : Prop := h.1 16 (8 * d + k) = nI (a_ld s) ∧ h.1 15 (8 * d + k) = nI (a_st s) ∧ h.1 14 (8 * d + k) = (if a_li s = 0 then 0 else 1) ∧ h.1 13 (8 * d + k) = nI (a_fe s) ∧ h.1 12 (8 * d + k) = nI (a_br s) ∧ h.1 11 (8 * d + k) = nI (a_bk s)
theorem RC.frame {h h' : HP} {d k : Nat} {s : WS} (hr : RC h d k s) (e : ∀ a, a = 11 ∨ a = 12 ∨ a = 13 ∨ a = 14 ∨ a = 15 ∨ a = 16 → h'.1 a (8 * d + k) = h.1 a (8 * d + k)) : RC h' d k s := by
  obtain ⟨m1, m2, m3, m4, m5, m6⟩ := hr
  exact ⟨(e 16 (by decide)).trans m1, (e 15 (by decide)).trans m2, (e 14 (by decide)).trans m3, (e 13 (by decide)).trans m4, (e 12 (by decide)).trans m5, (e 11 (by decide)).trans m6⟩
set_option maxHeartbeats 4000000 in
theorem m_we {D : DT} {d c : Nat} {σ : Nat → WS} {h : HP} (hd : d < 24) (hm : MD D h) (hr : MR (dnc D) d σ h) (hc : c < dnc D) (ho : wok (4 * dfg D c) (σ c)) : ∃ h', f_Mo_ends (nI c) (nI d) h = some h' ∧ MR (dnc D) d (up σ c (we (wl d (σ c)))) h' ∧ MK h h' ∧ h'.1 34 16 = h.1 34 16 ∧ RC h' d c (wl d (σ c)) ∧ (∀ a j, j ≠ 8 * d + c → a = 11 ∨ a = 12 ∨ a = 13 ∨ a = 14 ∨ a = 15 ∨ a = 16 → h'.1 a j = h.1 a j) ∧ h'.1 10 = h.1 10 := by
  obtain ⟨ld, st, li, fe, br, bk, sp, ff, hs⟩ : ∃ a b c' d' e f g i, σ c = (a, b, c', d', e, f, g, i) := ⟨_, _, _, _, _, _, _, _, rfl⟩
  obtain ⟨m1, m2, m3, m4, m5, m6⟩ := hr.1 c hc
  have b1 := hm.2.2.1
  have hfg := (hm.2.2.2.2.2.2.2.2.2 c hc).2.2.2.2
  rw [hs] at m1 m2 m3 m4 m5 m6 ho ⊢
  obtain ⟨o1, o2, o3, o4, o5⟩ := ho
  simp only [a_ld, a_st, a_li, a_fe, a_br, a_bk] at m1 m2 m3 m4 m5 m6
  have hb : inb (nI c) 8 = true := inb_lit (by omega) (by omega)
  have hcl : c < 2 ^ 31 := by omega
  have hp : (8 : Int32) * nI d + nI c = nI (8 * d + c) := by
    have e : (8 : Int32) * nI d = nI (8 * d) := pk_mul 8 _
    rw [e, nI_add]
  have hbp : inb (nI (8 * d + c)) 192 = true := inb_lit (by omega) (by omega)
  have hpl : 8 * d + c < 2 ^ 31 := by omega
  have q8 := rem8 hd
  have q0 : (nI li = 0) ↔ li = 0 := nI_eq (b := 0) (by omega) (by omega)
  have q1 : (nI li ≤ 0) ↔ li ≤ 0 := nI_leI (b := 0) (by omega) (by omega)
  obtain ⟨ld', br', hwl, h2, e2, n22, n18, fr2⟩ : ∃ ld' br', wl d (ld, st, li, fe, br, bk, sp, ff) = (ld', st, li, fe, br', bk, sp, ff) ∧ ∃ h2, (if d % 8 = 7 then (if li = 0 then some (sI (sI h 18 c (nI br + nI ld)) 22 c 0) else some h) else some h) = some h2 ∧ h2.1 22 c = nI ld' ∧ h2.1 18 c = nI br' ∧ (h2.2 = h.2 ∧ (∀ a j, (a ≠ 22 ∧ a ≠ 18) ∨ j ≠ c → h2.1 a j = h.1 a j)) := by
    by_cases z : d % 8 = 7
    · by_cases zl : li = 0
      · refine ⟨0, br + ld, ?_, sI (sI h 18 c (nI br + nI ld)) 22 c 0, by rw [if_pos z, if_pos zl], by simp [rd_sI]; rfl, by simp [rd_sI, nI_add], rfl, fun a j hj => ?_⟩
        · show (if d % 8 = 7 then (0, st, li, fe, br + ld, bk, sp, ff) else (ld, st, li, fe, br, bk, sp, ff)) = _
          rw [if_pos z]
        · simp only [rd_sI]
          rw [if_neg (by omega), if_neg (by omega)]
      · have := o4 zl
        refine ⟨0, br, ?_, h, by rw [if_pos z, if_neg zl], by rw [m1, this], m5, rfl, fun _ _ _ => rfl⟩
        show (if d % 8 = 7 then (0, st, li, fe, br + ld, bk, sp, ff) else (ld, st, li, fe, br, bk, sp, ff)) = _
        rw [if_pos z, this]
        rfl
    · refine ⟨ld, br, ?_, h, by rw [if_neg z], m1, m5, rfl, fun _ _ _ => rfl⟩
      show (if d % 8 = 7 then (0, st, li, fe, br + ld, bk, sp, ff) else (ld, st, li, fe, br, bk, sp, ff)) = _
      rw [if_neg z]
  obtain ⟨fr2', fr2⟩ := fr2
  have n21 : h2.1 21 c = nI st := (fr2 21 c (Or.inl ⟨by decide, by decide⟩)).trans m2
  have n20 : h2.1 20 c = nI li := (fr2 20 c (Or.inl ⟨by decide, by decide⟩)).trans m3
  have n19 : h2.1 19 c = nI fe := (fr2 19 c (Or.inl ⟨by decide, by decide⟩)).trans m4
  have n17 : h2.1 17 c = nI bk := (fr2 17 c (Or.inl ⟨by decide, by decide⟩)).trans m6
  obtain ⟨lf, hlf⟩ : ∃ v : Int32, v = if li = 0 then 0 else 1 := ⟨_, rfl⟩
  have e3 : (if li ≤ 0 then some (0 : Int32) else some 1) = some lf := by
    rw [hlf]
    by_cases z : li = 0
    · rw [if_pos (by omega), if_pos z]
    · rw [if_neg (by omega), if_neg z]
  have e4 : nI li - lf = nI (li - 1) := by
    rw [hlf]
    by_cases z : li = 0
    · rw [if_pos z, z]
      rfl
    · rw [if_neg z]
      exact pk_sub (b := 1) (by omega)
  have mk2 : MK h h2 := by
    refine ⟨⟨fr2', fun a ha => ?_⟩, fun j _ _ _ _ => fr2 34 j (Or.inl ⟨by decide, by decide⟩)⟩
    funext j
    exact fr2 a j (Or.inl ⟨fun z => by subst z; exact ha (by decide), fun z => by subst z; exact ha (by decide)⟩)
  rw [hwl]
  unfold f_Mo_ends
  simp only [hb, ckk_t, ltt_s, rA_nI hcl, wA_nI hcl, rA_nI hpl, wA_nI hpl, q8, m3, q0, m5, m1, e2, bd1_s, hp, hbp, n22]
  have t1 : (sI h2 16 (8 * d + c) (nI ld')).1 21 c = nI st := by simp [rd_sI, n21]
  have t2 : (sI (sI h2 16 (8 * d + c) (nI ld')) 15 (8 * d + c) (nI st)).1 20 c = nI li := by simp [rd_sI, n20]
  simp only [t1, t2, q1, e3, bd1_s]
  have t3 : (sI (sI (sI h2 16 (8 * d + c) (nI ld')) 15 (8 * d + c) (nI st)) 14 (8 * d + c) lf).1 19 c = nI fe := by simp [rd_sI, n19]
  simp only [t3]
  have t4 : (sI (sI (sI (sI h2 16 (8 * d + c) (nI ld')) 15 (8 * d + c) (nI st)) 14 (8 * d + c) lf) 13 (8 * d + c) (nI fe)).1 18 c = nI br' := by simp [rd_sI, n18]
  simp only [t4]
  have t5 : (sI (sI (sI (sI (sI h2 16 (8 * d + c) (nI ld')) 15 (8 * d + c) (nI st)) 14 (8 * d + c) lf) 13 (8 * d + c) (nI fe)) 12 (8 * d + c) (nI br')).1 17 c = nI bk := by simp [rd_sI, n17]
  simp only [t5]
  have t6 : (sI (sI (sI (sI (sI (sI h2 16 (8 * d + c) (nI ld')) 15 (8 * d + c) (nI st)) 14 (8 * d + c) lf) 13 (8 * d + c) (nI fe)) 12 (8 * d + c) (nI br')) 11 (8 * d + c) (nI bk)).1 20 c = nI li := by simp [rd_sI, n20]
  simp only [t6, q1, e3, bd1_s, e4]
  refine ⟨_, rfl, ?_, mk2.tr ?_, ?_, ?_, ?_, ?_⟩
  · show MR (dnc D) d (up σ c (ld', st, li - 1, fe, br', bk, sp, ff)) _
    refine hr.set hc ⟨?_, ?_, ?_, ?_, ?_, ?_⟩ (by rw [hs]) (by rw [hs]) (fun a k hk ha => ?_) ⟨?_, ?_, ?_⟩
    · simp [rd_sI, n22]
    · simp [rd_sI, n21]
    · simp [rd_sI]
    · simp [rd_sI, n19]
    · simp [rd_sI, n18]
    · simp [rd_sI, n17]
    · rcases ha with rfl | rfl | rfl | rfl | rfl | rfl <;> simp [rd_sI, hk, fr2 _ k (Or.inr hk)]
    · simp [rd_sI, fr2 34]
    · simp [rd_sI, fr2 34]
    · simp [rd_sI, fr2 34]
  · repeat' (first | exact MK.rf | refine MK.s ?_ (by decide))
  · simp [rd_sI, fr2 34]
  · refine ⟨?_, ?_, ?_, ?_, ?_, ?_⟩
    · simp [rd_sI]
    · simp [rd_sI]
    · simp [rd_sI, hlf]
    · simp [rd_sI]
    · simp [rd_sI]
    · simp [rd_sI]
  · intro a j hj ha
    rcases ha with rfl | rfl | rfl | rfl | rfl | rfl <;> simp [rd_sI, hj, fr2]
  · funext j
    simp [rd_sI, fr2 10]
