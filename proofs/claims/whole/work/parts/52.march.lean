/-! the class's march of one camel through the days -/
theorem wA_nI {h : HP} {a k : Nat} {v : Int32} (hk : k < 2 ^ 31) : wA h a (nI k) v = sI h a k v := by
  unfold wA
  rw [nI_clamp hk]
theorem rA_nI {h : HP} {a k : Nat} (hk : k < 2 ^ 31) : rA h a (nI k) = h.1 a k := by
  unfold rA
  rw [nI_clamp hk]
theorem inb_lit {k n : Nat} (h : k < n) (hn : n ≤ 1000) : inb (nI k) n = true := inb_nI h (by omega)
def KR (h : HP) (d rm : Nat) : WS → Prop
  | (ld, st, li, fe, br, bk, sp, _) => h.1 52 (d * 8) = nI ld ∧ h.1 52 (d * 8 + 1) = nI st ∧ h.1 52 (d * 8 + 2) = (if li = 0 then 0 else 1) ∧ h.1 52 (d * 8 + 3) = nI fe ∧ h.1 52 (d * 8 + 4) = nI br ∧ h.1 52 (d * 8 + 5) = nI bk ∧ h.1 52 (d * 8 + 6) = nI rm ∧ h.1 52 (d * 8 + 7) = nI sp
set_option maxHeartbeats 4000000 in
theorem c_keep {d sf rm : Nat} {h : HP} {s : WS} (hd : d < 24) (hr : h.1 53 9 = nI rm) (hc : CR d sf h s) : ∃ h', f_Wa_keep (nI d) h = some h' ∧ KR h' d rm s ∧ (∀ j, (j < d * 8 ∨ d * 8 + 8 ≤ j) → h'.1 52 j = h.1 52 j) ∧ FR [52] h h' := by
  obtain ⟨ld, st, li, fe, br, bk, sp, ff⟩ := s
  have hl := hc.li
  obtain ⟨c2, c3, c4, c10, c6, c7, c11, c8, c12⟩ := hc
  have e : nI d * 8 = nI (d * 8) := pk_mul d 8
  have e0 : nI (d * 8) + 0 = nI (d * 8) := nI_add _ 0
  have e1 : nI (d * 8) + 1 = nI (d * 8 + 1) := nI_add _ 1
  have e2 : nI (d * 8) + 2 = nI (d * 8 + 2) := nI_add _ 2
  have e3 : nI (d * 8) + 3 = nI (d * 8 + 3) := nI_add _ 3
  have e4 : nI (d * 8) + 4 = nI (d * 8 + 4) := nI_add _ 4
  have e5 : nI (d * 8) + 5 = nI (d * 8 + 5) := nI_add _ 5
  have e6 : nI (d * 8) + 6 = nI (d * 8 + 6) := nI_add _ 6
  have e7 : nI (d * 8) + 7 = nI (d * 8 + 7) := nI_add _ 7
  unfold f_Wa_keep
  simp only [ltt_s, rI, e, e0, e1, e2, e3, e4, e5, e6, e7, inb_lit (show d * 8 < 192 by omega) (by omega), inb_lit (show d * 8 + 1 < 192 by omega) (by omega), inb_lit (show d * 8 + 2 < 192 by omega) (by omega), inb_lit (show d * 8 + 3 < 192 by omega) (by omega), inb_lit (show d * 8 + 4 < 192 by omega) (by omega), inb_lit (show d * 8 + 5 < 192 by omega) (by omega), inb_lit (show d * 8 + 6 < 192 by omega) (by omega), inb_lit (show d * 8 + 7 < 192 by omega) (by omega), ckk_t, wA_nI (show d * 8 < 2 ^ 31 by omega), wA_nI (show d * 8 + 1 < 2 ^ 31 by omega), wA_nI (show d * 8 + 2 < 2 ^ 31 by omega), wA_nI (show d * 8 + 3 < 2 ^ 31 by omega), wA_nI (show d * 8 + 4 < 2 ^ 31 by omega), wA_nI (show d * 8 + 5 < 2 ^ 31 by omega), wA_nI (show d * 8 + 6 < 2 ^ 31 by omega), wA_nI (show d * 8 + 7 < 2 ^ 31 by omega)]
  have hz : (sI (sI h 52 (d * 8) (h.1 53 3)) 52 (d * 8 + 1) ((sI h 52 (d * 8) (h.1 53 3)).1 53 4)).1 53 10 = h.1 53 10 := by simp [rd_sI]
  rw [hz]
  have hb : (if h.1 53 10 = 0 then some (0 : Int32) else some 1) = some (if li = 0 then 0 else 1) := by
    by_cases h0 : li = 0
    · rw [if_pos (hl.mpr h0), if_pos h0]
    · rw [if_neg (fun z => h0 (hl.mp z)), if_neg h0]
  rw [hb]
  simp only [bd1_s]
  refine ⟨_, rfl, ?_, ?_, ?_⟩
  · simp [KR, rd_sI, c3, c4, c6, c7, c8, c11, hr]
  · intro j hj
    simp only [rd_sI]
    have n0 : ¬ j = d * 8 := by omega
    have n1 : ¬ j = d * 8 + 1 := by omega
    have n2 : ¬ j = d * 8 + 2 := by omega
    have n3 : ¬ j = d * 8 + 3 := by omega
    have n4 : ¬ j = d * 8 + 4 := by omega
    have n5 : ¬ j = d * 8 + 5 := by omega
    have n6 : ¬ j = d * 8 + 6 := by omega
    have n7 : ¬ j = d * 8 + 7 := by omega
    simp [n0, n1, n2, n3, n4, n5, n6, n7]
  · repeat' (first | exact FR.rf | refine FR.s ?_ (by decide))
theorem c_rise {d sf : Nat} {h : HP} {s : WS} (hd : d < 24) (ho : wok sf s) (hc : CR0 d sf h s) : ∃ h', f_Wa_rise (nI d) h = some h' ∧ CR d sf h' s ∧ KP h h' := by
  obtain ⟨ld, st, li, fe, br, bk, sp, ff⟩ := s
  obtain ⟨o1, o2, o3, o4, o5⟩ := ho
  obtain ⟨c2, c3, c4, c10, c6, c7, c11, c8, c12⟩ := hc
  unfold f_Wa_rise
  simp only [ltt_s, rI]
  rcases c10 with ⟨g1, g2⟩ | ⟨g1, f, g2, g3⟩
  · simp only [g1, if_true]
    exact ⟨h, rfl, ⟨c2, c3, c4, Or.inl ⟨g1, g2⟩, c6, c7, c11, c8, c12⟩, KP.rf⟩
  · have n1 : ¬ ((1 : Int32) = 0) := by decide
    simp only [g1, n1, if_false, g2]
    have hle : f ≤ d := by omega
    have e : nI d - nI f = nI (d - f) := pk_sub hle
    have q : (nI (d - f) < 3) ↔ d - f < 3 := nI_ltI (b := 3) (by omega) (by omega)
    rw [e]
    simp only [q]
    by_cases h3 : d - f < 3
    · simp only [h3, if_true]
      exact ⟨h, rfl, ⟨c2, c3, c4, Or.inr ⟨g1, by omega, f, g2, g3⟩, c6, c7, c11, c8, c12⟩, KP.rf⟩
    · simp only [h3, if_false]
      have hz : li = 0 := by omega
      refine ⟨_, rfl, ?_, ⟨by simp [rd_sI], by simp [rd_sI], by simp [rd_sI], FR.s FR.rf (by decide)⟩⟩
      simp [CR, rd_sI, c2, c3, c4, c6, c7, c8, c11, c12, hz]
