/-! fault, count, camel, bale -/
theorem q_fault {D : DT} {h0 : HP} {a : Int32} (t : QS D h0) (ha : inb a 2 = true) : ∃ r, Q h0 (f_CS_fault a) r ∧ QM D h0 (f_Mo_faultOf a) r := by
  refine ⟨if a = 0 then h0.1 70 3 else h0.1 66 3, fun h hs => ⟨h, ?_, hs⟩, fun h hs => ?_⟩
  · unfold f_CS_fault
    rw [c_isText, bd2_s, bI_if, if_pos ha, ha, ckk_t]
    rcases inb2 ha with z | z
    · subst z
      rw [if_pos rfl, show rfx 61 (Int32.toNatClampNeg 0) = 70 from by decide, ← hs.g 70]
      rfl
    · subst z
      rw [if_neg i1_0, show rfx 61 (Int32.toNatClampNeg 1) = 66 from by decide, ← hs.g 66]
      rfl
  · obtain ⟨h', e1, e2, e3⟩ := m_read2 (a := a) (t.sf hs)
    refine ⟨h', ?_, hs.tr e3, e2⟩
    rw [e1, hs.g 70, hs.g 66]
theorem o_fault : op_fault Inv := fun a => Q.op (fun h0 hi => by
  obtain ⟨D, t⟩ := hi.qs
  by_cases ha : inb a 2 = true
  · obtain ⟨r, q1, q2⟩ := q_fault t ha
    refine ⟨r, q1, fun h hs => ?_⟩
    unfold f_Mo_fault
    rw [m_isText, bd2_s, bI_if, if_pos ha, bd2_id]
    exact q2.q h hs
  · refine ⟨-2, fun h hs => ⟨h, ?_, hs⟩, fun h hs => ⟨h, ?_, hs⟩⟩
    · unfold f_CS_fault
      rw [c_isText, bd2_s, bI_if, if_neg ha]
    · unfold f_Mo_fault
      rw [m_isText, bd2_s, bI_if, if_neg ha])
theorem lit_ne {a b : Nat} (ha : a < 1000) (hb : b < 1000) (h : a ≠ b) : ¬ (nI a = nI b) := nI_ne (by omega) (by omega) h
theorem q_count {D : DT} {h0 : HP} {a : Int32} (t : QS D h0) (hf : FB h0) : ∃ r, Q h0 (f_CS_count a) r ∧ Q h0 (f_Mo_count a) r := by
  have hsum : ∀ x, x = (0 : Int32) ∨ x = 1 ∨ x = 5 ∨ x = 6 → Q h0 (f_Mo_sumOf x) (if x = 0 then nI (dnc D) else if x = 1 then nI (dnb D) else if x = 5 then nI (sumN (dnc D) (fun k => av (WE D 23 k) 3)) else nI (sumN (dnc D) (fun k => av (WE D 23 k) 5))) := fun x hx h hs => by
    obtain ⟨h', e, r, m, s⟩ := m_told (t.sf hs)
    refine ⟨h', ?_, hs.tr s⟩
    unfold f_Mo_sumOf
    rw [e, bd1_s]
    simp only [ltt_s, rI, m.1, m.2.1, m_feesAll m.1 m.2.2.1 r.1, m_brokeAll m.1 m.2.2.1 r.1, bd2_s]
    rcases hx with rfl | rfl | rfl | rfl <;> rfl
  by_cases z0 : a = 0
  · subst z0
    refine ⟨nI (dnc D), fun h hs => ⟨h, ?_, hs⟩, fun h hs => ?_⟩
    · unfold f_CS_count
      rw [if_pos rfl, ltt_s, rI, (t.sf hs).1.1]
    · unfold f_Mo_count
      rw [if_pos rfl, bd2_id]
      exact hsum 0 (Or.inl rfl) h hs
  by_cases z1 : a = 1
  · subst z1
    refine ⟨nI (dnb D), fun h hs => ⟨h, ?_, hs⟩, fun h hs => ?_⟩
    · unfold f_CS_count
      rw [if_neg z0, if_pos rfl, ltt_s, rI, (t.sf hs).1.2.1]
    · unfold f_Mo_count
      rw [if_neg z0, if_pos rfl, bd2_id]
      exact hsum 1 (Or.inr (Or.inl rfl)) h hs
  by_cases z2 : a = 2
  · subst z2
    obtain ⟨n, tc⟩ := t.2.1
    refine ⟨nI n, fun h hs => ⟨h, ?_, hs⟩, fun h hs => ⟨h, ?_, hs⟩⟩
    · unfold f_CS_count
      rw [if_neg z0, if_neg z1, if_pos rfl, ltt_s, rI, (tc.sf hs).1.2.1]
    · unfold f_Mo_count
      rw [if_neg z0, if_neg z1, if_pos rfl, show ((2 : Int32) - 2) = 0 from by decide, show inb 0 2 = true from by decide, ckk_t, ltt_s, show rA h 33 0 = nI n from (tc.sf hs).2.1]
  by_cases z3 : a = 3
  · subst z3
    obtain ⟨n, tc⟩ := t.2.2.1
    refine ⟨nI n, fun h hs => ⟨h, ?_, hs⟩, fun h hs => ⟨h, ?_, hs⟩⟩
    · unfold f_CS_count
      rw [if_neg z0, if_neg z1, if_neg z2, if_pos rfl, ltt_s, rI, (tc.sf hs).1.2.1]
    · unfold f_Mo_count
      rw [if_neg z0, if_neg z1, if_neg z2, if_pos rfl, show ((3 : Int32) - 2) = 1 from by decide, show inb 1 2 = true from by decide, ckk_t, ltt_s, show rA h 33 1 = nI n from (tc.sf hs).2.1]
  by_cases z4 : a = 4
  · subst z4
    refine ⟨nI (dns D), fun h hs => ⟨h, ?_, hs⟩, fun h hs => ⟨h, ?_, hs⟩⟩
    · unfold f_CS_count
      rw [if_neg z0, if_neg z1, if_neg z2, if_neg z3, if_pos rfl, ltt_s, rI, (t.sf hs).2.2.2.1.2.1]
    · unfold f_Mo_count
      rw [if_neg z0, if_neg z1, if_neg z2, if_neg z3, if_pos rfl, ltt_s, rI, (t.sf hs).2.2.2.1.2.2.1]
  by_cases z5 : a = 5
  · subst z5
    refine ⟨nI (sumN (dnc D) (fun k => av (WE D 23 k) 3)), fun h hs => ?_, fun h hs => ?_⟩
    · unfold f_CS_count
      rw [if_neg z0, if_neg z1, if_neg z2, if_neg z3, if_neg z4, if_pos rfl, bd2_id]
      exact qc_inAll (w := 3) t (by omega) (by omega) h hs
    · unfold f_Mo_count
      rw [if_neg z0, if_neg z1, if_neg z2, if_neg z3, if_neg z4, if_pos rfl, bd2_id]
      exact hsum 5 (Or.inr (Or.inr (Or.inl rfl))) h hs
  by_cases z6 : a = 6
  · subst z6
    refine ⟨nI (sumN (dnc D) (fun k => av (WE D 23 k) 5)), fun h hs => ?_, fun h hs => ?_⟩
    · unfold f_CS_count
      rw [if_neg z0, if_neg z1, if_neg z2, if_neg z3, if_neg z4, if_neg z5, if_pos rfl, bd2_id]
      exact qc_inAll (w := 5) t (by omega) (by omega) h hs
    · unfold f_Mo_count
      rw [if_neg z0, if_neg z1, if_neg z2, if_neg z3, if_neg z4, if_neg z5, if_pos rfl, bd2_id]
      exact hsum 6 (Or.inr (Or.inr (Or.inr rfl))) h hs
  by_cases z7 : a = 7
  · subst z7
    obtain ⟨m, tn⟩ := t.2.2.2.2.2.2.2.2
    refine ⟨nI m, fun h hs => ⟨h, ?_, hs⟩, fun h hs => ⟨h, ?_, hs⟩⟩
    · unfold f_CS_count
      rw [if_neg z0, if_neg z1, if_neg z2, if_neg z3, if_neg z4, if_neg z5, if_neg z6, if_pos rfl, ltt_s, rI, (tn.sf hs).2.1]
    · unfold f_Mo_count
      rw [if_neg z0, if_neg z1, if_neg z2, if_neg z3, if_neg z4, if_neg z5, if_neg z6, if_pos rfl, ltt_s, rI, (tn.sf hs).2.2.1]
  by_cases z8 : a = 8
  · subst z8
    refine ⟨h0.1 71 10, fun h hs => ⟨h, ?_, hs⟩, fun h hs => ⟨h, ?_, hs⟩⟩
    · unfold f_CS_count
      rw [if_neg z0, if_neg z1, if_neg z2, if_neg z3, if_neg z4, if_neg z5, if_neg z6, if_neg z7, if_pos rfl, ltt_s, rI, hs.g 71]
    · unfold f_Mo_count
      rw [if_neg z0, if_neg z1, if_neg z2, if_neg z3, if_neg z4, if_neg z5, if_neg z6, if_neg z7, if_pos rfl, ltt_s, rI, hs.2.2.2.2, ← hf]
  refine ⟨-2, fun h hs => ⟨h, ?_, hs⟩, fun h hs => ⟨h, ?_, hs⟩⟩
  · unfold f_CS_count
    rw [if_neg z0, if_neg z1, if_neg z2, if_neg z3, if_neg z4, if_neg z5, if_neg z6, if_neg z7, if_neg z8]
  · unfold f_Mo_count
    rw [if_neg z0, if_neg z1, if_neg z2, if_neg z3, if_neg z4, if_neg z5, if_neg z6, if_neg z7, if_neg z8]
theorem o_count : op_count Inv := fun a => Q.op (fun h0 hi => by
  obtain ⟨D, t⟩ := hi.qs
  exact q_count t hi.2.2.2.2.1)
theorem qc_camel {D : DT} {h0 : HP} {k : Nat} {a : Int32} (t : QS D h0) (hk : k < dnc D) (ha : inb a 2 = true) : Q h0 (f_CS_camel (nI k) a) (if a = 0 then nI (dso D k) else nI (4 * dfg D k)) := fun h hs => by
  have t' := t.sf hs
  have b1 := t'.1.2.2.1
  obtain ⟨g1, g2, g3⟩ := t'.1.2.2.2.2.2.2.2.2.2.2 k hk
  refine ⟨h, ?_, hs⟩
  have hb : inb (nI k) 8 = true := inb_lit (by omega) (by omega)
  have e4 : (4 : Int32) * nI (dfg D k) = nI (4 * dfg D k) := pk_mul 4 _
  unfold f_CS_camel f_CS_strengthOf
  rw [c_isCamel t'.1, bd2_s, bI_if, if_pos (inb_lit hk (by omega)), two_c, if_pos ha]
  simp only [hb, ckk_t, ltt_s, rA_nI (show k < 2 ^ 31 by omega), g1, g2, bd2_s, e4]
  by_cases z : a = 0
  · rw [if_pos z, if_pos z]
  · rw [if_neg z, if_neg z]
theorem m_camelOf {D : DT} {h : HP} {k : Nat} {a : Int32} (m : MC D h) (b1 : dnc D ≤ 8) (hk : k < dnc D) : f_Mo_camelOf (nI k) a h = some (if a = 0 then nI (dso D k) else nI (4 * dfg D k), h) := by
  obtain ⟨g1, g2⟩ := m.2.2.2 k hk
  have hb : inb (nI k) 9 = true := inb_lit (by omega) (by omega)
  have e4 : (4 : Int32) * nI (dfg D k) = nI (4 * dfg D k) := pk_mul 4 _
  unfold f_Mo_camelOf
  simp only [hb, ckk_t, ltt_s, rA_nI (show k < 2 ^ 31 by omega), g1, g2, e4]
  by_cases z : a = 0
  · rw [if_pos z, if_pos z]
  · rw [if_neg z, if_neg z]
theorem o_camel : op_camel Inv := fun a1 a2 => Q.op (fun h0 hi => by
  obtain ⟨D, t⟩ := hi.qs
  have b1 := t.1.2.2.1
  by_cases z1 : inb a1 (dnc D) = true
  · by_cases z2 : inb a2 2 = true
    · obtain ⟨k, k1, k2⟩ := (inb_iff (by omega)).mp z1
      refine ⟨_, by rw [k2]; exact qc_camel t k1 z2, fun h hs => ?_⟩
      obtain ⟨h1, e1, m1, s1⟩ := m_isCamel (a := a1) (t.sf hs)
      refine ⟨h1, ?_, hs.tr s1⟩
      unfold f_Mo_camel
      rw [e1, bd2_s, bI_if, if_pos z1, m_isTwo, bd2_s, bI_if, if_pos z2, bd2_id, k2, m_camelOf m1 b1 k1]
    · refine ⟨-2, fun h hs => ⟨h, ?_, hs⟩, fun h hs => ?_⟩
      · unfold f_CS_camel
        rw [c_isCamel (t.sf hs).1, bd2_s, bI_if, if_pos z1, two_c, if_neg z2]
      · obtain ⟨h1, e1, m1, s1⟩ := m_isCamel (a := a1) (t.sf hs)
        refine ⟨h1, ?_, hs.tr s1⟩
        unfold f_Mo_camel
        rw [e1, bd2_s, bI_if, if_pos z1, m_isTwo, bd2_s, bI_if, if_neg z2]
  · refine ⟨-2, fun h hs => ⟨h, ?_, hs⟩, fun h hs => ?_⟩
    · unfold f_CS_camel
      rw [c_isCamel (t.sf hs).1, bd2_s, bI_if, if_neg z1]
    · obtain ⟨h1, e1, m1, s1⟩ := m_isCamel (a := a1) (t.sf hs)
      refine ⟨h1, ?_, hs.tr s1⟩
      unfold f_Mo_camel
      rw [e1, bd2_s, bI_if, if_neg z1])
theorem inb3 {a : Int32} (h : inb a 3 = true) : a = 0 ∨ a = 1 ∨ a = 2 := by
  obtain ⟨j, h1, h2⟩ := (inb_iff (by omega)).mp h
  have : j = 0 ∨ j = 1 ∨ j = 2 := by omega
  rcases this with rfl | rfl | rfl
  · exact Or.inl h2
  · exact Or.inr (Or.inl h2)
  · exact Or.inr (Or.inr h2)
theorem qc_bale {D : DT} {h0 : HP} {k : Nat} {a : Int32} (t : QS D h0) (hk : k < dnb D) (ha : inb a 3 = true) : Q h0 (f_CS_bale (nI k) a) (if a = 0 then dbo D k else if a = 1 then nI (dbw D k) else dbd D k) := fun h hs => by
  have t' := t.sf hs
  have b1 := t'.1.2.2.2.1
  obtain ⟨g1, g2, g3, g4⟩ := t'.1.2.2.2.2.2.1 k hk
  refine ⟨h, ?_, hs⟩
  have hb : inb (nI k) 10 = true := inb_lit (by omega) (by omega)
  unfold f_CS_bale
  rw [c_isBale t'.1, bd2_s, bI_if, if_pos (inb_lit hk (by omega))]
  simp only [hb, ckk_t, ltt_s, rA_nI (show k < 2 ^ 31 by omega), g1, g2, g3]
  rcases inb3 ha with rfl | rfl | rfl <;> rfl
theorem m_baleOf {D : DT} {h : HP} {k : Nat} {a : Int32} (m : MC D h) (b1 : dnb D ≤ 10) (hk : k < dnb D) : f_Mo_baleOf (nI k) a h = some (if a = 0 then dbo D k else if a = 1 then nI (dbw D k) else dbd D k, h) := by
  obtain ⟨g1, g2, g3⟩ := m.2.2.1 k hk
  have hb : inb (nI k) 11 = true := inb_lit (by omega) (by omega)
  unfold f_Mo_baleOf
  simp only [hb, ckk_t, ltt_s, rA_nI (show k < 2 ^ 31 by omega), g1, g2, g3]
  by_cases z : a = 0
  · rw [if_pos z, if_pos z]
  · rw [if_neg z, if_neg z]
    by_cases z2 : a = 1
    · rw [if_pos z2, if_pos z2]
    · rw [if_neg z2, if_neg z2]
theorem o_bale : op_bale Inv := fun a1 a2 => Q.op (fun h0 hi => by
  obtain ⟨D, t⟩ := hi.qs
  have b1 := t.1.2.2.2.1
  by_cases z1 : inb a1 (dnb D) = true
  · by_cases z2 : inb a2 3 = true
    · obtain ⟨k, k1, k2⟩ := (inb_iff (by omega)).mp z1
      refine ⟨_, by rw [k2]; exact qc_bale t k1 z2, fun h hs => ?_⟩
      obtain ⟨h1, e1, m1, s1⟩ := m_isBale (a := a1) (t.sf hs)
      refine ⟨h1, ?_, hs.tr s1⟩
      unfold f_Mo_bale
      rw [e1, bd2_s, bI_if, if_pos z1, m_in2, bd2_s, bI_if, if_pos z2, bd2_id, k2, m_baleOf m1 b1 k1]
    · refine ⟨-2, fun h hs => ⟨h, ?_, hs⟩, fun h hs => ?_⟩
      · unfold f_CS_bale
        have n0 : ¬ a2 = 0 := fun z => z2 (by rw [z]; decide)
        have n1 : ¬ a2 = 1 := fun z => z2 (by rw [z]; decide)
        have n2 : ¬ a2 = 2 := fun z => z2 (by rw [z]; decide)
        rw [c_isBale (t.sf hs).1, bd2_s, bI_if, if_pos z1, if_neg n0, if_neg n1, if_neg n2]
      · obtain ⟨h1, e1, m1, s1⟩ := m_isBale (a := a1) (t.sf hs)
        refine ⟨h1, ?_, hs.tr s1⟩
        unfold f_Mo_bale
        rw [e1, bd2_s, bI_if, if_pos z1, m_in2, bd2_s, bI_if, if_neg z2]
  · refine ⟨-2, fun h hs => ⟨h, ?_, hs⟩, fun h hs => ?_⟩
    · unfold f_CS_bale
      rw [c_isBale (t.sf hs).1, bd2_s, bI_if, if_neg z1]
    · obtain ⟨h1, e1, m1, s1⟩ := m_isBale (a := a1) (t.sf hs)
      refine ⟨h1, ?_, hs.tr s1⟩
      unfold f_Mo_bale
      rw [e1, bd2_s, bI_if, if_neg z1])
