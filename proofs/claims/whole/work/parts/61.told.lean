/-! checks; the reference takes things as told -/
def bI (b : Bool) : Int32 := if b = true then 1 else 0
theorem inb_iff {a : Int32} {n : Nat} (hn : n ≤ 1000) : inb a n = true ↔ ∃ j, j < n ∧ a = nI j := by
  constructor
  · intro h
    unfold inb at h
    have h1 := of_decide_eq_true h
    obtain ⟨j, j1, j2⟩ := nI_of (x := a) (fun z => h1 (Or.inl z))
    subst j2
    rw [nI_clamp j1] at h1
    exact ⟨j, by omega, rfl⟩
  · rintro ⟨j, h1, h2⟩
    subst h2
    exact inb_lit h1 hn
theorem inb_c {a : Int32} {n : Nat} (hn : n ≤ 1000) : inb a n = true ↔ ¬ a < 0 ∧ ¬ nI n ≤ a := by
  rw [inb_iff hn]
  constructor
  · rintro ⟨j, h1, h2⟩
    subst h2
    exact ⟨nI_pos (by omega), nI_ge h1 (by omega)⟩
  · rintro ⟨h1, h2⟩
    rcases pk_ix a (n := n) (by omega) with z | z | z
    · exact absurd z h1
    · exact absurd z h2
    · exact z
theorem inb_m {a : Int32} {n : Nat} (hn : n ≤ 1000) : inb a n = true ↔ ¬ a < 0 ∧ ¬ nI n - 1 < a := by
  rw [inb_c hn]
  have h1 : (nI n - nI 1).toInt = (n : Int) - 1 := pk_sub_toInt (by omega) (by omega)
  have h2 : (nI n).toInt = (n : Int) := nI_toInt (by omega)
  have h3 : (nI n - 1 < a) ↔ (nI n ≤ a) := by
    rw [Int32.lt_iff_toInt_lt, Int32.le_iff_toInt_le, h2, show (nI n - 1).toInt = (n : Int) - 1 from h1]
    omega
  rw [h3]
theorem inb_l {a : Int32} {n : Nat} (hn : n < 1000) : inb a (n + 1) = true ↔ ¬ a < 0 ∧ a ≤ nI n := by
  rw [inb_c (by omega)]
  have h2 : (nI n).toInt = (n : Int) := nI_toInt (by omega)
  have h1 : (nI (n + 1)).toInt = ((n + 1 : Nat) : Int) := nI_toInt (by omega)
  have h3 : (nI (n + 1) ≤ a) ↔ ¬ (a ≤ nI n) := by
    rw [Int32.le_iff_toInt_le, Int32.le_iff_toInt_le, h1, h2]
    omega
  rw [h3, Classical.not_not]
theorem inb_t {a : Int32} {n : Nat} (hn : n ≤ 1000) : inb a n = true ↔ ¬ a < 0 ∧ a < nI n := by
  have h3 : (¬ nI n ≤ a) ↔ a < nI n := Int32.not_le
  rw [inb_c hn, h3]
theorem inb_n {a : Int32} {n : Nat} (hn : n < 1000) : inb a (n + 1) = true ↔ ¬ a < 0 ∧ ¬ nI n < a := by
  have h3 : (¬ nI n < a) ↔ a ≤ nI n := Int32.not_lt
  rw [inb_l hn, h3]
theorem if3 {α : Type} {p q : Prop} [Decidable p] [Decidable q] {b : Bool} {x y : α} (h : b = true ↔ ¬ p ∧ ¬ q) : (if p then x else if q then x else y) = if b = true then y else x := by
  by_cases hp : p
  · rw [if_pos hp, if_neg (fun z => (h.mp z).1 hp)]
  · by_cases hq : q
    · rw [if_neg hp, if_pos hq, if_neg (fun z => (h.mp z).2 hq)]
    · rw [if_neg hp, if_neg hq, if_pos (h.mpr ⟨hp, hq⟩)]
theorem if4 {α : Type} {p q : Prop} [Decidable p] [Decidable q] {b : Bool} {x y : α} (h : b = true ↔ ¬ p ∧ q) : (if p then x else if q then y else x) = if b = true then y else x := by
  by_cases hp : p
  · rw [if_pos hp, if_neg (fun z => (h.mp z).1 hp)]
  · by_cases hq : q
    · rw [if_neg hp, if_pos hq, if_pos (h.mpr ⟨hp, hq⟩)]
    · rw [if_neg hp, if_neg hq, if_neg (fun z => hq (h.mp z).2)]
theorem sbI {b : Bool} {h : HP} : (if b = true then some ((1 : Int32), h) else some (0, h)) = some (bI b, h) := by
  unfold bI
  cases b <;> rfl
theorem z01I {b : Bool} : z01 (bI b) = true := by cases b <;> rfl
theorem bI0 {b : Bool} : (bI b = 0) ↔ b = false := by cases b <;> decide
theorem c_isText {a : Int32} {h : HP} : f_CS_isText a h = some (bI (inb a 2), h) := (if3 (inb_c (n := 2) (by omega))).trans sbI
theorem c_isDay {a : Int32} {h : HP} : f_CS_isDay a h = some (bI (inb a 24), h) := (if3 (inb_c (n := 24) (by omega))).trans sbI
theorem c_isPlace {a : Int32} {h : HP} : f_CS_isPlaceOfCamel a h = some (bI (inb a 8), h) := (if3 (inb_c (n := 8) (by omega))).trans sbI
theorem c_isSheet {a : Int32} {h : HP} : f_CS_isSheet a h = some (bI (inb a 4), h) := (if3 (inb_c (n := 4) (by omega))).trans sbI
theorem c_isForm {a : Int32} {h : HP} : f_CS_isForm a h = some (bI (inb a 3), h) := (if3 (inb_c (n := 3) (by omega))).trans sbI
theorem m_inN {a : Int32} {n : Nat} {h : HP} (hn : n < 1000) : f_Mo_in a 0 (nI n) h = some (bI (inb a (n + 1)), h) := (if3 (inb_n hn)).trans sbI
theorem m_inM {a : Int32} {n : Nat} {h : HP} (hn : n ≤ 1000) : f_Mo_in a 0 (nI n - 1) h = some (bI (inb a n), h) := (if3 (inb_m hn)).trans sbI
theorem m_isText {a : Int32} {h : HP} : f_Mo_isText a h = some (bI (inb a 2), h) := by
  unfold f_Mo_isText
  rw [show f_Mo_in a 0 1 h = _ from m_inN (n := 1) (by omega), bd2_s, z01I, ckk_t]
theorem m_isTwo {a : Int32} {h : HP} : f_Mo_isTwo a h = some (bI (inb a 2), h) := m_isText
theorem m_isDay {a : Int32} {h : HP} : f_Mo_isDay a h = some (bI (inb a 24), h) := by
  unfold f_Mo_isDay
  rw [show f_Mo_in a 0 23 h = _ from m_inN (n := 23) (by omega), bd2_s, z01I, ckk_t]
theorem m_isEight {a : Int32} {h : HP} : f_Mo_isEight a h = some (bI (inb a 8), h) := by
  unfold f_Mo_isEight
  rw [show f_Mo_in a 0 7 h = _ from m_inN (n := 7) (by omega), bd2_s, z01I, ckk_t]
theorem m_isSheet {a : Int32} {h : HP} : f_Mo_isSheet a h = some (bI (inb a 4), h) := by
  unfold f_Mo_isSheet
  rw [show f_Mo_in a 0 3 h = _ from m_inN (n := 3) (by omega), bd2_s, z01I, ckk_t]
theorem m_in2 {a : Int32} {h : HP} : f_Mo_in a 0 2 h = some (bI (inb a 3), h) := m_inN (n := 2) (by omega)
theorem c_isCamel {D : DT} {a : Int32} {h : HP} (hc : CD D h) : f_CS_isCamel a h = some (bI (inb a (dnc D)), h) := by
  have b := hc.2.2.1
  unfold f_CS_isCamel
  simp only [ltt_s, rI, hc.1]
  exact (if3 (inb_c (n := dnc D) (by omega))).trans sbI
theorem c_isBale {D : DT} {a : Int32} {h : HP} (hc : CD D h) : f_CS_isBale a h = some (bI (inb a (dnb D)), h) := by
  have b := hc.2.2.2.1
  unfold f_CS_isBale
  simp only [ltt_s, rI, hc.2.1]
  exact (if3 (inb_c (n := dnb D) (by omega))).trans sbI
/-- camels and bales of the reference -/
def MC (D : DT) (h : HP) : Prop := h.1 34 2 = nI (dnc D) ∧ h.1 34 5 = nI (dnb D) ∧ (∀ i, i < dnb D → h.1 27 i = dbd D i ∧ h.1 29 i = dbo D i ∧ h.1 28 i = nI (dbw D i)) ∧ ∀ i, i < dnc D → h.1 31 i = nI (dso D i) ∧ h.1 30 i = nI (dfg D i)
theorem m_read2 {D : DT} {a : Int32} {h : HP} (t : QS D h) : ∃ h', f_Mo_faultOf a h = some (if a = 0 then h.1 70 3 else h.1 66 3, h') ∧ MC D h' ∧ SF h h' := by
  obtain ⟨c, ⟨n, t1⟩, ⟨n1, t2⟩, -⟩ := t
  obtain ⟨h', e1, e2, e3, e4, e5, e6, e7⟩ := m_faultOf (a := a) t1 t2
  obtain ⟨c1, c2, b1, b2, b3, c3, c4, c5, c6, c7, c8⟩ := c
  refine ⟨h', e1, ⟨e2, e3, fun i hi => ?_, fun i hi => ?_⟩, SF.of e6 (by decide) (e7 9 (by decide) (by decide)) (e7 34 (by decide) (by decide)) (e7 44 (by decide) (by decide))⟩
  · obtain ⟨g1, g2, g3⟩ := e5 i hi
    obtain ⟨k1, k2, k3⟩ := t2.1.2.2.2.2.2.2 i hi
    obtain ⟨d1, d2, d3, d4⟩ := c3 i hi
    exact ⟨by rw [g3, ← k3, d1], by rw [g1, ← k1, d2], by rw [g2, ← k2, d3]⟩
  · obtain ⟨g1, g2⟩ := e4 i hi
    obtain ⟨k1, k2⟩ := t1.1.2.2.2.2.2.2 i hi
    obtain ⟨d1, d2, d3⟩ := c8 i hi
    exact ⟨by rw [g1, ← k1, d1], by rw [g2, ← k2, d2]⟩
theorem m_reads {D : DT} {h : HP} (t : QS D h) : ∃ h', f_Mo_reads h = some h' ∧ MC D h' ∧ SF h h' := by
  obtain ⟨h', e1, e2, e3⟩ := m_read2 (a := 0) t
  exact ⟨h', by unfold f_Mo_reads; rw [e1, bd2_s], e2, e3⟩
theorem m_isCamel {D : DT} {a : Int32} {h : HP} (t : QS D h) : ∃ h', f_Mo_isCamel a h = some (bI (inb a (dnc D)), h') ∧ MC D h' ∧ SF h h' := by
  have b := t.1.2.2.1
  obtain ⟨h', e1, e2, e3⟩ := m_reads t
  refine ⟨h', ?_, e2, e3⟩
  unfold f_Mo_isCamel
  rw [e1, bd1_s, ltt_s]
  simp only [rI, e2.1]
  rw [m_inM (by omega), bd2_s, z01I, ckk_t]
theorem m_isBale {D : DT} {a : Int32} {h : HP} (t : QS D h) : ∃ h', f_Mo_isBale a h = some (bI (inb a (dnb D)), h') ∧ MC D h' ∧ SF h h' := by
  have b := t.1.2.2.2.1
  obtain ⟨h', e1, e2, e3⟩ := m_reads t
  refine ⟨h', ?_, e2, e3⟩
  unfold f_Mo_isBale
  rw [e1, bd1_s, ltt_s]
  simp only [rI, e2.2.1]
  rw [m_inM (by omega), bd2_s, z01I, ckk_t]
theorem l_14 {ns : Nat} (hn : ns ≤ 8) : ∀ (fu i : Nat) (h : HP), h.1 34 9 = nI ns → i ≤ ns → ns < i + fu → (∀ j, j < i → h.1 24 j = h.1 26 j ∧ h.1 23 j = h.1 25 j) → ∃ v h', lp_Mo_asTold_14 fu (nI i) h = some (v, h') ∧ (∀ j, j < ns → h'.1 24 j = h.1 26 j ∧ h'.1 23 j = h.1 25 j) ∧ FR [23, 24] h h' := by
  intro fu
  induction fu with
  | zero => intro i h _ h1 h2; omega
  | succ fu ih =>
    intro i h h9 hi hf hj
    have q : (nI ns ≤ nI i) ↔ ns ≤ i := nI_leI (by omega) (by omega)
    rw [lp_Mo_asTold_14]
    simp only [ltt_s, rI, h9, q]
    by_cases he : ns ≤ i
    · simp only [he, if_true]
      exact ⟨_, h, rfl, fun j hj' => hj j (by omega), FR.rf⟩
    · simp only [he, if_false]
      have b1 : inb (nI i) 8 = true := inb_lit (by omega) (by omega)
      have b2 : inb (nI i) 17 = true := inb_lit (by omega) (by omega)
      have hil : i < 2 ^ 31 := by omega
      have e1 : (sI h 24 i (h.1 26 i)).1 25 i = h.1 25 i := by simp [rd_sI]
      simp only [b1, b2, ckk_t, rA_nI hil, wA_nI hil, e1, nI_1]
      obtain ⟨v, h', p1, p2, p3⟩ := ih (i + 1) (sI (sI h 24 i (h.1 26 i)) 23 i (h.1 25 i)) (by simp [rd_sI, h9]) (by omega) (by omega) (fun j hj' => by
        by_cases e : j = i
        · subst e
          simp [rd_sI]
        · have := hj j (by omega)
          simp [rd_sI, e, this])
      refine ⟨v, h', p1, fun j hj' => ?_, FR.tr (by repeat' (first | exact FR.rf | refine FR.s ?_ (by decide))) p3⟩
      have := p2 j hj'
      simpa [rd_sI] using this
theorem m_asTold {D : DT} {h : HP} (t : QS D h) : ∃ h', f_Mo_asTold h = some h' ∧ MD D h' ∧ SF h h' := by
  obtain ⟨h1, e1, m1, s1⟩ := m_reads t
  have t1 := t.sf s1
  obtain ⟨c, -, -, ⟨s8, s60, s9, sd⟩, st, bo, h60, lo, -⟩ := t1
  obtain ⟨c1, c2, b1, b2, b3, c3, c4, c5, c6, c7, c8⟩ := c
  obtain ⟨v, h2, e2, p2, f2⟩ := l_14 s8 400 0 (sI h1 34 12 (nI (dns D))) (by simp [rd_sI, s9]) (Nat.zero_le _) (by omega) (fun j hj => absurd hj (Nat.not_lt_zero _))
  have e34 : h2.1 34 = (sI h1 34 12 (nI (dns D))).1 34 := f2.2 34 (by decide)
  refine ⟨sI h2 34 15 0, ?_, ⟨?_, ?_, b1, b2, by omega, ?_, ?_, fun i hi => ?_, fun i hi => ?_, fun i hi => ?_⟩, s1.tr ?_⟩
  · unfold f_Mo_asTold
    rw [e1, bd1_s]
    simp only [ltt_s, rI, s9]
    rw [show lp_Mo_asTold_14 400 0 _ = _ from e2, bd2_s]
  · rw [rd_sI, e34]
    simp [rd_sI, m1.1]
  · rw [rd_sI, e34]
    simp [rd_sI, m1.2.1]
  · rw [rd_sI, e34]
    simp [rd_sI]
  · rw [rd_sI]
    simp [lo]
  · obtain ⟨g1, g2, g3⟩ := m1.2.2.1 i hi
    have g : ∀ a, a ≠ 34 → a ≠ 24 → a ≠ 23 → (sI h2 34 15 0).1 a i = h1.1 a i := fun a z1 z2 z3 => by
      rw [rd_sI, f2.2 a (by simp [z2, z3]), rd_sI]
      simp [z1]
    rw [g 27 (by decide) (by decide) (by decide), g 29 (by decide) (by decide) (by decide), g 28 (by decide) (by decide) (by decide)]
    exact ⟨g1, g2, g3, (c3 i hi).2.2.2, bo i hi⟩
  · obtain ⟨p3, p4⟩ := p2 i hi
    obtain ⟨q1, q2, q3, q4⟩ := sd i hi
    obtain ⟨r1, r2⟩ := st i hi
    obtain ⟨c', c1', c2'⟩ := q4
    refine ⟨?_, ?_, c', c1', r2.trans c2'⟩
    · rw [rd_sI]
      simp only [show ¬ (24 = 34 ∧ i = 15) from by omega, if_false, p3, rd_sI]
      simp [q1, r1]
    · rw [rd_sI]
      simp only [show ¬ (23 = 34 ∧ i = 15) from by omega, if_false, p4, rd_sI]
      simp [q2, r2]
  · obtain ⟨g1, g2⟩ := m1.2.2.2 i hi
    have g : ∀ a, a ≠ 34 → a ≠ 24 → a ≠ 23 → (sI h2 34 15 0).1 a i = h1.1 a i := fun a z1 z2 z3 => by
      rw [rd_sI, f2.2 a (by simp [z2, z3]), rd_sI]
      simp [z1]
    rw [g 31 (by decide) (by decide) (by decide), g 30 (by decide) (by decide) (by decide)]
    exact ⟨g1, g2, (c8 i hi).2.2⟩
  · have f3 : FR [23, 24, 34] h1 (sI h2 34 15 0) := FR.s (FR.tr (FR.s FR.rf (by decide)) (f2.mono (by decide))) (by decide)
    refine SF.of f3 (by decide) ?_ ?_ ?_ <;> (rw [rd_sI, e34]; simp [rd_sI])
theorem m_told {D : DT} {h : HP} (t : QS D h) : ∃ h', f_Mo_runsTold h = some h' ∧ MRun D h' ∧ MD D h' ∧ SF h h' := by
  obtain ⟨h1, e1, m1, s1⟩ := m_asTold t
  obtain ⟨h2, e2, r2, k2⟩ := m_runs m1
  exact ⟨h2, by unfold f_Mo_runsTold; rw [e1, bd1_s, e2, bd1_s], r2, m1.keep k2, s1.tr k2.sf⟩
theorem MD.mc {D : DT} {h : HP} (m : MD D h) : MC D h := ⟨m.1, m.2.1, fun i hi => ⟨(m.2.2.2.2.2.2.2.1 i hi).1, (m.2.2.2.2.2.2.2.1 i hi).2.1, (m.2.2.2.2.2.2.2.1 i hi).2.2.1⟩, fun i hi => ⟨(m.2.2.2.2.2.2.2.2.2 i hi).1, (m.2.2.2.2.2.2.2.2.2 i hi).2.1⟩⟩
/-- as Q, and the reference has read camels and bales -/
def QM {α : Type} (D : DT) (h0 : HP) (f : HP → Option (α × HP)) (r : α) : Prop := ∀ h, SF h0 h → ∃ h', f h = some (r, h') ∧ SF h0 h' ∧ MC D h'
theorem QM.q {α : Type} {D : DT} {h0 : HP} {f : HP → Option (α × HP)} {r : α} (q : QM D h0 f r) : Q h0 f r := fun h hs => by
  obtain ⟨h', e1, e2, e3⟩ := q h hs
  exact ⟨h', e1, e2⟩
