/-! through, lost, first, best, whole, tired, at -/
theorem qc_inAll {D : DT} {h0 : HP} {w : Nat} (t : QS D h0) (hw : w < 8) (h6 : w ≠ 6) : Q h0 (f_Cv_inAll (nI w)) (nI (sumN (dnc D) (fun k => av (WE D 23 k) w))) := fun h hs => by
  obtain ⟨h', e, f⟩ := c_inAll (t.sf hs).1 hw h6
  exact ⟨h', e, hs.tr (c_sf f)⟩
theorem bd2_id {α : Type} {o : Option (α × HP)} : bd2 o (fun v h => some (v, h)) = o := by
  cases o with
  | none => rfl
  | some p => rfl
theorem qc_through {D : DT} {h0 : HP} (t : QS D h0) : Q h0 f_CS_through (nI (sumN (dnc D) (fun k => av (WE D 23 k) 4))) := fun h hs => by
  unfold f_CS_through
  rw [bd2_id]
  exact qc_inAll (w := 4) t (by omega) (by omega) h hs
theorem qc_lost {D : DT} {h0 : HP} (t : QS D h0) : Q h0 f_CS_lost (nI (sumN (dnc D) (fun k => av (WE D 23 k) 7))) := fun h hs => by
  unfold f_CS_lost
  rw [bd2_id]
  exact qc_inAll (w := 7) t (by omega) (by omega) h hs
theorem qm_through {D : DT} {h0 : HP} (t : QS D h0) : QM D h0 f_Mo_throughOf (nI (sumN (dnc D) (fun k => av (WE D 23 k) 4))) := fun h hs => by
  obtain ⟨h', e, r, m, s⟩ := m_told (t.sf hs)
  refine ⟨h', ?_, hs.tr s, m.mc⟩
  unfold f_Mo_throughOf
  rw [e, bd1_s, m_throughNow m.1 m.2.2.1 r.1, bd2_s]
theorem qm_lost {D : DT} {h0 : HP} (t : QS D h0) : QM D h0 f_Mo_lostOf (nI (sumN (dnc D) (fun k => av (WE D 23 k) 7))) := fun h hs => by
  obtain ⟨h', e, r, m, s⟩ := m_told (t.sf hs)
  refine ⟨h', ?_, hs.tr s, m.mc⟩
  unfold f_Mo_lostOf
  rw [e, bd1_s]
  simp only [ltt_s, rI, r.1.2.1]
  rw [sumN_cong (dnc D) (f := fun k => a_sp (WR D k 24)) (g := fun k => av (WE D 23 k) 7) (fun k _ => (W24 D k).2.2.2)]
theorem Q.w {α : Type} {h0 : HP} {f g : HP → Option (α × HP)} {r : α} (h : Q h0 g r) (e : ∀ x, f x = bd2 (g x) (fun v h => some (v, h))) : Q h0 f r := fun x hs => by
  rw [e, bd2_id]
  exact h x hs
theorem o_through : op_through Inv := Q.op (fun h0 hi => by
  obtain ⟨D, t⟩ := hi.qs
  exact ⟨_, qc_through t, (qm_through t).q.w (fun _ => rfl)⟩)
theorem o_lost : op_lost Inv := Q.op (fun h0 hi => by
  obtain ⟨D, t⟩ := hi.qs
  exact ⟨_, qc_lost t, (qm_lost t).q.w (fun _ => rfl)⟩)
/-- first -/
def FT (i : Nat) (σ : Nat → WS) (fd fw : Int32) : Prop := ((∀ k, k < i → a_ff (σ k) = 24) ∧ fd = nI 24 ∧ fw = -1) ∨ ∃ m w, m < 24 ∧ w < i ∧ fd = nI m ∧ fw = nI w ∧ a_ff (σ w) = m ∧ ∀ k, k < i → m ≤ a_ff (σ k) ∧ (a_ff (σ k) = m → w ≤ k)
theorem wok_ff {D : DT} {k : Nat} : a_ff (WR D k 24) ≤ 24 := by
  have h := wok_WR (D := D) (k := k) (d := 24) (by omega)
  generalize WR D k 24 = s at h
  obtain ⟨ld, st, li, fe, br, bk, sp, ff⟩ := s
  exact h.2.2.2.2
theorem l_first {D : DT} : ∀ (fu i : Nat) (fd fw : Int32) (h : HP), CD D h → i ≤ dnc D → dnc D < i + fu → FT i (fun k => WR D k 24) fd fw → ∃ v fd' fw' h', lp_Cv_firstToBreak_7 fu (nI i) fd fw h = some (v, fd', fw', h') ∧ FT (dnc D) (fun k => WR D k 24) fd' fw' ∧ FR [52, 53] h h' := by
  intro fu
  induction fu with
  | zero => intro i fd fw h _ h1 h2; omega
  | succ fu ih =>
    intro i fd fw h hc hi hf ht
    have b1 := hc.2.2.1
    have q : (nI (dnc D) ≤ nI i) ↔ dnc D ≤ i := nI_leI (by omega) (by omega)
    rw [lp_Cv_firstToBreak_7]
    simp only [ltt_s, rI, hc.1, q]
    by_cases he : dnc D ≤ i
    · have e : i = dnc D := by omega
      subst e
      simp only [Nat.le_refl, if_true]
      exact ⟨_, _, _, h, rfl, ht, FR.rf⟩
    · simp only [he, if_false]
      obtain ⟨h1, e1, m1, f1⟩ := c_march (k := i) (by omega) hc
      have hff : a_ff (WR D i 24) ≤ 24 := wok_ff
      simp only [e1, bd1_s, m1.f.2, ffI_m1 hff, nI_1]
      by_cases hz : a_ff (WR D i 24) = 24
      · simp only [hz, if_true, bd2_s]
        obtain ⟨v, fd', fw', h', p1, p2, p3⟩ := ih (i + 1) fd fw h1 (hc.keep f1) (by omega) (by omega) (by
          rcases ht with ⟨g1, g2, g3⟩ | ⟨m, w, g1, g2, g3, g4, g5, g6⟩
          · refine Or.inl ⟨fun k hk => ?_, g2, g3⟩
            by_cases ek : k = i
            · subst ek; exact hz
            · exact g1 k (by omega)
          · refine Or.inr ⟨m, w, g1, by omega, g3, g4, g5, fun k hk => ?_⟩
            by_cases ek : k = i
            · subst ek
              show m ≤ a_ff (WR D k 24) ∧ (a_ff (WR D k 24) = m → w ≤ k)
              rw [hz]
              exact ⟨by omega, fun z => by omega⟩
            · exact g6 k (by omega))
        exact ⟨v, fd', fw', h', p1, p2, f1.tr p3⟩
      · have hfi : ffI (a_ff (WR D i 24)) = nI (a_ff (WR D i 24)) := if_neg hz
        simp only [hz, if_false, hfi]
        rcases ht with ⟨g1, g2, g3⟩ | ⟨m, w, g1, g2, g3, g4, g5, g6⟩
        · have q2 : (fd ≤ nI (a_ff (WR D i 24))) ↔ 24 ≤ a_ff (WR D i 24) := by rw [g2]; exact nI_leI (by omega) (by omega)
          simp only [q2]
          rw [if_neg (by omega), bd2_s]
          obtain ⟨v, fd', fw', h', p1, p2, p3⟩ := ih (i + 1) (nI (a_ff (WR D i 24))) (nI i) h1 (hc.keep f1) (by omega) (by omega) (Or.inr ⟨a_ff (WR D i 24), i, by omega, by omega, rfl, rfl, rfl, fun k hk => by
            by_cases ek : k = i
            · subst ek
              exact ⟨Nat.le_refl _, fun _ => Nat.le_refl _⟩
            · have : a_ff (WR D k 24) = 24 := g1 k (by omega)
              show a_ff (WR D i 24) ≤ a_ff (WR D k 24) ∧ (a_ff (WR D k 24) = a_ff (WR D i 24) → i ≤ k)
              exact ⟨by omega, fun z => by omega⟩⟩)
          exact ⟨v, fd', fw', h', p1, p2, f1.tr p3⟩
        · have q2 : (fd ≤ nI (a_ff (WR D i 24))) ↔ m ≤ a_ff (WR D i 24) := by rw [g3]; exact nI_leI (by omega) (by omega)
          simp only [q2]
          by_cases hle : m ≤ a_ff (WR D i 24)
          · rw [if_pos hle, bd2_s]
            obtain ⟨v, fd', fw', h', p1, p2, p3⟩ := ih (i + 1) fd fw h1 (hc.keep f1) (by omega) (by omega) (Or.inr ⟨m, w, g1, by omega, g3, g4, g5, fun k hk => by
              by_cases ek : k = i
              · subst ek
                exact ⟨hle, fun _ => by omega⟩
              · exact g6 k (by omega)⟩)
            exact ⟨v, fd', fw', h', p1, p2, f1.tr p3⟩
          · rw [if_neg hle, bd2_s]
            obtain ⟨v, fd', fw', h', p1, p2, p3⟩ := ih (i + 1) (nI (a_ff (WR D i 24))) (nI i) h1 (hc.keep f1) (by omega) (by omega) (Or.inr ⟨a_ff (WR D i 24), i, by omega, by omega, rfl, rfl, rfl, fun k hk => by
              by_cases ek : k = i
              · subst ek
                exact ⟨Nat.le_refl _, fun _ => Nat.le_refl _⟩
              · have := (g6 k (by omega)).1
                show a_ff (WR D i 24) ≤ a_ff (WR D k 24) ∧ (a_ff (WR D k 24) = a_ff (WR D i 24) → i ≤ k)
                have h3 : m ≤ a_ff (WR D k 24) := this
                exact ⟨by omega, fun z => by omega⟩⟩)
            exact ⟨v, fd', fw', h', p1, p2, f1.tr p3⟩
theorem FT.fw {nc d : Nat} {σ : Nat → WS} {fd fw fd' fw' : Int32} (hn : nc ≤ 8) (h1 : FT nc σ fd fw) (h2 : FW nc d σ fd' fw') : fw = fw' ∧ ((fw = -1 ∧ fd' = -1) ∨ ∃ w, w < nc ∧ fw = nI w ∧ a_ff (σ w) < 24 ∧ fd' = nI (a_ff (σ w))) := by
  rcases h1 with ⟨a1, a2, a3⟩ | ⟨m, w, a1, a2, a3, a4, a5, a6⟩
  · rcases h2.2 with ⟨b1, b2, b3⟩ | ⟨p, v, b1, b2, b3, b4, b5, b6⟩
    · exact ⟨a3.trans b3.symm, Or.inl ⟨a3, b2⟩⟩
    · have := a1 v b2
      omega
  · rcases h2.2 with ⟨b1, b2, b3⟩ | ⟨p, v, b1, b2, b3, b4, b5, b6⟩
    · have := b1 w a2
      omega
    · have e1 := (a6 v b2).1
      have e2 := (b6 w a2).1
      have ep : p = m := by omega
      have e3 := (a6 v b2).2 (by omega)
      have e4 := (b6 w a2).2 (by omega)
      have ew : v = w := by omega
      subst ew
      refine ⟨a4.trans b4.symm, Or.inr ⟨v, a2, a4, by omega, ?_⟩⟩
      rw [b3, b5]
theorem c_first {D : DT} {h : HP} (hc : CD D h) : ∃ fd fw h', f_Cv_firstToBreak h = some (fw, h') ∧ FT (dnc D) (fun k => WR D k 24) fd fw ∧ FR [52, 53] h h' := by
  have b1 := hc.2.2.1
  obtain ⟨v, fd', fw', h', p1, p2, p3⟩ := l_first 400 0 24 (-1) h hc (Nat.zero_le _) (by omega) (Or.inl ⟨fun k hk => absurd hk (Nat.not_lt_zero _), rfl, rfl⟩)
  refine ⟨fd', fw', h', ?_, p2, p3⟩
  unfold f_Cv_firstToBreak
  rw [show lp_Cv_firstToBreak_7 400 0 24 (-1) h = _ from p1, bd4_s]
theorem FW.uniq {nc d : Nat} {σ : Nat → WS} {a b a' b' : Int32} (h1 : FW nc d σ a b) (h2 : FW nc d σ a' b') : a = a' ∧ b = b' := by
  rcases h1.2 with ⟨a1, a2, a3⟩ | ⟨m, w, a1, a2, a3, a4, a5, a6⟩
  · rcases h2.2 with ⟨b1, b2, b3⟩ | ⟨p, v, b1, b2, b3, b4, b5, b6⟩
    · exact ⟨a2.trans b2.symm, a3.trans b3.symm⟩
    · have := a1 v b2
      omega
  · rcases h2.2 with ⟨b1, b2, b3⟩ | ⟨p, v, b1, b2, b3, b4, b5, b6⟩
    · have := b1 w a2
      omega
    · have e1 := (a6 v b2).1
      have e2 := (b6 w a2).1
      have ep : p = m := by omega
      have e3 := (a6 v b2).2 (by omega)
      have e4 := (b6 w a2).2 (by omega)
      have ew : v = w := by omega
      subst ew
      subst ep
      exact ⟨a3.trans b3.symm, a4.trans b4.symm⟩
theorem two_c {α : Type} {a : Int32} {x y : α} : (if a < 0 then x else if a ≤ 1 then y else x) = if inb a 2 = true then y else x := if4 (inb_l (n := 1) (by omega))
theorem inb2 {a : Int32} (h : inb a 2 = true) : a = 0 ∨ a = 1 := by
  obtain ⟨j, h1, h2⟩ := (inb_iff (by omega)).mp h
  have : j = 0 ∨ j = 1 := by omega
  rcases this with rfl | rfl
  · exact Or.inl h2
  · exact Or.inr h2
theorem FW.ex {D : DT} {h0 : HP} (t : QS D h0) : ∃ fd fw, FW (dnc D) 24 (fun k => WR D k 24) fd fw := by
  obtain ⟨h', e, r, m, s⟩ := m_told t
  exact ⟨_, _, r.1.2.2⟩
theorem q_first {D : DT} {h0 : HP} {a : Int32} (t : QS D h0) (ha : inb a 2 = true) : ∃ r, Q h0 (f_CS_first a) r ∧ QM D h0 (f_Mo_firstOf a) r := by
  obtain ⟨fd, fw, hw⟩ := FW.ex t
  have b1 := t.1.2.2.1
  refine ⟨if a = 0 then fd else fw, fun h hs => ?_, fun h hs => ?_⟩
  · have t' := t.sf hs
    obtain ⟨fd', fw', h', e1, ft, f1⟩ := c_first t'.1
    obtain ⟨e2, e3⟩ := ft.fw b1 hw
    subst e2
    unfold f_CS_first
    rw [two_c, if_pos ha, e1, bd2_s]
    rcases inb2 ha with z | z
    · subst z
      rw [if_neg i0_1, if_pos rfl]
      rcases e3 with ⟨g1, g2⟩ | ⟨w, g1, g2, g3, g4⟩
      · rw [if_pos g1]
        exact ⟨h', by rw [g1, g2], hs.tr (c_sf f1)⟩
      · rw [if_neg (by rw [g2]; exact nI_nm1 (by omega)), g2]
        obtain ⟨h2, e4, m2, f2⟩ := c_march g1 (t'.1.keep f1)
        simp only [e4, bd1_s, ltt_s, rI, m2.f.2]
        refine ⟨h2, ?_, (hs.tr (c_sf f1)).tr (c_sf f2)⟩
        rw [g4, ffI, if_neg (by show ¬ a_ff (WR D w 24) = 24; have : a_ff (WR D w 24) < 24 := g3; omega)]
    · subst z
      rw [if_pos rfl, if_neg i1_0]
      exact ⟨h', rfl, hs.tr (c_sf f1)⟩
  · obtain ⟨h', e, r, m, s⟩ := m_told (t.sf hs)
    obtain ⟨e1, e2⟩ := hw.uniq r.1.2.2
    refine ⟨h', ?_, hs.tr s, m.mc⟩
    unfold f_Mo_firstOf
    rw [e, bd1_s]
    simp only [ltt_s, rI, ← e1, ← e2]
    by_cases z : a = 0
    · rw [if_pos z, if_pos z]
    · rw [if_neg z, if_neg z]
theorem bI_if {α : Type} {b : Bool} {x y : α} : (if bI b = 0 then x else y) = if b = true then y else x := by cases b <;> rfl
theorem o_first : op_first Inv := fun a => Q.op (fun h0 hi => by
  obtain ⟨D, t⟩ := hi.qs
  by_cases ha : inb a 2 = true
  · obtain ⟨r, q1, q2⟩ := q_first t ha
    refine ⟨r, q1, fun h hs => ?_⟩
    unfold f_Mo_first
    rw [m_isTwo, bd2_s, bI_if, if_pos ha, bd2_id]
    exact q2.q h hs
  · refine ⟨-2, fun h hs => ⟨h, ?_, hs⟩, fun h hs => ⟨h, ?_, hs⟩⟩
    · unfold f_CS_first
      rw [two_c, if_neg ha]
    · unfold f_Mo_first
      rw [m_isTwo, bd2_s, bI_if, if_neg ha])
