/-! tired, at, count, fault, camel, bale -/
theorem l_fill {o n : Nat} (hn : n ≤ 192) (hl : ln o = n) : ∀ (fu i : Nat) (h : HP), i ≤ n → n < i + fu → (∀ j, j < i → h.1 o j = 0) → ∃ v h', lp_Ar_fill_5 (nI n) o 0 fu (nI i) h = some (v, h') ∧ (∀ j, j < n → h'.1 o j = 0) ∧ FR [o] h h' := by
  intro fu
  induction fu with
  | zero => intro i h h1 h2; omega
  | succ fu ih =>
    intro i h hi hf hj
    have q : (nI n ≤ nI i) ↔ n ≤ i := nI_leI (by omega) (by omega)
    rw [lp_Ar_fill_5]
    simp only [q, hl]
    by_cases he : n ≤ i
    · simp only [he, if_true]
      exact ⟨_, h, rfl, fun j hj' => hj j (by omega), FR.rf⟩
    · simp only [he, if_false]
      have hb : inb (nI i) n = true := inb_lit (by omega) (by omega)
      simp only [hb, ckk_t, ltt_s, wA_nI (show i < 2 ^ 31 by omega), nI_1]
      obtain ⟨v, h', p1, p2, p3⟩ := ih (i + 1) (sI h o i 0) (by omega) (by omega) (fun j hj' => by
        by_cases e : j = i
        · subst e; simp [rd_sI]
        · have := hj j (by omega)
          simp [rd_sI, e, this])
      exact ⟨v, h', p1, p2, FR.tr (FR.s FR.rf (List.mem_singleton.mpr rfl)) p3⟩
theorem c_fill {o n : Nat} {h : HP} (hn : n ≤ 192) (hl : ln o = n) : ∃ h', f_Ar_fill o 0 h = some h' ∧ (∀ j, j < n → h'.1 o j = 0) ∧ FR [o] h h' := by
  obtain ⟨v, h', p1, p2, p3⟩ := l_fill hn hl 400 0 h (Nat.zero_le _) (by omega) (fun j hj => absurd hj (Nat.not_lt_zero _))
  refine ⟨h', ?_, p2, p3⟩
  unfold f_Ar_fill
  rw [hl, ltt_s, show lp_Ar_fill_5 (Int32.ofNat n) o 0 400 0 h = _ from p1, bd2_s]
def stN (D : DT) (d : Nat) (n : Nat) : Nat := sumN n (fun k => av (WE D d k) 1)
theorem Mch.fr {D : DT} {k : Nat} {h h' : HP} (hm : Mch D k h) (e52 : h'.1 52 = h.1 52) (e53 : h'.1 53 = h.1 53) : Mch D k h' := by
  refine ⟨?_, fun j hj => (hm.2 j hj).frame (fun i hi => by rw [e52])⟩
  have h1 : CR0 24 (4 * dfg D k) h (WR D k 24) := hm.1
  show CR0 24 (4 * dfg D k) h' (WR D k 24)
  generalize WR D k 24 = s at h1 ⊢
  obtain ⟨ld, st, li, fe, br, bk, sp, ff⟩ := s
  unfold CR0 at h1 ⊢
  rw [e53]
  exact h1
theorem l_t29 {D : DT} {k : Nat} {v2 : Int32} : ∀ (fu d : Nat) (h : HP), Mch D k h → d ≤ 24 → 24 < d + fu → (∀ j, j < 24 → h.1 51 j = nI (if j < d then stN D j (k + 1) else stN D j k)) → ∃ v h', lp_Cv_tiredDay_29 v2 fu (nI d) h = some (v, h') ∧ (∀ j, j < 24 → h'.1 51 j = nI (stN D j (k + 1))) ∧ FR [51] h h' := by
  intro fu
  induction fu with
  | zero => intro i h _ h1 h2; omega
  | succ fu ih =>
    intro d h hm hd hf hj
    have q : (24 ≤ nI d) ↔ 24 ≤ d := nI_leI (a := 24) (by omega) (by omega)
    rw [lp_Cv_tiredDay_29]
    simp only [q]
    by_cases he : 24 ≤ d
    · simp only [he, if_true]
      exact ⟨_, h, rfl, fun j hj' => by rw [hj j hj', if_pos (by omega)], FR.rf⟩
    · simp only [he, if_false]
      have hb : inb (nI d) 24 = true := inb_lit (by omega) (by omega)
      have e1 := c_behind (w := 1) hm (show d < 24 by omega) (by omega) (by omega)
      have e2 := hj d (by omega)
      rw [if_neg (by omega)] at e2
      simp only [hb, ckk_t, ltt_s, rA_nI (show d < 2 ^ 31 by omega), e2, show f_Wa_behind (nI d) 1 h = _ from e1, bd2_s, wA_nI (show d < 2 ^ 31 by omega), nI_add, nI_1]
      have e3 : stN D d k + av (WE D d k) 1 = stN D d (k + 1) := rfl
      rw [e3]
      obtain ⟨v, h', p1, p2, p3⟩ := ih (d + 1) (sI h 51 d (nI (stN D d (k + 1)))) (hm.fr (sI_na (by decide)) (sI_na (by decide))) (by omega) (by omega) (fun j hj' => by
        by_cases e : j = d
        · subst e
          rw [if_pos (by omega)]
          simp [rd_sI]
        · have := hj j hj'
          simp only [rd_sI, e, and_false, if_false, this]
          congr 1
          by_cases z : j < d
          · rw [if_pos z, if_pos (by omega)]
          · rw [if_neg z, if_neg (by omega)])
      exact ⟨v, h', p1, p2, FR.tr (FR.s FR.rf (by decide)) p3⟩
theorem l_t10 {D : DT} : ∀ (fu i : Nat) (h : HP), CD D h → h.2.2 = 60 → i ≤ dnc D → dnc D < i + fu → (∀ j, j < 24 → h.1 51 j = nI (stN D j i)) → ∃ v h', lp_Cv_tiredDay_10 fu (nI i) h = some (v, h') ∧ (∀ j, j < 24 → h'.1 51 j = nI (stN D j (dnc D))) ∧ FR [51, 52, 53] h h' := by
  intro fu
  induction fu with
  | zero => intro i h _ _ h1 h2; omega
  | succ fu ih =>
    intro i h hc h60 hi hf hj
    have b1 := hc.2.2.1
    have q : (nI (dnc D) ≤ nI i) ↔ dnc D ≤ i := nI_leI (by omega) (by omega)
    rw [lp_Cv_tiredDay_10]
    simp only [ltt_s, rI, hc.1, q]
    by_cases he : dnc D ≤ i
    · have e : i = dnc D := by omega
      subst e
      simp only [Nat.le_refl, if_true]
      exact ⟨_, h, rfl, hj, FR.rf⟩
    · simp only [he, if_false]
      obtain ⟨h1, e1, m1, f1⟩ := c_march (k := i) (by omega) hc
      obtain ⟨v, h2, e2, p2, f2⟩ := l_t29 (v2 := nI i) 400 0 h1 m1 (Nat.zero_le _) (by omega) (fun j hj' => by rw [if_neg (Nat.not_lt_zero _), f1.2 51 (by decide)]; exact hj j hj')
      have f3 : FR [51, 52, 53] h h2 := (f1.mono (by decide)).tr (f2.mono (by decide))
      have s3 : SF h h2 := SF.ofs f3 (by decide) (by decide)
      simp only [e1, bd1_s, show lp_Cv_tiredDay_29 (nI i) 400 0 h1 = _ from e2, bd2_s, nI_1]
      obtain ⟨v', h', p3, p4, p5⟩ := ih (i + 1) h2 (hc.sf h60 s3) (s3.1.trans h60) (by omega) (by omega) p2
      exact ⟨v', h', p3, p4, f3.tr p5⟩
def tmn (s : Nat → Int32) : Nat → Nat
  | 0 => 0
  | n + 1 => if s (tmn s n) ≤ s (n + 1) then tmn s n else n + 1
theorem tmn_le (s : Nat → Int32) : ∀ n, tmn s n ≤ n
  | 0 => Nat.le_refl _
  | n + 1 => by
    have e : tmn s (n + 1) = if s (tmn s n) ≤ s (n + 1) then tmn s n else n + 1 := rfl
    have := tmn_le s n
    rw [e]
    split <;> omega
theorem tmn_s (s : Nat → Int32) (n : Nat) : (if s (tmn s n) ≤ s (n + 1) then some (nI (tmn s n)) else some (nI (n + 1))) = some (nI (tmn s (n + 1))) := by
  have e : tmn s (n + 1) = if s (tmn s n) ≤ s (n + 1) then tmn s n else n + 1 := rfl
  rw [e]
  split <;> rfl
theorem l_t69 {s : Nat → Int32} {h : HP} (hj : ∀ j, j < 24 → h.1 51 j = s j) : ∀ (fu d : Nat), d < 24 → 24 < d + 1 + fu → ∃ v, lp_Cv_tiredDay_69 fu (nI (d + 1)) (nI (tmn s d)) h = some (v, nI (tmn s 23), h) := by
  intro fu
  induction fu with
  | zero => intro d h1 h2; omega
  | succ fu ih =>
    intro d hd hf
    have q : (24 ≤ nI (d + 1)) ↔ 24 ≤ d + 1 := nI_leI (a := 24) (by omega) (by omega)
    have ht := tmn_le s d
    rw [lp_Cv_tiredDay_69]
    simp only [q]
    by_cases he : 24 ≤ d + 1
    · have e : d = 23 := by omega
      subst e
      simp only [Nat.le_refl, if_true]
      exact ⟨_, rfl⟩
    · simp only [he, if_false]
      have hb : inb (nI (d + 1)) 24 = true := inb_lit (by omega) (by omega)
      have hb2 : inb (nI (tmn s d)) 24 = true := inb_lit (by omega) (by omega)
      simp only [hb, hb2, ckk_t, ltt_s, rA_nI (show d + 1 < 2 ^ 31 by omega), rA_nI (show tmn s d < 2 ^ 31 by omega), hj (d + 1) (by omega), hj (tmn s d) (by omega)]
      rw [tmn_s, bd1_s, nI_1]
      exact ih (d + 1) (by omega) (by omega)
theorem qc_tired {D : DT} {h0 : HP} (t : QS D h0) : Q h0 f_CS_tired (nI (tmn (fun d => nI (stN D d (dnc D))) 23)) := fun h hs => by
  have t' := t.sf hs
  have b1 := t'.1.2.2.1
  obtain ⟨h1, e1, p1, f1⟩ := c_fill (o := 51) (n := 24) (h := h) (by omega) (by decide)
  have s1 : SF h h1 := SF.ofs f1 (by decide) (by decide)
  have t1 := t'.sf s1
  obtain ⟨v, h2, e2, p2, f2⟩ := l_t10 400 0 h1 t1.1 t1.2.2.2.2.2.2.1 (Nat.zero_le _) (by omega) (fun j hj => p1 j hj)
  obtain ⟨w, e3⟩ := l_t69 p2 400 0 (by omega) (by omega)
  refine ⟨h2, ?_, (hs.tr s1).tr (SF.ofs f2 (by decide) (by decide))⟩
  unfold f_CS_tired f_Cv_tiredDay
  rw [e1, bd1_s, show lp_Cv_tiredDay_10 400 0 h1 = _ from e2, bd2_s, show lp_Cv_tiredDay_69 400 1 0 h2 = _ from e3, bd3_s, bd2_s]
theorem l_mst {D : DT} {h : HP} {d : Nat} (hd : d < 24) (h2 : h.1 34 2 = nI (dnc D)) (b1 : dnc D ≤ 8) (hr : ∀ d k, d < 24 → k < dnc D → RC h d k (WE D d k)) : ∀ (fu i : Nat), i ≤ dnc D → dnc D < i + fu → ∃ v, lp_Mo_strengthOn_4 (nI d) fu (nI i) (nI (stN D d i)) h = some (v, nI (stN D d (dnc D)), h) := by
  intro fu
  induction fu with
  | zero => intro i h1 h2; omega
  | succ fu ih =>
    intro i hi hf
    have q : (nI (dnc D) ≤ nI i) ↔ dnc D ≤ i := nI_leI (by omega) (by omega)
    rw [lp_Mo_strengthOn_4]
    simp only [ltt_s, rI, h2, q]
    by_cases he : dnc D ≤ i
    · have e : i = dnc D := by omega
      subst e
      simp only [Nat.le_refl, if_true]
      exact ⟨_, rfl⟩
    · simp only [he, if_false]
      have e0 : (8 : Int32) * nI d + nI i = nI (8 * d + i) := by
        rw [show (8 : Int32) * nI d = nI (8 * d) from pk_mul 8 d, nI_add]
      have hb : inb (nI (8 * d + i)) 192 = true := inb_lit (by omega) (by omega)
      have e1 : h.1 15 (8 * d + i) = nI (av (WE D d i) 1) := (hr d i hd (by omega)).2.1
      simp only [e0, hb, ckk_t, rA_nI (show 8 * d + i < 2 ^ 31 by omega), e1, nI_add, nI_1]
      exact ih (i + 1) (by omega) (by omega)
theorem m_strengthOn {D : DT} {h : HP} {d : Nat} (hd : d < 24) (h2 : h.1 34 2 = nI (dnc D)) (b1 : dnc D ≤ 8) (hr : ∀ d k, d < 24 → k < dnc D → RC h d k (WE D d k)) : f_Mo_strengthOn (nI d) h = some (nI (stN D d (dnc D)), h) := by
  obtain ⟨v, e⟩ := l_mst hd h2 b1 hr 400 0 (Nat.zero_le _) (by omega)
  unfold f_Mo_strengthOn
  rw [show lp_Mo_strengthOn_4 (nI d) 400 0 0 h = _ from e, bd3_s]
theorem l_mt8 {s : Nat → Int32} {h : HP} (hj : ∀ j, j < 24 → f_Mo_strengthOn (nI j) h = some (s j, h)) : ∀ (fu d : Nat), d < 24 → 24 < d + 1 + fu → ∃ v, lp_Mo_tiredOf_8 fu (nI (d + 1)) (nI (tmn s d)) h = some (v, nI (tmn s 23), h) := by
  intro fu
  induction fu with
  | zero => intro d h1 h2; omega
  | succ fu ih =>
    intro d hd hf
    have q : (24 ≤ nI (d + 1)) ↔ 24 ≤ d + 1 := nI_leI (a := 24) (by omega) (by omega)
    have ht := tmn_le s d
    rw [lp_Mo_tiredOf_8]
    simp only [q]
    by_cases he : 24 ≤ d + 1
    · have e : d = 23 := by omega
      subst e
      simp only [Nat.le_refl, if_true]
      exact ⟨_, rfl⟩
    · simp only [he, if_false]
      rw [hj (d + 1) (by omega), bd2_s, hj (tmn s d) (by omega), bd2_s, tmn_s, bd1_s, ltt_s, nI_1]
      exact ih (d + 1) (by omega) (by omega)
theorem qm_tired {D : DT} {h0 : HP} (t : QS D h0) : QM D h0 f_Mo_tiredOf (nI (tmn (fun d => nI (stN D d (dnc D))) 23)) := fun h hs => by
  obtain ⟨h', e, r, m, s⟩ := m_told (t.sf hs)
  obtain ⟨v, e2⟩ := l_mt8 (s := fun d => nI (stN D d (dnc D))) (fun j hj => m_strengthOn hj m.1 m.2.2.1 r.2.1) 400 0 (by omega) (by omega)
  refine ⟨h', ?_, hs.tr s, m.mc⟩
  unfold f_Mo_tiredOf
  rw [e, bd1_s, show lp_Mo_tiredOf_8 400 1 0 h' = _ from e2, bd3_s]
theorem o_tired : op_tired Inv := Q.op (fun h0 hi => by
  obtain ⟨D, t⟩ := hi.qs
  exact ⟨_, qc_tired t, (qm_tired t).q.w (fun _ => rfl)⟩)
theorem qc_at {D : DT} {h0 : HP} {d k w : Nat} (t : QS D h0) (hd : d < 24) (hk : k < dnc D) (hw : w < 6) : Q h0 (f_CS_at (nI d) (nI k) (nI w)) (nI (av (WE D d k) w)) := fun h hs => by
  have t' := t.sf hs
  have b1 := t'.1.2.2.1
  obtain ⟨h1, e1, m1, f1⟩ := c_march hk t'.1
  have e2 := c_behind (w := w) m1 hd (by omega) (by omega)
  have q : (nI w < 6) ↔ w < 6 := nI_ltI (b := 6) (by omega) (by omega)
  refine ⟨h1, ?_, hs.tr (c_sf f1)⟩
  unfold f_CS_at
  rw [c_isDay, inb_lit hd (by omega), bd2_s, if_neg (show ¬ bI true = 0 from by decide), c_isCamel t'.1, inb_lit hk (by omega), bd2_s, if_neg (show ¬ bI true = 0 from by decide), if_neg (nI_pos (by omega)), if_pos (q.mpr hw), e1, bd1_s, e2, bd2_s]
theorem qm_at {D : DT} {h0 : HP} {d k w : Nat} (t : QS D h0) (hd : d < 24) (hk : k < dnc D) (hw : w < 6) : QM D h0 (f_Mo_atOf (nI d) (nI k) (nI w)) (nI (av (WE D d k) w)) := fun h hs => by
  obtain ⟨h', e, r, m, s⟩ := m_told (t.sf hs)
  have b1 := m.2.2.1
  refine ⟨h', ?_, hs.tr s, m.mc⟩
  have e0 : (8 : Int32) * nI d + nI k = nI (8 * d + k) := by
    rw [show (8 : Int32) * nI d = nI (8 * d) from pk_mul 8 d, nI_add]
  have hb : inb (nI (8 * d + k)) 192 = true := inb_lit (by omega) (by omega)
  obtain ⟨c0, c1, c2, c3, c4, c5⟩ := r.2.1 d k hd hk
  unfold f_Mo_atOf
  rw [e, bd1_s, ltt_s]
  simp only [e0, hb, ckk_t, ltt_s, rA_nI (show 8 * d + k < 2 ^ 31 by omega), c0, c1, c2, c3, c4, c5]
  have hc : w = 0 ∨ w = 1 ∨ w = 2 ∨ w = 3 ∨ w = 4 ∨ w = 5 := by omega
  rcases hc with rfl | rfl | rfl | rfl | rfl | rfl
  · rfl
  · rfl
  · show some ((if a_li (WE D d k) = 0 then (0 : Int32) else 1), h') = some (nI (if a_li (WE D d k) = 0 then 0 else 1), h')
    by_cases z : a_li (WE D d k) = 0
    · rw [if_pos z, if_pos z]; rfl
    · rw [if_neg z, if_neg z]; rfl
  · rfl
  · rfl
  · rfl
theorem m_in5 {a : Int32} {h : HP} : f_Mo_in a 0 5 h = some (bI (inb a 6), h) := m_inN (n := 5) (by omega)
theorem six_c {α : Type} {a : Int32} {x y : α} : (if a < 0 then x else if a < 6 then y else x) = if inb a 6 = true then y else x := if4 (inb_t (n := 6) (by omega))
theorem o_at : op_at Inv := fun a1 a2 a3 => Q.op (fun h0 hi => by
  obtain ⟨D, t⟩ := hi.qs
  have b1 := t.1.2.2.1
  have c1 : ∀ h, SF h0 h → f_CS_at a1 a2 a3 h = if inb a1 24 = true then (if inb a2 (dnc D) = true then (if inb a3 6 = true then f_CS_at a1 a2 a3 h else some (-2, h)) else some (-2, h)) else some (-2, h) := fun h hs => by
    have t' := t.sf hs
    by_cases z1 : inb a1 24 = true
    · by_cases z2 : inb a2 (dnc D) = true
      · by_cases z3 : inb a3 6 = true
        · rw [if_pos z1, if_pos z2, if_pos z3]
        · rw [if_pos z1, if_pos z2, if_neg z3]
          unfold f_CS_at
          rw [c_isDay, bd2_s, bI_if, if_pos z1, c_isCamel t'.1, bd2_s, bI_if, if_pos z2, six_c, if_neg z3]
      · rw [if_pos z1, if_neg z2]
        unfold f_CS_at
        rw [c_isDay, bd2_s, bI_if, if_pos z1, c_isCamel t'.1, bd2_s, bI_if, if_neg z2]
    · rw [if_neg z1]
      unfold f_CS_at
      rw [c_isDay, bd2_s, bI_if, if_neg z1]
  by_cases z1 : inb a1 24 = true
  · by_cases z2 : inb a2 (dnc D) = true
    · by_cases z3 : inb a3 6 = true
      · obtain ⟨d, d1, d2⟩ := (inb_iff (by omega)).mp z1
        obtain ⟨k, k1, k2⟩ := (inb_iff (by omega)).mp z2
        obtain ⟨w, w1, w2⟩ := (inb_iff (by omega)).mp z3
        refine ⟨nI (av (WE D d k) w), ?_, fun h hs => ?_⟩
        · rw [d2, k2, w2]
          exact qc_at t d1 k1 w1
        · obtain ⟨h1, e1, m1, s1⟩ := m_isCamel (a := a2) (t.sf hs)
          unfold f_Mo_at
          rw [m_isDay, bd2_s, bI_if, if_pos z1, e1, bd2_s, bI_if, if_pos z2, m_in5, bd2_s, bI_if, if_pos z3, bd2_id, d2, k2, w2]
          exact (qm_at t d1 k1 w1).q h1 (hs.tr s1)
      · refine ⟨-2, fun h hs => ⟨h, ?_, hs⟩, fun h hs => ?_⟩
        · rw [c1 h hs, if_pos z1, if_pos z2, if_neg z3]
        · obtain ⟨h1, e1, m1, s1⟩ := m_isCamel (a := a2) (t.sf hs)
          refine ⟨h1, ?_, hs.tr s1⟩
          unfold f_Mo_at
          rw [m_isDay, bd2_s, bI_if, if_pos z1, e1, bd2_s, bI_if, if_pos z2, m_in5, bd2_s, bI_if, if_neg z3]
    · refine ⟨-2, fun h hs => ⟨h, ?_, hs⟩, fun h hs => ?_⟩
      · rw [c1 h hs, if_pos z1, if_neg z2]
      · obtain ⟨h1, e1, m1, s1⟩ := m_isCamel (a := a2) (t.sf hs)
        refine ⟨h1, ?_, hs.tr s1⟩
        unfold f_Mo_at
        rw [m_isDay, bd2_s, bI_if, if_pos z1, e1, bd2_s, bI_if, if_neg z2]
  · refine ⟨-2, fun h hs => ⟨h, ?_, hs⟩, fun h hs => ⟨h, ?_, hs⟩⟩
    · rw [c1 h hs, if_neg z1]
    · unfold f_Mo_at
      rw [m_isDay, bd2_s, bI_if, if_neg z1])
