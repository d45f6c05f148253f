/-! write, read -/
theorem l_cw {D : DT} {k s f w : Nat} {a1 a2 : Int32} (hs : s < 4) (hw : w ≤ 24) : ∀ (fu d : Nat) (h : HP), Mch D k h → h.1 (42 - 2 * s) 1 = nI f → d ≤ w → w < d + fu → (∀ j, j < d → h.1 (41 - 2 * s) j = lbI (nI f) (nI (av (WE D j k) 1))) → ∃ v h', lp_CS_write_62 (nI w) (42 - 2 * s) a1 a2 fu (nI d) h = some (v, h') ∧ (∀ j, j < w → h'.1 (41 - 2 * s) j = lbI (nI f) (nI (av (WE D j k) 1))) ∧ (∀ j, w ≤ j → h'.1 (41 - 2 * s) j = h.1 (41 - 2 * s) j) ∧ FR [41 - 2 * s] h h' := by
  intro fu
  induction fu with
  | zero => intro d h _ _ h1 h2; omega
  | succ fu ih =>
    intro d h hm hf hd hfu hj
    obtain ⟨q1, q2, q3⟩ := so_ s hs
    have q : (nI w ≤ nI d) ↔ w ≤ d := nI_leI (by omega) (by omega)
    rw [lp_CS_write_62]
    simp only [q]
    by_cases he : w ≤ d
    · rw [if_pos he]
      exact ⟨_, h, rfl, fun j hj' => hj j (by omega), fun _ _ => rfl, FR.rf⟩
    · rw [if_neg he]
      have hb : inb (nI d) 60 = true := inb_lit (by omega) (by omega)
      have e1 := c_behind (w := 1) hm (show d < 24 by omega) (by omega) (by omega)
      simp only [q2, ltt_s, rI, hf]
      rw [show f_Wa_behind (nI d) 1 h = _ from e1, bd2_s, c_low, bd2_s, hb, ckk_t, wA_nI (by omega), nI_1]
      obtain ⟨v, h', p1, p2, p3, p4⟩ := ih (d + 1) (sI h (41 - 2 * s) d (lbI (nI f) (nI (av (WE D d k) 1)))) (hm.fr (sI_na (by omega)) (sI_na (by omega))) (by rw [sI_na (by omega)]; exact hf) (by omega) (by omega) (fun j hj' => by
        by_cases e : j = d
        · subst e
          exact sI_eq
        · rw [sI_nj e]
          exact hj j (by omega))
      refine ⟨v, h', p1, p2, fun j hj' => ?_, FR.tr (FR.s FR.rf (by simp)) p4⟩
      rw [p3 j hj', sI_nj (by omega)]
theorem l_mw {D : DT} {k s f z : Nat} (hs : s < 4) (hk : k < 8) (hz : z ≤ 60) : ∀ (fu d : Nat) (h : HP), (∀ j, j < 24 → h.1 15 (8 * j + k) = nI (av (WE D j k) 1)) → h.1 3 s = nI f → h.1 2 s = nI z → d ≤ min z 24 → min z 24 < d + fu → (∀ j, j < d → h.1 1 (60 * s + j) = lbI (nI f) (nI (av (WE D j k) 1))) → ∃ h', lp_Mo_write_39 (nI k) (nI s) fu (nI d) h = some (nI (min z 24), h') ∧ (∀ j, j < min z 24 → h'.1 1 (60 * s + j) = lbI (nI f) (nI (av (WE D j k) 1))) ∧ (∀ j, (j < 60 * s ∨ 60 * s + min z 24 ≤ j) → h'.1 1 j = h.1 1 j) ∧ FR [1] h h' := by
  intro fu
  induction fu with
  | zero => intro d h _ _ _ h1 h2; omega
  | succ fu ih =>
    intro d h h15 h3 h2 hd hfu hj
    have q1 : (nI z ≤ nI d) ↔ z ≤ d := nI_leI (by omega) (by omega)
    have q2 : (24 ≤ nI d) ↔ 24 ≤ d := nI_leI (a := 24) (by omega) (by omega)
    have hb : inb (nI s) 4 = true := inb_lit hs (by omega)
    rw [lp_Mo_write_39]
    rw [hb, ckk_t, rA_nI (by omega), h2, ltt_s]
    simp only [q1, q2]
    by_cases he : z ≤ d
    · rw [if_pos he]
      have e : d = min z 24 := by omega
      subst e
      exact ⟨h, rfl, hj, fun _ _ => rfl, FR.rf⟩
    · rw [if_neg he]
      by_cases he2 : 24 ≤ d
      · rw [if_pos he2]
        have e : d = min z 24 := by omega
        subst e
        exact ⟨h, rfl, hj, fun _ _ => rfl, FR.rf⟩
      · rw [if_neg he2]
        have e0 : (8 : Int32) * nI d + nI k = nI (8 * d + k) := by
          rw [show (8 : Int32) * nI d = nI (8 * d) from pk_mul 8 d, nI_add]
        have hb2 : inb (nI (8 * d + k)) 192 = true := inb_lit (by omega) (by omega)
        rw [e0, hb2, ckk_t, rA_nI (by omega), h15 d (by omega), ltt_s, m_keep hs (by omega), bd1_s, ltt_s, nI_1, h3]
        obtain ⟨h', p1, p2, p3, p4⟩ := ih (d + 1) (sI h 1 (60 * s + d) (lbI (nI f) (nI (av (WE D d k) 1)))) (fun j hj' => by rw [sI_na (by decide)]; exact h15 j hj') (by rw [sI_na (by decide)]; exact h3) (by rw [sI_na (by decide)]; exact h2) (by omega) (by omega) (fun j hj' => by
          by_cases e : j = d
          · subst e
            exact sI_eq
          · rw [sI_nj (by omega)]
            exact hj j (by omega))
        refine ⟨h', p1, p2, fun j hj' => ?_, FR.tr (FR.s FR.rf (by decide)) p4⟩
        rw [p3 j hj', sI_nj (by omega)]
theorem mn24 {z : Nat} (hz : z ≤ 60) : mnI (nI z) 24 = nI (min z 24) := by
  unfold mnI
  have q : (24 < nI z) ↔ 24 < z := nI_ltI (a := 24) (by omega) (by omega)
  by_cases h : 24 < z
  · rw [if_pos (q.mpr h), Nat.min_eq_right (by omega)]
    rfl
  · rw [if_neg (fun w => h (q.mp w)), Nat.min_eq_left (by omega)]
theorem o_write : op_write Inv := fun a1 a2 h hi => by
  obtain ⟨D, t⟩ := hi.qs
  have b1 := t.1.2.2.1
  by_cases z1 : inb a1 (dnc D) = true
  · by_cases z2 : inb a2 4 = true
    · obtain ⟨k, hk, e⟩ := (inb_iff (by omega)).mp z1
      subst e
      obtain ⟨s, hs, e⟩ := (inb_iff (by omega)).mp z2
      subst e
      obtain ⟨q1, q2, q3⟩ := so_ s hs
      have hl : s < 2 ^ 31 := by omega
      have hh := hi.2.2.2.2.2.1
      rcases hh.at hs with ⟨g1, g2⟩ | ⟨f, z, g1, g2, g3, g4, g5, g6, g7, g8⟩
      · have i1 := hi.find 1
        obtain ⟨h1, e1⟩ : ∃ h1, h1 = sI h 71 10 1 := ⟨_, rfl⟩
        have sx1 : SX 0 h h1 := by
          rw [e1]
          exact SX.of (FR.s FR.rf (shL_k (by decide))) (by rw [sI_na (by decide)]) (by rw [sI_na (by decide)])
        obtain ⟨h2, e2, m2, s2⟩ := m_isCamel (a := nI k) (t.sx (by omega) sx1)
        have e4 : h2.1 4 s = 0 := by
          rw [s2.g 4, e1, sI_na (by decide)]
          exact g2
        refine ⟨-10 - 1, h1, sI h2 34 44 1, ?_, ?_, ?_⟩
        · unfold f_CS_write
          rw [c_isCamel t.1, bd2_s, bI_if, if_pos z1, c_isSheet, bd2_s, bI_if, if_pos z2, z2, ckk_t, nI_clamp hl, q1, ltt_s, lost_t g1, bd2_s, if_neg i1_0, c_fnd, bd2_s, e1]
        · unfold f_Mo_write
          rw [e2, bd2_s, bI_if, if_pos z1, m_isSheet, bd2_s, bI_if, if_pos z2, z2, ckk_t, rA_nI hl, e4, ltt_s, if_pos rfl, m_fnd, bd2_s]
        · have x1 : SX 0 h (sI h2 34 44 1) := (sx1.tr s2.sx).tr (SX.of (FR.s FR.rf (shL_k (by decide))) (by rw [sI_nj (by decide)]) (by rw [sI_nj (by decide)]))
          have gs : ∀ a, a ∉ scr → a ≠ 34 → a ≠ 71 → (sI h2 34 44 1).1 a = h.1 a := fun a x2 x3 x4 => by
            rw [sI_na x3, s2.2.1 a x2 x3, e1, sI_na x4]
          refine hi.sx (s := 0) (by omega) x1 ?_ (hh.fr (fun a ha => gs a ?_ ?_ ?_))
          · unfold FB
            rw [sI_eq, sI_na (by decide), s2.g 71, e1, sI_eq]
          · have : ∀ a, a ∈ [42, 41, 40, 39, 38, 37, 36, 35, 4, 3, 2, 1] → a ∉ scr := by decide
            exact this a ha
          · have : ∀ a, a ∈ [42, 41, 40, 39, 38, 37, 36, 35, 4, 3, 2, 1] → a ≠ 34 := by decide
            exact this a ha
          · have : ∀ a, a ∈ [42, 41, 40, 39, 38, 37, 36, 35, 4, 3, 2, 1] → a ≠ 71 := by decide
            exact this a ha
      · obtain ⟨h1, e1, m1, f1⟩ := c_march hk t.1
        have s1 : SF h h1 := c_sf f1
        have no : 42 - 2 * s ∉ [52, 53] := by simp only [List.mem_cons, List.not_mem_nil, or_false]; omega
        have nr : 41 - 2 * s ∉ [52, 53] := by simp only [List.mem_cons, List.not_mem_nil, or_false]; omega
        obtain ⟨v, h2, e2, p2, p3, f2⟩ := l_cw (f := f) (w := min z 24) (a1 := nI k) (a2 := nI s) hs (by omega) 400 0 h1 m1 (by rw [f1.2 _ no]; exact g3) (Nat.zero_le _) (by omega) (fun j hj => absurd hj (Nat.not_lt_zero _))
        have nr2 : ∀ a, a ≠ 41 - 2 * s → h2.1 a = h1.1 a := fun a ha => f2.2 a (by simp only [List.mem_cons, List.not_mem_nil, or_false]; exact ha)
        have x2 : SX s h h2 := s1.sx.tr (SX.of (f2.mono (fun q hq => by
          simp only [List.mem_cons, List.not_mem_nil, or_false] at hq
          subst hq
          exact shL_r)) (by rw [nr2 34 (by omega)]) (by rw [nr2 34 (by omega)]))
        have t2 := t.sx hs x2
        obtain ⟨h3, e3, m3, s3⟩ := m_isCamel (a := nI k) t2
        obtain ⟨h4, e4, r4, m4, s4⟩ := m_told (t2.sf s3)
        have s34 : SF h2 h4 := s3.tr s4
        have back : ∀ a, a ∉ scr → a ≠ 34 → a ≠ 41 - 2 * s → h4.1 a = h.1 a := fun a y1 y2 y3 => by
          rw [s34.2.1 a y1 y2, nr2 a y3, s1.2.1 a y1 y2]
        have c3 : h3.1 4 s = 1 := by
          rw [s3.g 4, nr2 4 (by omega), s1.g 4]
          exact g4
        obtain ⟨h5, e5, p5, p6, f5⟩ := l_mw (D := D) (k := k) (f := f) hs (show k < 8 by omega) g2 400 0 h4 (fun j hj => (r4.2.1 j k hj hk).2.1) (by rw [back 3 (by decide) (by decide) (by omega)]; exact g5) (by rw [back 2 (by decide) (by decide) (by omega)]; exact g7) (Nat.zero_le _) (by omega) (fun j hj => absurd hj (Nat.not_lt_zero _))
        have k5 : SX s h h5 := (x2.tr s34.sx).tr (SX.of (f5.mono (fun q hq => shL_k (by
          simp only [List.mem_cons, List.not_mem_nil, or_false] at hq ⊢
          omega))) (by rw [f5.e 34]) (by rw [f5.e 34]))
        have bk5 : ∀ a, a ∉ scr → a ≠ 34 → a ≠ 41 - 2 * s → a ≠ 1 → h5.1 a = h.1 a := fun a y1 y2 y3 y4 => by
          rw [f5.2 a (by simp only [List.mem_cons, List.not_mem_nil, or_false]; exact y4)]
          exact back a y1 y2 y3
        have no2 : ∀ t, t < 4 → 42 - 2 * t ∉ scr ∧ 41 - 2 * t ∉ scr := by decide
        refine ⟨nI (min z 24), h2, h5, ?_, ?_, hi.sx hs k5 ?_ (hh.upd hs k5 (fun j hj => ?_) (fun j hj => ?_) (fun j hj => ?_) (fun j hj => ?_) (Or.inr ⟨f, z, g1, g2, ?_, ?_, ?_, ?_, ?_, fun i' hi' => ?_⟩))⟩
        · unfold f_CS_write
          rw [c_isCamel t.1, bd2_s, bI_if, if_pos z1, c_isSheet, bd2_s, bI_if, if_pos z2, z2, ckk_t, nI_clamp hl, q1, ltt_s, lost_f g1 g3, bd2_s, if_pos rfl]
          simp only [rI, g6, ltt_s]
          rw [mn24 g2, e1, bd1_s, show lp_CS_write_62 (nI (min z 24)) (42 - 2 * s) (nI k) (nI s) 400 0 h1 = some (v, h2) from e2, bd2_s]
        · unfold f_Mo_write
          rw [e3, bd2_s, bI_if, if_pos z1, m_isSheet, bd2_s, bI_if, if_pos z2, z2, ckk_t, rA_nI hl, c3, ltt_s, if_neg i1_0, e4, bd1_s, show lp_Mo_write_39 (nI k) (nI s) 400 0 h4 = some (nI (min z 24), h5) from e5, bd2_s]
        · unfold FB
          rw [bk5 71 (by decide) (by decide) (by omega) (by decide), f5.e 34, s34.2.2.2.2, nr2 34 (by omega), f1.e 34]
          exact hi.2.2.2.2.1
        · rw [bk5 4 (by decide) (by decide) (by omega) (by decide)]
        · rw [bk5 3 (by decide) (by decide) (by omega) (by decide)]
        · rw [bk5 2 (by decide) (by decide) (by omega) (by decide)]
        · rw [p6 j (by omega), back 1 (by decide) (by decide) (by omega)]
        · rw [bk5 _ (no2 s hs).1 (by omega) (by omega) (by omega)]; exact g3
        · rw [bk5 4 (by decide) (by decide) (by omega) (by decide)]; exact g4
        · rw [bk5 3 (by decide) (by decide) (by omega) (by decide)]; exact g5
        · rw [bk5 _ (no2 s hs).1 (by omega) (by omega) (by omega)]; exact g6
        · rw [bk5 2 (by decide) (by decide) (by omega) (by decide)]; exact g7
        · have y1 : h5.1 (41 - 2 * s) = h2.1 (41 - 2 * s) := by
            rw [f5.2 _ (by simp only [List.mem_cons, List.not_mem_nil, or_false]; omega)]
            exact s34.2.1 _ (no2 s hs).2 (by omega)
          rw [y1]
          by_cases w1 : i' < min z 24
          · rw [p2 i' w1, p5 i' w1]
          · rw [p3 i' (by omega), p6 (60 * s + i') (by omega), back 1 (by decide) (by decide) (by omega), f1.2 _ nr]
            exact g8 i' hi'
    · refine ⟨-2, h, ?_⟩
      obtain ⟨h1, e1, m1, s1⟩ := m_isCamel (a := a1) t
      refine ⟨h1, ?_, ?_, hi.sf s1⟩
      · unfold f_CS_write
        rw [c_isCamel t.1, bd2_s, bI_if, if_pos z1, c_isSheet, bd2_s, bI_if, if_neg z2]
      · unfold f_Mo_write
        rw [e1, bd2_s, bI_if, if_pos z1, m_isSheet, bd2_s, bI_if, if_neg z2]
  · refine ⟨-2, h, ?_⟩
    obtain ⟨h1, e1, m1, s1⟩ := m_isCamel (a := a1) t
    refine ⟨h1, ?_, ?_, hi.sf s1⟩
    · unfold f_CS_write
      rw [c_isCamel t.1, bd2_s, bI_if, if_neg z1]
    · unfold f_Mo_write
      rw [e1, bd2_s, bI_if, if_neg z1]
/-- pair j of a sheet's items may come as a straw, when ns + j are there -/
def okP (x : Nat → Int32) (z ns j : Nat) : Prop := 2 * j + 1 < z ∧ (inb (x (2 * j)) 24 = true ∧ inb (x (2 * j + 1)) 8 = true) ∧ ns + j < 8
theorem okP_u {x : Nat → Int32} {z ns c c' : Nat} (h1 : ∀ j, j < c → okP x z ns j) (h2 : ¬ okP x z ns c) (h3 : ∀ j, j < c' → okP x z ns j) (h4 : ¬ okP x z ns c') : c = c' := by
  rcases Nat.lt_trichotomy c c' with w | w | w
  · exact absurd (h3 c w) h2
  · exact w
  · exact absurd (h1 c' w) h4
theorem neg_c {v : Int32} (h : v = -2 ∨ v = -4) : ¬ 0 ≤ v ∧ v ≤ 0 := by rcases h with rfl | rfl <;> decide
theorem l_cr {s z ns : Nat} {a1 : Int32} (hs : s < 4) (hz : z ≤ 60) {x : Nat → Int32} (hns : ns ≤ 8) : ∀ (fu j : Nat) (h : HP), h.1 (42 - 2 * s) 2 = nI z → h.1 (41 - 2 * s) = x → h.1 60 2 = nI (ns + j) → (∀ i, i < j → okP x z ns i) → (∀ i, i < j → h.1 59 (ns + i) = x (2 * i) ∧ h.1 58 (ns + i) = x (2 * i + 1)) → j ≤ 8 → 8 < j + fu → ∃ c h', lp_CS_read_35 (42 - 2 * s) a1 fu (nI (2 * j)) (nI j) h = some (nI c, h') ∧ (∀ i, i < c → okP x z ns i) ∧ ¬ okP x z ns c ∧ h'.1 60 2 = nI (ns + c) ∧ (∀ i, i < c → h'.1 59 (ns + i) = x (2 * i) ∧ h'.1 58 (ns + i) = x (2 * i + 1)) ∧ (∀ i, i < ns → h'.1 59 i = h.1 59 i ∧ h'.1 58 i = h.1 58 i) ∧ FR [58, 59, 60] h h' := by
  intro fu
  induction fu with
  | zero => intro j h _ _ _ _ _ h1 h2; omega
  | succ fu ih =>
    intro j h h2 hx h60 hok hst hj hf
    obtain ⟨q1, q2, q3⟩ := so_ s hs
    have e1 : nI (2 * j) + 1 = nI (2 * j + 1) := nI_1 _
    have q : (nI z ≤ nI (2 * j + 1)) ↔ z ≤ 2 * j + 1 := nI_leI (by omega) (by omega)
    have hnj : ns + j ≤ 8 := by
      by_cases e : j = 0
      · omega
      · have := (hok (j - 1) (by omega)).2.2
        omega
    rw [lp_CS_read_35]
    simp only [ltt_s, rI, h2, e1, q, q2]
    by_cases he : z ≤ 2 * j + 1
    · rw [if_pos he]
      exact ⟨j, h, rfl, hok, fun w => by have := w.1; omega, h60, hst, fun _ _ => ⟨rfl, rfl⟩, FR.rf⟩
    · rw [if_neg he]
      have hb : inb (nI (2 * j)) 60 = true := inb_lit (by omega) (by omega)
      have hb2 : inb (nI (2 * j + 1)) 60 = true := inb_lit (by omega) (by omega)
      rw [hb, ckk_t, hb2, ckk_t, rA_nI (by omega), rA_nI (by omega), hx, c_straw1 h60 hnj]
      by_cases w1 : inb (x (2 * j)) 24 = true ∧ inb (x (2 * j + 1)) 8 = true
      · rw [if_pos w1]
        by_cases w2 : ns + j < 8
        · rw [if_pos w2, bd2_s, if_pos (nI_pos' (by omega)), nI_1, show nI (2 * j) + 2 = nI (2 * (j + 1)) from nI_add (2 * j) 2]
          have no : 42 - 2 * s ∉ [58, 59, 60] := by simp only [List.mem_cons, List.not_mem_nil, or_false]; omega
          have nr : 41 - 2 * s ∉ [58, 59, 60] := by simp only [List.mem_cons, List.not_mem_nil, or_false]; omega
          obtain ⟨c, h', p1, p2, p3, p4, p5, p6, p7⟩ := ih (j + 1) (stC h (ns + j) (x (2 * j)) (x (2 * j + 1))) (by rw [stC_f.2 _ no]; exact h2) (by rw [stC_f.2 _ nr]; exact hx) (by unfold stC; rw [sI_eq]; rfl) (fun i hi => by
            by_cases e : i = j
            · subst e
              exact ⟨by omega, w1, w2⟩
            · exact hok i (by omega)) (fun i hi => by
            unfold stC
            by_cases e : i = j
            · subst e
              simp [rd_sI]
            · have := hst i (by omega)
              have e' : ¬ ns + i = ns + j := by omega
              simp [rd_sI, e, this]) (by omega) (by omega)
          refine ⟨c, h', p1, p2, p3, p4, p5, fun i hi => ?_, stC_f.tr p7⟩
          have e' : ¬ i = ns + j := by omega
          rw [(p6 i hi).1, (p6 i hi).2]
          unfold stC
          simp [rd_sI, e']
        · rw [if_neg w2, bd2_s, if_neg (by decide)]
          exact ⟨j, h, rfl, hok, fun w => w2 w.2.2, h60, hst, fun _ _ => ⟨rfl, rfl⟩, FR.rf⟩
      · rw [if_neg w1, bd2_s, if_neg (by decide)]
        exact ⟨j, h, rfl, hok, fun w => w1 w.2.1, h60, hst, fun _ _ => ⟨rfl, rfl⟩, FR.rf⟩
theorem l_mr {s z ns : Nat} (hs : s < 4) (hz : z ≤ 60) {x : Nat → Int32} (hns : ns ≤ 8) : ∀ (fu j : Nat) (h : HP), h.1 2 s = nI z → (∀ i, i < 60 → h.1 1 (60 * s + i) = x i) → h.1 34 9 = nI (ns + j) → (∀ i, i < j → okP x z ns i) → (∀ i, i < j → h.1 26 (ns + i) = x (2 * i) ∧ h.1 25 (ns + i) = x (2 * i + 1)) → j ≤ 8 → 8 < j + fu → ∃ c h', lp_Mo_read_27 (nI s) fu (nI j) h = some (nI c, h') ∧ (∀ i, i < c → okP x z ns i) ∧ ¬ okP x z ns c ∧ h'.1 34 9 = nI (ns + c) ∧ (∀ i, i < c → h'.1 26 (ns + i) = x (2 * i) ∧ h'.1 25 (ns + i) = x (2 * i + 1)) ∧ (∀ i, i < ns → h'.1 26 i = h.1 26 i ∧ h'.1 25 i = h.1 25 i) ∧ FR [25, 26, 34] h h' ∧ ∀ i, i ≠ 9 → h'.1 34 i = h.1 34 i := by
  intro fu
  induction fu with
  | zero => intro j h _ _ _ _ _ h1 h2; omega
  | succ fu ih =>
    intro j h h2 hx h9 hok hst hj hf
    have e0 : (2 : Int32) * nI j = nI (2 * j) := pk_mul 2 j
    have e1 : nI (2 * j) + 1 = nI (2 * j + 1) := nI_1 _
    have e3 : nI (60 * s + 2 * j) + 1 = nI (60 * s + (2 * j + 1)) := nI_1 _
    have q : (nI z ≤ nI (2 * j + 1)) ↔ z ≤ 2 * j + 1 := nI_leI (by omega) (by omega)
    have hb : inb (nI s) 4 = true := inb_lit hs (by omega)
    have hnj : ns + j ≤ 8 := by
      by_cases e : j = 0
      · omega
      · have := (hok (j - 1) (by omega)).2.2
        omega
    rw [lp_Mo_read_27]
    rw [hb, ckk_t, rA_nI (by omega), h2, ltt_s]
    simp only [e0, k60, e1, e3, q]
    by_cases he : z ≤ 2 * j + 1
    · rw [if_pos he]
      exact ⟨j, h, rfl, hok, fun w => by have := w.1; omega, h9, hst, fun _ _ => ⟨rfl, rfl⟩, FR.rf, fun _ _ => rfl⟩
    · rw [if_neg he]
      have hb1 : inb (nI (60 * s + 2 * j)) 240 = true := inb_lit (by omega) (by omega)
      have hb2 : inb (nI (60 * s + (2 * j + 1))) 240 = true := inb_lit (by omega) (by omega)
      rw [hb1, ckk_t, rA_nI (by omega), ltt_s, hb2, ckk_t, rA_nI (by omega), ltt_s, hx (2 * j) (by omega), hx (2 * j + 1) (by omega), m_straw1 h9 hnj]
      by_cases w1 : inb (x (2 * j)) 24 = true ∧ inb (x (2 * j + 1)) 8 = true
      · rw [if_pos w1]
        by_cases w2 : ns + j < 8
        · rw [if_pos w2, bd2_s, if_neg (nI_nle (by omega) (by omega)), ltt_s, nI_1]
          obtain ⟨c, h', p1, p2, p3, p4, p5, p6, p7, p8⟩ := ih (j + 1) (stM h (ns + j) (x (2 * j)) (x (2 * j + 1))) (by rw [stM_f.1.e 2]; exact h2) (fun i hi => by rw [stM_f.1.e 1]; exact hx i hi) (by unfold stM; rw [sI_eq]; rfl) (fun i hi => by
            by_cases e : i = j
            · subst e
              exact ⟨by omega, w1, w2⟩
            · exact hok i (by omega)) (fun i hi => by
            unfold stM
            by_cases e : i = j
            · subst e
              simp [rd_sI]
            · have := hst i (by omega)
              have e' : ¬ ns + i = ns + j := by omega
              simp [rd_sI, e, this]) (by omega) (by omega)
          refine ⟨c, h', p1, p2, p3, p4, p5, fun i hi => ?_, stM_f.1.tr p7, fun i hi => by rw [p8 i hi, stM_f.2 i hi]⟩
          have e' : ¬ i = ns + j := by omega
          rw [(p6 i hi).1, (p6 i hi).2]
          unfold stM
          simp [rd_sI, e']
        · rw [if_neg w2, bd2_s, if_pos (by decide)]
          exact ⟨j, h, rfl, hok, fun w => w2 w.2.2, h9, hst, fun _ _ => ⟨rfl, rfl⟩, FR.rf, fun _ _ => rfl⟩
      · rw [if_neg w1, bd2_s, if_pos (by decide)]
        exact ⟨j, h, rfl, hok, fun w => w1 w.2.1, h9, hst, fun _ _ => ⟨rfl, rfl⟩, FR.rf, fun _ _ => rfl⟩
theorem okP_c {x y : Nat → Int32} {z ns j : Nat} (hz : z ≤ 60) (e : ∀ i, i < 60 → x i = y i) : okP x z ns j ↔ okP y z ns j := by
  unfold okP
  constructor
  · rintro ⟨h1, h2, h3⟩
    rw [e (2 * j) (by omega), e (2 * j + 1) (by omega)] at h2
    exact ⟨h1, h2, h3⟩
  · rintro ⟨h1, h2, h3⟩
    rw [← e (2 * j) (by omega), ← e (2 * j + 1) (by omega)] at h2
    exact ⟨h1, h2, h3⟩
theorem o_read : op_read Inv := fun a h hi => by
  by_cases z1 : inb a 4 = true
  · obtain ⟨s, hs, e⟩ := (inb_iff (by omega)).mp z1
    subst e
    obtain ⟨q1, q2, q3⟩ := so_ s hs
    have hl : s < 2 ^ 31 := by omega
    have hh := hi.2.2.2.2.2.1
    obtain ⟨-, -, ⟨ns, sb⟩, -⟩ := id hi
    rcases hh.at hs with ⟨g1, g2⟩ | ⟨f, z, g1, g2, g3, g4, g5, g6, g7, g8⟩
    · refine ⟨-10 - 1, sI h 71 10 1, _, ?_, ?_, hi.find 1⟩
      · unfold f_CS_read
        rw [c_isSheet, bd2_s, bI_if, if_pos z1, z1, ckk_t, nI_clamp hl, q1, ltt_s, lost_t g1, bd2_s, if_neg i1_0, c_fnd, bd2_s]
      · unfold f_Mo_read
        have e4 : (sI h 71 10 1).1 4 s = 0 := by rw [sI_na (by decide)]; exact g2
        rw [m_isSheet, bd2_s, bI_if, if_pos z1, z1, ckk_t, rA_nI hl, e4, ltt_s, if_pos rfl, m_fnd, bd2_s]
    · obtain ⟨sb1, sb2, sb3, sb4⟩ := sb
      obtain ⟨c, h1, e1, p1, p2, p3, p4, p5, f1⟩ := l_cr (a1 := nI s) (x := h.1 (41 - 2 * s)) hs g2 sb1 400 0 h g6 rfl sb2 (fun i hi' => absurd hi' (Nat.not_lt_zero _)) (fun i hi' => absurd hi' (Nat.not_lt_zero _)) (by omega) (by omega)
      obtain ⟨c', h2, e2, r1, r2, r3, r4, r5, f2, r6⟩ := l_mr (x := h.1 (41 - 2 * s)) hs g2 sb1 400 0 h1 (by rw [f1.e 2]; exact g7) (fun i hi' => by rw [f1.e 1]; exact (g8 i hi').symm) (by rw [f1.e 34]; exact sb3) (fun i hi' => absurd hi' (Nat.not_lt_zero _)) (fun i hi' => absurd hi' (Nat.not_lt_zero _)) (by omega) (by omega)
      have ec := okP_u p1 p2 r1 r2
      subst ec
      have hc8 : ns + c ≤ 8 := by
        by_cases w : c = 0
        · omega
        · have := (p1 (c - 1) (by omega)).2.2
          omega
      refine ⟨nI c, h1, h2, ?_, ?_, hi.sb (ns' := ns + c) (FR.tr (f1.mono (by decide)) (f2.mono (by decide))) (by rw [r6 34 (by decide), f1.e 34]) (by rw [r6 44 (by decide), f1.e 34]) ⟨hc8, by rw [f2.e 60]; exact p3, r3, fun i hi' => ?_⟩⟩
      · unfold f_CS_read
        rw [c_isSheet, bd2_s, bI_if, if_pos z1, z1, ckk_t, nI_clamp hl, q1, ltt_s, lost_f g1 g3, bd2_s, if_pos rfl]
        exact e1
      · unfold f_Mo_read
        have e4 : h1.1 4 s = 1 := by rw [f1.e 4]; exact g4
        rw [m_isSheet, bd2_s, bI_if, if_pos z1, z1, ckk_t, rA_nI hl, e4, ltt_s, if_neg i1_0, show lp_Mo_read_27 (nI s) 400 0 h1 = some (nI c, h2) from e2, bd2_s]
      · by_cases w : i < ns
        · obtain ⟨k1, k2, k3, k4⟩ := sb4 i w
          rw [(r5 i w).1, (r5 i w).2, f1.e 26, f1.e 25, f2.e 59, f2.e 58, (p5 i w).1, (p5 i w).2]
          exact ⟨k1, k2, k3, k4⟩
        · obtain ⟨j, rfl⟩ : ∃ j, i = ns + j := ⟨i - ns, by omega⟩
          have ok := p1 j (by omega)
          rw [(r4 j (by omega)).1, (r4 j (by omega)).2, f2.e 59, f2.e 58, (p4 j (by omega)).1, (p4 j (by omega)).2]
          obtain ⟨d, d1, d2⟩ := (inb_iff (by omega)).mp ok.2.1.1
          obtain ⟨c', c1, c2⟩ := (inb_iff (by omega)).mp ok.2.1.2
          exact ⟨rfl, rfl, ⟨d, d1, d2⟩, ⟨c', c1, c2⟩⟩
  · refine ⟨-2, h, h, ?_, ?_, hi⟩
    · unfold f_CS_read
      rw [c_isSheet, bd2_s, bI_if, if_neg z1]
    · unfold f_Mo_read
      rw [m_isSheet, bd2_s, bI_if, if_neg z1]
