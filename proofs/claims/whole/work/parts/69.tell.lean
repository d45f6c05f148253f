/-! texts, straws, what was seen: what is told lasts -/
theorem FR.e {cs : List Nat} {h h' : HP} (f : FR cs h h') (a : Nat) (ha : a ∉ cs := by decide) : h'.1 a = h.1 a := f.2 a ha
def stC (h : HP) (ns : Nat) (a b : Int32) : HP := sI (sI (sI h 59 ns a) 58 ns b) 60 2 (nI (ns + 1))
def stM (h : HP) (ns : Nat) (a b : Int32) : HP := sI (sI (sI h 26 ns a) 25 ns b) 34 9 (nI (ns + 1))
theorem stC_f {h : HP} {ns : Nat} {a b : Int32} : FR [58, 59, 60] h (stC h ns a b) := by
  unfold stC
  repeat' (first | exact FR.rf | refine FR.s ?_ (by decide))
theorem stM_f {h : HP} {ns : Nat} {a b : Int32} : FR [25, 26, 34] h (stM h ns a b) ∧ ∀ j, j ≠ 9 → (stM h ns a b).1 34 j = h.1 34 j := by
  refine ⟨?_, fun j hj => by unfold stM; rw [sI_nj hj, sI_na (by decide), sI_na (by decide)]⟩
  unfold stM
  repeat' (first | exact FR.rf | refine FR.s ?_ (by decide))
theorem c_straw1 {a1 a2 : Int32} {ns : Nat} {h : HP} (h60 : h.1 60 2 = nI ns) (hn : ns ≤ 8) : f_CS_straw a1 a2 h = if inb a1 24 = true ∧ inb a2 8 = true then (if ns < 8 then some (nI (ns + 1), stC h ns a1 a2) else some (-4, h)) else some (-2, h) := by
  obtain ⟨r1, r2, -, -⟩ := rf_60
  have q : (nI ns < 8) ↔ ns < 8 := nI_ltI (b := 8) (by omega) (by omega)
  unfold f_CS_straw
  rw [c_isDay, bd2_s, bI_if]
  by_cases z1 : inb a1 24 = true
  · rw [if_pos z1, c_isPlace, bd2_s, bI_if]
    by_cases z2 : inb a2 8 = true
    · rw [if_pos z2, if_pos ⟨z1, z2⟩]
      unfold f_St_append
      simp only [ltt_s, rI, r1, r2, h60, q]
      by_cases z3 : ns < 8
      · have hb : inb (nI ns) 8 = true := inb_lit z3 (by omega)
        have hl : ns < 2 ^ 31 := by omega
        have t1 : (sI h 59 ns a1).1 60 2 = nI ns := by simp [rd_sI, h60]
        have t2 : (sI (sI h 59 ns a1) 58 ns a2).1 60 2 = nI ns := by simp [rd_sI, h60]
        have t3 : (sI (sI (sI h 59 ns a1) 58 ns a2) 60 2 (nI (ns + 1))).1 60 2 = nI (ns + 1) := by simp [rd_sI]
        simp only [z3, if_true, hb, ckk_t, wA_nI hl, t1, t2, nI_1, bd2_s, one_ne, if_false, t3]
        rfl
      · simp only [z3, if_false, bd2_s]
        all_goals (first | rfl | exact if_pos rfl)
    · rw [if_neg z2, if_neg (fun z => z2 z.2)]
  · rw [if_neg z1, if_neg (fun z => z1 z.1)]
theorem m_straw1 {a1 a2 : Int32} {ns : Nat} {h : HP} (h9 : h.1 34 9 = nI ns) (hn : ns ≤ 8) : f_Mo_straw a1 a2 h = if inb a1 24 = true ∧ inb a2 8 = true then (if ns < 8 then some (nI (ns + 1), stM h ns a1 a2) else some (-4, h)) else some (-2, h) := by
  have q : (nI ns = 8) ↔ ns = 8 := nI_eq (b := 8) (by omega) (by omega)
  unfold f_Mo_straw
  rw [m_isDay, bd2_s, bI_if]
  by_cases z1 : inb a1 24 = true
  · rw [if_pos z1, m_isEight, bd2_s, bI_if]
    by_cases z2 : inb a2 8 = true
    · rw [if_pos z2, if_pos ⟨z1, z2⟩]
      simp only [ltt_s, rI, h9, q]
      by_cases z3 : ns < 8
      · have hb : inb (nI ns) 8 = true := inb_lit z3 (by omega)
        have hl : ns < 2 ^ 31 := by omega
        have z4 : ¬ ns = 8 := by omega
        have t1 : (sI h 26 ns a1).1 34 9 = nI ns := by simp [rd_sI, h9]
        have t2 : (sI (sI h 26 ns a1) 25 ns a2).1 34 9 = nI ns := by simp [rd_sI, h9]
        have t3 : (sI (sI (sI h 26 ns a1) 25 ns a2) 34 9 (nI (ns + 1))).1 34 9 = nI (ns + 1) := by simp [rd_sI]
        simp only [z3, z4, if_true, hb, ckk_t, wA_nI hl, t1, t2, nI_1, if_false, t3]
        rfl
      · have z4 : ns = 8 := by omega
        rw [if_pos z4, if_neg z3]
    · rw [if_neg z2, if_neg (fun z => z2 z.2)]
  · rw [if_neg z1, if_neg (fun z => z1 z.1)]
theorem Inv.sb {ns' : Nat} {h h' : HP} (t : Inv h) (f : FR [25, 26, 34, 58, 59, 60] h h') (e1 : h'.1 34 34 = h.1 34 34) (e2 : h'.1 34 44 = h.1 34 44) (s : SB ns' h') : Inv h' := by
  obtain ⟨⟨n, nc, t1⟩, ⟨n1, nb, t2⟩, -, ⟨m, t4⟩, t5, t6, t7, t8⟩ := t
  refine ⟨⟨n, nc, t1.fr (f.e 70) (f.e 69) (f.e 68) (f.e 67) (by rw [f.e 33]) (fun _ _ => by rw [f.e 32])⟩, ⟨n1, nb, t2.fr (f.e 66) (f.e 65) (f.e 64) (f.e 63) (f.e 62) (by rw [f.e 33]) (fun _ _ => by rw [f.e 32])⟩, ⟨ns', s⟩, ⟨m, t4.fr (f.e 49) (f.e 48) (f.e 47) (f.e 46) (f.e 8) (f.e 7) (f.e 6) e1⟩, ?_, t6.fr (fun a ha => f.2 a (fun z => ?_)), ?_, by rw [f.1]; exact t8⟩
  · unfold FB
    rw [f.e 71, e2]
    exact t5
  · have : ∀ a, a ∈ [42, 41, 40, 39, 38, 37, 36, 35, 4, 3, 2, 1] → a ∉ [25, 26, 34, 58, 59, 60] := by decide
    exact this a ha z
  · rw [f.e 54]
    exact t7
theorem SB.app {ns : Nat} {h : HP} {a1 a2 : Int32} (s : SB ns h) (hn : ns < 8) (z1 : inb a1 24 = true) (z2 : inb a2 8 = true) : SB (ns + 1) (stM (stC h ns a1 a2) ns a1 a2) := by
  obtain ⟨s1, s2, s3, s4⟩ := s
  obtain ⟨d, d1, d2⟩ := (inb_iff (by omega)).mp z1
  obtain ⟨c, c1, c2⟩ := (inb_iff (by omega)).mp z2
  unfold stM stC
  refine ⟨by omega, by simp [rd_sI], by simp [rd_sI], fun i hi => ?_⟩
  by_cases e : i = ns
  · subst e
    refine ⟨by simp [rd_sI], by simp [rd_sI], ⟨d, d1, by simp [rd_sI, d2]⟩, ⟨c, c1, by simp [rd_sI, c2]⟩⟩
  · obtain ⟨g1, g2, g3, g4⟩ := s4 i (by omega)
    refine ⟨by simp [rd_sI, e, g1], by simp [rd_sI, e, g2], ?_, ?_⟩
    · obtain ⟨x, x1, x2⟩ := g3
      exact ⟨x, x1, by simp [rd_sI, e, x2]⟩
    · obtain ⟨x, x1, x2⟩ := g4
      exact ⟨x, x1, by simp [rd_sI, e, x2]⟩
theorem o_straw : op_straw Inv := fun a1 a2 h hi => by
  obtain ⟨-, -, ⟨ns, s⟩, -⟩ := id hi
  have e1 := c_straw1 (a1 := a1) (a2 := a2) s.2.1 s.1
  by_cases z : inb a1 24 = true ∧ inb a2 8 = true
  · rw [if_pos z] at e1
    by_cases z3 : ns < 8
    · rw [if_pos z3] at e1
      have h9 : (stC h ns a1 a2).1 34 9 = nI ns := by rw [stC_f.e 34]; exact s.2.2.1
      have e2 := m_straw1 (a1 := a1) (a2 := a2) h9 s.1
      rw [if_pos z, if_pos z3] at e2
      refine ⟨_, _, _, e1, e2, hi.sb (FR.tr (stC_f.mono (by decide)) (stM_f.1.mono (by decide))) ?_ ?_ (s.app z3 z.1 z.2)⟩
      · rw [stM_f.2 34 (by decide), stC_f.e 34]
      · rw [stM_f.2 44 (by decide), stC_f.e 34]
    · rw [if_neg z3] at e1
      have e2 := m_straw1 (a1 := a1) (a2 := a2) s.2.2.1 s.1
      rw [if_pos z, if_neg z3] at e2
      exact ⟨_, _, _, e1, e2, hi⟩
  · rw [if_neg z] at e1
    have e2 := m_straw1 (a1 := a1) (a2 := a2) s.2.2.1 s.1
    rw [if_neg z] at e2
    exact ⟨_, _, _, e1, e2, hi⟩
theorem o_back : op_back Inv := fun h hi => by
  obtain ⟨-, -, ⟨ns, s⟩, -⟩ := id hi
  obtain ⟨s1, s2, s3, s4⟩ := s
  have q : (nI ns = 0) ↔ ns = 0 := nI_eq (b := 0) (by omega) (by omega)
  by_cases z : ns = 0
  · refine ⟨-3, h, h, ?_, ?_, hi⟩
    · unfold f_CS_back
      simp only [ltt_s, rI, s2, q]
      rw [if_pos z]
    · unfold f_Mo_back
      simp only [ltt_s, rI, s3, q]
      rw [if_pos z]
  · obtain ⟨n, rfl⟩ : ∃ n, ns = n + 1 := ⟨ns - 1, by omega⟩
    have e9 : (sI h 60 2 (nI n)).1 34 9 = nI (n + 1) := by simp [rd_sI, s3]
    refine ⟨nI n, sI h 60 2 (nI n), sI (sI h 60 2 (nI n)) 34 9 (nI n), ?_, ?_, hi.sb (ns' := n) (by repeat' (first | exact FR.rf | refine FR.s ?_ (by decide))) (by simp [rd_sI]) (by simp [rd_sI]) ⟨by omega, by simp [rd_sI], by simp [rd_sI], fun i hi' => ?_⟩⟩
    · unfold f_CS_back
      simp only [ltt_s, rI, s2, q]
      rw [if_neg z, nI_pred, sI_eq]
    · unfold f_Mo_back
      simp only [ltt_s, rI, e9, q]
      rw [if_neg z, nI_pred, sI_eq]
    · have := s4 i (by omega)
      simpa [rd_sI] using this
theorem Inv.nb {m' : Nat} {h h' : HP} (t : Inv h) (f : FR [6, 7, 8, 34, 46, 47, 48, 49] h h') (e1 : h'.1 34 9 = h.1 34 9) (e2 : h'.1 34 44 = h.1 34 44) (s : NB m' h') : Inv h' := by
  obtain ⟨⟨n, nc, t1⟩, ⟨n1, nb, t2⟩, ⟨ns, t3⟩, -, t5, t6, t7, t8⟩ := t
  refine ⟨⟨n, nc, t1.fr (f.e 70) (f.e 69) (f.e 68) (f.e 67) (by rw [f.e 33]) (fun _ _ => by rw [f.e 32])⟩, ⟨n1, nb, t2.fr (f.e 66) (f.e 65) (f.e 64) (f.e 63) (f.e 62) (by rw [f.e 33]) (fun _ _ => by rw [f.e 32])⟩, ⟨ns, t3.fr (f.e 60) (f.e 59) (f.e 58) (f.e 26) (f.e 25) e1⟩, ⟨m', s⟩, ?_, t6.fr (fun a ha => f.2 a (fun z => ?_)), ?_, by rw [f.1]; exact t8⟩
  · unfold FB
    rw [f.e 71, e2]
    exact t5
  · have : ∀ a, a ∈ [42, 41, 40, 39, 38, 37, 36, 35, 4, 3, 2, 1] → a ∉ [6, 7, 8, 34, 46, 47, 48, 49] := by decide
    exact this a ha z
  · rw [f.e 54]
    exact t7
theorem o_forget : op_forget Inv := fun h hi => by
  obtain ⟨-, -, -, ⟨m, s⟩, -⟩ := id hi
  obtain ⟨s1, s2, s3, s4⟩ := s
  refine ⟨nI m, sI h 49 4 0, sI (sI h 49 4 0) 34 34 0, ?_, ?_, hi.nb (m' := 0) (by repeat' (first | exact FR.rf | refine FR.s ?_ (by decide))) (by simp [rd_sI]) (by simp [rd_sI]) ⟨by omega, by simp [rd_sI, nI_0], by simp [rd_sI, nI_0], fun i hi' => absurd hi' (Nat.not_lt_zero _)⟩⟩
  · unfold f_CS_forget
    simp only [ltt_s, rI, s2]
  · unfold f_Mo_forget
    have e : (sI h 49 4 0).1 34 34 = nI m := by simp [rd_sI, s3]
    simp only [ltt_s, rI, e]
theorem load_c {α : Type} {a : Int32} {x y : α} : (if a < 0 then x else if a ≤ 99 then y else x) = if inb a 100 = true then y else x := if4 (inb_l (n := 99) (by omega))
theorem byte_c {α : Type} {a : Int32} {x y : α} : (if a < 0 then x else if a ≤ 255 then y else x) = if inb a 256 = true then y else x := if4 (inb_l (n := 255) (by omega))
theorem m_in99 {a : Int32} {h : HP} : f_Mo_in a 0 99 h = some (bI (inb a 100), h) := m_inN (n := 99) (by omega)
theorem m_in255 {a : Int32} {h : HP} : f_Mo_in a 0 255 h = some (bI (inb a 256), h) := m_inN (n := 255) (by omega)
theorem o_seen : op_seen Inv := fun a1 a2 a3 h hi => by
  obtain ⟨-, -, -, ⟨m, s⟩, -⟩ := id hi
  obtain ⟨s1, s2, s3, s4⟩ := s
  have q1 : (nI m < 8) ↔ m < 8 := nI_ltI (b := 8) (by omega) (by omega)
  have q2 : (nI m = 8) ↔ m = 8 := nI_eq (b := 8) (by omega) (by omega)
  by_cases z1 : inb a1 24 = true
  · by_cases z2 : inb a2 8 = true
    · by_cases z3 : inb a3 100 = true
      · by_cases z4 : m < 8
        · have hb : inb (nI m) 8 = true := inb_lit z4 (by omega)
          have hl : m < 2 ^ 31 := by omega
          have z5 : ¬ m = 8 := by omega
          obtain ⟨d, d1, d2⟩ := (inb_iff (by omega)).mp z1
          obtain ⟨c, c1, c2⟩ := (inb_iff (by omega)).mp z2
          obtain ⟨g, hg⟩ : ∃ g, g = sI (sI (sI (sI h 48 m a1) 47 m a2) 46 m a3) 49 4 (nI (m + 1)) := ⟨_, rfl⟩
          have fg : FR [46, 47, 48, 49] h g := by
            rw [hg]
            repeat' (first | exact FR.rf | refine FR.s ?_ (by decide))
          have g34 : g.1 34 34 = nI m := by rw [fg.e 34]; exact s3
          refine ⟨nI (m + 1), g, sI (sI (sI (sI g 8 m a1) 7 m a2) 6 m a3) 34 34 (nI (m + 1)), ?_, ?_, hi.nb (m' := m + 1) (FR.tr (fg.mono (by decide)) (by repeat' (first | exact FR.rf | refine FR.s ?_ (by decide)))) (by simp [rd_sI, fg.e 34]) (by simp [rd_sI, fg.e 34]) ⟨by omega, by simp [rd_sI, hg], by simp [rd_sI], fun i hi' => ?_⟩⟩
          · unfold f_CS_seen
            rw [c_isDay, bd2_s, bI_if, if_pos z1, c_isPlace, bd2_s, bI_if, if_pos z2, load_c, if_pos z3]
            unfold f_Gu_append
            have t1 : (sI h 48 m a1).1 49 4 = nI m := by simp [rd_sI, s2]
            have t2 : (sI (sI h 48 m a1) 47 m a2).1 49 4 = nI m := by simp [rd_sI, s2]
            have t3 : (sI (sI (sI h 48 m a1) 47 m a2) 46 m a3).1 49 4 = nI m := by simp [rd_sI, s2]
            have t4 : g.1 49 4 = nI (m + 1) := by rw [hg]; simp [rd_sI]
            simp only [ltt_s, rI, s2, q1, z4, if_true, hb, ckk_t, wA_nI hl, t1, t2, t3, nI_1, bd2_s, one_ne, if_false, ← hg, t4]
          · unfold f_Mo_seen
            rw [m_isDay, bd2_s, bI_if, if_pos z1, m_isEight, bd2_s, bI_if, if_pos z2, m_in99, bd2_s, bI_if, if_pos z3]
            have t1 : (sI g 8 m a1).1 34 34 = nI m := by simp [rd_sI, g34]
            have t2 : (sI (sI g 8 m a1) 7 m a2).1 34 34 = nI m := by simp [rd_sI, g34]
            have t3 : (sI (sI (sI g 8 m a1) 7 m a2) 6 m a3).1 34 34 = nI m := by simp [rd_sI, g34]
            have t4 : (sI (sI (sI (sI g 8 m a1) 7 m a2) 6 m a3) 34 34 (nI (m + 1))).1 34 34 = nI (m + 1) := by simp [rd_sI]
            simp only [ltt_s, rI, g34, q2, z5, if_false, hb, ckk_t, wA_nI hl, t1, t2, t3, nI_1, t4]
          · by_cases e : i = m
            · subst e
              refine ⟨by simp [rd_sI, hg], by simp [rd_sI, hg], by simp [rd_sI, hg], ⟨d, d1, by simp [rd_sI, hg, d2]⟩, ⟨c, c1, by simp [rd_sI, hg, c2]⟩⟩
            · obtain ⟨k1, k2, k3, ⟨x, x1, x2⟩, ⟨y, y1, y2⟩⟩ := s4 i (by omega)
              refine ⟨by simp [rd_sI, hg, e, k1], by simp [rd_sI, hg, e, k2], by simp [rd_sI, hg, e, k3], ⟨x, x1, by simp [rd_sI, hg, e, x2]⟩, ⟨y, y1, by simp [rd_sI, hg, e, y2]⟩⟩
        · refine ⟨-4, h, h, ?_, ?_, hi⟩
          · unfold f_CS_seen
            rw [c_isDay, bd2_s, bI_if, if_pos z1, c_isPlace, bd2_s, bI_if, if_pos z2, load_c, if_pos z3]
            unfold f_Gu_append
            simp only [ltt_s, rI, s2, q1, z4, if_false, bd2_s]
            all_goals (first | rfl | exact if_pos rfl)
          · have z5 : m = 8 := by omega
            unfold f_Mo_seen
            rw [m_isDay, bd2_s, bI_if, if_pos z1, m_isEight, bd2_s, bI_if, if_pos z2, m_in99, bd2_s, bI_if, if_pos z3]
            simp only [ltt_s, rI, s3, q2]
            rw [if_pos z5]
      · refine ⟨-2, h, h, ?_, ?_, hi⟩
        · unfold f_CS_seen
          rw [c_isDay, bd2_s, bI_if, if_pos z1, c_isPlace, bd2_s, bI_if, if_pos z2, load_c, if_neg z3]
        · unfold f_Mo_seen
          rw [m_isDay, bd2_s, bI_if, if_pos z1, m_isEight, bd2_s, bI_if, if_pos z2, m_in99, bd2_s, bI_if, if_neg z3]
    · refine ⟨-2, h, h, ?_, ?_, hi⟩
      · unfold f_CS_seen
        rw [c_isDay, bd2_s, bI_if, if_pos z1, c_isPlace, bd2_s, bI_if, if_neg z2]
      · unfold f_Mo_seen
        rw [m_isDay, bd2_s, bI_if, if_pos z1, m_isEight, bd2_s, bI_if, if_neg z2]
  · refine ⟨-2, h, h, ?_, ?_, hi⟩
    · unfold f_CS_seen
      rw [c_isDay, bd2_s, bI_if, if_neg z1]
    · unfold f_Mo_seen
      rw [m_isDay, bd2_s, bI_if, if_neg z1]
theorem TC.fr {n nc : Nat} {h h' : HP} (t : TC n nc h) (e70 : h'.1 70 = h.1 70) (e69 : h'.1 69 = h.1 69) (e68 : h'.1 68 = h.1 68) (e67 : h'.1 67 = h.1 67) : TC n nc h' := by
  obtain ⟨t1, t2, t3, t4, t5, t6, t7⟩ := t
  exact ⟨t1, by rw [e70]; exact t2, by rw [e70]; exact t3, by rw [e70, e69]; exact t4, by rw [e70]; exact t5, by rw [e70]; exact t6, fun i hi => by rw [e68, e69, e67]; exact t7 i hi⟩
theorem TB.fr {n nb : Nat} {h h' : HP} (t : TB n nb h) (e66 : h'.1 66 = h.1 66) (e65 : h'.1 65 = h.1 65) (e64 : h'.1 64 = h.1 64) (e63 : h'.1 63 = h.1 63) (e62 : h'.1 62 = h.1 62) : TB n nb h' := by
  obtain ⟨t1, t2, t3, t4, t5, t6, t7⟩ := t
  exact ⟨t1, by rw [e66]; exact t2, by rw [e66]; exact t3, by rw [e66, e65]; exact t4, by rw [e66]; exact t5, by rw [e66]; exact t6, fun i hi => by rw [e64, e65, e63, e62]; exact t7 i hi⟩
theorem Inv.tc {n nc : Nat} {h h' : HP} (t : Inv h) (f : FR [32, 33, 67, 68, 69, 70] h h') (e33 : h'.1 33 1 = h.1 33 1) (e32 : ∀ q, 39 ≤ q → h'.1 32 q = h.1 32 q) (s : TCm n nc h') : Inv h' := by
  obtain ⟨-, ⟨n1, nb, t2⟩, ⟨ns, t3⟩, ⟨m, t4⟩, t5, t6, t7, t8⟩ := t
  refine ⟨⟨n, nc, s⟩, ⟨n1, nb, t2.fr (f.e 66) (f.e 65) (f.e 64) (f.e 63) (f.e 62) e33 e32⟩, ⟨ns, t3.fr (f.e 60) (f.e 59) (f.e 58) (f.e 26) (f.e 25) (by rw [f.e 34])⟩, ⟨m, t4.fr (f.e 49) (f.e 48) (f.e 47) (f.e 46) (f.e 8) (f.e 7) (f.e 6) (by rw [f.e 34])⟩, ?_, t6.fr (fun a ha => f.2 a (fun z => ?_)), ?_, by rw [f.1]; exact t8⟩
  · unfold FB
    rw [f.e 71, f.e 34]
    exact t5
  · have : ∀ a, a ∈ [42, 41, 40, 39, 38, 37, 36, 35, 4, 3, 2, 1] → a ∉ [32, 33, 67, 68, 69, 70] := by decide
    exact this a ha z
  · rw [f.e 54]
    exact t7
theorem Inv.tb {n nb : Nat} {h h' : HP} (t : Inv h) (f : FR [32, 33, 62, 63, 64, 65, 66] h h') (e33 : h'.1 33 0 = h.1 33 0) (e32 : ∀ q, q < 39 → h'.1 32 q = h.1 32 q) (s : TBm n nb h') : Inv h' := by
  obtain ⟨⟨n1, nc, t1⟩, -, ⟨ns, t3⟩, ⟨m, t4⟩, t5, t6, t7, t8⟩ := t
  refine ⟨⟨n1, nc, t1.fr (f.e 70) (f.e 69) (f.e 68) (f.e 67) e33 e32⟩, ⟨n, nb, s⟩, ⟨ns, t3.fr (f.e 60) (f.e 59) (f.e 58) (f.e 26) (f.e 25) (by rw [f.e 34])⟩, ⟨m, t4.fr (f.e 49) (f.e 48) (f.e 47) (f.e 46) (f.e 8) (f.e 7) (f.e 6) (by rw [f.e 34])⟩, ?_, t6.fr (fun a ha => f.2 a (fun z => ?_)), ?_, by rw [f.1]; exact t8⟩
  · unfold FB
    rw [f.e 71, f.e 34]
    exact t5
  · have : ∀ a, a ∈ [42, 41, 40, 39, 38, 37, 36, 35, 4, 3, 2, 1] → a ∉ [32, 33, 62, 63, 64, 65, 66] := by decide
    exact this a ha z
  · rw [f.e 54]
    exact t7
theorem cut_C {n nc k : Nat} {h : HP} (hi : Inv h) (t : TCm n nc h) (hk : k ≤ n) : ∃ h1, f_Tx_cutTo 70 (nI k) h = some h1 ∧ Inv (sI h1 33 0 (nI k)) ∧ h1.1 33 0 = nI n := by
  have n23 := t.1.1
  obtain ⟨h1, nc', e1, t1, f1⟩ := parse_C (n := k) (h := sI h 70 2 (nI k)) (by omega) (by simp [rd_sI]) (by simp [rd_sI, t.1.2.2.1])
  have f2 : FR [67, 68, 70] h h1 := (FR.rf.s (by decide)).tr f1
  refine ⟨h1, ?_, hi.tc (n := k) (nc := nc') (FR.s (f2.mono (by decide)) (by decide)) (by simp [rd_sI, f2.e 33]) (fun q _ => by simp [rd_sI, f2.e 32]) ⟨t1.fr (sI_na (by decide)) (sI_na (by decide)) (sI_na (by decide)) (sI_na (by decide)), by simp [rd_sI], fun q hq => ?_⟩, ?_⟩
  · unfold f_Tx_cutTo
    simp only [ltt_s, e1, bd1_s]
  · have := t.2.2 q (by omega)
    rw [sI_na (by decide), sI_na (by decide), f2.e 32, f2.e 69]
    exact this
  · rw [f2.e 33]
    exact t.2.1
theorem cut_B {n nb k : Nat} {h : HP} (hi : Inv h) (t : TBm n nb h) (hk : k ≤ n) : ∃ h1, f_Tx_cutTo 66 (nI k) h = some h1 ∧ Inv (sI h1 33 1 (nI k)) ∧ h1.1 33 1 = nI n := by
  have n39 := t.1.1
  obtain ⟨h1, nc', e1, t1, f1⟩ := parse_B (n := k) (h := sI h 66 2 (nI k)) (by omega) (by simp [rd_sI]) (by simp [rd_sI, t.1.2.2.1])
  have f2 : FR [62, 63, 64, 66] h h1 := (FR.rf.s (by decide)).tr f1
  refine ⟨h1, ?_, hi.tb (n := k) (nb := nc') (FR.s (f2.mono (by decide)) (by decide)) (by simp [rd_sI, f2.e 33]) (fun q _ => by simp [rd_sI, f2.e 32]) ⟨t1.fr (sI_na (by decide)) (sI_na (by decide)) (sI_na (by decide)) (sI_na (by decide)) (sI_na (by decide)), by simp [rd_sI], fun q hq => ?_⟩, ?_⟩
  · unfold f_Tx_cutTo
    simp only [ltt_s, e1, bd1_s]
  · have := t.2.2 q (by omega)
    rw [sI_na (by decide), sI_na (by decide), f2.e 32, f2.e 65]
    exact this
  · rw [f2.e 33]
    exact t.2.1
theorem rA0 {h : HP} {a : Nat} : rA h a 0 = h.1 a 0 := rfl
theorem rA1 {h : HP} {a : Nat} : rA h a 1 = h.1 a 1 := rfl
theorem wA0 {h : HP} {a : Nat} {v : Int32} : wA h a 0 v = sI h a 0 v := rfl
theorem wA1 {h : HP} {a : Nat} {v : Int32} : wA h a 1 v = sI h a 1 v := rfl
theorem tx0 : rfx 61 (Int32.toNatClampNeg 0) = 70 := by decide
theorem tx1 : rfx 61 (Int32.toNatClampNeg 1) = 66 := by decide
theorem in02 : inb 0 2 = true := by decide
theorem in12 : inb 1 2 = true := by decide
theorem o_wipe : op_wipe Inv := fun a h hi => by
  by_cases z1 : inb a 2 = true
  · rcases inb2 z1 with z | z
    · subst z
      obtain ⟨⟨n, nc, t⟩, -⟩ := id hi
      obtain ⟨h1, e1, i1, g1⟩ := cut_C hi t (Nat.zero_le _)
      refine ⟨nI n, h1, sI h1 33 0 0, ?_, ?_, i1⟩
      · unfold f_CS_wipe
        rw [c_isText, bd2_s, bI_if, if_pos z1, z1, ckk_t, tx0]
        simp only [ltt_s, rI, ckk_t, t.1.2.1, show f_Tx_cutTo 70 0 h = some h1 from e1, bd1_s]
      · unfold f_Mo_wipe
        rw [m_isText, bd2_s, bI_if, if_pos z1, z1]
        simp only [ltt_s, ckk_t, rA0, wA0, g1]
    · subst z
      obtain ⟨-, ⟨n, nb, t⟩, -⟩ := id hi
      obtain ⟨h1, e1, i1, g1⟩ := cut_B hi t (Nat.zero_le _)
      refine ⟨nI n, h1, sI h1 33 1 0, ?_, ?_, i1⟩
      · unfold f_CS_wipe
        rw [c_isText, bd2_s, bI_if, if_pos z1, z1, ckk_t, tx1]
        simp only [ltt_s, rI, ckk_t, t.1.2.1, show f_Tx_cutTo 66 0 h = some h1 from e1, bd1_s]
      · unfold f_Mo_wipe
        rw [m_isText, bd2_s, bI_if, if_pos z1, z1]
        simp only [ltt_s, ckk_t, rA1, wA1, g1]
  · refine ⟨-2, h, h, ?_, ?_, hi⟩
    · unfold f_CS_wipe
      rw [c_isText, bd2_s, bI_if, if_neg z1]
    · unfold f_Mo_wipe
      rw [m_isText, bd2_s, bI_if, if_neg z1]
theorem o_undo : op_undo Inv := fun a h hi => by
  by_cases z1 : inb a 2 = true
  · rcases inb2 z1 with z | z
    · subst z
      obtain ⟨⟨n, nc, t⟩, -⟩ := id hi
      have n23 := t.1.1
      have q : (nI n = 0) ↔ n = 0 := nI_eq (b := 0) (by omega) (by omega)
      by_cases z0 : n = 0
      · refine ⟨-3, h, h, ?_, ?_, hi⟩
        · unfold f_CS_undo
          rw [c_isText, bd2_s, bI_if, if_pos z1, z1, ckk_t, tx0]
          simp only [ltt_s, rI, t.1.2.1, q]
          rw [if_pos z0]
        · unfold f_Mo_undo
          rw [m_isText, bd2_s, bI_if, if_pos z1, z1]
          simp only [ltt_s, ckk_t, rA0, t.2.1, q]
          rw [if_pos z0]
      · obtain ⟨k, rfl⟩ : ∃ k, n = k + 1 := ⟨n - 1, by omega⟩
        obtain ⟨h1, e1, i1, g1⟩ := cut_C (k := k) hi t (by omega)
        refine ⟨nI k, h1, sI h1 33 0 (nI k), ?_, ?_, i1⟩
        · unfold f_CS_undo
          rw [c_isText, bd2_s, bI_if, if_pos z1, z1, ckk_t, tx0]
          simp only [ltt_s, rI, t.1.2.1, q]
          rw [if_neg z0, ckk_t, nI_pred, e1, bd1_s]
        · unfold f_Mo_undo
          rw [m_isText, bd2_s, bI_if, if_pos z1, z1]
          simp only [ltt_s, ckk_t, rA0, wA0, g1, q]
          rw [if_neg z0, nI_pred, sI_eq]
    · subst z
      obtain ⟨-, ⟨n, nb, t⟩, -⟩ := id hi
      have n39 := t.1.1
      have q : (nI n = 0) ↔ n = 0 := nI_eq (b := 0) (by omega) (by omega)
      by_cases z0 : n = 0
      · refine ⟨-3, h, h, ?_, ?_, hi⟩
        · unfold f_CS_undo
          rw [c_isText, bd2_s, bI_if, if_pos z1, z1, ckk_t, tx1]
          simp only [ltt_s, rI, t.1.2.1, q]
          rw [if_pos z0]
        · unfold f_Mo_undo
          rw [m_isText, bd2_s, bI_if, if_pos z1, z1]
          simp only [ltt_s, ckk_t, rA1, t.2.1, q]
          rw [if_pos z0]
      · obtain ⟨k, rfl⟩ : ∃ k, n = k + 1 := ⟨n - 1, by omega⟩
        obtain ⟨h1, e1, i1, g1⟩ := cut_B (k := k) hi t (by omega)
        refine ⟨nI k, h1, sI h1 33 1 (nI k), ?_, ?_, i1⟩
        · unfold f_CS_undo
          rw [c_isText, bd2_s, bI_if, if_pos z1, z1, ckk_t, tx1]
          simp only [ltt_s, rI, t.1.2.1, q]
          rw [if_neg z0, ckk_t, nI_pred, e1, bd1_s]
        · unfold f_Mo_undo
          rw [m_isText, bd2_s, bI_if, if_pos z1, z1]
          simp only [ltt_s, ckk_t, rA1, wA1, g1, q]
          rw [if_neg z0, nI_pred, sI_eq]
  · refine ⟨-2, h, h, ?_, ?_, hi⟩
    · unfold f_CS_undo
      rw [c_isText, bd2_s, bI_if, if_neg z1]
    · unfold f_Mo_undo
      rw [m_isText, bd2_s, bI_if, if_neg z1]
theorem o_type : op_type Inv := fun a1 a2 h hi => by
  by_cases z1 : inb a1 2 = true
  · by_cases z2 : inb a2 256 = true
    · rcases inb2 z1 with z | z
      · subst z
        obtain ⟨⟨n, nc, t⟩, -⟩ := id hi
        have n23 := t.1.1
        have q1 : (nI n < Int32.ofNat 23) ↔ n < 23 := nI_ltI (b := 23) (by omega) (by omega)
        have q2 : (nI n = 23) ↔ n = 23 := nI_eq (b := 23) (by omega) (by omega)
        have r1 : rf1 70 0 = 69 := by decide
        have l1 : ln 69 = 23 := by decide
        by_cases z3 : n < 23
        · have hb : inb (nI n) 23 = true := inb_lit z3 (by omega)
          have hb2 : inb (nI n) 78 = true := inb_lit (by omega) (by omega)
          have hl : n < 2 ^ 31 := by omega
          have z4 : ¬ n = 23 := by omega
          have e0 : (39 : Int32) * 0 + nI n = nI n := by
            rw [show (39 : Int32) * 0 = nI 0 from by decide, nI_add, Nat.zero_add]
          obtain ⟨h1, nc', e1, t1, f1⟩ := parse_C (n := n + 1) (h := sI (sI h 69 n a2) 70 2 (nI (n + 1))) (by omega) (by simp [rd_sI]) (by simp [rd_sI, t.1.2.2.1])
          have f2 : FR [67, 68, 69, 70] h h1 := FR.tr (by repeat' (first | exact FR.rf | refine FR.s ?_ (by decide))) (f1.mono (by decide))
          have g33 : h1.1 33 0 = nI n := by rw [f2.e 33]; exact t.2.1
          refine ⟨nI (n + 1), h1, sI (sI h1 32 n a2) 33 0 (nI (n + 1)), ?_, ?_, hi.tc (n := n + 1) (nc := nc') (FR.s (FR.s (f2.mono (by decide)) (by decide)) (by decide)) (by simp [rd_sI, f2.e 33]) (fun q hq => ?_) ⟨t1.fr ?_ ?_ ?_ ?_, by simp [rd_sI], fun q hq => ?_⟩⟩
          · unfold f_CS_type
            rw [c_isText, bd2_s, bI_if, if_pos z1, byte_c, if_pos z2, z1, ckk_t, tx0, ltt_s]
            unfold f_Tx_append
            have s1 : (sI h 69 n a2).1 70 2 = nI n := by simp [rd_sI, t.1.2.1]
            simp only [ltt_s, rI, r1, l1, t.1.2.1, q1, z3, if_true, hb, ckk_t, wA_nI hl, s1, nI_1, e1, bd1_s, bd2_s, one_ne, if_false, t1.2.1]
          · unfold f_Mo_type
            rw [m_isText, bd2_s, bI_if, if_pos z1, m_in255, bd2_s, bI_if, if_pos z2, z1]
            have s1 : (sI h1 32 n a2).1 33 0 = nI n := by simp [rd_sI, g33]
            have s2 : (sI (sI h1 32 n a2) 33 0 (nI (n + 1))).1 33 0 = nI (n + 1) := by simp [rd_sI]
            simp only [ltt_s, ckk_t, rA0, wA0, g33, if_true, bd1_s, q2, z4, if_false, e0, hb2, wA_nI hl, s1, nI_1, s2]
          · have : ¬ q = n := by omega
            simp [rd_sI, this, f2.e 32]
          · rw [sI_na (by decide), sI_na (by decide)]
          · rw [sI_na (by decide), sI_na (by decide)]
          · rw [sI_na (by decide), sI_na (by decide)]
          · rw [sI_na (by decide), sI_na (by decide)]
          · have e69 : h1.1 69 = (sI (sI h 69 n a2) 70 2 (nI (n + 1))).1 69 := f1.e 69
            rw [sI_na (a := 33) (b := 32) (by decide), sI_na (a := 33) (b := 69) (by decide), sI_na (a := 32) (b := 69) (by decide), e69, sI_na (a := 70) (b := 69) (by decide)]
            by_cases e : q = n
            · subst e
              simp [rd_sI]
            · have := t.2.2 q (by omega)
              simp [rd_sI, e, f2.e 32, this]
        · have z4 : n = 23 := by omega
          refine ⟨-4, h, h, ?_, ?_, hi⟩
          · unfold f_CS_type
            rw [c_isText, bd2_s, bI_if, if_pos z1, byte_c, if_pos z2, z1, ckk_t, tx0, ltt_s]
            unfold f_Tx_append
            simp only [ltt_s, rI, r1, l1, t.1.2.1, q1, z3, if_false, bd2_s]
            all_goals (first | rfl | exact if_pos rfl)
          · unfold f_Mo_type
            rw [m_isText, bd2_s, bI_if, if_pos z1, m_in255, bd2_s, bI_if, if_pos z2, z1]
            simp only [ltt_s, ckk_t, rA0, t.2.1, if_true, bd1_s, q2]
            rw [if_pos z4]
      · subst z
        obtain ⟨-, ⟨n, nb, t⟩, -⟩ := id hi
        have n39 := t.1.1
        have q1 : (nI n < Int32.ofNat 39) ↔ n < 39 := nI_ltI (b := 39) (by omega) (by omega)
        have q2 : (nI n = 39) ↔ n = 39 := nI_eq (b := 39) (by omega) (by omega)
        have r1 : rf1 66 0 = 65 := by decide
        have l1 : ln 65 = 39 := by decide
        by_cases z3 : n < 39
        · have hb : inb (nI n) 39 = true := inb_lit z3 (by omega)
          have hb2 : inb (nI (39 + n)) 78 = true := inb_lit (by omega) (by omega)
          have hl : n < 2 ^ 31 := by omega
          have hl2 : 39 + n < 2 ^ 31 := by omega
          have z4 : ¬ n = 39 := by omega
          have e0 : (39 : Int32) * 1 + nI n = nI (39 + n) := by
            rw [show (39 : Int32) * 1 = nI 39 from by decide, nI_add]
          obtain ⟨h1, nc', e1, t1, f1⟩ := parse_B (n := n + 1) (h := sI (sI h 65 n a2) 66 2 (nI (n + 1))) (by omega) (by simp [rd_sI]) (by simp [rd_sI, t.1.2.2.1])
          have f2 : FR [62, 63, 64, 65, 66] h h1 := FR.tr (by repeat' (first | exact FR.rf | refine FR.s ?_ (by decide))) (f1.mono (by decide))
          have g33 : h1.1 33 1 = nI n := by rw [f2.e 33]; exact t.2.1
          refine ⟨nI (n + 1), h1, sI (sI h1 32 (39 + n) a2) 33 1 (nI (n + 1)), ?_, ?_, hi.tb (n := n + 1) (nb := nc') (FR.s (FR.s (f2.mono (by decide)) (by decide)) (by decide)) (by simp [rd_sI, f2.e 33]) (fun q hq => ?_) ⟨t1.fr ?_ ?_ ?_ ?_ ?_, by simp [rd_sI], fun q hq => ?_⟩⟩
          · unfold f_CS_type
            rw [c_isText, bd2_s, bI_if, if_pos z1, byte_c, if_pos z2, z1, ckk_t, tx1, ltt_s]
            unfold f_Tx_append
            have s1 : (sI h 65 n a2).1 66 2 = nI n := by simp [rd_sI, t.1.2.1]
            simp only [ltt_s, rI, r1, l1, t.1.2.1, q1, z3, if_true, hb, ckk_t, wA_nI hl, s1, nI_1, e1, bd1_s, bd2_s, one_ne, if_false, t1.2.1]
          · unfold f_Mo_type
            rw [m_isText, bd2_s, bI_if, if_pos z1, m_in255, bd2_s, bI_if, if_pos z2, z1]
            have s1 : (sI h1 32 (39 + n) a2).1 33 1 = nI n := by simp [rd_sI, g33]
            have s2 : (sI (sI h1 32 (39 + n) a2) 33 1 (nI (n + 1))).1 33 1 = nI (n + 1) := by simp [rd_sI]
            simp only [ltt_s, ckk_t, rA1, wA1, g33, i1_0, if_false, bd1_s, q2, z4, e0, hb2, wA_nI hl2, s1, nI_1, s2]
          · have : ¬ q = 39 + n := by omega
            simp [rd_sI, this, f2.e 32]
          · rw [sI_na (by decide), sI_na (by decide)]
          · rw [sI_na (by decide), sI_na (by decide)]
          · rw [sI_na (by decide), sI_na (by decide)]
          · rw [sI_na (by decide), sI_na (by decide)]
          · rw [sI_na (by decide), sI_na (by decide)]
          · have e65 : h1.1 65 = (sI (sI h 65 n a2) 66 2 (nI (n + 1))).1 65 := f1.e 65
            rw [sI_na (a := 33) (b := 32) (by decide), sI_na (a := 33) (b := 65) (by decide), sI_na (a := 32) (b := 65) (by decide), e65, sI_na (a := 66) (b := 65) (by decide)]
            by_cases e : q = n
            · subst e
              simp [rd_sI]
            · have := t.2.2 q (by omega)
              simp [rd_sI, e, f2.e 32, this]
        · have z4 : n = 39 := by omega
          refine ⟨-4, h, h, ?_, ?_, hi⟩
          · unfold f_CS_type
            rw [c_isText, bd2_s, bI_if, if_pos z1, byte_c, if_pos z2, z1, ckk_t, tx1, ltt_s]
            unfold f_Tx_append
            simp only [ltt_s, rI, r1, l1, t.1.2.1, q1, z3, if_false, bd2_s]
            all_goals (first | rfl | exact if_pos rfl)
          · unfold f_Mo_type
            rw [m_isText, bd2_s, bI_if, if_pos z1, m_in255, bd2_s, bI_if, if_pos z2, z1]
            simp only [ltt_s, ckk_t, rA1, t.2.1, i1_0, if_false, bd1_s, q2]
            rw [if_pos z4]
    · refine ⟨-2, h, h, ?_, ?_, hi⟩
      · unfold f_CS_type
        rw [c_isText, bd2_s, bI_if, if_pos z1, byte_c, if_neg z2]
      · unfold f_Mo_type
        rw [m_isText, bd2_s, bI_if, if_pos z1, m_in255, bd2_s, bI_if, if_neg z2]
  · refine ⟨-2, h, h, ?_, ?_, hi⟩
    · unfold f_CS_type
      rw [c_isText, bd2_s, bI_if, if_neg z1]
    · unfold f_Mo_type
      rw [m_isText, bd2_s, bI_if, if_neg z1]
