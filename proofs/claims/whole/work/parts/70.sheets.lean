/-! sheets -/
def shL (s : Nat) : List Nat := [0, 1, 2, 3, 4, 34, 71, 42 - 2 * s, 41 - 2 * s]
theorem shL_n {s a : Nat} (hs : s < 4) (h : (42 < a ∧ a ≠ 71) ∨ (4 < a ∧ a < 34)) : a ∉ shL s := by
  unfold shL
  simp only [List.mem_cons, List.not_mem_nil, or_false]
  omega
theorem shL_x {s t : Nat} (hs : s < 4) (ht : t < 4) (h : t ≠ s) : 42 - 2 * t ∉ shL s ∧ 41 - 2 * t ∉ shL s := by
  unfold shL
  simp only [List.mem_cons, List.not_mem_nil, or_false]
  omega
theorem shL_o {s : Nat} : 42 - 2 * s ∈ shL s := by simp [shL]
theorem shL_r {s : Nat} : 41 - 2 * s ∈ shL s := by simp [shL]
theorem shL_k {s a : Nat} (h : a ∈ [0, 1, 2, 3, 4, 34, 71]) : a ∈ shL s := by
  unfold shL
  simp only [List.mem_cons, List.not_mem_nil, or_false] at h ⊢
  omega
theorem so_ : ∀ s, s < 4 → rfx 43 s = 42 - 2 * s ∧ rf1 (42 - 2 * s) 0 = 41 - 2 * s ∧ ln (41 - 2 * s) = 60 := by decide
theorem HB.at {h : HP} (t : HB h) {s : Nat} (hs : s < 4) : SH (42 - 2 * s) (41 - 2 * s) s h := by
  have e : s = 0 ∨ s = 1 ∨ s = 2 ∨ s = 3 := by omega
  rcases e with rfl | rfl | rfl | rfl
  · exact t.1
  · exact t.2.1
  · exact t.2.2.1
  · exact t.2.2.2
theorem HB.of {h : HP} (t : ∀ s, s < 4 → SH (42 - 2 * s) (41 - 2 * s) s h) : HB h := ⟨t 0 (by omega), t 1 (by omega), t 2 (by omega), t 3 (by omega)⟩
/-- all that lasts is as it was, but for a sheet and the finding -/
def SX (s : Nat) (h h' : HP) : Prop := h'.2.2 = h.2.2 ∧ (∀ a, a ∉ scr → a ∉ shL s → h'.1 a = h.1 a) ∧ h'.1 34 9 = h.1 34 9 ∧ h'.1 34 34 = h.1 34 34
theorem SX.tr {s : Nat} {h h' h'' : HP} (a : SX s h h') (b : SX s h' h'') : SX s h h'' := ⟨b.1.trans a.1, fun q h1 h2 => (b.2.1 q h1 h2).trans (a.2.1 q h1 h2), b.2.2.1.trans a.2.2.1, b.2.2.2.trans a.2.2.2⟩
theorem SF.sx {s : Nat} {h h' : HP} (k : SF h h') : SX s h h' := ⟨k.1, fun a h1 h2 => k.2.1 a h1 (fun z => h2 (by subst z; exact shL_k (by decide))), k.2.2.1, k.2.2.2.1⟩
theorem SX.of {s : Nat} {h h' : HP} (f : FR (shL s) h h') (e9 : h'.1 34 9 = h.1 34 9) (e34 : h'.1 34 34 = h.1 34 34) : SX s h h' := ⟨by rw [f.1], fun a _ h2 => f.2 a h2, e9, e34⟩
theorem SX.g {s : Nat} {h h' : HP} (k : SX s h h') (hs : s < 4) (a : Nat) (h1 : a ∉ scr := by decide) (h2 : (42 < a ∧ a ≠ 71) ∨ (4 < a ∧ a < 34) := by decide) : h'.1 a = h.1 a := k.2.1 a h1 (shL_n hs h2)
theorem HB.upd {h h' : HP} {s : Nat} (hs : s < 4) (t : HB h) (k : SX s h h') (e4 : ∀ j, j ≠ s → h'.1 4 j = h.1 4 j) (e3 : ∀ j, j ≠ s → h'.1 3 j = h.1 3 j) (e2 : ∀ j, j ≠ s → h'.1 2 j = h.1 2 j) (e1 : ∀ j, (j < 60 * s ∨ 60 * s + 60 ≤ j) → h'.1 1 j = h.1 1 j) (hn : SH (42 - 2 * s) (41 - 2 * s) s h') : HB h' := by
  refine HB.of (fun s' hs' => ?_)
  by_cases e : s' = s
  · subst e
    exact hn
  · obtain ⟨x1, x2⟩ := shL_x hs hs' e
    have y1 : ∀ t, t < 4 → 42 - 2 * t ∉ scr ∧ 41 - 2 * t ∉ scr := by decide
    exact (t.at hs').fr (k.2.1 _ (y1 s' hs').1 x1) (k.2.1 _ (y1 s' hs').2 x2) (e4 s' e) (e3 s' e) (e2 s' e) (fun i hi => e1 _ (by omega))
theorem Inv.sx {h h' : HP} {s : Nat} (hs : s < 4) (t : Inv h) (k : SX s h h') (fb : FB h') (hb : HB h') : Inv h' := by
  obtain ⟨⟨n, nc, t1⟩, ⟨n1, nb, t2⟩, ⟨ns, t3⟩, ⟨m, t4⟩, t5, t6, t7, t8⟩ := t
  refine ⟨⟨n, nc, t1.fr (k.g hs 70) (k.g hs 69) (k.g hs 68) (k.g hs 67) (by rw [k.g hs 33]) (fun _ _ => by rw [k.g hs 32])⟩, ⟨n1, nb, t2.fr (k.g hs 66) (k.g hs 65) (k.g hs 64) (k.g hs 63) (k.g hs 62) (by rw [k.g hs 33]) (fun _ _ => by rw [k.g hs 32])⟩, ⟨ns, t3.fr (k.g hs 60) (k.g hs 59) (k.g hs 58) (k.g hs 26) (k.g hs 25) k.2.2.1⟩, ⟨m, t4.fr (k.g hs 49) (k.g hs 48) (k.g hs 47) (k.g hs 46) (k.g hs 8) (k.g hs 7) (k.g hs 6) k.2.2.2⟩, fb, hb, ?_, k.1.trans t8⟩
  rw [k.g hs 54]
  exact t7
theorem QS.sx {D : DT} {h h' : HP} {s : Nat} (hs : s < 4) (t : QS D h) (k : SX s h h') : QS D h' := by
  obtain ⟨hc, ⟨n, t1⟩, ⟨n1, t2⟩, t3, t5, t6, h60, t8, ⟨m, t4⟩⟩ := t
  obtain ⟨c1, c2, b1, b2, b3, c3, c4, c5, c6, c7, c8⟩ := hc
  obtain ⟨r1, r2, r3, r4⟩ := rf_60
  have e2 : h'.2.2 = 60 := k.1.trans h60
  rw [h60] at c5 c6
  rw [r1, r2] at c6
  exact ⟨⟨by rw [k.g hs 70]; exact c1, by rw [k.g hs 66]; exact c2, b1, b2, b3, fun i hi => by rw [k.g hs 62, k.g hs 64, k.g hs 63]; exact c3 i hi, Or.inl e2, by rw [e2, k.g hs 60]; exact c5, fun i hi => by rw [e2, r1, r2, k.g hs 59, k.g hs 58]; exact c6 i hi, by rw [k.g hs 54]; exact c7, fun i hi => by rw [k.g hs 68, k.g hs 67]; exact c8 i hi⟩, ⟨n, t1.fr (k.g hs 70) (k.g hs 69) (k.g hs 68) (k.g hs 67) (by rw [k.g hs 33]) (fun _ _ => by rw [k.g hs 32])⟩, ⟨n1, t2.fr (k.g hs 66) (k.g hs 65) (k.g hs 64) (k.g hs 63) (k.g hs 62) (by rw [k.g hs 33]) (fun _ _ => by rw [k.g hs 32])⟩, t3.fr (k.g hs 60) (k.g hs 59) (k.g hs 58) (k.g hs 26) (k.g hs 25) k.2.2.1, fun i hi => by rw [k.g hs 59, k.g hs 58]; exact t5 i hi, t6, e2, t8, ⟨m, t4.fr (k.g hs 49) (k.g hs 48) (k.g hs 47) (k.g hs 46) (k.g hs 8) (k.g hs 7) (k.g hs 6) k.2.2.2⟩⟩
theorem fnd_f {h : HP} {x : Int32} : FR [34, 71] h (sI (sI h 71 10 x) 34 44 x) := by
  repeat' (first | exact FR.rf | refine FR.s ?_ (by decide))
theorem Inv.find {h : HP} (x : Int32) (t : Inv h) : Inv (sI (sI h 71 10 x) 34 44 x) := by
  refine t.sx (s := 0) (by omega) (SX.of (fnd_f.mono (fun q hq => shL_k ?_)) (by simp [rd_sI]) (by simp [rd_sI])) ?_ (t.2.2.2.2.2.1.fr (fun a ha => fnd_f.2 a (fun z => ?_)))
  · simp only [List.mem_cons, List.not_mem_nil, or_false] at hq ⊢
    omega
  · unfold FB
    simp [rd_sI]
  · have : ∀ a, a ∈ [42, 41, 40, 39, 38, 37, 36, 35, 4, 3, 2, 1] → a ∉ [34, 71] := by decide
    exact this a ha z
theorem c_fnd {h : HP} {x : Int32} : f_CS_finding x h = some (-10 - x, sI h 71 10 x) := rfl
theorem m_fnd {h : HP} {x : Int32} : f_Mo_meets x h = some (-10 - x, sI h 34 44 x) := rfl
theorem lost_t {o : Nat} {h : HP} (e : h.1 o 1 = -1) : f_Sh_isLost o h = some (1, h) := by
  unfold f_Sh_isLost
  simp only [ltt_s, rI, e, if_true]
theorem lost_f {o f : Nat} {h : HP} (hf : f < 3) (e : h.1 o 1 = nI f) : f_Sh_isLost o h = some (0, h) := by
  unfold f_Sh_isLost
  simp only [ltt_s, rI, e]
  rw [if_neg (nI_nm1 (by omega))]
theorem k60 {s i : Nat} : (60 : Int32) * nI s + nI i = nI (60 * s + i) := by
  rw [show (60 : Int32) * nI s = nI (60 * s) from pk_mul 60 s, nI_add]
theorem o_lose : op_lose Inv := fun a h hi => by
  by_cases z1 : inb a 4 = true
  · obtain ⟨s, hs, e⟩ := (inb_iff (by omega)).mp z1
    subst e
    obtain ⟨q1, q2, q3⟩ := so_ s hs
    have hl : s < 2 ^ 31 := by omega
    have hh := hi.2.2.2.2.2.1
    rcases hh.at hs with ⟨g1, g2⟩ | ⟨f, z, g1, g2, g3, g4, g5, g6, g7, g8⟩
    · refine ⟨-10 - 1, sI h 71 10 1, _, ?_, ?_, hi.find 1⟩
      · unfold f_CS_lose
        rw [c_isSheet, bd2_s, bI_if, if_pos z1, z1, ckk_t, nI_clamp hl, q1, ltt_s, lost_t g1, bd2_s, if_neg i1_0, c_fnd, bd2_s]
      · unfold f_Mo_lose
        have e4 : (sI h 71 10 1).1 4 s = 0 := by rw [sI_na (by decide)]; exact g2
        rw [m_isSheet, bd2_s, bI_if, if_pos z1, z1, ckk_t, rA_nI hl, e4, ltt_s, if_pos rfl, m_fnd, bd2_s]
    · obtain ⟨h1, e1, p1, f1⟩ := c_fill (o := 41 - 2 * s) (n := 60) (h := sI (sI h (42 - 2 * s) 1 (-1)) (42 - 2 * s) 2 0) (by omega) q3
      have f2 : FR [42 - 2 * s, 41 - 2 * s] h h1 := FR.tr (FR.s (FR.s FR.rf (by simp)) (by simp)) (f1.mono (by simp))
      have n4 : 4 ∉ [42 - 2 * s, 41 - 2 * s] := by simp only [List.mem_cons, List.not_mem_nil, or_false]; omega
      have n3 : 3 ∉ [42 - 2 * s, 41 - 2 * s] := by simp only [List.mem_cons, List.not_mem_nil, or_false]; omega
      have n2 : 2 ∉ [42 - 2 * s, 41 - 2 * s] := by simp only [List.mem_cons, List.not_mem_nil, or_false]; omega
      have n1 : 1 ∉ [42 - 2 * s, 41 - 2 * s] := by simp only [List.mem_cons, List.not_mem_nil, or_false]; omega
      have n34 : 34 ∉ [42 - 2 * s, 41 - 2 * s] := by simp only [List.mem_cons, List.not_mem_nil, or_false]; omega
      have n71 : 71 ∉ [42 - 2 * s, 41 - 2 * s] := by simp only [List.mem_cons, List.not_mem_nil, or_false]; omega
      have f3 : FR (shL s) h (sI h1 4 s 0) := FR.s (f2.mono (fun q hq => by
        simp only [List.mem_cons, List.not_mem_nil, or_false] at hq
        rcases hq with rfl | rfl
        · exact shL_o
        · exact shL_r)) (shL_k (by decide))
      have k : SX s h (sI h1 4 s 0) := SX.of f3 (by rw [sI_na (by decide), f2.2 34 n34]) (by rw [sI_na (by decide), f2.2 34 n34])
      refine ⟨nI z, h1, sI h1 4 s 0, ?_, ?_, hi.sx hs k ?_ (hh.upd hs k (fun j hj => ?_) (fun j hj => ?_) (fun j hj => ?_) (fun j hj => ?_) (Or.inl ⟨?_, ?_⟩))⟩
      · unfold f_CS_lose
        rw [c_isSheet, bd2_s, bI_if, if_pos z1, z1, ckk_t, nI_clamp hl, q1, ltt_s, lost_f g1 g3, bd2_s, if_pos rfl, ckk_t, ltt_s, ltt_s, ckk_t, ltt_s]
        unfold f_Sh_renew
        simp only [ltt_s, q2, e1, bd1_s, rI, g6]
      · unfold f_Mo_lose
        have e4 : h1.1 4 s = 1 := by rw [f2.2 4 n4]; exact g4
        have e5 : (sI h1 4 s 0).1 2 s = nI z := by rw [sI_na (by decide), f2.2 2 n2]; exact g7
        rw [m_isSheet, bd2_s, bI_if, if_pos z1, z1, ckk_t, rA_nI hl, e4, ltt_s, if_neg i1_0, ckk_t, wA_nI hl, ltt_s, ckk_t, rA_nI hl, e5, ltt_s]
      · unfold FB
        rw [sI_na (by decide), sI_na (by decide), f2.2 71 n71, f2.2 34 n34]
        exact hi.2.2.2.2.1
      · rw [sI_nj hj, f2.2 4 n4]
      · rw [sI_na (by decide), f2.2 3 n3]
      · rw [sI_na (by decide), f2.2 2 n2]
      · rw [sI_na (by decide), f2.2 1 n1]
      · have x : 42 - 2 * s ∉ [41 - 2 * s] := by simp only [List.mem_cons, List.not_mem_nil, or_false]; omega
        rw [sI_na (by omega), f1.2 _ x]
        simp [rd_sI]
      · exact sI_eq
  · refine ⟨-2, h, h, ?_, ?_, hi⟩
    · unfold f_CS_lose
      rw [c_isSheet, bd2_s, bI_if, if_neg z1]
    · unfold f_Mo_lose
      rw [m_isSheet, bd2_s, bI_if, if_neg z1]
theorem l_s59 {s : Nat} {a2 a3 : Int32} (hs : s < 4) : ∀ (fu i : Nat) (h : HP), i ≤ 60 → 60 < i + fu → (∀ j, j < i → h.1 1 (60 * s + j) = 0) → ∃ v h', lp_Mo_sheet_59 (nI s) a2 a3 fu (nI i) h = some (v, h') ∧ (∀ j, j < 60 → h'.1 1 (60 * s + j) = 0) ∧ (∀ j, (j < 60 * s ∨ 60 * s + 60 ≤ j) → h'.1 1 j = h.1 1 j) ∧ FR [1] h h' := by
  intro fu
  induction fu with
  | zero => intro i h h1 h2; omega
  | succ fu ih =>
    intro i h hi hf hj
    have q : (60 ≤ nI i) ↔ 60 ≤ i := nI_leI (a := 60) (by omega) (by omega)
    rw [lp_Mo_sheet_59]
    simp only [q]
    by_cases he : 60 ≤ i
    · rw [if_pos he]
      exact ⟨_, h, rfl, fun j hj' => hj j (by omega), fun _ _ => rfl, FR.rf⟩
    · rw [if_neg he]
      have hb : inb (nI (60 * s + i)) 240 = true := inb_lit (by omega) (by omega)
      rw [k60, hb, ckk_t, wA_nI (by omega), ltt_s, ltt_s, nI_1]
      obtain ⟨v, h', p1, p2, p3, p4⟩ := ih (i + 1) (sI h 1 (60 * s + i) 0) (by omega) (by omega) (fun j hj' => by
        by_cases e : j = i
        · subst e; simp [rd_sI]
        · have := hj j (by omega)
          have e' : ¬ 60 * s + j = 60 * s + i := by omega
          simp [rd_sI, e', this])
      refine ⟨v, h', p1, p2, fun j hj' => ?_, FR.tr (FR.s FR.rf (by decide)) p4⟩
      rw [p3 j hj', sI_nj (by omega)]
theorem o_sheet : op_sheet Inv := fun a1 a2 a3 h hi => by
  by_cases z1 : inb a1 4 = true
  · by_cases z2 : inb a2 3 = true
    · by_cases z3 : a3 ≤ 60
      · by_cases z4 : 0 ≤ a3
        · obtain ⟨s, hs, e⟩ := (inb_iff (by omega)).mp z1
          subst e
          obtain ⟨f, hf, e⟩ := (inb_iff (by omega)).mp z2
          subst e
          have z4' : ¬ a3 < 0 := Int32.not_lt.mpr z4
          obtain ⟨z, hz, e⟩ := nI_of2 (x := a3) (M := 60) (n := 60) (by decide) z4' z3
          subst e
          obtain ⟨q1, q2, q3⟩ := so_ s hs
          have hl : s < 2 ^ 31 := by omega
          have hh := hi.2.2.2.2.2.1
          obtain ⟨h1, e1, p1, f1⟩ := c_fill (o := 41 - 2 * s) (n := 60) (h := sI (sI h (42 - 2 * s) 1 (nI f)) (42 - 2 * s) 2 (nI z)) (by omega) q3
          have f2 : FR [42 - 2 * s, 41 - 2 * s] h h1 := FR.tr (FR.s (FR.s FR.rf (by simp)) (by simp)) (f1.mono (by simp))
          have n4 : 4 ∉ [42 - 2 * s, 41 - 2 * s] := by simp only [List.mem_cons, List.not_mem_nil, or_false]; omega
          have n3 : 3 ∉ [42 - 2 * s, 41 - 2 * s] := by simp only [List.mem_cons, List.not_mem_nil, or_false]; omega
          have n2 : 2 ∉ [42 - 2 * s, 41 - 2 * s] := by simp only [List.mem_cons, List.not_mem_nil, or_false]; omega
          have n1 : 1 ∉ [42 - 2 * s, 41 - 2 * s] := by simp only [List.mem_cons, List.not_mem_nil, or_false]; omega
          have n34 : 34 ∉ [42 - 2 * s, 41 - 2 * s] := by simp only [List.mem_cons, List.not_mem_nil, or_false]; omega
          have n71 : 71 ∉ [42 - 2 * s, 41 - 2 * s] := by simp only [List.mem_cons, List.not_mem_nil, or_false]; omega
          obtain ⟨v, h2, e2, p2, p3, f4⟩ := l_s59 (a2 := nI f) (a3 := nI z) hs 400 0 (sI (sI (sI h1 4 s 1) 3 s (nI f)) 2 s (nI z)) (by omega) (by omega) (fun j hj => absurd hj (Nat.not_lt_zero _))
          have f3 : FR (shL s) h h2 := FR.tr (FR.s (FR.s (FR.s (f2.mono (fun q hq => by
            simp only [List.mem_cons, List.not_mem_nil, or_false] at hq
            rcases hq with rfl | rfl
            · exact shL_o
            · exact shL_r)) (shL_k (by decide))) (shL_k (by decide))) (shL_k (by decide))) (f4.mono (fun q hq => shL_k (by
              simp only [List.mem_cons, List.not_mem_nil, or_false] at hq ⊢
              omega)))
          have g34 : h2.1 34 = h.1 34 := by rw [f4.e 34, sI_na (by decide), sI_na (by decide), sI_na (by decide), f2.2 34 n34]
          have k : SX s h h2 := SX.of f3 (by rw [g34]) (by rw [g34])
          refine ⟨nI z, h1, h2, ?_, ?_, hi.sx hs k ?_ (hh.upd hs k (fun j hj => ?_) (fun j hj => ?_) (fun j hj => ?_) (fun j hj => ?_) (Or.inr ⟨f, z, hf, hz, ?_, ?_, ?_, ?_, ?_, fun i hi' => ?_⟩))⟩
          · unfold f_CS_sheet
            rw [c_isSheet, bd2_s, bI_if, if_pos z1, c_isForm, bd2_s, bI_if, if_pos z2, if_pos z3, if_pos z4, z1, ckk_t, nI_clamp hl, q1, ltt_s]
            unfold f_Sh_renew
            simp only [ltt_s, q2, e1, bd1_s]
          · unfold f_Mo_sheet
            rw [m_isSheet, bd2_s, bI_if, if_pos z1, m_in2, bd2_s, bI_if, if_pos z2, if_pos z3, if_pos z4, z1]
            simp only [ltt_s, ckk_t, wA_nI hl]
            rw [show lp_Mo_sheet_59 (nI s) (nI f) (nI z) 400 0 (sI (sI (sI h1 4 s 1) 3 s (nI f)) 2 s (nI z)) = some (v, h2) from e2, bd2_s]
          · unfold FB
            rw [g34, f4.e 71, sI_na (by decide), sI_na (by decide), sI_na (by decide), f2.2 71 n71]
            exact hi.2.2.2.2.1
          · rw [f4.e 4, sI_na (by decide), sI_na (by decide), sI_nj hj, f2.2 4 n4]
          · rw [f4.e 3, sI_na (by decide), sI_nj hj, sI_na (by decide), f2.2 3 n3]
          · rw [f4.e 2, sI_nj hj, sI_na (by decide), sI_na (by decide), f2.2 2 n2]
          · rw [p3 j hj, sI_na (by decide), sI_na (by decide), sI_na (by decide), f2.2 1 n1]
          · have x : 42 - 2 * s ∉ [41 - 2 * s] := by simp only [List.mem_cons, List.not_mem_nil, or_false]; omega
            have y : 42 - 2 * s ∉ [1] := by simp only [List.mem_cons, List.not_mem_nil, or_false]; omega
            rw [f4.2 _ y, sI_na (by omega), sI_na (by omega), sI_na (by omega), f1.2 _ x]
            simp [rd_sI]
          · rw [f4.e 4, sI_na (by decide), sI_na (by decide), sI_eq]
          · rw [f4.e 3, sI_na (by decide), sI_eq]
          · have x : 42 - 2 * s ∉ [41 - 2 * s] := by simp only [List.mem_cons, List.not_mem_nil, or_false]; omega
            have y : 42 - 2 * s ∉ [1] := by simp only [List.mem_cons, List.not_mem_nil, or_false]; omega
            rw [f4.2 _ y, sI_na (by omega), sI_na (by omega), sI_na (by omega), f1.2 _ x]
            simp [rd_sI]
          · rw [f4.e 2, sI_eq]
          · have y : 41 - 2 * s ∉ [1] := by simp only [List.mem_cons, List.not_mem_nil, or_false]; omega
            rw [p2 i hi', f4.2 _ y, sI_na (by omega), sI_na (by omega), sI_na (by omega), p1 i hi']
        · refine ⟨-10 - 5, sI h 71 10 5, _, ?_, ?_, hi.find 5⟩
          · unfold f_CS_sheet
            rw [c_isSheet, bd2_s, bI_if, if_pos z1, c_isForm, bd2_s, bI_if, if_pos z2, if_pos z3, if_neg z4, c_fnd, bd2_s]
          · unfold f_Mo_sheet
            rw [m_isSheet, bd2_s, bI_if, if_pos z1, m_in2, bd2_s, bI_if, if_pos z2, if_pos z3, if_neg z4, m_fnd, bd2_s]
      · refine ⟨-2, h, h, ?_, ?_, hi⟩
        · unfold f_CS_sheet
          rw [c_isSheet, bd2_s, bI_if, if_pos z1, c_isForm, bd2_s, bI_if, if_pos z2, if_neg z3]
        · unfold f_Mo_sheet
          rw [m_isSheet, bd2_s, bI_if, if_pos z1, m_in2, bd2_s, bI_if, if_pos z2, if_neg z3]
    · refine ⟨-2, h, h, ?_, ?_, hi⟩
      · unfold f_CS_sheet
        rw [c_isSheet, bd2_s, bI_if, if_pos z1, c_isForm, bd2_s, bI_if, if_neg z2]
      · unfold f_Mo_sheet
        rw [m_isSheet, bd2_s, bI_if, if_pos z1, m_in2, bd2_s, bI_if, if_neg z2]
  · refine ⟨-2, h, h, ?_, ?_, hi⟩
    · unfold f_CS_sheet
      rw [c_isSheet, bd2_s, bI_if, if_neg z1]
    · unfold f_Mo_sheet
      rw [m_isSheet, bd2_s, bI_if, if_neg z1]
