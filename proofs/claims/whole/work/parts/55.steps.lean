/-! the reference's steps on one camel among all -/
def MK (h h' : HP) : Prop := FR [10, 11, 12, 13, 14, 15, 16, 17, 18, 19, 20, 21, 22, 34] h h' ∧ K34 h h'
theorem MK.rf {h : HP} : MK h h := ⟨FR.rf, K34.rf⟩
theorem MK.tr {h h' h'' : HP} (a : MK h h') (b : MK h' h'') : MK h h'' := ⟨a.1.tr b.1, a.2.tr b.2⟩
theorem MK.s {h h' : HP} {a j : Nat} {v : Int32} (m : MK h h') (ha : a ∈ [10, 11, 12, 13, 14, 15, 16, 17, 18, 19, 20, 21, 22]) : MK h (_root_.Jvm.Pilot.@@N@@.sI h' a j v) := by
  refine ⟨m.1.s ?_, fun i h1 h2 h3 h4 => ?_⟩
  · simp only [List.mem_cons, List.not_mem_nil, or_false] at ha ⊢
    omega
  · rw [sI_na (fun z => by subst z; exact absurd ha (by decide))]
    exact m.2 i h1 h2 h3 h4
theorem MK.f {h h' : HP} {j : Nat} {v : Int32} (m : MK h h') (hj : j = 16 ∨ j = 23 ∨ j = 24 ∨ j = 25) : MK h (_root_.Jvm.Pilot.@@N@@.sI h' 34 j v) := by
  refine ⟨m.1.s (by decide), fun i h1 h2 h3 h4 => ?_⟩
  rw [sI_nj (by omega)]
  exact m.2 i h1 h2 h3 h4
/-- the same, records and 'lastAt' left alone -/
def MJ (h h' : HP) : Prop := FR [17, 18, 19, 20, 21, 22, 34] h h' ∧ K34 h h'
theorem MJ.rf {h : HP} : MJ h h := ⟨FR.rf, K34.rf⟩
theorem MJ.tr {h h' h'' : HP} (a : MJ h h') (b : MJ h' h'') : MJ h h'' := ⟨a.1.tr b.1, a.2.tr b.2⟩
theorem MJ.s {h h' : HP} {a j : Nat} {v : Int32} (m : MJ h h') (ha : a ∈ [17, 18, 19, 20, 21, 22]) : MJ h (_root_.Jvm.Pilot.@@N@@.sI h' a j v) := by
  refine ⟨m.1.s ?_, fun i h1 h2 h3 h4 => ?_⟩
  · simp only [List.mem_cons, List.not_mem_nil, or_false] at ha ⊢
    omega
  · rw [sI_na (fun z => by subst z; exact absurd ha (by decide))]
    exact m.2 i h1 h2 h3 h4
theorem MJ.f {h h' : HP} {j : Nat} {v : Int32} (m : MJ h h') (hj : j = 16 ∨ j = 23 ∨ j = 24 ∨ j = 25) : MJ h (_root_.Jvm.Pilot.@@N@@.sI h' 34 j v) := by
  refine ⟨m.1.s (by decide), fun i h1 h2 h3 h4 => ?_⟩
  rw [sI_nj (by omega)]
  exact m.2 i h1 h2 h3 h4
theorem MJ.mk {h h' : HP} (m : MJ h h') : MK h h' := ⟨m.1.mono (by decide), m.2⟩
/-- what the reference's cells hold of the data -/
def MD (D : DT) (h : HP) : Prop := h.1 34 2 = nI (dnc D) ∧ h.1 34 5 = nI (dnb D) ∧ dnc D ≤ 8 ∧ dnb D ≤ 10 ∧ dns D ≤ 17 ∧ h.1 34 12 = nI (dns D) ∧ h.1 34 15 = dlo D ∧ (∀ i, i < dnb D → h.1 27 i = dbd D i ∧ h.1 29 i = dbo D i ∧ h.1 28 i = nI (dbw D i) ∧ dbw D i ≤ 9 ∧ ∃ c, c < 8 ∧ dbo D i = nI c) ∧ (∀ i, i < dns D → h.1 24 i = dsd D i ∧ h.1 23 i = dsk D i ∧ ∃ c, c < 8 ∧ dsk D i = nI c) ∧ ∀ i, i < dnc D → h.1 31 i = nI (dso D i) ∧ h.1 30 i = nI (dfg D i) ∧ dso D i ≤ 2 ∧ 1 ≤ dfg D i ∧ dfg D i ≤ 9
theorem MD.keep {D : DT} {h h' : HP} (hm : MD D h) (k : MK h h') : MD D h' := by
  obtain ⟨m1, m2, m3, m4, m5, m6, m7, m8, m9, m10⟩ := hm
  have g : ∀ a, a ∉ [10, 11, 12, 13, 14, 15, 16, 17, 18, 19, 20, 21, 22, 34] → h'.1 a = h.1 a := k.1.2
  refine ⟨(k.2 2 (by decide) (by decide) (by decide) (by decide)).trans m1, (k.2 5 (by decide) (by decide) (by decide) (by decide)).trans m2, m3, m4, m5, (k.2 12 (by decide) (by decide) (by decide) (by decide)).trans m6, (k.2 15 (by decide) (by decide) (by decide) (by decide)).trans m7, fun i hi => ?_, fun i hi => ?_, fun i hi => ?_⟩
  · rw [g 27 (by decide), g 29 (by decide), g 28 (by decide)]
    exact m8 i hi
  · rw [g 24 (by decide), g 23 (by decide)]
    exact m9 i hi
  · rw [g 31 (by decide), g 30 (by decide)]
    exact m10 i hi
theorem FW.cong {nc d : Nat} {σ σ' : Nat → WS} {fd fw : Int32} (e : ∀ k, k < nc → a_ff (σ' k) = a_ff (σ k)) (hf : FW nc d σ fd fw) : FW nc d σ' fd fw := by
  obtain ⟨h1, h2⟩ := hf
  refine ⟨fun k hk => by rw [e k hk]; exact h1 k hk, ?_⟩
  rcases h2 with ⟨g1, g2, g3⟩ | ⟨m, w, g1, g2, g3, g4, g5, g6⟩
  · exact Or.inl ⟨fun k hk => (e k hk).trans (g1 k hk), g2, g3⟩
  · exact Or.inr ⟨m, w, g1, g2, g3, g4, (e w g2).trans g5, fun k hk => by rw [e k hk]; exact g6 k hk⟩
theorem FW.mono {nc d d' : Nat} {σ : Nat → WS} {fd fw : Int32} (hd : d ≤ d') (hf : FW nc d σ fd fw) : FW nc d' σ fd fw := ⟨fun k hk => (hf.1 k hk).elim (fun z => Or.inl (by omega)) Or.inr, hf.2⟩
theorem MR.mono {nc d d' : Nat} {σ : Nat → WS} {h : HP} (hd : d ≤ d') (hm : MR nc d σ h) : MR nc d' σ h := ⟨hm.1, hm.2.1, hm.2.2.mono hd⟩
theorem MR.cong {nc d : Nat} {σ σ' : Nat → WS} {h : HP} (e : ∀ k, k < nc → σ' k = σ k) (hm : MR nc d σ h) : MR nc d σ' h := by
  obtain ⟨h1, h2, h3⟩ := hm
  refine ⟨fun k hk => by rw [e k hk]; exact h1 k hk, ?_, h3.cong (fun k hk => by rw [e k hk])⟩
  rw [h2, sumN_cong nc (f := fun k => a_sp (σ' k)) (g := fun k => a_sp (σ k)) (fun k hk => by rw [e k hk])]
theorem MR.set {nc d c : Nat} {σ : Nat → WS} {s : WS} {h h' : HP} (hc : c < nc) (hm : MR nc d σ h) (hs : MRc s h' c) (e1 : a_sp s = a_sp (σ c)) (e2 : a_ff s = a_ff (σ c)) (hk : ∀ a k, k ≠ c → a = 17 ∨ a = 18 ∨ a = 19 ∨ a = 20 ∨ a = 21 ∨ a = 22 → h'.1 a k = h.1 a k) (h3 : h'.1 34 23 = h.1 34 23 ∧ h'.1 34 24 = h.1 34 24 ∧ h'.1 34 25 = h.1 34 25) : MR nc d (up σ c s) h' := by
  obtain ⟨m1, m2, m3⟩ := hm
  refine ⟨fun k hkn => ?_, ?_, ?_⟩
  · by_cases e : k = c
    · subst e
      rw [up_eq]
      exact hs
    · rw [up_ne e]
      exact (m1 k hkn).frame (fun a ha => hk a k e ha)
  · have hu := sumN_up (σ := σ) (c := c) (s := s) nc hc
    rw [h3.1, m2]
    congr 1
    omega
  · rw [h3.2.1, h3.2.2]
    refine m3.cong (fun k _ => ?_)
    by_cases e : k = c
    · subst e
      rw [up_eq, e2]
    · rw [up_ne e]
theorem up_up {σ : Nat → WS} {c : Nat} {s t : WS} : up (up σ c s) c t = up σ c t := by
  funext k
  unfold up
  by_cases h : k = c <;> simp [h]
theorem wt_li {d w : Nat} {s : WS} (h : ¬ a_li s = 0) : wt d w s = s := by
  obtain ⟨ld, st, li, fe, br, bk, sp, ff⟩ := s
  exact if_neg h
theorem wsw_li {d : Nat} {s : WS} (h : ¬ a_li s = 0) : wsw d s = s := by
  obtain ⟨ld, st, li, fe, br, bk, sp, ff⟩ := s
  exact if_neg h
theorem ww_li {d so sf : Nat} {s : WS} (h : ¬ a_li s = 0) : ww d so sf s = s := by
  obtain ⟨ld, st, li, fe, br, bk, sp, ff⟩ := s
  exact if_neg h
theorem m_takes {D : DT} {d c : Nat} {σ : Nat → WS} {h : HP} (hm : MD D h) (hr : MR (dnc D) d σ h) (hc : c < 8) (hl : ∀ k, k < dnc D → a_li (σ k) ≤ 3) : f_Mo_takes (nI c) h = some (if c < dnc D ∧ a_li (σ c) = 0 then 1 else 0, h) := by
  have b1 := hm.2.2.1
  have q : (nI (dnc D) ≤ nI c) ↔ dnc D ≤ c := nI_leI (by omega) (by omega)
  unfold f_Mo_takes
  simp only [ltt_s, rI, hm.1, q]
  by_cases h1 : dnc D ≤ c
  · simp only [h1, if_true]
    rw [if_neg (by omega)]
  · have m3 := (hr.1 c (by omega)).2.2.1
    have hb : inb (nI c) 8 = true := inb_lit (by omega) (by omega)
    have h3 := hl c (by omega)
    have q2 : (nI (a_li (σ c)) = 0) ↔ a_li (σ c) = 0 := nI_eq (b := 0) (by omega) (by omega)
    simp only [h1, if_false, hb, ckk_t, rA_nI (show c < 2 ^ 31 by omega), m3, q2]
    by_cases h2 : a_li (σ c) = 0
    · rw [if_pos h2, if_pos ⟨by omega, h2⟩]
    · rw [if_neg h2, if_neg (fun z => h2 z.2)]
theorem m_wt {D : DT} {d c w : Nat} {σ : Nat → WS} {h : HP} (hd : d < 24) (hm : MD D h) (hr : MR (dnc D) d σ h) (hc : c < dnc D) (hw : w ≤ 9) (ho : wok (4 * dfg D c) (σ c)) (hl : a_li (σ c) = 0) : ∃ h', f_Mo_breaks (nI c) (nI d) (sI h 22 c (nI (a_ld (σ c)) + nI w)) = some h' ∧ MR (dnc D) d (up σ c (wt d w (σ c))) h' ∧ MJ h h' ∧ h'.1 34 16 = h.1 34 16 := by
  obtain ⟨ld, st, li, fe, br, bk, sp, ff, hs⟩ : ∃ a b c' d' e f g i, σ c = (a, b, c', d', e, f, g, i) := ⟨_, _, _, _, _, _, _, _, rfl⟩
  obtain ⟨m1, m2, m3, m4, m5, m6⟩ := hr.1 c hc
  have hfg := (hm.2.2.2.2.2.2.2.2.2 c hc).2.2.2.2
  rw [hs] at m1 m2 m3 m4 m5 m6 ho hl ⊢
  obtain ⟨o1, o2, o3, o4, o5⟩ := ho
  simp only [a_ld, a_st, a_li, a_fe, a_br, a_bk] at m1 m2 m3 m4 m5 m6 hl
  have r1 : MR (dnc D) d (up σ c (ld + w, st, li, fe, br, bk, sp, ff)) (sI h 22 c (nI ld + nI w)) := by
    refine hr.set hc ⟨?_, ?_, ?_, ?_, ?_, ?_⟩ (by rw [hs]) (by rw [hs]) (fun a k hk ha => ?_) ⟨?_, ?_, ?_⟩
    · simp [rd_sI, nI_add]
    · simp [rd_sI, m2]
    · simp [rd_sI, m3]
    · simp [rd_sI, m4]
    · simp [rd_sI, m5]
    · simp [rd_sI, m6]
    · simp [rd_sI, hk]
    · simp [rd_sI]
    · simp [rd_sI]
    · simp [rd_sI]
  obtain ⟨h', e1, r2, f2, k2, l2⟩ := m_breaks hd hm.2.2.1 hc (by rw [up_eq]; show ld + w ≤ 100; omega) (by rw [up_eq]; show st ≤ 36; omega) r1
  refine ⟨h', e1, ?_, (MJ.s MJ.rf (by decide)).tr ⟨f2.mono (by decide), k2⟩, l2.trans (by simp [rd_sI])⟩
  rw [up_eq, up_up] at r2
  have e : wt d w (ld, st, li, fe, br, bk, sp, ff) = wb d (ld + w, st, li, fe, br, bk, sp, ff) := by
    show (if li = 0 then wb d (ld + w, st, li, fe, br, bk, sp, ff) else (ld, st, li, fe, br, bk, sp, ff)) = _
    rw [if_pos hl]
  rw [e]
  exact r2
def lq (s : WS) : Int32 := if a_li s = 0 ∧ a_ld s + 1 = a_st s then 1 else 0
set_option maxHeartbeats 4000000 in
theorem m_wsw {D : DT} {d c : Nat} {σ : Nat → WS} {h : HP} (hd : d < 24) (hm : MD D h) (hr : MR (dnc D) d σ h) (hc : c < dnc D) (ho : wok (4 * dfg D c) (σ c)) (hl : a_li (σ c) = 0) : ∃ h', f_Mo_comesStraw (nI c) (nI d) h = some h' ∧ MR (dnc D) d (up σ c (wsw d (σ c))) h' ∧ MJ h h' ∧ h'.1 34 16 = lq (σ c) := by
  obtain ⟨ld, st, li, fe, br, bk, sp, ff, hs⟩ : ∃ a b c' d' e f g i, σ c = (a, b, c', d', e, f, g, i) := ⟨_, _, _, _, _, _, _, _, rfl⟩
  obtain ⟨m1, m2, m3, m4, m5, m6⟩ := hr.1 c hc
  have hfg := (hm.2.2.2.2.2.2.2.2.2 c hc).2.2.2.2
  have b1 := hm.2.2.1
  rw [hs] at m1 m2 m3 m4 m5 m6 ho hl ⊢
  obtain ⟨o1, o2, o3, o4, o5⟩ := ho
  simp only [a_ld, a_st, a_li, a_fe, a_br, a_bk] at m1 m2 m3 m4 m5 m6 hl
  have hb : inb (nI c) 8 = true := inb_lit (by omega) (by omega)
  have hcl : c < 2 ^ 31 := by omega
  have q1 : (nI (ld + 1) = nI st) ↔ ld + 1 = st := nI_eq (by omega) (by omega)
  obtain ⟨fl, hfl⟩ : ∃ v : Int32, v = if ld + 1 = st then 1 else 0 := ⟨_, rfl⟩
  have hlq : lq (ld, st, li, fe, br, bk, sp, ff) = fl := by
    rw [hfl]
    unfold lq
    simp only [hl, true_and]
  have hz : z01 fl = true := by
    rw [hfl]
    by_cases z : ld + 1 = st
    · rw [if_pos z]; rfl
    · rw [if_neg z]; rfl
  obtain ⟨fe', hfe⟩ : ∃ v : Nat, v = if ld + 1 = st then fe + (ld + 1) else fe := ⟨_, rfl⟩
  have e1 : (if ld + 1 = st then some (1 : Int32) else some 0) = some fl := by
    rw [hfl]
    split <;> rfl
  have r1 : MR (dnc D) d (up σ c (ld + 1, st, li, fe', br, bk, sp, ff)) (sI (sI (sI h 22 c (nI (ld + 1))) 34 16 fl) 19 c (nI fe')) := by
    refine hr.set hc ⟨?_, ?_, ?_, ?_, ?_, ?_⟩ (by rw [hs]) (by rw [hs]) (fun a k hk ha => ?_) ⟨?_, ?_, ?_⟩
    · simp [rd_sI]
    · simp [rd_sI, m2]
    · simp [rd_sI, m3]
    · simp [rd_sI]
    · simp [rd_sI, m5]
    · simp [rd_sI, m6]
    · rcases ha with rfl | rfl | rfl | rfl | rfl | rfl <;> simp [rd_sI, hk]
    · simp [rd_sI]
    · simp [rd_sI]
    · simp [rd_sI]
  obtain ⟨h', e2, r2, f2, k2, l2⟩ := m_breaks hd b1 hc (by rw [up_eq]; show ld + 1 ≤ 100; omega) (by rw [up_eq]; show st ≤ 36; omega) r1
  refine ⟨h', ?_, ?_, (MJ.s (MJ.f (MJ.s MJ.rf (by decide)) (by decide)) (by decide)).tr ⟨f2.mono (by decide), k2⟩, ?_⟩
  · unfold f_Mo_comesStraw
    have t1 : (sI h 22 c (nI (ld + 1))).1 22 c = nI (ld + 1) := by simp [rd_sI]
    have t2 : (sI h 22 c (nI (ld + 1))).1 21 c = nI st := by simp [rd_sI, m2]
    have t3 : (sI (sI h 22 c (nI (ld + 1))) 34 16 fl).1 19 c = nI fe := by simp [rd_sI, m4]
    have t4 : (sI (sI h 22 c (nI (ld + 1))) 34 16 fl).1 34 16 = fl := by simp [rd_sI]
    have t5 : (sI (sI h 22 c (nI (ld + 1))) 34 16 fl).1 22 c = nI (ld + 1) := by simp [rd_sI]
    simp only [hb, ckk_t, ltt_s, rI, rA_nI hcl, wA_nI hcl, m1, nI_1, t1, t2, q1, e1, bd1_s, hz, t3, t4, t5]
    have e3 : (if fl = 0 then some (0 : Int32) else some (nI (ld + 1))) = some (nI (fe' - fe)) := by
      rw [hfl, hfe]
      by_cases z : ld + 1 = st
      · simp only [z, if_true]
        rw [if_neg (by decide)]
        congr 2
        omega
      · simp only [z, if_false, if_true]
        rw [Nat.sub_self]
        rfl
    have e4 : nI fe + nI (fe' - fe) = nI fe' := by
      rw [nI_add]
      congr 1
      rw [hfe]
      split <;> omega
    simp only [e3, bd1_s, e4, e2]
  · rw [up_eq, up_up] at r2
    have e : wsw d (ld, st, li, fe, br, bk, sp, ff) = wb d (ld + 1, st, li, fe', br, bk, sp, ff) := by
      show (if li = 0 then (if ld + 1 = st then (ld + 1, st, li, fe + (ld + 1), br, bk, sp, ff) else wb d (ld + 1, st, li, fe, br, bk, sp, ff)) else (ld, st, li, fe, br, bk, sp, ff)) = _
      rw [if_pos hl, hfe]
      by_cases z : ld + 1 = st
      · rw [if_pos z, if_pos z, wb_f (by omega)]
      · rw [if_neg z, if_neg z]
    rw [e]
    exact r2
  · rw [l2, hlq]
    simp [rd_sI]
