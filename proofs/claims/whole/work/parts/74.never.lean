/-! never, was -/
def snO (D : DT) (g : Nat → Nat → Int32) (i : Nat) : Bool := decide ((g 47 i).toNatClampNeg < dnc D) && decide (nI (a_ld (WE D (g 48 i).toNatClampNeg (g 47 i).toNatClampNeg)) = g 46 i)
def snB (D : DT) (g : Nat → Nat → Int32) : Nat → Bool
  | 0 => true
  | n + 1 => snB D g n && snO D g n
theorem snB_f {D : DT} {g : Nat → Nat → Int32} {i : Nat} (h : snB D g (i + 1) = false) : ∀ n, i + 1 ≤ n → snB D g n = false
  | 0, hn => by omega
  | n + 1, hn => by
    by_cases e : i = n
    · subst e
      exact h
    · have := snB_f h n (by omega)
      show (snB D g n && snO D g n) = false
      rw [this]
      rfl
/-- what was seen, as the class holds it, and the reference -/
def GS (m : Nat) (g : Nat → Nat → Int32) (h : HP) : Prop := m ≤ 8 ∧ h.1 49 4 = nI m ∧ ∀ i, i < m → h.1 48 i = g 48 i ∧ h.1 47 i = g 47 i ∧ h.1 46 i = g 46 i ∧ (∃ c, c < 24 ∧ g 48 i = nI c) ∧ ∃ c, c < 8 ∧ g 47 i = nI c
def GM (m : Nat) (g : Nat → Nat → Int32) (h : HP) : Prop := m ≤ 8 ∧ h.1 34 34 = nI m ∧ ∀ i, i < m → h.1 8 i = g 48 i ∧ h.1 7 i = g 47 i ∧ h.1 6 i = g 46 i ∧ (∃ c, c < 24 ∧ g 48 i = nI c) ∧ ∃ c, c < 8 ∧ g 47 i = nI c
theorem NB.gs {m : Nat} {h : HP} (t : NB m h) : GS m h.1 h := ⟨t.1, t.2.1, fun i hi => ⟨rfl, rfl, rfl, (t.2.2.2 i hi).2.2.2⟩⟩
theorem NB.gm {m : Nat} {h : HP} (t : NB m h) : GM m h.1 h := ⟨t.1, t.2.2.1, fun i hi => t.2.2.2 i hi⟩
theorem GS.fr {m : Nat} {g : Nat → Nat → Int32} {h h' : HP} (t : GS m g h) (e49 : h'.1 49 = h.1 49) (e48 : h'.1 48 = h.1 48) (e47 : h'.1 47 = h.1 47) (e46 : h'.1 46 = h.1 46) : GS m g h' := ⟨t.1, by rw [e49]; exact t.2.1, fun i hi => by rw [e48, e47, e46]; exact t.2.2 i hi⟩
theorem GM.fr {m : Nat} {g : Nat → Nat → Int32} {h h' : HP} (t : GM m g h) (e34 : h'.1 34 34 = h.1 34 34) (e8 : h'.1 8 = h.1 8) (e7 : h'.1 7 = h.1 7) (e6 : h'.1 6 = h.1 6) : GM m g h' := ⟨t.1, e34.trans t.2.1, fun i hi => by rw [e8, e7, e6]; exact t.2.2 i hi⟩
theorem GS.sf {m : Nat} {g : Nat → Nat → Int32} {h h' : HP} (t : GS m g h) (k : SF h h') : GS m g h' := t.fr (k.g 49) (k.g 48) (k.g 47) (k.g 46)
theorem GM.sf {m : Nat} {g : Nat → Nat → Int32} {h h' : HP} (t : GM m g h) (k : SF h h') : GM m g h' := t.fr k.2.2.2.1 (k.g 8) (k.g 7) (k.g 6)
theorem l_aco {D : DT} {m : Nat} {g : Nat → Nat → Int32} : ∀ (fu i : Nat) (h : HP), CD D h → GS m g h → i ≤ m → m < i + fu → snB D g i = true → ∃ h', lp_Gu_allComesOut_2 fu (nI i) h = some (bI (snB D g m), h') ∧ FR [52, 53] h h' := by
  intro fu
  induction fu with
  | zero => intro i h _ _ h1 h2; omega
  | succ fu ih =>
    intro i h hc hg hi hf hb
    have b1 := hc.2.2.1
    have m8 := hg.1
    have q : (nI m ≤ nI i) ↔ m ≤ i := nI_leI (by omega) (by omega)
    rw [lp_Gu_allComesOut_2]
    simp only [ltt_s, rI, hg.2.1, q]
    by_cases he : m ≤ i
    · have e : i = m := by omega
      subst e
      rw [if_pos he, hb]
      exact ⟨h, rfl, FR.rf⟩
    · rw [if_neg he]
      obtain ⟨g1, g2, g3, ⟨d, d1, d2⟩, ⟨c, c1, c2⟩⟩ := hg.2.2 i (by omega)
      have hbi : inb (nI i) 8 = true := inb_lit (by omega) (by omega)
      have hil : i < 2 ^ 31 := by omega
      have q2 : (nI c < nI (dnc D)) ↔ c < dnc D := nI_ltI (by omega) (by omega)
      simp only [hbi, ckk_t, rA_nI hil, g2, c2, hc.1, q2]
      have eO : snO D g i = (decide (c < dnc D) && decide (nI (a_ld (WE D d c)) = g 46 i)) := by
        unfold snO
        rw [c2, d2, nI_clamp (by omega), nI_clamp (by omega)]
      have eB : snB D g (i + 1) = snO D g i := by
        show (snB D g i && snO D g i) = _
        rw [hb]
        rfl
      by_cases z : c < dnc D
      · rw [if_pos z]
        obtain ⟨h1, e1, m1, f1⟩ := c_march z hc
        have e2 := c_behind (w := 0) m1 d1 (by omega) (by omega)
        have k48 : h1.1 48 i = nI d := by rw [f1.e 48, g1]; exact d2
        have k46 : h1.1 46 i = g 46 i := by rw [f1.e 46]; exact g3
        rw [e1, bd1_s, k48]
        rw [show f_Wa_behind (nI d) 0 h1 = _ from e2, bd2_s, k46]
        have e3 : av (WE D d c) 0 = a_ld (WE D d c) := rfl
        rw [e3]
        by_cases y : nI (a_ld (WE D d c)) = g 46 i
        · rw [if_pos y, nI_1]
          obtain ⟨h', p1, p2⟩ := ih (i + 1) h1 (hc.keep f1) (hg.fr (f1.e 49) (f1.e 48) (f1.e 47) (f1.e 46)) (by omega) (by omega) (by rw [eB, eO, decide_eq_true z, decide_eq_true y]; rfl)
          exact ⟨h', p1, f1.tr p2⟩
        · rw [if_neg y, snB_f (i := i) (by rw [eB, eO, decide_eq_false y, Bool.and_false]) m (by omega)]
          exact ⟨h1, rfl, f1⟩
      · rw [if_neg z, snB_f (i := i) (by rw [eB, eO, decide_eq_false z, Bool.false_and]) m (by omega)]
        exact ⟨h, rfl, FR.rf⟩
theorem c_aco {D : DT} {m : Nat} {g : Nat → Nat → Int32} {h : HP} (hc : CD D h) (hg : GS m g h) : ∃ h', f_Gu_allComesOut h = some (bI (snB D g m), h') ∧ FR [52, 53] h h' := by
  have m8 := hg.1
  exact l_aco 400 0 h hc hg (Nat.zero_le _) (by omega) rfl
theorem l_mse {D : DT} {m : Nat} {g : Nat → Nat → Int32} {h : HP} (b1 : dnc D ≤ 8) (h2 : h.1 34 2 = nI (dnc D)) (hr : ∀ d k, d < 24 → k < dnc D → RC h d k (WE D d k)) (hg : GM m g h) : ∀ (fu i : Nat), i ≤ m → m < i + fu → ∃ w, lp_Mo_isSeen_8 fu (nI i) (bI (snB D g i)) h = some (w, bI (snB D g m), h) := by
  intro fu
  induction fu with
  | zero => intro i h1 h2; omega
  | succ fu ih =>
    intro i hi hf
    have m8 := hg.1
    have q : (nI m ≤ nI i) ↔ m ≤ i := nI_leI (by omega) (by omega)
    rw [lp_Mo_isSeen_8]
    simp only [ltt_s, rI, hg.2.1, q]
    by_cases he : m ≤ i
    · have e : i = m := by omega
      subst e
      rw [if_pos he]
      exact ⟨_, rfl⟩
    · rw [if_neg he, bI_if]
      by_cases hb : snB D g i = true
      · rw [if_pos hb]
        obtain ⟨g1, g2, g3, ⟨d, d1, d2⟩, ⟨c, c1, c2⟩⟩ := hg.2.2 i (by omega)
        have hbi : inb (nI i) 8 = true := inb_lit (by omega) (by omega)
        have hil : i < 2 ^ 31 := by omega
        have q2 : (nI (dnc D) ≤ nI c) ↔ dnc D ≤ c := nI_leI (by omega) (by omega)
        have e0 : (8 : Int32) * nI d + nI c = nI (8 * d + c) := by
          rw [show (8 : Int32) * nI d = nI (8 * d) from pk_mul 8 d, nI_add]
        have hbp : inb (nI (8 * d + c)) 192 = true := inb_lit (by omega) (by omega)
        simp only [hbi, ckk_t, rA_nI hil, g1, g2, g3, c2, d2, h2, q2, e0, hbp, rA_nI (show 8 * d + c < 2 ^ 31 by omega)]
        have eO : snO D g i = (decide (c < dnc D) && decide (nI (a_ld (WE D d c)) = g 46 i)) := by
          unfold snO
          rw [c2, d2, nI_clamp (by omega), nI_clamp (by omega)]
        have eB : snB D g (i + 1) = snO D g i := by
          show (snB D g i && snO D g i) = _
          rw [hb]
          rfl
        obtain ⟨w, p1⟩ := ih (i + 1) (by omega) (by omega)
        refine ⟨w, ?_⟩
        rw [← p1, eB, eO]
        by_cases z : dnc D ≤ c
        · rw [if_pos z, bd1_s, nI_1, decide_eq_false (show ¬ c < dnc D by omega), Bool.false_and]
          rfl
        · have e16 : h.1 16 (8 * d + c) = nI (a_ld (WE D d c)) := (hr d c d1 (by omega)).1
          rw [if_neg z, e16, decide_eq_true (show c < dnc D by omega)]
          by_cases y : nI (a_ld (WE D d c)) = g 46 i
          · rw [if_pos y, bd1_s, nI_1, decide_eq_true y]
            rfl
          · rw [if_neg y, bd1_s, nI_1, decide_eq_false y]
            rfl
      · rw [if_neg hb]
        have hb' : snB D g i = false := by simpa using hb
        have hm : snB D g m = false := by
          cases i with
          | zero => cases hb'
          | succ i => exact snB_f hb' m (by omega)
        rw [hb', hm]
        exact ⟨_, rfl⟩
theorem m_isSeen {D : DT} {m : Nat} {g : Nat → Nat → Int32} {h : HP} (hm : MD D h) (hg : GM m g h) : ∃ h', f_Mo_isSeen h = some (bI (snB D g m), h') ∧ MRun D h' ∧ MK h h' := by
  have m8 := hg.1
  obtain ⟨h1, e1, r1, k1⟩ := m_runs hm
  have m1 := hm.keep k1
  obtain ⟨w, e2⟩ := l_mse m1.2.2.1 m1.1 r1.2.1 (hg.sf k1.sf) 400 0 (Nat.zero_le _) (by omega)
  refine ⟨h1, ?_, r1, k1⟩
  unfold f_Mo_isSeen
  rw [e1, bd1_s, show lp_Mo_isSeen_8 400 0 1 h1 = some (w, bI (snB D g m), h1) from e2, bd3_s, z01I, ckk_t]
theorem bts_s (p : Nat → Bool) (i : Nat) : bts p (i + 1) = if p i = true then bts p i ||| 1 <<< (nI i &&& 31) else bts p i := rfl
theorem l_cnev {D : DT} {m : Nat} {g : Nat → Nat → Int32} : ∀ (fu i : Nat) (x : Int32) (h : HP), CD (Dlo D x) h → h.2.2 = 60 → GS m g h → i ≤ dns D → dns D < i + fu → ∃ w h', lp_Gu_strawsThatNeverWere_4 fu (nI i) (bts (fun i => snB (Dlo D (o1b i)) g m) i) h = some (w, bts (fun i => snB (Dlo D (o1b i)) g m) (dns D), h') ∧ F1 54 3 h h' := by
  intro fu
  induction fu with
  | zero => intro i x h _ _ _ h1 h2; omega
  | succ fu ih =>
    intro i x h hc h60 hg hi hf
    have n8 : dns D ≤ 8 := hc.2.2.2.2.1
    have hn : h.1 h.2.2 2 = nI (dns D) := hc.2.2.2.2.2.2.2.1
    have q : (nI (dns D) ≤ nI i) ↔ dns D ≤ i := nI_leI (by omega) (by omega)
    rw [lp_Gu_strawsThatNeverWere_4]
    simp only [ltt_s, rI, hc.o, ckk_t, hn, q]
    by_cases he : dns D ≤ i
    · have e : i = dns D := by omega
      subst e
      rw [if_pos he]
      exact ⟨_, h, rfl, F1.rf⟩
    · rw [if_neg he]
      have c1 : CD (Dlo D (o1b i)) (sI h 54 3 (o1b i)) := hc.lo h60
      have g1 : GS m g (sI h 54 3 (o1b i)) := hg.fr (sI_na (by decide)) (sI_na (by decide)) (sI_na (by decide)) (sI_na (by decide))
      obtain ⟨h1, e1, f1⟩ := c_aco c1 g1
      rw [show f_Gu_allComesOut (sI h 54 3 (1 <<< (nI i &&& 31))) = _ from e1, bd2_s, bI_if, nI_1]
      have s1 : SF (sI h 54 3 (o1b i)) h1 := c_sf f1
      obtain ⟨w, h', p1, p2⟩ := ih (i + 1) (o1b i) h1 (c1.sf h60 s1) (s1.1.trans h60) (g1.sf s1) (by omega) (by omega)
      refine ⟨w, h', ?_, ((F1.w (by decide)).tr (F1.c f1 (by decide) (by decide) (by decide))).tr p2⟩
      rw [← p1, bts_s]
      by_cases z : snB (Dlo D (o1b i)) g m = true
      · rw [if_pos z, bd1_s, if_pos z]
      · rw [if_neg z, bd1_s, if_neg z]
theorem qc_never {D : DT} {h0 : HP} {m : Nat} (t : QS D h0) (nb : NB m h0) : Q h0 f_CS_never (bts (fun i => snB (Dlo D (o1b i)) h0.1 m) (dns D)) := fun h hs => by
  have t' := t.sf hs
  have h60 : h.2.2 = 60 := t'.2.2.2.2.2.2.1
  have h54 : h.1 54 3 = 0 := t'.1.2.2.2.2.2.2.2.2.2.1.trans t'.2.2.2.2.2.2.2.1
  have n8 := t.1.2.2.2.2.1
  have c0 : CD (Dlo D 0) h := by
    rw [Dlo_self t.2.2.2.2.2.2.2.1]
    exact t'.1
  obtain ⟨w, h1, e1, F⟩ := l_cnev 400 0 0 h c0 h60 (nb.gs.sf hs) (Nat.zero_le _) (by omega)
  have S := F.end.resolve_right (by decide)
  rw [h54] at S
  refine ⟨sI h1 54 3 0, ?_, hs.tr S⟩
  unfold f_CS_never f_Gu_strawsThatNeverWere
  rw [show lp_Gu_strawsThatNeverWere_4 400 0 0 h = _ from e1, bd3_s, ltt_s, bd2_s]
theorem l_mnev {D : DT} {m : Nat} {g : Nat → Nat → Int32} : ∀ (fu i : Nat) (x : Int32) (h : HP), MD (Dlo D x) h → h.1 34 9 = nI (dns D) → dns D ≤ 8 → GM m g h → i ≤ dns D → dns D < i + fu → ∃ w h', lp_Mo_neverNow_8 fu (nI i) (bts (fun i => snB (Dlo D (o1b i)) g m) i) h = some (w, bts (fun i => snB (Dlo D (o1b i)) g m) (dns D), h') ∧ SF h h' := by
  intro fu
  induction fu with
  | zero => intro i x h _ _ _ _ h1 h2; omega
  | succ fu ih =>
    intro i x h hm h9 n8 hg hi hf
    have q : (nI (dns D) ≤ nI i) ↔ dns D ≤ i := nI_leI (by omega) (by omega)
    rw [lp_Mo_neverNow_8]
    simp only [ltt_s, rI, h9, q]
    by_cases he : dns D ≤ i
    · have e : i = dns D := by omega
      subst e
      rw [if_pos he]
      exact ⟨_, h, rfl, SF.rf⟩
    · rw [if_neg he]
      have m1 : MD (Dlo D (o1b i)) (sI h 34 15 (o1b i)) := hm.lo
      have s0 : SF h (sI h 34 15 (o1b i)) := SF.lo
      obtain ⟨h1, e1, r1, k1⟩ := m_isSeen m1 (hg.sf s0)
      have s1 : SF h h1 := s0.tr k1.sf
      rw [show f_Mo_isSeen (sI h 34 15 (1 <<< (nI i &&& 31))) = _ from e1, bd2_s, bI_if, nI_1]
      obtain ⟨w, h', p1, p2⟩ := ih (i + 1) (o1b i) h1 (m1.keep k1) (s1.2.2.1.trans h9) n8 (hg.sf s1) (by omega) (by omega)
      refine ⟨w, h', ?_, s1.tr p2⟩
      rw [← p1, bts_s]
      by_cases z : snB (Dlo D (o1b i)) g m = true
      · rw [if_pos z, bd1_s, if_pos z]
      · rw [if_neg z, bd1_s, if_neg z, or_0]
theorem qm_never {D : DT} {h0 : HP} {m : Nat} (t : QS D h0) (nb : NB m h0) : Q h0 f_Mo_neverNow (bts (fun i => snB (Dlo D (o1b i)) h0.1 m) (dns D)) := fun h hs => by
  have n8 := t.1.2.2.2.2.1
  obtain ⟨h1, e1, m1, s1⟩ := m_asTold (t.sf hs)
  have m1' : MD (Dlo D 0) h1 := by
    rw [Dlo_self t.2.2.2.2.2.2.2.1]
    exact m1
  have s2 := hs.tr s1
  obtain ⟨w, h2, e2, s3⟩ := l_mnev 400 0 0 h1 m1' (s2.2.2.1.trans t.2.2.2.1.2.2.1) n8 (nb.gm.sf s2) (Nat.zero_le _) (by omega)
  refine ⟨h2, ?_, s2.tr s3⟩
  unfold f_Mo_neverNow
  rw [e1, bd1_s, show lp_Mo_neverNow_8 400 0 0 h1 = _ from e2, bd3_s]
theorem o_never : op_never Inv := Q.op (fun h0 hi => by
  obtain ⟨D, t⟩ := hi.qs
  obtain ⟨m, nb⟩ := t.2.2.2.2.2.2.2.2
  exact ⟨_, qc_never t nb, (qm_never t nb).w (fun _ => rfl)⟩)
/-- another sort, another figure -/
def Dso (D : DT) (k v : Nat) : DT := (dnc D, dnb D, dns D, fun j => if j = k then v else dso D j, dfg D, dbd D, dbo D, dbw D, dsd D, dsk D, dlo D)
def Dfg (D : DT) (k v : Nat) : DT := (dnc D, dnb D, dns D, dso D, fun j => if j = k then v else dfg D j, dbd D, dbo D, dbw D, dsd D, dsk D, dlo D)
theorem Dso_2 {D : DT} {k u v : Nat} : Dso (Dso D k u) k v = Dso D k v := by
  show ((dnc D, dnb D, dns D, (fun j => if j = k then v else (fun j => if j = k then u else dso D j) j), dfg D, dbd D, dbo D, dbw D, dsd D, dsk D, dlo D) : DT) = _
  rw [upf]
  rfl
theorem Dfg_2 {D : DT} {k u v : Nat} : Dfg (Dfg D k u) k v = Dfg D k v := by
  show ((dnc D, dnb D, dns D, dso D, (fun j => if j = k then v else (fun j => if j = k then u else dfg D j) j), dbd D, dbo D, dbw D, dsd D, dsk D, dlo D) : DT) = _
  rw [upf]
  rfl
theorem Dso_self {D : DT} {k : Nat} : Dso D k (dso D k) = D := by
  show ((dnc D, dnb D, dns D, (fun j => if j = k then dso D k else dso D j), dfg D, dbd D, dbo D, dbw D, dsd D, dsk D, dlo D) : DT) = _
  rw [upf_self]
theorem Dfg_self {D : DT} {k : Nat} : Dfg D k (dfg D k) = D := by
  show ((dnc D, dnb D, dns D, dso D, (fun j => if j = k then dfg D k else dfg D j), dbd D, dbo D, dbw D, dsd D, dsk D, dlo D) : DT) = _
  rw [upf_self]
theorem CD.so {D : DT} {k v : Nat} {h : HP} (hc : CD D h) (h60 : h.2.2 = 60) (hv : v ≤ 2) : CD (Dso D k v) (sI h 68 k (nI v)) := by
  obtain ⟨c1, c2, b1, b2, b3, c3, c4, c5, c6, c7, c8⟩ := hc
  obtain ⟨r1, r2, r3, r4⟩ := rf_60
  have e2 : (sI h 68 k (nI v)).2.2 = 60 := h60
  have g : ∀ a, a ≠ 68 → (sI h 68 k (nI v)).1 a = h.1 a := fun a ha => sI_na ha
  rw [h60] at c5 c6
  rw [r1, r2] at c6
  refine ⟨by rw [g 70 (by decide)]; exact c1, by rw [g 66 (by decide)]; exact c2, b1, b2, b3, fun j hj => by rw [g 62 (by decide), g 64 (by decide), g 63 (by decide)]; exact c3 j hj, Or.inl e2, by rw [e2, g 60 (by decide)]; exact c5, fun j hj => by rw [e2, r1, r2, g 59 (by decide), g 58 (by decide)]; exact c6 j hj, by rw [g 54 (by decide)]; exact c7, fun j hj => ?_⟩
  obtain ⟨d1, d2, d3, d4, d5⟩ := c8 j hj
  rw [g 67 (by decide)]
  by_cases z : j = k
  · subst z
    have e : dso (Dso D j v) j = v := if_pos rfl
    rw [e]
    exact ⟨sI_eq, d2, hv, d4, d5⟩
  · have e : dso (Dso D k v) j = dso D j := if_neg z
    rw [e, sI_nj z]
    exact ⟨d1, d2, d3, d4, d5⟩
theorem CD.fg {D : DT} {k v : Nat} {h : HP} (hc : CD D h) (h60 : h.2.2 = 60) (hv1 : 1 ≤ v) (hv : v ≤ 9) : CD (Dfg D k v) (sI h 67 k (nI v)) := by
  obtain ⟨c1, c2, b1, b2, b3, c3, c4, c5, c6, c7, c8⟩ := hc
  obtain ⟨r1, r2, r3, r4⟩ := rf_60
  have e2 : (sI h 67 k (nI v)).2.2 = 60 := h60
  have g : ∀ a, a ≠ 67 → (sI h 67 k (nI v)).1 a = h.1 a := fun a ha => sI_na ha
  rw [h60] at c5 c6
  rw [r1, r2] at c6
  refine ⟨by rw [g 70 (by decide)]; exact c1, by rw [g 66 (by decide)]; exact c2, b1, b2, b3, fun j hj => by rw [g 62 (by decide), g 64 (by decide), g 63 (by decide)]; exact c3 j hj, Or.inl e2, by rw [e2, g 60 (by decide)]; exact c5, fun j hj => by rw [e2, r1, r2, g 59 (by decide), g 58 (by decide)]; exact c6 j hj, by rw [g 54 (by decide)]; exact c7, fun j hj => ?_⟩
  obtain ⟨d1, d2, d3, d4, d5⟩ := c8 j hj
  rw [g 68 (by decide)]
  by_cases z : j = k
  · subst z
    have e : dfg (Dfg D j v) j = v := if_pos rfl
    rw [e]
    exact ⟨d1, sI_eq, d3, hv1, hv⟩
  · have e : dfg (Dfg D k v) j = dfg D j := if_neg z
    rw [e, sI_nj z]
    exact ⟨d1, d2, d3, d4, d5⟩
theorem MD.so {D : DT} {k v : Nat} {h : HP} (hm : MD D h) (hv : v ≤ 2) : MD (Dso D k v) (sI h 31 k (nI v)) := by
  obtain ⟨m1, m2, m3, m4, m5, m6, m7, m8, m9, m10⟩ := hm
  have g : ∀ a, a ≠ 31 → (sI h 31 k (nI v)).1 a = h.1 a := fun a ha => sI_na ha
  refine ⟨by rw [g 34 (by decide)]; exact m1, by rw [g 34 (by decide)]; exact m2, m3, m4, m5, by rw [g 34 (by decide)]; exact m6, by rw [g 34 (by decide)]; exact m7, fun j hj => by rw [g 27 (by decide), g 29 (by decide), g 28 (by decide)]; exact m8 j hj, fun j hj => by rw [g 24 (by decide), g 23 (by decide)]; exact m9 j hj, fun j hj => ?_⟩
  obtain ⟨d1, d2, d3, d4, d5⟩ := m10 j hj
  rw [g 30 (by decide)]
  by_cases z : j = k
  · subst z
    have e : dso (Dso D j v) j = v := if_pos rfl
    rw [e]
    exact ⟨sI_eq, d2, hv, d4, d5⟩
  · have e : dso (Dso D k v) j = dso D j := if_neg z
    rw [e, sI_nj z]
    exact ⟨d1, d2, d3, d4, d5⟩
theorem MD.fg {D : DT} {k v : Nat} {h : HP} (hm : MD D h) (hv1 : 1 ≤ v) (hv : v ≤ 9) : MD (Dfg D k v) (sI h 30 k (nI v)) := by
  obtain ⟨m1, m2, m3, m4, m5, m6, m7, m8, m9, m10⟩ := hm
  have g : ∀ a, a ≠ 30 → (sI h 30 k (nI v)).1 a = h.1 a := fun a ha => sI_na ha
  refine ⟨by rw [g 34 (by decide)]; exact m1, by rw [g 34 (by decide)]; exact m2, m3, m4, m5, by rw [g 34 (by decide)]; exact m6, by rw [g 34 (by decide)]; exact m7, fun j hj => by rw [g 27 (by decide), g 29 (by decide), g 28 (by decide)]; exact m8 j hj, fun j hj => by rw [g 24 (by decide), g 23 (by decide)]; exact m9 j hj, fun j hj => ?_⟩
  obtain ⟨d1, d2, d3, d4, d5⟩ := m10 j hj
  rw [g 31 (by decide)]
  by_cases z : j = k
  · subst z
    have e : dfg (Dfg D j v) j = v := if_pos rfl
    rw [e]
    exact ⟨d1, sI_eq, d3, hv1, hv⟩
  · have e : dfg (Dfg D k v) j = dfg D j := if_neg z
    rw [e, sI_nj z]
    exact ⟨d1, d2, d3, d4, d5⟩
theorem l_vals {E : Nat → DT} {o k lo hi m : Nat} {g : Nat → Nat → Int32} {v5 a3 : Int32} (hE : ∀ x v h, CD (E x) h → h.2.2 = 60 → lo ≤ v → v ≤ hi → CD (E v) (sI h o k (nI v))) (ho : o = 67 ∨ o = 68) (hk : k < 8) (hhi : hi ≤ 9) : ∀ (fu v x : Nat) (h : HP), CD (E x) h → h.2.2 = 60 → GS m g h → lo ≤ v → v ≤ hi + 1 → hi + 1 < v + fu → ∃ w h', lp_Gu_valuesThatFit_11 v5 o (nI k) a3 (nI hi) fu (nI v) (bts (fun v => decide (lo ≤ v) && snB (E v) g m) v) h = some (w, bts (fun v => decide (lo ≤ v) && snB (E v) g m) (hi + 1), h') ∧ F1 o k h h' := by
  intro fu
  induction fu with
  | zero => intro v x h _ _ _ _ h1 h2; omega
  | succ fu ih =>
    intro v x h hc h60 hg hlo hv hf
    have q : (nI hi < nI v) ↔ hi < v := nI_ltI (by omega) (by omega)
    rw [lp_Gu_valuesThatFit_11]
    simp only [q]
    by_cases he : hi < v
    · have e : v = hi + 1 := by omega
      subst e
      rw [if_pos he]
      exact ⟨_, h, rfl, F1.rf⟩
    · rw [if_neg he]
      have hb : inb (nI k) 8 = true := inb_lit hk (by omega)
      have c1 : CD (E v) (sI h o k (nI v)) := hE x v h hc h60 hlo (by omega)
      have g1 : GS m g (sI h o k (nI v)) := hg.fr (sI_na (by omega)) (sI_na (by omega)) (sI_na (by omega)) (sI_na (by omega))
      obtain ⟨h1, e1, f1⟩ := c_aco c1 g1
      have s1 : SF (sI h o k (nI v)) h1 := c_sf f1
      have hob : o ∉ [52, 53] := by simp only [List.mem_cons, List.not_mem_nil, or_false]; omega
      rw [hb, ckk_t, wA_nI (by omega), ltt_s, e1, bd2_s, bI_if, nI_1]
      obtain ⟨w, h', p1, p2⟩ := ih (v + 1) v h1 (c1.sf h60 s1) (s1.1.trans h60) (g1.sf s1) (by omega) (by omega) (by omega)
      refine ⟨w, h', ?_, ((F1.w (by omega)).tr (F1.c f1 (by decide) (by decide) hob)).tr p2⟩
      rw [← p1, bts_s, decide_eq_true hlo, Bool.true_and]
      by_cases z : snB (E v) g m = true
      · rw [if_pos z, if_pos z]
        rfl
      · rw [if_neg z, if_neg z]
        rfl
theorem bts_1 {p : Nat → Bool} (h : p 0 = false) : bts p 1 = 0 := by
  rw [bts_s, h]
  rfl
theorem qc_sorts {D : DT} {h0 : HP} {m k : Nat} (t : QS D h0) (nb : NB m h0) (hk : k < dnc D) : Q h0 (f_Gu_valuesThatFit 68 (nI k) 0 2) (bts (fun v => decide (0 ≤ v) && snB (Dso D k v) h0.1 m) 3) := fun h hs => by
  have t' := t.sf hs
  have b1 := t.1.2.2.1
  have h60 : h.2.2 = 60 := t'.2.2.2.2.2.2.1
  have hb : inb (nI k) 8 = true := inb_lit (by omega) (by omega)
  have c0 : CD (Dso D k (dso D k)) h := by rw [Dso_self]; exact t'.1
  obtain ⟨w, h1, e1, F⟩ := l_vals (E := fun v => Dso D k v) (o := 68) (k := k) (lo := 0) (hi := 2) (v5 := h.1 68 k) (a3 := 0) (fun x v h hc h6 _ hv => by rw [← Dso_2 (u := x)]; exact hc.so h6 hv) (Or.inr rfl) (by omega) (by omega) 400 0 _ h c0 h60 (nb.gs.sf hs) (Nat.le_refl _) (by omega) (by omega)
  have S := F.end.resolve_right (by decide)
  refine ⟨sI h1 68 k (h.1 68 k), ?_, hs.tr S⟩
  unfold f_Gu_valuesThatFit
  rw [hb, ckk_t, rA_nI (by omega), ltt_s, show lp_Gu_valuesThatFit_11 (h.1 68 k) 68 (nI k) 0 2 400 0 0 h = _ from e1, bd3_s, ckk_t, wA_nI (by omega), ltt_s]
theorem qc_figs {D : DT} {h0 : HP} {m k : Nat} (t : QS D h0) (nb : NB m h0) (hk : k < dnc D) : Q h0 (f_Gu_valuesThatFit 67 (nI k) 1 9) (bts (fun v => decide (1 ≤ v) && snB (Dfg D k v) h0.1 m) 10) := fun h hs => by
  have t' := t.sf hs
  have b1 := t.1.2.2.1
  have h60 : h.2.2 = 60 := t'.2.2.2.2.2.2.1
  have hb : inb (nI k) 8 = true := inb_lit (by omega) (by omega)
  have c0 : CD (Dfg D k (dfg D k)) h := by rw [Dfg_self]; exact t'.1
  obtain ⟨w, h1, e1, F⟩ := l_vals (E := fun v => Dfg D k v) (o := 67) (k := k) (lo := 1) (hi := 9) (v5 := h.1 67 k) (a3 := 1) (fun x v h hc h6 hv1 hv => by rw [← Dfg_2 (u := x)]; exact hc.fg h6 hv1 hv) (Or.inl rfl) (by omega) (by omega) 400 1 _ h c0 h60 (nb.gs.sf hs) (Nat.le_refl _) (by omega) (by omega)
  rw [bts_1 (by rfl)] at e1
  have S := F.end.resolve_right (by decide)
  refine ⟨sI h1 67 k (h.1 67 k), ?_, hs.tr S⟩
  unfold f_Gu_valuesThatFit
  rw [hb, ckk_t, rA_nI (by omega), ltt_s, show lp_Gu_valuesThatFit_11 (h.1 67 k) 67 (nI k) 1 9 400 1 0 h = _ from e1, bd3_s, ckk_t, wA_nI (by omega), ltt_s]
theorem SF.w1 {h : HP} {a j : Nat} {v : Int32} (ha : a ∈ scr) (hn : a ≠ 34) : SF h (sI h a j v) := SF.ofs (cs := [a]) (FR.rf.s (List.mem_singleton.mpr rfl)) (fun q hq => by rw [List.mem_singleton.mp hq]; exact ha) (fun z => hn (List.mem_singleton.mp z).symm)
theorem l_msort {D : DT} {k m : Nat} {g : Nat → Nat → Int32} {v3 : Int32} (hk : k < 8) : ∀ (fu v x : Nat) (h : HP), MD (Dso D k x) h → GM m g h → v ≤ 3 → 3 < v + fu → ∃ w y h', lp_Mo_sortsBy_16 v3 (nI k) fu (nI v) (bts (fun v => decide (0 ≤ v) && snB (Dso D k v) g m) v) h = some (w, bts (fun v => decide (0 ≤ v) && snB (Dso D k v) g m) 3, h') ∧ MD (Dso D k y) h' ∧ SF h h' := by
  intro fu
  induction fu with
  | zero => intro v x h _ _ h1 h2; omega
  | succ fu ih =>
    intro v x h hm hg hv hf
    have q : (3 ≤ nI v) ↔ 3 ≤ v := nI_leI (a := 3) (by omega) (by omega)
    rw [lp_Mo_sortsBy_16]
    simp only [q]
    by_cases he : 3 ≤ v
    · have e : v = 3 := by omega
      subst e
      rw [if_pos he]
      exact ⟨_, x, h, rfl, hm, SF.rf⟩
    · rw [if_neg he]
      have hb : inb (nI k) 9 = true := inb_lit (by omega) (by omega)
      have m1 : MD (Dso D k v) (sI h 31 k (nI v)) := by rw [← Dso_2 (u := x)]; exact hm.so (by omega)
      have s0 : SF h (sI h 31 k (nI v)) := SF.w1 (by decide) (by decide)
      obtain ⟨h1, e1, r1, k1⟩ := m_isSeen m1 (hg.sf s0)
      have s1 : SF h h1 := s0.tr k1.sf
      rw [hb, ckk_t, wA_nI (by omega), ltt_s, e1, bd2_s, bI_if, nI_1]
      obtain ⟨w, y, h', p1, p2, p3⟩ := ih (v + 1) v h1 (m1.keep k1) (hg.sf s1) (by omega) (by omega)
      refine ⟨w, y, h', ?_, p2, s1.tr p3⟩
      rw [← p1, bts_s, decide_eq_true (Nat.zero_le v), Bool.true_and]
      by_cases z : snB (Dso D k v) g m = true
      · rw [if_pos z, bd1_s, ltt_s, ltt_s, if_pos z]
      · rw [if_neg z, bd1_s, ltt_s, ltt_s, if_neg z, or_0]
theorem qm_sorts {D : DT} {h0 : HP} {m k : Nat} (t : QS D h0) (nb : NB m h0) (hk : k < dnc D) : QM D h0 (f_Mo_sortsBy (nI k)) (bts (fun v => decide (0 ≤ v) && snB (Dso D k v) h0.1 m) 3) := fun h hs => by
  have b1 := t.1.2.2.1
  obtain ⟨h1, e1, m1, s1⟩ := m_asTold (t.sf hs)
  have hb : inb (nI k) 9 = true := inb_lit (by omega) (by omega)
  obtain ⟨g1, g2, g3, g4, g5⟩ := m1.2.2.2.2.2.2.2.2.2 k hk
  have s2 := hs.tr s1
  obtain ⟨w, y, h2, e2, m2, s3⟩ := l_msort (v3 := nI (dso D k)) (show k < 8 by omega) 400 0 (dso D k) h1 (by rw [Dso_self]; exact m1) (nb.gm.sf s2) (by omega) (by omega)
  have m3 : MD D (sI h2 31 k (nI (dso D k))) := by
    have e := Dso_2 (D := D) (k := k) (u := y) (v := dso D k)
    rw [Dso_self] at e
    have x := m2.so (k := k) (v := dso D k) g3
    rw [e] at x
    exact x
  refine ⟨sI h2 31 k (nI (dso D k)), ?_, (s2.tr s3).tr (SF.w1 (by decide) (by decide)), m3.mc⟩
  unfold f_Mo_sortsBy
  rw [e1, bd1_s, hb, ckk_t, rA_nI (by omega), g1, ltt_s, show lp_Mo_sortsBy_16 (nI (dso D k)) (nI k) 400 0 0 h1 = _ from e2, bd3_s, ckk_t, wA_nI (by omega), ltt_s]
/-- the loads of a camel, by its figure and the day -/
def lb (D : DT) (k v d : Nat) : Int32 := nI (a_ld (WE (Dfg D k v) d k))
theorem l_st52 {D : DT} {k v : Nat} {v13 v3 : Int32} (hk : k < 8) (hv : v ≤ 9) : ∀ (fu d : Nat) (h : HP), (∀ j, j < 24 → h.1 16 (8 * j + k) = lb D k v j) → d ≤ 24 → 24 < d + fu → (∀ j, j < d → h.1 5 (24 * v + j) = lb D k v j) → ∃ w h', lp_Mo_strongBy_52 v13 (nI v) v3 (nI k) fu (nI d) h = some (w, h') ∧ (∀ j, j < 24 → h'.1 5 (24 * v + j) = lb D k v j) ∧ (∀ j, j < 24 * v → h'.1 5 j = h.1 5 j) ∧ FR [5] h h' := by
  intro fu
  induction fu with
  | zero => intro d h _ h1 h2; omega
  | succ fu ih =>
    intro d h h16 hd hf hj
    have q : (24 ≤ nI d) ↔ 24 ≤ d := nI_leI (a := 24) (by omega) (by omega)
    rw [lp_Mo_strongBy_52]
    simp only [q]
    by_cases he : 24 ≤ d
    · rw [if_pos he]
      exact ⟨_, h, rfl, fun j hj' => hj j (by omega), fun _ _ => rfl, FR.rf⟩
    · rw [if_neg he]
      have e0 : (8 : Int32) * nI d + nI k = nI (8 * d + k) := by
        rw [show (8 : Int32) * nI d = nI (8 * d) from pk_mul 8 d, nI_add]
      have e1 : (24 : Int32) * nI v + nI d = nI (24 * v + d) := by
        rw [show (24 : Int32) * nI v = nI (24 * v) from pk_mul 24 v, nI_add]
      have hb : inb (nI (8 * d + k)) 192 = true := inb_lit (by omega) (by omega)
      have hb2 : inb (nI (24 * v + d)) 240 = true := inb_lit (by omega) (by omega)
      rw [e0, hb, ckk_t, rA_nI (by omega), h16 d (by omega), ltt_s, e1, hb2, ckk_t, wA_nI (by omega), ltt_s, ltt_s, nI_1]
      obtain ⟨w, h', p1, p2, p3, p4⟩ := ih (d + 1) (sI h 5 (24 * v + d) (lb D k v d)) (fun j hj' => by rw [sI_na (by decide)]; exact h16 j hj') (by omega) (by omega) (fun j hj' => by
        by_cases e : j = d
        · subst e
          exact sI_eq
        · rw [sI_nj (by omega)]
          exact hj j (by omega))
      refine ⟨w, h', p1, p2, fun j hj' => ?_, FR.tr (FR.s FR.rf (by decide)) p4⟩
      rw [p3 j hj', sI_nj (by omega)]
theorem l_mstr {D : DT} {k m : Nat} {g : Nat → Nat → Int32} {v3 : Int32} (hk : k < dnc D) : ∀ (fu v x : Nat) (h : HP), MD (Dfg D k x) h → GM m g h → 1 ≤ v → v ≤ 10 → 10 < v + fu → (∀ u j, 1 ≤ u → u < v → j < 24 → h.1 5 (24 * u + j) = lb D k u j) → ∃ w y h', lp_Mo_strongBy_16 v3 (nI k) fu (nI v) (bts (fun v => decide (1 ≤ v) && snB (Dfg D k v) g m) v) h = some (w, bts (fun v => decide (1 ≤ v) && snB (Dfg D k v) g m) 10, h') ∧ MD (Dfg D k y) h' ∧ SF h h' ∧ ∀ u j, 1 ≤ u → u < 10 → j < 24 → h'.1 5 (24 * u + j) = lb D k u j := by
  intro fu
  induction fu with
  | zero => intro v x h _ _ _ h1 h2; omega
  | succ fu ih =>
    intro v x h hm hg hv1 hv hf hl
    have b1 : dnc D ≤ 8 := hm.2.2.1
    have q : (10 ≤ nI v) ↔ 10 ≤ v := nI_leI (a := 10) (by omega) (by omega)
    rw [lp_Mo_strongBy_16]
    simp only [q]
    by_cases he : 10 ≤ v
    · have e : v = 10 := by omega
      subst e
      rw [if_pos he]
      exact ⟨_, x, h, rfl, hm, SF.rf, hl⟩
    · rw [if_neg he]
      have hb : inb (nI k) 9 = true := inb_lit (by omega) (by omega)
      have m1 : MD (Dfg D k v) (sI h 30 k (nI v)) := by rw [← Dfg_2 (u := x)]; exact hm.fg hv1 (by omega)
      have s0 : SF h (sI h 30 k (nI v)) := SF.w1 (by decide) (by decide)
      obtain ⟨h1, e1, r1, k1⟩ := m_isSeen m1 (hg.sf s0)
      have s1 : SF h h1 := s0.tr k1.sf
      have c5 : h1.1 5 = h.1 5 := by rw [k1.1.2 5 (by decide), sI_na (by decide)]
      obtain ⟨bx, hbx⟩ : ∃ b, b = bts (fun v => decide (1 ≤ v) && snB (Dfg D k v) g m) (v + 1) := ⟨_, rfl⟩
      obtain ⟨w2, h2, e2, p2, p3, f2⟩ := l_st52 (D := D) (k := k) (v := v) (v13 := bx) (v3 := v3) (show k < 8 by omega) (by omega) 400 0 h1 (fun j hj => (r1.2.1 j k hj hk).1) (Nat.zero_le _) (by omega) (fun j hj => absurd hj (Nat.not_lt_zero _))
      have s2 : SF h1 h2 := SF.ofs f2 (by decide) (by decide)
      have m2 : MD (Dfg D k v) h2 := by
        have mm := m1.keep k1
        obtain ⟨m1, m2, m3, m4, m5, m6, m7, m8, m9, m10⟩ := mm
        exact ⟨by rw [f2.e 34]; exact m1, by rw [f2.e 34]; exact m2, m3, m4, m5, by rw [f2.e 34]; exact m6, by rw [f2.e 34]; exact m7, fun j hj => by rw [f2.e 27, f2.e 29, f2.e 28]; exact m8 j hj, fun j hj => by rw [f2.e 24, f2.e 23]; exact m9 j hj, fun j hj => by rw [f2.e 31, f2.e 30]; exact m10 j hj⟩
      obtain ⟨w, y, h', q1, q2, q3, q4⟩ := ih (v + 1) v h2 m2 (hg.sf (s1.tr s2)) (by omega) (by omega) (by omega) (fun u j hu1 hu hj => by
        by_cases e : u = v
        · subst e
          exact p2 j hj
        · rw [p3 (24 * u + j) (by omega), c5]
          exact hl u j hu1 (by omega) hj)
      refine ⟨w, y, h', ?_, q2, (s1.tr s2).tr q3, q4⟩
      rw [hb, ckk_t, wA_nI (by omega), ltt_s, e1, bd2_s, bI_if, ← q1]
      have eb : bd1 (if snB (Dfg D k v) g m = true then some ((1 : Int32) <<< (nI v &&& 31)) else some 0) (fun (v11 : Int32) => some (bts (fun v => decide (1 ≤ v) && snB (Dfg D k v) g m) v ||| v11)) = some bx := by
        rw [hbx, bts_s, decide_eq_true hv1, Bool.true_and]
        by_cases z : snB (Dfg D k v) g m = true
        · rw [if_pos z, bd1_s, if_pos z]
        · rw [if_neg z, bd1_s, if_neg z, or_0]
      rw [← hbx]
      by_cases z : snB (Dfg D k v) g m = true
      · rw [if_pos z, bd1_s] at eb
        cases eb
        rw [if_pos z, bd1_s, ltt_s, show lp_Mo_strongBy_52 _ (nI v) v3 (nI k) 400 0 h1 = _ from e2, bd2_s, ltt_s, nI_1]
      · rw [if_neg z, bd1_s] at eb
        cases eb
        rw [if_neg z, bd1_s, ltt_s, show lp_Mo_strongBy_52 _ (nI v) v3 (nI k) 400 0 h1 = _ from e2, bd2_s, ltt_s, nI_1]
theorem m_strong {D : DT} {h0 : HP} {m k : Nat} (t : QS D h0) (nb : NB m h0) (hk : k < dnc D) : ∀ h, SF h0 h → ∃ h', f_Mo_strongBy (nI k) h = some (bts (fun v => decide (1 ≤ v) && snB (Dfg D k v) h0.1 m) 10, h') ∧ SF h0 h' ∧ MC D h' ∧ ∀ u j, 1 ≤ u → u < 10 → j < 24 → h'.1 5 (24 * u + j) = lb D k u j := fun h hs => by
  have b1 := t.1.2.2.1
  obtain ⟨h1, e1, m1, s1⟩ := m_asTold (t.sf hs)
  have hb : inb (nI k) 9 = true := inb_lit (by omega) (by omega)
  obtain ⟨g1, g2, g3, g4, g5⟩ := m1.2.2.2.2.2.2.2.2.2 k hk
  have s2 := hs.tr s1
  obtain ⟨w, y, h2, e2, m2, s3, l3⟩ := l_mstr (v3 := nI (dfg D k)) hk 400 1 (dfg D k) h1 (by rw [Dfg_self]; exact m1) (nb.gm.sf s2) (by omega) (by omega) (by omega) (fun u j h1 h2 => by omega)
  rw [bts_1 (by rfl)] at e2
  have m3 : MD D (sI h2 30 k (nI (dfg D k))) := by
    have e := Dfg_2 (D := D) (k := k) (u := y) (v := dfg D k)
    rw [Dfg_self] at e
    have x := m2.fg (k := k) (v := dfg D k) g4 g5
    rw [e] at x
    exact x
  refine ⟨sI h2 30 k (nI (dfg D k)), ?_, (s2.tr s3).tr (SF.w1 (by decide) (by decide)), m3.mc, fun u j h1 h2 h3 => by rw [sI_na (by decide)]; exact l3 u j h1 h2 h3⟩
  unfold f_Mo_strongBy
  rw [e1, bd1_s, hb, ckk_t, rA_nI (by omega), g2, ltt_s, show lp_Mo_strongBy_16 (nI (dfg D k)) (nI k) 400 1 0 h1 = _ from e2, bd3_s, ckk_t, wA_nI (by omega), ltt_s]
theorem qm_figs {D : DT} {h0 : HP} {m k : Nat} (t : QS D h0) (nb : NB m h0) (hk : k < dnc D) : QM D h0 (f_Mo_strongBy (nI k)) (bts (fun v => decide (1 ≤ v) && snB (Dfg D k v) h0.1 m) 10) := fun h hs => by
  obtain ⟨h', e, s, c, -⟩ := m_strong t nb hk h hs
  exact ⟨h', e, s, c⟩
def wasI (D : DT) (g : Nat → Nat → Int32) (m k : Nat) (a : Int32) : Int32 := if a = 0 then bts (fun v => decide (0 ≤ v) && snB (Dso D k v) g m) 3 else bts (fun v => decide (1 ≤ v) && snB (Dfg D k v) g m) 10
theorem qc_was {D : DT} {h0 : HP} {m k : Nat} {a : Int32} (t : QS D h0) (nb : NB m h0) (hk : k < dnc D) (ha : inb a 2 = true) : Q h0 (f_CS_was (nI k) a) (wasI D h0.1 m k a) := fun h hs => by
  have t' := t.sf hs
  have b1 := t.1.2.2.1
  unfold f_CS_was wasI
  rw [c_isCamel t'.1, bd2_s, bI_if, if_pos (inb_lit hk (by omega)), two_c, if_pos ha]
  by_cases z : a = 0
  · rw [if_pos z, if_pos z, bd2_id]
    exact qc_sorts t nb hk h hs
  · rw [if_neg z, if_neg z, bd2_id]
    exact qc_figs t nb hk h hs
theorem o_was : op_was Inv := fun a1 a2 => Q.op (fun h0 hi => by
  obtain ⟨D, t⟩ := hi.qs
  obtain ⟨m, nb⟩ := t.2.2.2.2.2.2.2.2
  have b1 := t.1.2.2.1
  by_cases z1 : inb a1 (dnc D) = true
  · by_cases z2 : inb a2 2 = true
    · obtain ⟨k, k1, k2⟩ := (inb_iff (by omega)).mp z1
      refine ⟨wasI D h0.1 m k a2, by rw [k2]; exact qc_was t nb k1 z2, fun h hs => ?_⟩
      obtain ⟨h1, e1, m1, s1⟩ := m_isCamel (a := a1) (t.sf hs)
      unfold f_Mo_was wasI
      rw [e1, bd2_s, bI_if, if_pos z1, m_isTwo, bd2_s, bI_if, if_pos z2, k2]
      by_cases z : a2 = 0
      · rw [if_pos z, if_pos z, bd2_id]
        exact (qm_sorts t nb k1).q h1 (hs.tr s1)
      · rw [if_neg z, if_neg z, bd2_id]
        exact (qm_figs t nb k1).q h1 (hs.tr s1)
    · refine ⟨-2, fun h hs => ⟨h, ?_, hs⟩, fun h hs => ?_⟩
      · unfold f_CS_was
        rw [c_isCamel (t.sf hs).1, bd2_s, bI_if, if_pos z1, two_c, if_neg z2]
      · obtain ⟨h1, e1, m1, s1⟩ := m_isCamel (a := a1) (t.sf hs)
        refine ⟨h1, ?_, hs.tr s1⟩
        unfold f_Mo_was
        rw [e1, bd2_s, bI_if, if_pos z1, m_isTwo, bd2_s, bI_if, if_neg z2]
  · refine ⟨-2, fun h hs => ⟨h, ?_, hs⟩, fun h hs => ?_⟩
    · unfold f_CS_was
      rw [c_isCamel (t.sf hs).1, bd2_s, bI_if, if_neg z1]
    · obtain ⟨h1, e1, m1, s1⟩ := m_isCamel (a := a1) (t.sf hs)
      refine ⟨h1, ?_, hs.tr s1⟩
      unfold f_Mo_was
      rw [e1, bd2_s, bI_if, if_neg z1])
