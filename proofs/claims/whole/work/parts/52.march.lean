/-! the class's march of one camel through the days -/
theorem wA_nI {h : HP} {a k : Nat} {v : Int32} (hk : k < 2 ^ 31) : wA h a (nI k) v = sI h a k v := by
  unfold wA
  rw [nI_clamp hk]
theorem rA_nI {h : HP} {a k : Nat} (hk : k < 2 ^ 31) : rA h a (nI k) = h.1 a k := by
  unfold rA
  rw [nI_clamp hk]
theorem inb_lit {k n : Nat} (h : k < n) (hn : n ≤ 1000) : inb (nI k) n = true := inb_nI h (by omega)
def KR (h : HP) (d rm : Nat) : WS → Prop
  | (ld, st, li, fe, br, bk, sp, _) => h.1 52 (d * 8) = nI ld ∧ h.1 52 (d * 8 + 1) = nI st ∧ h.1 52 (d * 8 + 2) = (if li = 0 then 0 else 1) ∧ h.1 52 (d * 8 + 3) = nI fe ∧ h.1 52 (d * 8 + 4) = nI br ∧ h.1 52 (d * 8 + 5) = nI bk ∧ h.1 52 (d * 8 + 6) = nI rm ∧ h.1 52 (d * 8 + 7) = nI sp
set_option maxHeartbeats 4000000 in
theorem c_keep {d sf rm : Nat} {h : HP} {s : WS} (hd : d < 24) (hr : h.1 53 9 = nI rm) (hc : CR d sf h s) : ∃ h', f_Wa_keep (nI d) h = some h' ∧ KR h' d rm s ∧ (∀ j, (j < d * 8 ∨ d * 8 + 8 ≤ j) → h'.1 52 j = h.1 52 j) ∧ FR [52] h h' := by
  obtain ⟨ld, st, li, fe, br, bk, sp, ff⟩ := s
  have hl := hc.li
  obtain ⟨c2, c3, c4, c10, c6, c7, c11, c8, c12⟩ := hc
  have e : nI d * 8 = nI (d * 8) := pk_mul d 8
  have e0 : nI (d * 8) + 0 = nI (d * 8) := nI_add _ 0
  have e1 : nI (d * 8) + 1 = nI (d * 8 + 1) := nI_add _ 1
  have e2 : nI (d * 8) + 2 = nI (d * 8 + 2) := nI_add _ 2
  have e3 : nI (d * 8) + 3 = nI (d * 8 + 3) := nI_add _ 3
  have e4 : nI (d * 8) + 4 = nI (d * 8 + 4) := nI_add _ 4
  have e5 : nI (d * 8) + 5 = nI (d * 8 + 5) := nI_add _ 5
  have e6 : nI (d * 8) + 6 = nI (d * 8 + 6) := nI_add _ 6
  have e7 : nI (d * 8) + 7 = nI (d * 8 + 7) := nI_add _ 7
  unfold f_Wa_keep
  simp only [ltt_s, rI, e, e0, e1, e2, e3, e4, e5, e6, e7, inb_lit (show d * 8 < 192 by omega) (by omega), inb_lit (show d * 8 + 1 < 192 by omega) (by omega), inb_lit (show d * 8 + 2 < 192 by omega) (by omega), inb_lit (show d * 8 + 3 < 192 by omega) (by omega), inb_lit (show d * 8 + 4 < 192 by omega) (by omega), inb_lit (show d * 8 + 5 < 192 by omega) (by omega), inb_lit (show d * 8 + 6 < 192 by omega) (by omega), inb_lit (show d * 8 + 7 < 192 by omega) (by omega), ckk_t, wA_nI (show d * 8 < 2 ^ 31 by omega), wA_nI (show d * 8 + 1 < 2 ^ 31 by omega), wA_nI (show d * 8 + 2 < 2 ^ 31 by omega), wA_nI (show d * 8 + 3 < 2 ^ 31 by omega), wA_nI (show d * 8 + 4 < 2 ^ 31 by omega), wA_nI (show d * 8 + 5 < 2 ^ 31 by omega), wA_nI (show d * 8 + 6 < 2 ^ 31 by omega), wA_nI (show d * 8 + 7 < 2 ^ 31 by omega)]
  have hz : (sI (sI h 52 (d * 8) (h.1 53 3)) 52 (d * 8 + 1) ((sI h 52 (d * 8) (h.1 53 3)).1 53 4)).1 53 10 = h.1 53 10 := by simp [rd_sI]
  rw [hz]
  have hb : (if h.1 53 10 = 0 then some (0 : Int32) else some 1) = some (if li = 0 then 0 else 1) := by
    by_cases h0 : li = 0
    · rw [if_pos (hl.mpr h0), if_pos h0]
    · rw [if_neg (fun z => h0 (hl.mp z)), if_neg h0]
  rw [hb]
  simp only [bd1_s]
  refine ⟨_, rfl, ?_, ?_, ?_⟩
  · simp [KR, rd_sI, c3, c4, c6, c7, c8, c11, hr]
  · intro j hj
    simp only [rd_sI]
    have n0 : ¬ j = d * 8 := by omega
    have n1 : ¬ j = d * 8 + 1 := by omega
    have n2 : ¬ j = d * 8 + 2 := by omega
    have n3 : ¬ j = d * 8 + 3 := by omega
    have n4 : ¬ j = d * 8 + 4 := by omega
    have n5 : ¬ j = d * 8 + 5 := by omega
    have n6 : ¬ j = d * 8 + 6 := by omega
    have n7 : ¬ j = d * 8 + 7 := by omega
    simp [n0, n1, n2, n3, n4, n5, n6, n7]
  · repeat' (first | exact FR.rf | refine FR.s ?_ (by decide))
theorem c_rise {d sf : Nat} {h : HP} {s : WS} (hd : d < 24) (ho : wok sf s) (hc : CR0 d sf h s) : ∃ h', f_Wa_rise (nI d) h = some h' ∧ CR d sf h' s ∧ KP h h' := by
  obtain ⟨ld, st, li, fe, br, bk, sp, ff⟩ := s
  obtain ⟨o1, o2, o3, o4, o5⟩ := ho
  obtain ⟨c2, c3, c4, c10, c6, c7, c11, c8, c12⟩ := hc
  unfold f_Wa_rise
  simp only [ltt_s, rI]
  rcases c10 with ⟨g1, g2⟩ | ⟨g1, f, g2, g3⟩
  · simp only [g1, if_true]
    exact ⟨h, rfl, ⟨c2, c3, c4, Or.inl ⟨g1, g2⟩, c6, c7, c11, c8, c12⟩, KP.rf⟩
  · have n1 : ¬ ((1 : Int32) = 0) := by decide
    simp only [g1, n1, if_false, g2]
    have hle : f ≤ d := by omega
    have e : nI d - nI f = nI (d - f) := pk_sub hle
    have q : (nI (d - f) < 3) ↔ d - f < 3 := nI_ltI (b := 3) (by omega) (by omega)
    rw [e]
    simp only [q]
    by_cases h3 : d - f < 3
    · simp only [h3, if_true]
      exact ⟨h, rfl, ⟨c2, c3, c4, Or.inr ⟨g1, by omega, f, g2, g3⟩, c6, c7, c11, c8, c12⟩, KP.rf⟩
    · simp only [h3, if_false]
      have hz : li = 0 := by omega
      refine ⟨_, rfl, ?_, ⟨by simp [rd_sI], by simp [rd_sI], by simp [rd_sI], FR.s FR.rf (by decide)⟩⟩
      simp [CR, rd_sI, c2, c3, c4, c6, c7, c8, c11, c12, hz]
/-- the data of a march: how many camels, bales, straws; sorts, figures; of bales day, camel, weight; of straws day, camel; what is left out -/
abbrev DT : Type := Nat × Nat × Nat × (Nat → Nat) × (Nat → Nat) × (Nat → Int32) × (Nat → Int32) × (Nat → Nat) × (Nat → Int32) × (Nat → Int32) × Int32
abbrev dnc (D : DT) : Nat := D.1
abbrev dnb (D : DT) : Nat := D.2.1
abbrev dns (D : DT) : Nat := D.2.2.1
abbrev dso (D : DT) : Nat → Nat := D.2.2.2.1
abbrev dfg (D : DT) : Nat → Nat := D.2.2.2.2.1
abbrev dbd (D : DT) : Nat → Int32 := D.2.2.2.2.2.1
abbrev dbo (D : DT) : Nat → Int32 := D.2.2.2.2.2.2.1
abbrev dbw (D : DT) : Nat → Nat := D.2.2.2.2.2.2.2.1
abbrev dsd (D : DT) : Nat → Int32 := D.2.2.2.2.2.2.2.2.1
abbrev dsk (D : DT) : Nat → Int32 := D.2.2.2.2.2.2.2.2.2.1
abbrev dlo (D : DT) : Int32 := D.2.2.2.2.2.2.2.2.2.2
def tbit (x : Int32) (i : Nat) : Bool := !decide ((x >>> (nI i &&& 31)) &&& 1 = 0)
/-- what the class's cells hold of it -/
def CD (D : DT) (h : HP) : Prop := h.1 70 4 = nI (dnc D) ∧ h.1 66 4 = nI (dnb D) ∧ dnc D ≤ 8 ∧ dnb D ≤ 10 ∧ dns D ≤ 8 ∧ (∀ i, i < dnb D → h.1 62 i = dbd D i ∧ h.1 64 i = dbo D i ∧ h.1 63 i = nI (dbw D i) ∧ dbw D i ≤ 9) ∧ (h.2.2 = 60 ∨ h.2.2 = 57) ∧ h.1 h.2.2 2 = nI (dns D) ∧ (∀ i, i < dns D → h.1 (rf1 h.2.2 0) i = dsd D i ∧ h.1 (rf1 h.2.2 1) i = dsk D i) ∧ h.1 54 3 = dlo D ∧ ∀ i, i < dnc D → h.1 68 i = nI (dso D i) ∧ h.1 67 i = nI (dfg D i) ∧ dso D i ≤ 2 ∧ 1 ≤ dfg D i ∧ dfg D i ≤ 9
theorem rf_60 : rf1 60 0 = 59 ∧ rf1 60 1 = 58 ∧ rf1 57 0 = 56 ∧ rf1 57 1 = 55 := by decide
theorem CD.keep {D : DT} {h h' : HP} (hc : CD D h) (hf : FR [52, 53] h h') : CD D h' := by
  obtain ⟨c1, c2, b1, b2, b3, c3, c4, c5, c6, c7, c8⟩ := hc
  have g : ∀ a, a ≠ 52 → a ≠ 53 → h'.1 a = h.1 a := fun a h1 h2 => hf.2 a (by simp [h1, h2])
  have e2 : h'.2.2 = h.2.2 := by rw [hf.1]
  obtain ⟨r1, r2, r3, r4⟩ := rf_60
  refine ⟨by rw [g 70 (by decide) (by decide)]; exact c1, by rw [g 66 (by decide) (by decide)]; exact c2, b1, b2, b3, fun i hi => ?_, by rw [e2]; exact c4, ?_, fun i hi => ?_, by rw [g 54 (by decide) (by decide)]; exact c7, fun i hi => ?_⟩
  · rw [g 62 (by decide) (by decide), g 64 (by decide) (by decide), g 63 (by decide) (by decide)]
    exact c3 i hi
  · rw [e2]
    rcases c4 with h4 | h4
    · rw [h4] at c5 ⊢
      rw [g 60 (by decide) (by decide)]
      exact c5
    · rw [h4] at c5 ⊢
      rw [g 57 (by decide) (by decide)]
      exact c5
  · rw [e2]
    have h6 := c6 i hi
    rcases c4 with h4 | h4
    · rw [h4, r1, r2] at h6 ⊢
      rw [g 59 (by decide) (by decide), g 58 (by decide) (by decide)]
      exact h6
    · rw [h4, r3, r4] at h6 ⊢
      rw [g 56 (by decide) (by decide), g 55 (by decide) (by decide)]
      exact h6
  · rw [g 68 (by decide) (by decide), g 67 (by decide) (by decide)]
    exact c8 i hi
theorem KP.fr {h h' : HP} (k : KP h h') : FR [52, 53] h h' := k.2.2.2.mono (by decide)
theorem one_ne : ¬ ((1 : Int32) = 0) := by decide
theorem CD.o {D : DT} {h : HP} (hc : CD D h) : [60, 57].contains h.2.2 = true := by
  rcases hc.2.2.2.2.2.2.1 with h4 | h4 <;> rw [h4] <;> rfl
set_option maxHeartbeats 4000000 in
theorem l_65 {D : DT} {d k sf : Nat} {v2 : Int32} (hd : d < 24) (hsf : sf ≤ 36) {s0 : WS} (ho : wok sf s0) : ∀ (fu i : Nat) (h : HP), CD D h → i ≤ dnb D → dnb D < i + fu → CR d sf h (wB (dbd D) (dbo D) (dbw D) d k i s0) → ∃ h', lp_Cv_march_68 1 (nI d) v2 (nI k) fu (nI i) h = some (nI (dnb D), h') ∧ CR d sf h' (wB (dbd D) (dbo D) (dbw D) d k (dnb D) s0) ∧ KP h h' := by
  intro fu
  induction fu with
  | zero => intro i h _ h1 h2; omega
  | succ fu ih =>
    intro i h hc hi hf hr
    have b2 := hc.2.2.2.1
    have q : (nI (dnb D) ≤ nI i) ↔ dnb D ≤ i := nI_leI (by omega) (by omega)
    rw [lp_Cv_march_68]
    simp only [one_ne, if_false, ltt_s, rI, hc.2.1, q]
    by_cases he : dnb D ≤ i
    · have e : i = dnb D := by omega
      subst e
      simp only [Nat.le_refl, if_true]
      exact ⟨h, rfl, hr, KP.rf⟩
    · simp only [he, if_false]
      obtain ⟨d1, d2, d3, d4⟩ := hc.2.2.2.2.2.1 i (by omega)
      have hb : inb (nI i) 10 = true := inb_lit (by omega) (by omega)
      simp only [hb, ckk_t, rA_nI (show i < 2 ^ 31 by omega), d1, d2, d3, nI_1]
      have hw : wB (dbd D) (dbo D) (dbw D) d k (i + 1) s0 = if dbd D i = nI d ∧ dbo D i = nI k then wt d (dbw D i) (wB (dbd D) (dbo D) (dbw D) d k i s0) else wB (dbd D) (dbo D) (dbw D) d k i s0 := rfl
      by_cases h1 : dbd D i = nI d
      · by_cases h2 : dbo D i = nI k
        · obtain ⟨g1, g2, e1, e2, r2, k2⟩ := c_bale hd hsf d4 (wok_wB hd ho i) hr
          simp only [h1, h2, if_true, e1, e2, bd1_s]
          obtain ⟨h', e3, r3, k3⟩ := ih (i + 1) g2 (hc.keep k2.fr) (by omega) (by omega) (by rw [hw, if_pos ⟨h1, h2⟩]; exact r2)
          exact ⟨h', e3, r3, k2.tr k3⟩
        · simp only [h1, h2, if_true, if_false, bd1_s]
          exact ih (i + 1) h hc (by omega) (by omega) (by rw [hw, if_neg (fun z => h2 z.2)]; exact hr)
      · simp only [h1, if_false, bd1_s]
        exact ih (i + 1) h hc (by omega) (by omega) (by rw [hw, if_neg (fun z => h1 z.1)]; exact hr)
set_option maxHeartbeats 4000000 in
theorem l_144 {D : DT} {d k sf : Nat} {v2 : Int32} (hd : d < 24) (hsf : sf ≤ 36) {s0 : WS} (ho : wok sf s0) : ∀ (fu i : Nat) (h : HP), CD D h → i ≤ dns D → dns D < i + fu → CR d sf h (wS (dsd D) (dsk D) (tbit (dlo D)) d k i s0) → ∃ h', lp_Cv_march_147 1 (nI d) v2 (nI k) fu (nI i) h = some (nI (dns D), h') ∧ CR d sf h' (wS (dsd D) (dsk D) (tbit (dlo D)) d k (dns D) s0) ∧ KP h h' := by
  intro fu
  induction fu with
  | zero => intro i h _ h1 h2; omega
  | succ fu ih =>
    intro i h hc hi hf hr
    have b3 := hc.2.2.2.2.1
    have q : (nI (dns D) ≤ nI i) ↔ dns D ≤ i := nI_leI (by omega) (by omega)
    rw [lp_Cv_march_147]
    simp only [one_ne, if_false, ltt_s, rI, hc.o, ckk_t, hc.2.2.2.2.2.2.2.1, q]
    by_cases he : dns D ≤ i
    · have e : i = dns D := by omega
      subst e
      simp only [Nat.le_refl, if_true]
      exact ⟨h, rfl, hr, KP.rf⟩
    · simp only [he, if_false]
      obtain ⟨d1, d2⟩ := hc.2.2.2.2.2.2.2.2.1 i (by omega)
      have hb : inb (nI i) 8 = true := inb_lit (by omega) (by omega)
      have hlo : h.1 54 3 = dlo D := hc.2.2.2.2.2.2.2.2.2.1
      simp only [hb, ckk_t, rA_nI (show i < 2 ^ 31 by omega), d1, d2, nI_1, hlo]
      have hw : wS (dsd D) (dsk D) (tbit (dlo D)) d k (i + 1) s0 = if dsd D i = nI d ∧ dsk D i = nI k ∧ tbit (dlo D) i = false then wsw d (wS (dsd D) (dsk D) (tbit (dlo D)) d k i s0) else wS (dsd D) (dsk D) (tbit (dlo D)) d k i s0 := rfl
      by_cases h1 : dsd D i = nI d
      · by_cases h2 : dsk D i = nI k
        · by_cases h3 : (dlo D >>> (nI i &&& 31)) &&& 1 = 0
          · obtain ⟨g1, g2, g3, e1, e2, e3, r2, k2⟩ := c_straw hd hsf (wok_wS hd ho i) hr
            have ht : tbit (dlo D) i = false := by unfold tbit; simp [h3]
            simp only [h1, h2, h3, if_true, e1, e2, e3, bd1_s]
            obtain ⟨h', e4, r3, k3⟩ := ih (i + 1) g3 (hc.keep k2.fr) (by omega) (by omega) (by rw [hw, if_pos ⟨h1, h2, ht⟩]; exact r2)
            exact ⟨h', e4, r3, k2.tr k3⟩
          · have ht : ¬ tbit (dlo D) i = false := by unfold tbit; simp [h3]
            simp only [h1, h2, h3, if_true, if_false, bd1_s]
            exact ih (i + 1) h hc (by omega) (by omega) (by rw [hw, if_neg (fun z => ht z.2.2)]; exact hr)
        · simp only [h1, h2, if_true, if_false, bd1_s]
          exact ih (i + 1) h hc (by omega) (by omega) (by rw [hw, if_neg (fun z => h2 z.2.1)]; exact hr)
      · simp only [h1, if_false, bd1_s]
        exact ih (i + 1) h hc (by omega) (by omega) (by rw [hw, if_neg (fun z => h1 z.1)]; exact hr)
theorem tbit_bt {x : Int32} {i : Nat} (hi : i < 32) : tbit x i = bt x i := by
  unfold tbit
  by_cases h : bt x i = false
  · rw [decide_eq_true ((bit0 x hi).mpr h), h]
    rfl
  · rw [decide_eq_false (fun z => h ((bit0 x hi).mp z))]
    simp only [Bool.not_eq_false] at h
    rw [h]
    rfl
set_option maxHeartbeats 4000000 in
theorem l_busy4 {D : DT} {k : Nat} : ∀ (fu i : Nat) (x : Int32) (h : HP), CD D h → i ≤ dnb D → dnb D < i + fu → (∀ d j, d < 24 → j < i → dbo D j = nI k → dbd D j = nI d → bt x d = true) → ∃ x', lp_Cv_busyDaysOf_4 (nI k) fu (nI i) x h = some (nI (dnb D), x', h) ∧ (∀ d, bt x d = true → bt x' d = true) ∧ ∀ d j, d < 24 → j < dnb D → dbo D j = nI k → dbd D j = nI d → bt x' d = true := by
  intro fu
  induction fu with
  | zero => intro i x h _ h1 h2; omega
  | succ fu ih =>
    intro i x h hc hi hf hx
    have b2 := hc.2.2.2.1
    have q : (nI (dnb D) ≤ nI i) ↔ dnb D ≤ i := nI_leI (by omega) (by omega)
    rw [lp_Cv_busyDaysOf_4]
    simp only [ltt_s, rI, hc.2.1, q]
    by_cases he : dnb D ≤ i
    · have e : i = dnb D := by omega
      subst e
      simp only [Nat.le_refl, if_true]
      exact ⟨x, rfl, fun _ h => h, hx⟩
    · simp only [he, if_false]
      obtain ⟨d1, d2, d3, d4⟩ := hc.2.2.2.2.2.1 i (by omega)
      have hb : inb (nI i) 10 = true := inb_lit (by omega) (by omega)
      simp only [hb, ckk_t, rA_nI (show i < 2 ^ 31 by omega), d1, d2, nI_1]
      by_cases h1 : dbo D i = nI k
      · simp only [h1, if_true, bd1_s]
        have hm : ∀ d, bt x d = true → bt (x ||| 1 <<< (dbd D i &&& 31)) d = true := fun d hd => by rw [b_or, hd]; rfl
        obtain ⟨x', e1, m1, p1⟩ := ih (i + 1) (x ||| 1 <<< (dbd D i &&& 31)) h hc (by omega) (by omega) (fun d j hd hj g1 g2 => by
          by_cases hji : j = i
          · subst hji
            rw [b_or, g2, bt_one (by omega) (by omega)]
            simp
          · exact hm d (hx d j hd (by omega) g1 g2))
        exact ⟨x', e1, fun d hd => m1 d (hm d hd), p1⟩
      · simp only [h1, if_false, bd1_s]
        exact ih (i + 1) x h hc (by omega) (by omega) (fun d j hd hj g1 g2 => by
          by_cases hji : j = i
          · subst hji
            exact absurd g1 h1
          · exact hx d j hd (by omega) g1 g2)
set_option maxHeartbeats 4000000 in
theorem l_busy50 {D : DT} {k : Nat} : ∀ (fu i : Nat) (x : Int32) (h : HP), CD D h → i ≤ dns D → dns D < i + fu → (∀ d j, d < 24 → j < i → dsk D j = nI k → dsd D j = nI d → bt x d = true) → ∃ x', lp_Cv_busyDaysOf_50 (nI k) fu (nI i) x h = some (nI (dns D), x', h) ∧ (∀ d, bt x d = true → bt x' d = true) ∧ ∀ d j, d < 24 → j < dns D → dsk D j = nI k → dsd D j = nI d → bt x' d = true := by
  intro fu
  induction fu with
  | zero => intro i x h _ h1 h2; omega
  | succ fu ih =>
    intro i x h hc hi hf hx
    have b3 := hc.2.2.2.2.1
    have q : (nI (dns D) ≤ nI i) ↔ dns D ≤ i := nI_leI (by omega) (by omega)
    rw [lp_Cv_busyDaysOf_50]
    simp only [ltt_s, rI, hc.o, ckk_t, hc.2.2.2.2.2.2.2.1, q]
    by_cases he : dns D ≤ i
    · have e : i = dns D := by omega
      subst e
      simp only [Nat.le_refl, if_true]
      exact ⟨x, rfl, fun _ h => h, hx⟩
    · simp only [he, if_false]
      obtain ⟨d1, d2⟩ := hc.2.2.2.2.2.2.2.2.1 i (by omega)
      have hb : inb (nI i) 8 = true := inb_lit (by omega) (by omega)
      simp only [hb, ckk_t, rA_nI (show i < 2 ^ 31 by omega), d1, d2, nI_1]
      by_cases h1 : dsk D i = nI k
      · simp only [h1, if_true, bd1_s]
        have hm : ∀ d, bt x d = true → bt (x ||| 1 <<< (dsd D i &&& 31)) d = true := fun d hd => by rw [b_or, hd]; rfl
        obtain ⟨x', e1, m1, p1⟩ := ih (i + 1) (x ||| 1 <<< (dsd D i &&& 31)) h hc (by omega) (by omega) (fun d j hd hj g1 g2 => by
          by_cases hji : j = i
          · subst hji
            rw [b_or, g2, bt_one (by omega) (by omega)]
            simp
          · exact hm d (hx d j hd (by omega) g1 g2))
        exact ⟨x', e1, fun d hd => m1 d (hm d hd), p1⟩
      · simp only [h1, if_false, bd1_s]
        exact ih (i + 1) x h hc (by omega) (by omega) (fun d j hd hj g1 g2 => by
          by_cases hji : j = i
          · subst hji
            exact absurd g1 h1
          · exact hx d j hd (by omega) g1 g2)
theorem c_busy {D : DT} {k : Nat} {h : HP} (hc : CD D h) : ∃ x, f_Cv_busyDaysOf (nI k) h = some (x, h) ∧ ∀ d, d < 24 → bt x d = false → (∀ j, j < dnb D → ¬ (dbd D j = nI d ∧ dbo D j = nI k)) ∧ ∀ j, j < dns D → ¬ (dsd D j = nI d ∧ dsk D j = nI k) := by
  have b2 := hc.2.2.2.1
  have b3 := hc.2.2.2.2.1
  obtain ⟨x1, e1, -, p1⟩ := l_busy4 (k := k) 400 0 0 h hc (Nat.zero_le _) (by omega) (fun d j _ hj => absurd hj (Nat.not_lt_zero _))
  obtain ⟨x2, e2, m2, p2⟩ := l_busy50 (k := k) 400 0 x1 h hc (Nat.zero_le _) (by omega) (fun d j _ hj => absurd hj (Nat.not_lt_zero _))
  refine ⟨x2, ?_, fun d hd hb => ⟨fun j hj z => ?_, fun j hj z => ?_⟩⟩
  · unfold f_Cv_busyDaysOf
    rw [nI_0] at e1 e2
    rw [e1, bd3_s, e2, bd3_s]
  · have h3 := m2 d (p1 d j hd hj z.2 z.1)
    rw [hb] at h3
    cases h3
  · have h3 := p2 d j hd hj z.2 z.1
    rw [hb] at h3
    cases h3
theorem wB_id {bd bo : Nat → Int32} {bw : Nat → Nat} {d k : Nat} {s : WS} : ∀ n, (∀ j, j < n → ¬ (bd j = nI d ∧ bo j = nI k)) → wB bd bo bw d k n s = s
  | 0, _ => rfl
  | n + 1, h => by
    unfold wB
    rw [if_neg (h n (by omega))]
    exact wB_id n (fun j hj => h j (by omega))
theorem wS_id {sd so : Nat → Int32} {out : Nat → Bool} {d k : Nat} {s : WS} : ∀ n, (∀ j, j < n → ¬ (sd j = nI d ∧ so j = nI k)) → wS sd so out d k n s = s
  | 0, _ => rfl
  | n + 1, h => by
    unfold wS
    rw [if_neg (fun z => h n (by omega) ⟨z.1, z.2.1⟩)]
    exact wS_id n (fun j hj => h j (by omega))
