/-! the reference's run of all days -/
theorem nI_ne {a b : Nat} (ha : a < 2 ^ 31) (hb : b < 2 ^ 31) (h : a ≠ b) : ¬ nI a = nI b := fun z => h ((nI_eq ha hb).mp z)
set_option maxHeartbeats 4000000 in
theorem l_b2 {D : DT} {d : Nat} (hd : d < 24) {σ0 : Nat → WS} (ho : ∀ k, k < dnc D → wok (4 * dfg D k) (σ0 k)) : ∀ (fu i : Nat) (h : HP) (σ : Nat → WS), MD D h → i ≤ dnb D → dnb D < i + fu → (∀ k, k < dnc D → σ k = wB (dbd D) (dbo D) (dbw D) d k i (σ0 k)) → MR (dnc D) d σ h → ∃ h' σ', lp_Mo_bears_2 (nI d) fu (nI i) h = some (nI (dnb D), h') ∧ (∀ k, k < dnc D → σ' k = wB (dbd D) (dbo D) (dbw D) d k (dnb D) (σ0 k)) ∧ MR (dnc D) d σ' h' ∧ MJ h h' ∧ h'.1 34 16 = h.1 34 16 := by
  intro fu
  induction fu with
  | zero => intro i h σ _ h1 h2; omega
  | succ fu ih =>
    intro i h σ hm hi hf hσ hr
    have b1 := hm.2.2.1
    have b2 := hm.2.2.2.1
    have q : (nI (dnb D) ≤ nI i) ↔ dnb D ≤ i := nI_leI (by omega) (by omega)
    rw [lp_Mo_bears_2]
    simp only [ltt_s, rI, hm.2.1, q]
    by_cases he : dnb D ≤ i
    · have e : i = dnb D := by omega
      subst e
      simp only [Nat.le_refl, if_true]
      exact ⟨h, σ, rfl, hσ, hr, MJ.rf, rfl⟩
    · simp only [he, if_false]
      obtain ⟨d1, d2, d3, d4, c, hc8, d5⟩ := hm.2.2.2.2.2.2.2.1 i (by omega)
      have hb : inb (nI i) 11 = true := inb_lit (by omega) (by omega)
      have hil : i < 2 ^ 31 := by omega
      simp only [hb, ckk_t, rA_nI hil, d1, nI_1]
      have hw : ∀ k, wB (dbd D) (dbo D) (dbw D) d k (i + 1) (σ0 k) = if dbd D i = nI d ∧ dbo D i = nI k then wt d (dbw D i) (wB (dbd D) (dbo D) (dbw D) d k i (σ0 k)) else wB (dbd D) (dbo D) (dbw D) d k i (σ0 k) := fun _ => rfl
      have hok : ∀ k, k < dnc D → wok (4 * dfg D k) (σ k) := fun k hk => by rw [hσ k hk]; exact wok_wB hd (ho k hk) i
      by_cases h1 : dbd D i = nI d
      · have tk := m_takes hm hr hc8 (fun k hk => (hok k hk).2.2.1)
        by_cases hcn : c < dnc D ∧ a_li (σ c) = 0
        · rw [if_pos hcn] at tk
          obtain ⟨h', e2, r2, k2, l2⟩ := m_wt (w := dbw D i) hd hm hr hcn.1 d4 (hok c hcn.1) hcn.2
          have m22 := (hr.1 c hcn.1).1
          have hbc : inb (nI c) 8 = true := inb_lit (by omega) (by omega)
          have hcl : c < 2 ^ 31 := by omega
          have t : (sI h 22 c (nI (a_ld (σ c)) + nI (dbw D i))).1 29 i = nI c := by simp [rd_sI, d2, d5]
          simp only [h1, if_true, d2, d5, tk, bd2_s, one_ne, if_false, hbc, ckk_t, rA_nI hcl, wA_nI hcl, m22, d3, t, e2, bd1_s]
          obtain ⟨h2, σ2, e3, s3, r3, k3, l3⟩ := ih (i + 1) h' (up σ c (wt d (dbw D i) (σ c))) (hm.keep k2.mk) (by omega) (by omega) (fun k hk => by
            rw [hw]
            by_cases ek : k = c
            · subst ek
              rw [up_eq, if_pos ⟨h1, d5⟩, hσ k hk]
            · rw [up_ne ek, if_neg (fun z => nI_ne (by omega) (by omega) (Ne.symm ek) (d5.symm.trans z.2)), hσ k hk]) r2
          exact ⟨h2, σ2, e3, s3, r3, k2.tr k3, l3.trans l2⟩
        · rw [if_neg hcn] at tk
          simp only [h1, if_true, d2, d5, tk, bd2_s, bd1_s]
          refine ih (i + 1) h σ hm (by omega) (by omega) (fun k hk => ?_) hr
          rw [hw]
          by_cases ek : k = c
          · subst ek
            rw [if_pos ⟨h1, d5⟩, ← hσ k hk]
            have hli : ¬ a_li (σ k) = 0 := fun z => hcn ⟨hk, z⟩
            rw [wt_li hli]
          · rw [if_neg (fun z => nI_ne (by omega) (by omega) (Ne.symm ek) (d5.symm.trans z.2)), hσ k hk]
      · simp only [h1, if_false, bd1_s]
        exact ih (i + 1) h σ hm (by omega) (by omega) (fun k hk => by rw [hw, if_neg (fun z => h1 z.1), hσ k hk]) hr
/-- the flag 'isLast' behind straw i - 1, if that is one of the day -/
def LF (D : DT) (d i : Nat) (σ0 : Nat → WS) (x : Int32) : Prop := ∀ n c, i = n + 1 → c < dnc D → dsd D n = nI d → dsk D n = nI c → tbit (dlo D) n = false → x = lq (wS (dsd D) (dsk D) (tbit (dlo D)) d c n (σ0 c))
theorem m_isIn {x : Int32} {i : Nat} {h : HP} (hi : i < 32) : f_Mo_isIn x (nI i) h = some (if tbit x i = true then 1 else 0, h) := by
  unfold f_Mo_isIn
  have q := bit1 x hi
  rw [← tbit_bt hi] at q
  simp only [q]
  by_cases z : tbit x i = true
  · simp [z]
  · simp [z]
set_option maxHeartbeats 4000000 in
theorem l_s2 {D : DT} {d : Nat} (hd : d < 24) {σ0 : Nat → WS} (ho : ∀ k, k < dnc D → wok (4 * dfg D k) (σ0 k)) : ∀ (fu i : Nat) (h : HP) (σ : Nat → WS), MD D h → i ≤ dns D → dns D < i + fu → (∀ k, k < dnc D → σ k = wS (dsd D) (dsk D) (tbit (dlo D)) d k i (σ0 k)) → MR (dnc D) d σ h → LF D d i σ0 (h.1 34 16) → ∃ h' σ', lp_Mo_comeStraws_2 (nI d) fu (nI i) h = some (nI (dns D), h') ∧ (∀ k, k < dnc D → σ' k = wS (dsd D) (dsk D) (tbit (dlo D)) d k (dns D) (σ0 k)) ∧ MR (dnc D) d σ' h' ∧ MJ h h' ∧ LF D d (dns D) σ0 (h'.1 34 16) := by
  intro fu
  induction fu with
  | zero => intro i h σ _ h1 h2; omega
  | succ fu ih =>
    intro i h σ hm hi hf hσ hr hlf
    have b1 := hm.2.2.1
    have b3 := hm.2.2.2.2.1
    have q : (nI (dns D) ≤ nI i) ↔ dns D ≤ i := nI_leI (by omega) (by omega)
    rw [lp_Mo_comeStraws_2]
    simp only [ltt_s, rI, hm.2.2.2.2.2.1, q]
    by_cases he : dns D ≤ i
    · have e : i = dns D := by omega
      subst e
      simp only [Nat.le_refl, if_true]
      exact ⟨h, σ, rfl, hσ, hr, MJ.rf, hlf⟩
    · simp only [he, if_false]
      obtain ⟨d1, d2, c, hc8, d5⟩ := hm.2.2.2.2.2.2.2.2.1 i (by omega)
      have hb : inb (nI i) 17 = true := inb_lit (by omega) (by omega)
      have hil : i < 2 ^ 31 := by omega
      have hin := m_isIn (x := dlo D) (i := i) (h := h) (by omega)
      simp only [hb, ckk_t, rA_nI hil, d1, nI_1, hm.2.2.2.2.2.2.1, hin, bd2_s]
      have hw : ∀ k, wS (dsd D) (dsk D) (tbit (dlo D)) d k (i + 1) (σ0 k) = if dsd D i = nI d ∧ dsk D i = nI k ∧ tbit (dlo D) i = false then wsw d (wS (dsd D) (dsk D) (tbit (dlo D)) d k i (σ0 k)) else wS (dsd D) (dsk D) (tbit (dlo D)) d k i (σ0 k) := fun _ => rfl
      have hok : ∀ k, k < dnc D → wok (4 * dfg D k) (σ k) := fun k hk => by rw [hσ k hk]; exact wok_wS hd (ho k hk) i
      by_cases h1 : dsd D i = nI d
      · by_cases h2 : tbit (dlo D) i = true
        · simp only [h1, h2, if_true, one_ne, if_false, bd1_s]
          refine ih (i + 1) h σ hm (by omega) (by omega) (fun k hk => by rw [hw, if_neg (fun z => by rw [h2] at z; exact absurd z.2.2 (by decide)), hσ k hk]) hr ?_
          intro n c' e1 _ _ _ e2
          have en : n = i := by omega
          subst en
          rw [h2] at e2
          cases e2
        · have h2' : tbit (dlo D) i = false := by
            cases h3 : tbit (dlo D) i
            · rfl
            · exact absurd h3 h2
          have hm1 : MD D (sI h 34 16 0) := hm.keep (MJ.f MJ.rf (by decide)).mk
          have hr1 : MR (dnc D) d σ (sI h 34 16 0) := by
            obtain ⟨r1, r2, r3⟩ := hr
            refine ⟨fun k hk => (r1 k hk).frame (fun a ha => ?_), ?_, ?_⟩
            · rcases ha with rfl | rfl | rfl | rfl | rfl | rfl <;> simp [rd_sI]
            · simp [rd_sI, r2]
            · simp [rd_sI, r3]
          have tk := m_takes hm1 hr1 hc8 (fun k hk => (hok k hk).2.2.1)
          have t0 : (sI h 34 16 0).1 23 i = nI c := by simp [rd_sI, d2, d5]
          by_cases hcn : c < dnc D ∧ a_li (σ c) = 0
          · rw [if_pos hcn] at tk
            obtain ⟨h', e2, r2, k2, l2⟩ := m_wsw hd hm1 hr1 hcn.1 (hok c hcn.1) hcn.2
            have k2' : MJ h h' := (MJ.f MJ.rf (by decide)).tr k2
            simp only [h1, if_true, h2, if_false, t0, tk, bd2_s, one_ne, e2, bd1_s]
            obtain ⟨h2_, σ2, e3, s3, r3, k3, l3⟩ := ih (i + 1) h' (up σ c (wsw d (σ c))) (hm.keep k2'.mk) (by omega) (by omega) (fun k hk => by
              rw [hw]
              by_cases ek : k = c
              · subst ek
                rw [up_eq, if_pos ⟨h1, d5, h2'⟩, hσ k hk]
              · rw [up_ne ek, if_neg (fun z => nI_ne (by omega) (by omega) (Ne.symm ek) (d5.symm.trans z.2.1)), hσ k hk]) r2 (by
              intro n c' e1 g1 _ g2 _
              have en : n = i := by omega
              subst en
              have ec : c' = c := (nI_eq (by omega) (by omega)).mp (g2.symm.trans d5)
              subst ec
              rw [l2, hσ c' g1])
            exact ⟨h2_, σ2, e3, s3, r3, k2'.tr k3, l3⟩
          · rw [if_neg hcn] at tk
            simp only [h1, if_true, h2, if_false, t0, tk, bd2_s, bd1_s]
            have hno : c < dnc D → ¬ a_li (σ c) = 0 := fun y z => hcn ⟨y, z⟩
            obtain ⟨h2_, σ2, e3, s3, r3, k3, l3⟩ := ih (i + 1) (sI h 34 16 0) σ hm1 (by omega) (by omega) (fun k hk => by
              rw [hw]
              by_cases ek : k = c
              · subst ek
                rw [if_pos ⟨h1, d5, h2'⟩, ← hσ k hk]
                have hli := hno hk
                rw [wsw_li hli]
              · rw [if_neg (fun z => nI_ne (by omega) (by omega) (Ne.symm ek) (d5.symm.trans z.2.1)), hσ k hk]) hr1 (by
              intro n c' e1 g1 _ g2 _
              have en : n = i := by omega
              subst en
              have ec : c' = c := (nI_eq (by omega) (by omega)).mp (g2.symm.trans d5)
              subst ec
              rw [← hσ c' g1, lq, if_neg (fun z => hno g1 z.1)]
              simp [rd_sI])
            exact ⟨h2_, σ2, e3, s3, r3, (MJ.f MJ.rf (by decide)).tr k3, l3⟩
      · simp only [h1, if_false, bd1_s]
        refine ih (i + 1) h σ hm (by omega) (by omega) (fun k hk => by rw [hw, if_neg (fun z => h1 z.1), hσ k hk]) hr ?_
        intro n c' e1 _ e2
        have en : n = i := by omega
        subst en
        exact absurd e2 h1
set_option maxHeartbeats 4000000 in
theorem l_12 {D : DT} {d : Nat} (hd : d < 24) {σ0 : Nat → WS} (ho : ∀ k, k < dnc D → wok (4 * dfg D k) (σ0 k)) : ∀ (fu i : Nat) (h : HP) (σ : Nat → WS), MD D h → i ≤ dnc D → dnc D < i + fu → (∀ k, k < dnc D → σ k = if k < i then ww d (dso D k) (4 * dfg D k) (σ0 k) else σ0 k) → MR (dnc D) d σ h → ∃ v h' σ', lp_Mo_goesBy_12 (nI d) fu (nI i) h = some (v, h') ∧ (∀ k, k < dnc D → σ' k = ww d (dso D k) (4 * dfg D k) (σ0 k)) ∧ MR (dnc D) d σ' h' ∧ MJ h h' ∧ h'.1 34 16 = h.1 34 16 := by
  intro fu
  induction fu with
  | zero => intro i h σ _ h1 h2; omega
  | succ fu ih =>
    intro i h σ hm hi hf hσ hr
    have b1 := hm.2.2.1
    have q : (nI (dnc D) ≤ nI i) ↔ dnc D ≤ i := nI_leI (by omega) (by omega)
    rw [lp_Mo_goesBy_12]
    simp only [ltt_s, rI, hm.1, q]
    by_cases he : dnc D ≤ i
    · simp only [he, if_true]
      exact ⟨_, h, σ, rfl, fun k hk => by rw [hσ k hk, if_pos (by omega)], hr, MJ.rf, rfl⟩
    · simp only [he, if_false]
      have hin : i < dnc D := by omega
      have hb : inb (nI i) 8 = true := inb_lit (by omega) (by omega)
      have m3 := (hr.1 i hin).2.2.1
      have hsi : σ i = σ0 i := by rw [hσ i hin, if_neg (by omega)]
      have hoi := ho i hin
      rw [← hsi] at hoi
      have q2 : (nI (a_li (σ i)) = 0) ↔ a_li (σ i) = 0 := nI_eq (b := 0) (Nat.lt_of_le_of_lt hoi.2.2.1 (by omega)) (by omega)
      simp only [hb, ckk_t, rA_nI (show i < 2 ^ 31 by omega), m3, q2, nI_1]
      by_cases hl : a_li (σ i) = 0
      · obtain ⟨h', e2, r2, k2, l2⟩ := m_ww hd hm hr hin hoi hl
        simp only [hl, if_true, e2, bd1_s]
        obtain ⟨v, h2, σ2, e3, s3, r3, k3, l3⟩ := ih (i + 1) h' _ (hm.keep k2.mk) (by omega) (by omega) (fun k hk => by
          by_cases ek : k = i
          · subst ek
            rw [up_eq, if_pos (by omega), hsi]
          · rw [up_ne ek, hσ k hk]
            by_cases z : k < i
            · rw [if_pos z, if_pos (by omega)]
            · rw [if_neg z, if_neg (by omega)]) r2
        exact ⟨v, h2, σ2, e3, s3, r3, k2.tr k3, l3.trans l2⟩
      · simp only [hl, if_false, bd1_s]
        refine ih (i + 1) h σ hm (by omega) (by omega) (fun k hk => ?_) hr
        by_cases ek : k = i
        · subst ek
          rw [if_pos (by omega), ← hsi]
          rw [ww_li hl]
        · rw [hσ k hk]
          by_cases z : k < i
          · rw [if_pos z, if_pos (by omega)]
          · rw [if_neg z, if_neg (by omega)]
set_option maxHeartbeats 4000000 in
theorem l_43 {D : DT} {d : Nat} (hd : d < 24) {σ0 : Nat → WS} (ho : ∀ k, k < dnc D → wok (4 * dfg D k) (σ0 k)) : ∀ (fu i : Nat) (h : HP) (σ : Nat → WS), MD D h → i ≤ dnc D → dnc D < i + fu → (∀ k, k < dnc D → σ k = if k < i then we (wl d (σ0 k)) else σ0 k) → MR (dnc D) d σ h → (∀ k, k < i → RC h d k (wl d (σ0 k))) → ∃ v h' σ', lp_Mo_goesBy_43 (nI d) fu (nI i) h = some (v, h') ∧ (∀ k, k < dnc D → σ' k = we (wl d (σ0 k))) ∧ MR (dnc D) d σ' h' ∧ MK h h' ∧ h'.1 34 16 = h.1 34 16 ∧ (∀ k, k < dnc D → RC h' d k (wl d (σ0 k))) ∧ (∀ a j, (j < 8 * d ∨ 8 * d + 8 ≤ j) → a = 11 ∨ a = 12 ∨ a = 13 ∨ a = 14 ∨ a = 15 ∨ a = 16 → h'.1 a j = h.1 a j) ∧ h'.1 10 = h.1 10 := by
  intro fu
  induction fu with
  | zero => intro i h σ _ h1 h2; omega
  | succ fu ih =>
    intro i h σ hm hi hf hσ hr hrc
    have b1 := hm.2.2.1
    have q : (nI (dnc D) ≤ nI i) ↔ dnc D ≤ i := nI_leI (by omega) (by omega)
    rw [lp_Mo_goesBy_43]
    simp only [ltt_s, rI, hm.1, q]
    by_cases he : dnc D ≤ i
    · simp only [he, if_true]
      exact ⟨_, h, σ, rfl, fun k hk => by rw [hσ k hk, if_pos (by omega)], hr, MK.rf, rfl, fun k hk => hrc k (by omega), fun _ _ _ _ => rfl, rfl⟩
    · simp only [he, if_false]
      have hin : i < dnc D := by omega
      have hsi : σ i = σ0 i := by rw [hσ i hin, if_neg (by omega)]
      have hoi := ho i hin
      rw [← hsi] at hoi
      obtain ⟨h', e2, r2, k2, l2, c2, o2, t2⟩ := m_we hd hm hr hin hoi
      simp only [e2, bd1_s, nI_1]
      obtain ⟨v, h2, σ2, e3, s3, r3, k3, l3, c3, o3, t3⟩ := ih (i + 1) h' _ (hm.keep k2) (by omega) (by omega) (fun k hk => by
        by_cases ek : k = i
        · subst ek
          rw [up_eq, if_pos (by omega), hsi]
        · rw [up_ne ek, hσ k hk]
          by_cases z : k < i
          · rw [if_pos z, if_pos (by omega)]
          · rw [if_neg z, if_neg (by omega)]) r2 (fun k hk => by
        by_cases ek : k = i
        · subst ek
          rw [← hsi]
          exact c2
        · exact (hrc k (by omega)).frame (fun a ha => o2 a _ (by omega) ha))
      exact ⟨v, h2, σ2, e3, s3, r3, k2.tr k3, l3.trans l2, c3, fun a j hj ha => (o3 a j hj ha).trans (o2 a j (by omega) ha), t3.trans t2⟩
def WR (D : DT) (k d : Nat) : WS := wR D (dso D k) (4 * dfg D k) k d
def WE (D : DT) (d k : Nat) : WS := wD D (dso D k) (4 * dfg D k) d k (WR D k d)
theorem WR_s (D : DT) (k d : Nat) : WR D k (d + 1) = we (WE D d k) := rfl
theorem wok_WR {D : DT} {k d : Nat} (hd : d ≤ 24) : wok (4 * dfg D k) (WR D k d) := wok_wR d hd
def LA (D : DT) (d : Nat) (x : Int32) : Prop := LF D d (dns D) (fun k => wB (dbd D) (dbo D) (dbw D) d k (dnb D) (WR D k d)) x
theorem LF.cong {D : DT} {d i : Nat} {σ σ' : Nat → WS} {x : Int32} (e : ∀ k, k < dnc D → σ' k = σ k) (h : LF D d i σ x) : LF D d i σ' x := fun n c e1 g1 g2 g3 g4 => by rw [e c g1]; exact h n c e1 g1 g2 g3 g4
theorem m_goes {D : DT} {d : Nat} (hd : d < 24) {h : HP} {σ : Nat → WS} (hm : MD D h) (hσ : ∀ k, k < dnc D → σ k = WR D k d) (hr : MR (dnc D) d σ h) : ∃ h' σ', f_Mo_goesBy (nI d) h = some h' ∧ (∀ k, k < dnc D → σ' k = WR D k (d + 1)) ∧ MR (dnc D) d σ' h' ∧ MK h h' ∧ LA D d (h'.1 34 16) ∧ (∀ k, k < dnc D → RC h' d k (WE D d k)) ∧ (∀ a j, (j < 8 * d ∨ 8 * d + 8 ≤ j) → a = 11 ∨ a = 12 ∨ a = 13 ∨ a = 14 ∨ a = 15 ∨ a = 16 → h'.1 a j = h.1 a j) ∧ h'.1 10 = h.1 10 := by
  have b1 := hm.2.2.1
  have b2 := hm.2.2.2.1
  have b3 := hm.2.2.2.2.1
  have o0 : ∀ k, k < dnc D → wok (4 * dfg D k) (σ k) := fun k hk => by rw [hσ k hk]; exact wok_WR (by omega)
  obtain ⟨h1, σ1, e1, s1, r1, k1, l1⟩ := l_b2 hd o0 400 0 h σ hm (Nat.zero_le _) (by omega) (fun k hk => rfl) hr
  have o1 : ∀ k, k < dnc D → wok (4 * dfg D k) (σ1 k) := fun k hk => by rw [s1 k hk]; exact wok_wB hd (o0 k hk) _
  obtain ⟨h2, σ2, e2, s2, r2, k2, l2⟩ := l_s2 hd o1 400 0 h1 σ1 (hm.keep k1.mk) (Nat.zero_le _) (by omega) (fun k hk => rfl) r1 (fun n c e => by omega)
  have o2 : ∀ k, k < dnc D → wok (4 * dfg D k) (σ2 k) := fun k hk => by rw [s2 k hk]; exact wok_wS hd (o1 k hk) _
  obtain ⟨v3, h3, σ3, e3, s3, r3, k3, l3⟩ := l_12 hd o2 400 0 h2 σ2 (hm.keep (k1.tr k2).mk) (Nat.zero_le _) (by omega) (fun k hk => by rw [if_neg (by omega)]) r2
  have o3 : ∀ k, k < dnc D → wok (4 * dfg D k) (σ3 k) := fun k hk => by rw [s3 k hk]; exact wok_ww hd (o2 k hk)
  obtain ⟨v4, h4, σ4, e4, s4, r4, k4, l4, c4, q4, t4⟩ := l_43 hd o3 400 0 h3 σ3 (hm.keep ((k1.tr k2).tr k3).mk) (Nat.zero_le _) (by omega) (fun k hk => by rw [if_neg (by omega)]) r3 (fun k hk => absurd hk (Nat.not_lt_zero _))
  have hE : ∀ k, k < dnc D → wl d (σ3 k) = WE D d k := fun k hk => by
    rw [s3 k hk, s2 k hk, s1 k hk, hσ k hk]
    rfl
  refine ⟨h4, σ4, ?_, fun k hk => by rw [s4 k hk, hE k hk, WR_s], r4, ((k1.tr k2).tr k3).mk.tr k4, ?_, fun k hk => by rw [← hE k hk]; exact c4 k hk, ?_, ?_⟩
  · unfold f_Mo_goesBy f_Mo_bears f_Mo_comeStraws
    rw [nI_0] at e1 e2 e3 e4
    simp only [e1, e2, e3, e4, bd1_s, bd2_s]
  · rw [l4, l3]
    exact l2.cong (fun k hk => by rw [s1 k hk, hσ k hk])
  · intro a j hj ha
    rw [q4 a j hj ha, ((k1.tr k2).tr k3).1.2 a (by rcases ha with rfl | rfl | rfl | rfl | rfl | rfl <;> decide)]
  · rw [t4, ((k1.tr k2).tr k3).1.2 10 (by decide)]
/-- behind the reference's run -/
def MRun (D : DT) (h : HP) : Prop := MR (dnc D) 24 (fun k => WR D k 24) h ∧ (∀ d k, d < 24 → k < dnc D → RC h d k (WE D d k)) ∧ ∀ d, d < 24 → LA D d (if h.1 10 d = 1 then 1 else 0) ∧ (h.1 10 d = 0 ∨ h.1 10 d = 1)
theorem LF.bool {D : DT} {d i : Nat} {σ : Nat → WS} {x : Int32} (h : LF D d i σ x) : LF D d i σ (if (if x = 0 then (0 : Int32) else 1) = 1 then 1 else 0) := fun n c e1 g1 g2 g3 g4 => by
  rw [h n c e1 g1 g2 g3 g4]
  unfold lq
  split
  · rfl
  · rfl
set_option maxHeartbeats 4000000 in
theorem l_82 {D : DT} : ∀ (fu d : Nat) (h : HP) (σ : Nat → WS), MD D h → d ≤ 24 → 24 < d + fu → (∀ k, k < dnc D → σ k = WR D k d) → MR (dnc D) d σ h → (∀ j k, j < d → k < dnc D → RC h j k (WE D j k)) → (∀ j, j < d → LA D j (if h.1 10 j = 1 then 1 else 0) ∧ (h.1 10 j = 0 ∨ h.1 10 j = 1)) → ∃ v h', lp_Mo_runs_82 fu (nI d) h = some (v, h') ∧ MRun D h' ∧ MK h h' := by
  intro fu
  induction fu with
  | zero => intro d h σ _ h1 h2; omega
  | succ fu ih =>
    intro d h σ hm hd hf hσ hr hc hl
    have b1 := hm.2.2.1
    have q : (24 ≤ nI d) ↔ 24 ≤ d := nI_leI (a := 24) (by omega) (by omega)
    rw [lp_Mo_runs_82]
    simp only [q]
    by_cases he : 24 ≤ d
    · have e : d = 24 := by omega
      subst e
      simp only [Nat.le_refl, if_true]
      exact ⟨_, h, rfl, ⟨hr.cong (fun k hk => (hσ k hk).symm), hc, hl⟩, MK.rf⟩
    · simp only [he, if_false, ltt_s]
      have hd24 : d < 24 := by omega
      have k0 : MJ h (sI h 34 16 0) := MJ.f MJ.rf (by decide)
      have hr1 : MR (dnc D) d σ (sI h 34 16 0) := by
        obtain ⟨r1, r2, r3⟩ := hr
        refine ⟨fun k hk => (r1 k hk).frame (fun a ha => ?_), ?_, ?_⟩
        · rcases ha with rfl | rfl | rfl | rfl | rfl | rfl <;> simp [rd_sI]
        · simp [rd_sI, r2]
        · simp [rd_sI, r3]
      obtain ⟨h1, σ1, e1, s1, r1, k1, l1, c1, o1, t1⟩ := m_goes hd24 (hm.keep k0.mk) hσ hr1
      obtain ⟨fl, hfl⟩ : ∃ v : Int32, v = if h1.1 34 16 = 0 then 0 else 1 := ⟨_, rfl⟩
      have e2 : (if rI h1 34 16 = 0 then some (0 : Int32) else some 1) = some fl := by
        rw [hfl]
        show (if h1.1 34 16 = 0 then some (0 : Int32) else some 1) = _
        split <;> rfl
      have hb : inb (nI d) 24 = true := inb_lit (by omega) (by omega)
      simp only [e1, bd1_s, e2, hb, ckk_t, wA_nI (show d < 2 ^ 31 by omega), nI_1]
      have k2 : MK h (sI h1 10 d fl) := (k0.mk.tr k1).s (by decide)
      obtain ⟨v, h2, e3, r3, k3⟩ := ih (d + 1) (sI h1 10 d fl) σ1 (hm.keep k2) (by omega) (by omega) s1 (by
        obtain ⟨r1, r2, r3⟩ := r1
        refine ⟨fun k hk => (r1 k hk).frame (fun a ha => ?_), ?_, ?_⟩
        · rcases ha with rfl | rfl | rfl | rfl | rfl | rfl <;> simp [rd_sI]
        · simp [rd_sI, r2]
        · simp only [rd_sI]
          exact (by simpa using r3 : FW (dnc D) d σ1 _ _).mono (by omega)) (fun j k hj hk => by
        by_cases ej : j = d
        · subst ej
          exact (c1 k hk).frame (fun a ha => by rcases ha with rfl | rfl | rfl | rfl | rfl | rfl <;> simp [rd_sI])
        · refine (hc j k (by omega) hk).frame (fun a ha => ?_)
          have e4 := o1 a (8 * j + k) (by omega) ha
          rcases ha with rfl | rfl | rfl | rfl | rfl | rfl <;> simp [rd_sI, e4]) (fun j hj => by
        by_cases ej : j = d
        · subst ej
          have e5 : (sI h1 10 j fl).1 10 j = fl := by simp [rd_sI]
          rw [e5, hfl]
          refine ⟨l1.bool, ?_⟩
          split
          · exact Or.inl rfl
          · exact Or.inr rfl
        · have e5 : (sI h1 10 d fl).1 10 j = h.1 10 j := by
            simp only [rd_sI, ej, and_false, if_false, t1]
            simp [rd_sI]
          rw [e5]
          exact hl j (by omega))
      exact ⟨v, h2, e3, r3, k2.tr k3⟩
set_option maxHeartbeats 4000000 in
theorem l_r2 {D : DT} : ∀ (fu i : Nat) (h : HP), MD D h → i ≤ dnc D → dnc D < i + fu → (∀ k, k < i → MRc (w0_ (4 * dfg D k)) h k) → ∃ v h', lp_Mo_runs_2 fu (nI i) h = some (v, h') ∧ (∀ k, k < dnc D → MRc (w0_ (4 * dfg D k)) h' k) ∧ MK h h' := by
  intro fu
  induction fu with
  | zero => intro i h _ h1 h2; omega
  | succ fu ih =>
    intro i h hm hi hf hr
    have b1 := hm.2.2.1
    have q : (nI (dnc D) ≤ nI i) ↔ dnc D ≤ i := nI_leI (by omega) (by omega)
    rw [lp_Mo_runs_2]
    simp only [ltt_s, rI, hm.1, q]
    by_cases he : dnc D ≤ i
    · simp only [he, if_true]
      exact ⟨_, h, rfl, fun k hk => hr k (by omega), MK.rf⟩
    · simp only [he, if_false]
      have hin : i < dnc D := by omega
      have g := (hm.2.2.2.2.2.2.2.2.2 i hin).2.1
      have hb : inb (nI i) 8 = true := inb_lit (by omega) (by omega)
      have hb9 : inb (nI i) 9 = true := inb_lit (by omega) (by omega)
      have hil : i < 2 ^ 31 := by omega
      have t1 : (sI h 22 i 0).1 30 i = nI (dfg D i) := by simp [rd_sI, g]
      have e4 : (4 : Int32) * nI (dfg D i) = nI (4 * dfg D i) := pk_mul 4 _
      simp only [hb, hb9, ckk_t, rA_nI hil, wA_nI hil, t1, e4, nI_1]
      have k1 : MK h (sI (sI (sI (sI (sI (sI h 22 i 0) 21 i (nI (4 * dfg D i))) 20 i 0) 19 i 0) 18 i 0) 17 i 0) := by
        repeat' (first | exact MK.rf | refine MK.s ?_ (by decide))
      obtain ⟨v, h2, e3, r3, k3⟩ := ih (i + 1) _ (hm.keep k1) (by omega) (by omega) (fun k hk => by
        by_cases ek : k = i
        · subst ek
          refine ⟨?_, ?_, ?_, ?_, ?_, ?_⟩ <;> (simp [rd_sI, w0_]; try rfl)
        · exact (hr k (by omega)).frame (fun a ha => by rcases ha with rfl | rfl | rfl | rfl | rfl | rfl <;> simp [rd_sI, ek]))
      exact ⟨v, h2, e3, r3, k1.tr k3⟩
theorem sumN_0 {f : Nat → Nat} : ∀ n, (∀ k, k < n → f k = 0) → sumN n f = 0
  | 0, _ => rfl
  | n + 1, h => by
    unfold sumN
    rw [sumN_0 n (fun k hk => h k (by omega)), h n (by omega)]
theorem m_runs {D : DT} {h : HP} (hm : MD D h) : ∃ h', f_Mo_runs h = some h' ∧ MRun D h' ∧ MK h h' := by
  have b1 := hm.2.2.1
  obtain ⟨v1, h1, e1, r1, k1⟩ := l_r2 400 0 h hm (Nat.zero_le _) (by omega) (fun k hk => absurd hk (Nat.not_lt_zero _))
  have k2 : MK h (sI (sI (sI h1 34 23 0) 34 24 (-1)) 34 25 (-1)) := ((k1.f (by decide)).f (by decide)).f (by decide)
  obtain ⟨v2, h2, e2, r2, k3⟩ := l_82 (D := D) 400 0 _ (fun k => WR D k 0) (hm.keep k2) (Nat.zero_le _) (by omega) (fun k hk => rfl) (by
    refine ⟨fun k hk => (r1 k hk).frame (fun a ha => by rcases ha with rfl | rfl | rfl | rfl | rfl | rfl <;> simp [rd_sI]), ?_, ?_⟩
    · show _ = nI (sumN (dnc D) (fun _ => 0))
      rw [sumN_0 _ (fun k _ => rfl)]
      simp [rd_sI, nI_0]
    · refine ⟨fun k hk => Or.inr rfl, Or.inl ⟨fun k hk => rfl, ?_, ?_⟩⟩ <;> simp [rd_sI]) (fun j k hj => absurd hj (Nat.not_lt_zero _)) (fun j hj => absurd hj (Nat.not_lt_zero _))
  refine ⟨h2, ?_, r2, k2.tr k3⟩
  unfold f_Mo_runs
  rw [nI_0] at e1 e2
  simp only [e1, bd2_s, ltt_s, e2]
