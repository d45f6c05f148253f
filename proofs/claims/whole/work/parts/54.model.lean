/-! the reference's run of all camels: the same walks, side by side -/
abbrev a_ld (s : WS) : Nat := s.1
abbrev a_st (s : WS) : Nat := s.2.1
abbrev a_li (s : WS) : Nat := s.2.2.1
abbrev a_fe (s : WS) : Nat := s.2.2.2.1
abbrev a_br (s : WS) : Nat := s.2.2.2.2.1
abbrev a_bk (s : WS) : Nat := s.2.2.2.2.2.1
abbrev a_sp (s : WS) : Nat := s.2.2.2.2.2.2.1
abbrev a_ff (s : WS) : Nat := s.2.2.2.2.2.2.2
def sumN : Nat → (Nat → Nat) → Nat
  | 0, _ => 0
  | n + 1, f => sumN n f + f n
theorem sumN_cong {f g : Nat → Nat} : ∀ n, (∀ k, k < n → f k = g k) → sumN n f = sumN n g
  | 0, _ => rfl
  | n + 1, h => by
    unfold sumN
    rw [sumN_cong n (fun k hk => h k (by omega)), h n (by omega)]
def up (σ : Nat → WS) (c : Nat) (s : WS) : Nat → WS := fun k => if k = c then s else σ k
theorem up_eq {σ : Nat → WS} {c : Nat} {s : WS} : up σ c s c = s := if_pos rfl
theorem up_ne {σ : Nat → WS} {c k : Nat} {s : WS} (h : k ≠ c) : up σ c s k = σ k := if_neg h
theorem sumN_up {σ : Nat → WS} {c : Nat} {s : WS} : ∀ n, c < n → sumN n (fun k => a_sp (up σ c s k)) + a_sp (σ c) = sumN n (fun k => a_sp (σ k)) + a_sp s
  | 0, h => by omega
  | n + 1, h => by
    unfold sumN
    by_cases hc : c = n
    · subst hc
      rw [sumN_cong c (f := fun k => a_sp (up σ c s k)) (g := fun k => a_sp (σ k)) (fun k hk => by rw [up_ne (by omega)])]
      show _ + a_sp (up σ c s c) + _ = sumN c (fun k => a_sp (σ k)) + a_sp (σ c) + _
      rw [up_eq]
      omega
    · have ih := sumN_up (σ := σ) (c := c) (s := s) n (by omega)
      show _ + a_sp (up σ c s n) + _ = sumN n (fun k => a_sp (σ k)) + a_sp (σ n) + _
      rw [up_ne (fun z => hc z.symm)]
      omega
/-- the first day on which any broke, and the least that did; as ints -/
def FW (nc d : Nat) (σ : Nat → WS) (fd fw : Int32) : Prop := (∀ k, k < nc → a_ff (σ k) ≤ d ∨ a_ff (σ k) = 24) ∧ (((∀ k, k < nc → a_ff (σ k) = 24) ∧ fd = -1 ∧ fw = -1) ∨ ∃ m w, m < 24 ∧ w < nc ∧ fd = nI m ∧ fw = nI w ∧ a_ff (σ w) = m ∧ ∀ k, k < nc → m ≤ a_ff (σ k) ∧ (a_ff (σ k) = m → w ≤ k))
def MRc (s : WS) (h : HP) (k : Nat) : Prop := h.1 22 k = nI (a_ld s) ∧ h.1 21 k = nI (a_st s) ∧ h.1 20 k = nI (a_li s) ∧ h.1 19 k = nI (a_fe s) ∧ h.1 18 k = nI (a_br s) ∧ h.1 17 k = nI (a_bk s)
def MR (nc d : Nat) (σ : Nat → WS) (h : HP) : Prop := (∀ k, k < nc → MRc (σ k) h k) ∧ h.1 34 23 = nI (sumN nc (fun k => a_sp (σ k))) ∧ FW nc d σ (h.1 34 24) (h.1 34 25)
/-- of the reference's own object only these places change -/
def K34 (h h' : HP) : Prop := ∀ j, j ≠ 16 → j ≠ 23 → j ≠ 24 → j ≠ 25 → h'.1 34 j = h.1 34 j
theorem K34.rf {h : HP} : K34 h h := fun _ _ _ _ _ => rfl
theorem K34.tr {h h' h'' : HP} (a : K34 h h') (b : K34 h' h'') : K34 h h'' := fun j h1 h2 h3 h4 => (b j h1 h2 h3 h4).trans (a j h1 h2 h3 h4)
theorem ff_wb {d : Nat} {s : WS} (h : a_st s < a_ld s) : a_ff (wb d s) = if a_ff s = 24 then d else a_ff s := by
  obtain ⟨ld, st, li, fe, br, bk, sp, ff⟩ := s
  rw [wb_t h]
theorem FW.brk {nc d c : Nat} {σ : Nat → WS} {fd fw : Int32} (hd : d < 24) (hc : c < nc) (hn : nc ≤ 8) (hb : a_st (σ c) < a_ld (σ c)) (hf : FW nc d σ fd fw) : ∃ fd' fw', (fw' = if fd = -1 then nI c else if fd = nI d then (if fw ≤ nI c then fw else nI c) else fw) ∧ (fd' = if fd = -1 then nI d else fd) ∧ FW nc d (up σ c (wb d (σ c))) fd' fw' := by
  obtain ⟨h1, h2⟩ := hf
  refine ⟨_, _, rfl, rfl, ?_, ?_⟩
  · intro k hk
    by_cases e : k = c
    · subst e
      rw [up_eq, ff_wb hb]
      have := h1 k hk
      split <;> omega
    · rw [up_ne e]
      exact h1 k hk
  · rcases h2 with ⟨g1, g2, g3⟩ | ⟨m, w, g1, g2, g3, g4, g5, g6⟩
    · refine Or.inr ⟨d, c, hd, hc, by rw [if_pos g2], by rw [if_pos g2], ?_, fun k hk => ?_⟩
      · rw [up_eq, ff_wb hb, if_pos (g1 c hc)]
      · by_cases e : k = c
        · subst e
          rw [up_eq, ff_wb hb, if_pos (g1 k hk)]
          exact ⟨Nat.le_refl _, fun _ => Nat.le_refl _⟩
        · rw [up_ne e, g1 k hk]
          exact ⟨by omega, fun z => by omega⟩
    · have hm1 : ¬ fd = -1 := by rw [g3]; exact ffI_ne g1
      have hmd : m ≤ d := by
        have := h1 w g2
        omega
      rw [if_neg hm1, if_neg hm1]
      have hcf := g6 c hc
      by_cases e : fd = nI d
      · have em : m = d := (nI_eq (by omega) (by omega)).mp (g3.symm.trans e)
        subst em
        rw [if_pos e, g4]
        have q : (nI w ≤ nI c) ↔ w ≤ c := nI_leI (by omega) (by omega)
        by_cases hw : w ≤ c
        · rw [if_pos (q.mpr hw)]
          refine Or.inr ⟨m, w, g1, g2, g3, rfl, ?_, fun k hk => ?_⟩
          · by_cases ew : w = c
            · subst ew
              rw [up_eq, ff_wb hb, g5, if_neg (by omega)]
            · rw [up_ne ew]
              exact g5
          · by_cases ek : k = c
            · subst ek
              rw [up_eq, ff_wb hb]
              split
              · exact ⟨Nat.le_refl _, fun _ => hw⟩
              · exact hcf
            · rw [up_ne ek]
              exact g6 k hk
        · rw [if_neg (fun z => hw (q.mp z))]
          have hc24 : a_ff (σ c) = 24 := by
            have h3 := h1 c hc
            have h4 := hcf.2
            omega
          refine Or.inr ⟨m, c, g1, hc, g3, rfl, ?_, fun k hk => ?_⟩
          · rw [up_eq, ff_wb hb, if_pos hc24]
          · by_cases ek : k = c
            · subst ek
              rw [up_eq, ff_wb hb, if_pos hc24]
              exact ⟨Nat.le_refl _, fun _ => Nat.le_refl _⟩
            · rw [up_ne ek]
              have h5 := g6 k hk
              exact ⟨h5.1, fun z => by have := h5.2 z; omega⟩
      · have em : m ≠ d := fun z => e (by rw [g3, z])
        rw [if_neg e]
        refine Or.inr ⟨m, w, g1, g2, g3, g4, ?_, fun k hk => ?_⟩
        · by_cases ew : w = c
          · subst ew
            rw [up_eq, ff_wb hb, g5, if_neg (by omega)]
          · rw [up_ne ew]
            exact g5
        · by_cases ek : k = c
          · subst ek
            rw [up_eq, ff_wb hb]
            split
            · exact ⟨hmd, fun z => by omega⟩
            · exact hcf
          · rw [up_ne ek]
            exact g6 k hk
theorem MRc.frame {s : WS} {h h' : HP} {k : Nat} (hm : MRc s h k) (e : ∀ a, a = 17 ∨ a = 18 ∨ a = 19 ∨ a = 20 ∨ a = 21 ∨ a = 22 → h'.1 a k = h.1 a k) : MRc s h' k := by
  obtain ⟨m1, m2, m3, m4, m5, m6⟩ := hm
  exact ⟨(e 22 (by decide)).trans m1, (e 21 (by decide)).trans m2, (e 20 (by decide)).trans m3, (e 19 (by decide)).trans m4, (e 18 (by decide)).trans m5, (e 17 (by decide)).trans m6⟩
set_option maxHeartbeats 4000000 in
theorem m_breaks {nc d c : Nat} {σ : Nat → WS} {h : HP} (hd : d < 24) (hn : nc ≤ 8) (hc : c < nc) (h1 : a_ld (σ c) ≤ 100) (h2 : a_st (σ c) ≤ 36) (hm : MR nc d σ h) : ∃ h', f_Mo_breaks (nI c) (nI d) h = some h' ∧ MR nc d (up σ c (wb d (σ c))) h' ∧ FR [17, 20, 21, 22, 34] h h' ∧ K34 h h' ∧ h'.1 34 16 = h.1 34 16 := by
  obtain ⟨hk, hl, hf⟩ := hm
  obtain ⟨ld, st, li, fe, br, bk, sp, ff, hs⟩ : ∃ a b c' d' e f g i, σ c = (a, b, c', d', e, f, g, i) := ⟨_, _, _, _, _, _, _, _, rfl⟩
  obtain ⟨m1, m2, m3, m4, m5, m6⟩ := hk c hc
  rw [hs] at m1 m2 m3 m4 m5 m6 h1 h2
  simp only [a_ld, a_st, a_li, a_fe, a_br, a_bk] at m1 m2 m3 m4 m5 m6 h1 h2
  have hb : inb (nI c) 8 = true := inb_lit (by omega) (by omega)
  have hcl : c < 2 ^ 31 := by omega
  have q1 : (nI ld ≤ nI st) ↔ ld ≤ st := nI_leI (by omega) (by omega)
  have q2 : (nI st ≤ 3) ↔ st ≤ 3 := nI_leI (b := 3) (by omega) (by omega)
  unfold f_Mo_breaks
  simp only [hb, ckk_t, ltt_s, rI, rA_nI hcl, wA_nI hcl, m1, m2, q1]
  by_cases hle : ld ≤ st
  · simp only [hle, if_true]
    have e : up σ c (wb d (σ c)) = σ := by
      funext k
      by_cases ek : k = c
      · subst ek
        rw [up_eq, hs, wb_f (by omega)]
      · rw [up_ne ek]
    rw [e]
    exact ⟨h, rfl, ⟨hk, hl, hf⟩, FR.rf, K34.rf, rfl⟩
  · simp only [hle, if_false]
    have hlt : st < ld := by omega
    obtain ⟨fd', fw', efw, efd, hf'⟩ := FW.brk hd hc hn (by rw [hs]; exact hlt) hf
    obtain ⟨nst, hst'⟩ : ∃ v : Int32, v = nI (st - 3) := ⟨_, rfl⟩
    have est : (if st ≤ 3 then some (0 : Int32) else some (nI st - 3)) = some nst := by
      by_cases h3 : st ≤ 3
      · rw [if_pos h3, hst', show st - 3 = 0 by omega]; rfl
      · rw [if_neg h3, hst', n3_sub h3]
    obtain ⟨S, hS⟩ : ∃ S, S = sumN nc (fun k => a_sp (σ k)) := ⟨_, rfl⟩
    rw [← hS] at hl
    have r1 : (sI h 20 c 3).1 34 23 = nI S := by simp [rd_sI, hl]
    have r2 : (sI h 20 c 3).1 22 c = nI ld := by simp [rd_sI, m1]
    simp only [r1, r2]
    have r3 : (sI (sI (sI h 20 c 3) 34 23 (nI S + nI ld)) 22 c 0).1 21 c = nI st := by simp [rd_sI, m2]
    simp only [r3, q2, est, bd1_s]
    have r4 : (sI (sI (sI (sI h 20 c 3) 34 23 (nI S + nI ld)) 22 c 0) 21 c nst).1 17 c = nI bk := by simp [rd_sI, m6]
    simp only [r4]
    have r5 : (sI (sI (sI (sI (sI h 20 c 3) 34 23 (nI S + nI ld)) 22 c 0) 21 c nst) 17 c (nI bk + 1)).1 34 24 = h.1 34 24 := by simp [rd_sI]
    have r6 : (sI (sI (sI (sI (sI h 20 c 3) 34 23 (nI S + nI ld)) 22 c 0) 21 c nst) 17 c (nI bk + 1)).1 34 25 = h.1 34 25 := by simp [rd_sI]
    simp only [r5, r6]
    have e1 : (if h.1 34 24 = -1 then some (nI c) else if h.1 34 24 = nI d then (if h.1 34 25 ≤ nI c then some (h.1 34 25) else some (nI c)) else some (h.1 34 25)) = some fw' := by
      rw [efw]
      split
      · rfl
      · split
        · split <;> rfl
        · rfl
    simp only [e1, bd1_s]
    have r7 : (sI (sI (sI (sI (sI (sI h 20 c 3) 34 23 (nI S + nI ld)) 22 c 0) 21 c nst) 17 c (nI bk + 1)) 34 25 fw').1 34 24 = h.1 34 24 := by simp [rd_sI]
    simp only [r7]
    have e2 : (if h.1 34 24 = -1 then some (nI d) else some (h.1 34 24)) = some fd' := by
      rw [efd]
      split <;> rfl
    simp only [e2, bd1_s]
    have hsw : wb d (σ c) = (0, st - 3, 3, fe, br, bk + 1, sp + ld, if ff = 24 then d else ff) := by rw [hs, wb_t hlt]
    refine ⟨_, rfl, ⟨fun k hk' => ?_, ?_, ?_⟩, ?_, ?_, ?_⟩
    · by_cases ek : k = c
      · subst ek
        rw [up_eq, hsw]
        refine ⟨?_, ?_, ?_, ?_, ?_, ?_⟩
        · simp [rd_sI]; rfl
        · simp [rd_sI, hst']
        · simp [rd_sI]; rfl
        · simp [rd_sI, m4]
        · simp [rd_sI, m5]
        · simp [rd_sI, nI_1]
      · rw [up_ne ek]
        refine (hk k hk').frame (fun a ha => ?_)
        rcases ha with rfl | rfl | rfl | rfl | rfl | rfl <;> simp [rd_sI, ek]
    · have hsum := sumN_up (σ := σ) (c := c) (s := wb d (σ c)) nc hc
      have e3 : a_sp (wb d (σ c)) = sp + ld := by rw [hsw]
      have e4 : a_sp (σ c) = sp := by rw [hs]
      rw [e3, e4, ← hS] at hsum
      have e5 : sumN nc (fun k => a_sp (up σ c (wb d (σ c)) k)) = S + ld := by omega
      rw [e5]
      simp [rd_sI, nI_add]
    · have e3 : ∀ G : HP, (sI (sI G 34 25 fw') 34 24 fd').1 34 24 = fd' := fun G => by simp [rd_sI]
      have e4 : ∀ G : HP, (sI (sI G 34 25 fw') 34 24 fd').1 34 25 = fw' := fun G => by simp [rd_sI]
      rw [e3, e4]
      exact hf'
    · repeat' (first | exact FR.rf | refine FR.s ?_ (by decide))
    · intro j j1 j2 j3 j4
      simp [rd_sI, j1, j2, j3, j4]
    · simp [rd_sI]
