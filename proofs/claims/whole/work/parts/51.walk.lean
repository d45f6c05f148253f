/-! the walk of one camel, told in numbers; the class's Walk keeps to it -/
def FR (cs : List Nat) (h h' : HP) : Prop := h'.2 = h.2 ∧ ∀ a, a ∉ cs → h'.1 a = h.1 a
theorem FR.rf {cs : List Nat} {h : HP} : FR cs h h := ⟨rfl, fun _ _ => rfl⟩
theorem FR.tr {cs : List Nat} {h h' h'' : HP} (a : FR cs h h') (b : FR cs h' h'') : FR cs h h'' := ⟨b.1.trans a.1, fun q hq => (b.2 q hq).trans (a.2 q hq)⟩
theorem FR.mono {cs ds : List Nat} {h h' : HP} (a : FR cs h h') (hs : ∀ q, q ∈ cs → q ∈ ds) : FR ds h h' := ⟨a.1, fun q hq => a.2 q (fun z => hq (hs q z))⟩
theorem FR.sI {cs : List Nat} {h : HP} {a j : Nat} {v : Int32} (ha : a ∈ cs) : FR cs h (sI h a j v) := by
  refine ⟨rfl, fun q hq => ?_⟩
  have hne : q ≠ a := fun z => hq (z ▸ ha)
  funext k
  simp [_root_.Jvm.Pilot.@@N@@.sI, hne]
theorem FR.wA {cs : List Nat} {h : HP} {a : Nat} {i v : Int32} (ha : a ∈ cs) : FR cs h (wA h a i v) := FR.sI ha
theorem sI_eq {h : HP} {a j : Nat} {v : Int32} : (sI h a j v).1 a j = v := by simp [sI]
theorem sI_nj {h : HP} {a j k : Nat} {v : Int32} (hk : k ≠ j) : (sI h a j v).1 a k = h.1 a k := by simp [sI, hk]
theorem sI_na {h : HP} {a b j : Nat} {v : Int32} (hb : b ≠ a) : (sI h a j v).1 b = h.1 b := by funext k; simp [sI, hb]
/-- a camel: load, strength, days to lie, fees, brought, broke, spilt, day of its first fall (24: none) -/
abbrev WS : Type := Nat × Nat × Nat × Nat × Nat × Nat × Nat × Nat
def wb (d : Nat) : WS → WS
  | (ld, st, li, fe, br, bk, sp, ff) => if st < ld then (0, st - 3, 3, fe, br, bk + 1, sp + ld, if ff = 24 then d else ff) else (ld, st, li, fe, br, bk, sp, ff)
theorem wb_t {d ld st li fe br bk sp ff : Nat} (h : st < ld) : wb d (ld, st, li, fe, br, bk, sp, ff) = (0, st - 3, 3, fe, br, bk + 1, sp + ld, if ff = 24 then d else ff) := if_pos h
theorem wb_f {d ld st li fe br bk sp ff : Nat} (h : ¬ st < ld) : wb d (ld, st, li, fe, br, bk, sp, ff) = (ld, st, li, fe, br, bk, sp, ff) := if_neg h
def wt (d w : Nat) : WS → WS
  | (ld, st, li, fe, br, bk, sp, ff) => if li = 0 then wb d (ld + w, st, li, fe, br, bk, sp, ff) else (ld, st, li, fe, br, bk, sp, ff)
def wsw (d : Nat) : WS → WS
  | (ld, st, li, fe, br, bk, sp, ff) => if li = 0 then (if ld + 1 = st then (ld + 1, st, li, fe + (ld + 1), br, bk, sp, ff) else wb d (ld + 1, st, li, fe, br, bk, sp, ff)) else (ld, st, li, fe, br, bk, sp, ff)
def wears (d so ld st : Nat) : Bool := if so = 0 then decide (d % 3 = 2) else (decide (so = 2) || decide (st < 2 * ld))
def ww (d so sf : Nat) : WS → WS
  | (ld, st, li, fe, br, bk, sp, ff) => if li = 0 then (if ld = 0 then (ld, if st < sf then st + 1 else st, li, fe, br, bk, sp, ff) else wb d (ld, if wears d so ld st = true then st - 1 else st, li, fe, br, bk, sp, ff)) else (ld, st, li, fe, br, bk, sp, ff)
def wl (d : Nat) : WS → WS
  | (ld, st, li, fe, br, bk, sp, ff) => if d % 8 = 7 then (0, st, li, fe, br + ld, bk, sp, ff) else (ld, st, li, fe, br, bk, sp, ff)
def we : WS → WS
  | (ld, st, li, fe, br, bk, sp, ff) => (ld, st, li - 1, fe, br, bk, sp, ff)
def wB (bd bo : Nat → Int32) (bw : Nat → Nat) (d k : Nat) : Nat → WS → WS
  | 0, s => s
  | n + 1, s => if bd n = nI d ∧ bo n = nI k then wt d (bw n) (wB bd bo bw d k n s) else wB bd bo bw d k n s
def wS (sd so : Nat → Int32) (out : Nat → Bool) (d k : Nat) : Nat → WS → WS
  | 0, s => s
  | n + 1, s => if sd n = nI d ∧ so n = nI k ∧ out n = false then wsw d (wS sd so out d k n s) else wS sd so out d k n s
/-- what holds of a camel: it bears its load; who lies bears nothing -/
def wok (sf : Nat) : WS → Prop
  | (ld, st, li, _, _, _, _, ff) => ld ≤ st ∧ st ≤ sf ∧ li ≤ 3 ∧ (li ≠ 0 → ld = 0) ∧ ff ≤ 24
theorem wok_wb {sf d : Nat} (hd : d < 24) {ld st li fe br bk sp ff : Nat} (h1 : st ≤ sf) (h2 : li = 0) (h3 : ff ≤ 24) : wok sf (wb d (ld, st, li, fe, br, bk, sp, ff)) := by
  unfold wb
  by_cases hc : st < ld
  · simp only [hc, if_true, wok]
    refine ⟨by omega, by omega, by omega, fun _ => trivial, ?_⟩
    split <;> omega
  · simp only [hc, if_false, wok]
    exact ⟨by omega, h1, by omega, fun h => absurd h2 h, h3⟩
theorem wok_wt {sf d w : Nat} (hd : d < 24) {s : WS} (h : wok sf s) : wok sf (wt d w s) := by
  obtain ⟨ld, st, li, fe, br, bk, sp, ff⟩ := s
  unfold wt
  by_cases hl : li = 0
  · simp only [hl, if_true]
    exact wok_wb hd h.2.1 rfl h.2.2.2.2
  · simp only [hl, if_false]
    exact h
theorem wok_wsw {sf d : Nat} (hd : d < 24) {s : WS} (h : wok sf s) : wok sf (wsw d s) := by
  obtain ⟨ld, st, li, fe, br, bk, sp, ff⟩ := s
  unfold wsw
  by_cases hl : li = 0
  · simp only [hl, if_true]
    by_cases hc : ld + 1 = st
    · simp only [hc, if_true, wok]
      exact ⟨by omega, h.2.1, by omega, fun z => absurd rfl z, h.2.2.2.2⟩
    · simp only [hc, if_false]
      exact wok_wb hd h.2.1 rfl h.2.2.2.2
  · simp only [hl, if_false]
    exact h
theorem wok_ww {sf d so : Nat} (hd : d < 24) {s : WS} (h : wok sf s) : wok sf (ww d so sf s) := by
  obtain ⟨ld, st, li, fe, br, bk, sp, ff⟩ := s
  obtain ⟨h1, h2, h3, h4, h5⟩ := h
  unfold ww
  by_cases hl : li = 0
  · simp only [hl, if_true]
    by_cases hc : ld = 0
    · simp only [hc, if_true, wok]
      refine ⟨Nat.zero_le _, ?_, by omega, fun z => absurd rfl z, h5⟩
      split <;> omega
    · simp only [hc, if_false]
      refine wok_wb hd ?_ rfl h5
      split <;> omega
  · simp only [hl, if_false]
    exact ⟨h1, h2, h3, h4, h5⟩
theorem wok_wl {sf d : Nat} {s : WS} (h : wok sf s) : wok sf (wl d s) := by
  obtain ⟨ld, st, li, fe, br, bk, sp, ff⟩ := s
  obtain ⟨h1, h2, h3, h4, h5⟩ := h
  unfold wl
  by_cases hc : d % 8 = 7
  · simp only [hc, if_true, wok]
    exact ⟨Nat.zero_le _, h2, h3, fun _ => trivial, h5⟩
  · simp only [hc, if_false, wok]
    exact ⟨h1, h2, h3, h4, h5⟩
theorem wok_we {sf : Nat} {s : WS} (h : wok sf s) : wok sf (we s) := by
  obtain ⟨ld, st, li, fe, br, bk, sp, ff⟩ := s
  obtain ⟨h1, h2, h3, h4, h5⟩ := h
  exact ⟨h1, h2, by omega, fun z => h4 (by omega), h5⟩
theorem wok_wB {sf d k : Nat} {bd bo : Nat → Int32} {bw : Nat → Nat} (hd : d < 24) {s : WS} (h : wok sf s) : ∀ n, wok sf (wB bd bo bw d k n s)
  | 0 => h
  | n + 1 => by
    unfold wB
    split
    · exact wok_wt hd (wok_wB hd h n)
    · exact wok_wB hd h n
theorem wok_wS {sf d k : Nat} {sd so : Nat → Int32} {out : Nat → Bool} (hd : d < 24) {s : WS} (h : wok sf s) : ∀ n, wok sf (wS sd so out d k n s)
  | 0 => h
  | n + 1 => by
    unfold wS
    split
    · exact wok_wsw hd (wok_wS hd h n)
    · exact wok_wS hd h n
def ffI (ff : Nat) : Int32 := if ff = 24 then -1 else nI ff
/-- the class's Walk (cell 53) on a day, behind 'rise' -/
def CR (d sf : Nat) (h : HP) : WS → Prop
  | (ld, st, li, fe, br, bk, sp, ff) => h.1 53 2 = nI sf ∧ h.1 53 3 = nI ld ∧ h.1 53 4 = nI st ∧ ((h.1 53 10 = 0 ∧ li = 0) ∨ (h.1 53 10 = 1 ∧ li ≠ 0 ∧ ∃ f, h.1 53 5 = nI f ∧ f + 3 = d + li)) ∧ h.1 53 6 = nI fe ∧ h.1 53 7 = nI br ∧ h.1 53 11 = nI bk ∧ h.1 53 8 = nI sp ∧ h.1 53 12 = ffI ff
/-- the same ahead of 'rise' -/
def CR0 (d sf : Nat) (h : HP) : WS → Prop
  | (ld, st, li, fe, br, bk, sp, ff) => h.1 53 2 = nI sf ∧ h.1 53 3 = nI ld ∧ h.1 53 4 = nI st ∧ ((h.1 53 10 = 0 ∧ li = 0) ∨ (h.1 53 10 = 1 ∧ ∃ f, h.1 53 5 = nI f ∧ f + 3 = d + li)) ∧ h.1 53 6 = nI fe ∧ h.1 53 7 = nI br ∧ h.1 53 11 = nI bk ∧ h.1 53 8 = nI sp ∧ h.1 53 12 = ffI ff
theorem ffI_ne {d : Nat} (hd : d < 24) : nI d ≠ -1 := by
  intro h
  have h2 : (nI d).toInt = (-1 : Int32).toInt := by rw [h]
  rw [nI_toInt (by omega)] at h2
  have h3 : (-1 : Int32).toInt = -1 := by decide
  omega
theorem ffI_m1 {ff : Nat} (hf : ff ≤ 24) : ffI ff = -1 ↔ ff = 24 := by
  unfold ffI
  by_cases h : ff = 24
  · simp [h]
  · rw [if_neg h]
    exact ⟨fun z => absurd z (ffI_ne (by omega)), fun z => absurd z h⟩
theorem n3_sub {st : Nat} (h : ¬ st ≤ 3) : nI st - 3 = nI (st - 3) := pk_sub (b := 3) (by omega)
theorem n1_sub {st : Nat} (h : ¬ st ≤ 0) : nI st - 1 = nI (st - 1) := pk_sub (b := 1) (by omega)
theorem rd_sI (h : HP) (a j : Nat) (v : Int32) (b k : Nat) : (sI h a j v).1 b k = if b = a ∧ k = j then v else h.1 b k := by
  unfold sI
  by_cases hb : b = a <;> by_cases hk : k = j <;> simp [hb, hk]
theorem FR.s {cs : List Nat} {h h' : HP} {a j : Nat} {v : Int32} (hf : FR cs h h') (ha : a ∈ cs) : FR cs h (_root_.Jvm.Pilot.@@N@@.sI h' a j v) := hf.tr (FR.sI ha)
/-- what isn't told of a camel stays: its sort, the room -/
def KP (h h' : HP) : Prop := h'.1 53 1 = h.1 53 1 ∧ h'.1 53 2 = h.1 53 2 ∧ h'.1 53 9 = h.1 53 9 ∧ FR [53] h h'
theorem KP.tr {h h' h'' : HP} (a : KP h h') (b : KP h' h'') : KP h h'' := ⟨b.1.trans a.1, b.2.1.trans a.2.1, b.2.2.1.trans a.2.2.1, a.2.2.2.tr b.2.2.2⟩
theorem KP.rf {h : HP} : KP h h := ⟨rfl, rfl, rfl, FR.rf⟩
set_option maxHeartbeats 4000000 in
theorem c_break {d sf : Nat} {h : HP} {ld st li fe br bk sp ff : Nat} (hd : d < 24) (hst : st ≤ 36) (hld : ld ≤ 100) (hff : ff ≤ 24) (hc : CR d sf h (ld, st, li, fe, br, bk, sp, ff)) : ∃ h', f_Wa_breakIfOver (nI d) h = some h' ∧ CR d sf h' (wb d (ld, st, li, fe, br, bk, sp, ff)) ∧ KP h h' := by
  obtain ⟨c2, c3, c4, c10, c6, c7, c11, c8, c12⟩ := hc
  have q1 : (nI st < nI ld) ↔ st < ld := nI_ltI (by omega) (by omega)
  have q2 : (nI st ≤ 3) ↔ st ≤ 3 := nI_leI (b := 3) (by omega) (by omega)
  have q3 : (ffI ff = -1) ↔ ff = 24 := ffI_m1 hff
  unfold f_Wa_breakIfOver wb
  simp only [ltt_s, rI, c3, c4, q1]
  have qd : ffI d = nI d := by
    unfold ffI
    rw [if_neg (by omega)]
  by_cases hlt : st < ld
  · simp only [hlt, if_true]
    by_cases hf : ff = 24
    · have e1 : (sI (sI h 53 10 1) 53 5 (nI d)).1 53 12 = -1 := by simp [rd_sI, c12, hf, ffI]
      simp only [e1, if_true, bd1_s, hf]
      by_cases h3 : st ≤ 3
      · have e2 : st - 3 = 0 := by omega
        refine ⟨_, by simp only [rd_sI]; simp [c4, q2, h3, bd1_s]; rfl, ?_, ?_⟩
        · simp [CR, rd_sI, c2, c3, c6, c7, c8, c11, nI_1, nI_add, e2, nI_0, qd]
        · refine ⟨by simp [rd_sI], by simp [rd_sI], by simp [rd_sI], ?_⟩
          repeat' (first | exact FR.rf | refine FR.s ?_ (by decide))
      · refine ⟨_, by simp only [rd_sI]; simp [c4, q2, h3, bd1_s]; rfl, ?_, ?_⟩
        · simp [CR, rd_sI, c2, c3, c6, c7, c8, c11, nI_1, nI_add, n3_sub h3, nI_0, qd]
        · refine ⟨by simp [rd_sI], by simp [rd_sI], by simp [rd_sI], ?_⟩
          repeat' (first | exact FR.rf | refine FR.s ?_ (by decide))
    · have e1 : ¬ (sI (sI h 53 10 1) 53 5 (nI d)).1 53 12 = -1 := by simp [rd_sI, c12, q3, hf]
      simp only [e1, if_false, bd1_s, hf]
      by_cases h3 : st ≤ 3
      · have e2 : st - 3 = 0 := by omega
        refine ⟨_, by simp only [rd_sI]; simp [c4, q2, h3, bd1_s]; rfl, ?_, ?_⟩
        · simp [CR, rd_sI, c2, c3, c6, c7, c8, c11, c12, nI_1, nI_add, e2, nI_0]
        · refine ⟨by simp [rd_sI], by simp [rd_sI], by simp [rd_sI], ?_⟩
          repeat' (first | exact FR.rf | refine FR.s ?_ (by decide))
      · refine ⟨_, by simp only [rd_sI]; simp [c4, q2, h3, bd1_s]; rfl, ?_, ?_⟩
        · simp [CR, rd_sI, c2, c3, c6, c7, c8, c11, c12, nI_1, nI_add, n3_sub h3, nI_0]
        · refine ⟨by simp [rd_sI], by simp [rd_sI], by simp [rd_sI], ?_⟩
          repeat' (first | exact FR.rf | refine FR.s ?_ (by decide))
  · simp only [hlt, if_false]
    exact ⟨h, rfl, ⟨c2, c3, c4, c10, c6, c7, c11, c8, c12⟩, KP.rf⟩
theorem CR.li {d sf : Nat} {h : HP} {ld st li fe br bk sp ff : Nat} (hc : CR d sf h (ld, st, li, fe, br, bk, sp, ff)) : h.1 53 10 = 0 ↔ li = 0 := by
  obtain ⟨-, -, -, c10, -⟩ := hc
  rcases c10 with ⟨h1, h2⟩ | ⟨h1, h2, -⟩
  · simp [h1, h2]
  · rw [h1]
    exact ⟨fun z => absurd z (by decide), fun z => absurd z h2⟩
/-- a weight comes on, as told: take, then break if over -/
theorem c_take {d sf w : Nat} {h : HP} {ld st li fe br bk sp ff : Nat} (hc : CR d sf h (ld, st, li, fe, br, bk, sp, ff)) : ∃ h', f_Wa_take (nI w) h = some h' ∧ CR d sf h' (if li = 0 then ld + w else ld, st, li, fe, br, bk, sp, ff) ∧ KP h h' := by
  have hl := hc.li
  obtain ⟨c2, c3, c4, c10, c6, c7, c11, c8, c12⟩ := hc
  unfold f_Wa_take
  simp only [ltt_s, rI, hl]
  by_cases h0 : li = 0
  · simp only [h0, if_true]
    have c10' : h.1 53 10 = 0 := hl.mpr h0
    refine ⟨_, rfl, ?_, ?_⟩
    · simp [CR, rd_sI, c2, c3, c4, c6, c7, c8, c11, c12, nI_add, c10']
    · exact ⟨by simp [rd_sI], by simp [rd_sI], by simp [rd_sI], FR.s FR.rf (by decide)⟩
  · simp only [h0, if_false]
    exact ⟨h, rfl, ⟨c2, c3, c4, c10, c6, c7, c11, c8, c12⟩, KP.rf⟩
theorem c_bale {d sf w : Nat} {h : HP} {s : WS} (hd : d < 24) (hsf : sf ≤ 36) (hw : w ≤ 9) (ho : wok sf s) (hc : CR d sf h s) : ∃ h1 h', f_Wa_take (nI w) h = some h1 ∧ f_Wa_breakIfOver (nI d) h1 = some h' ∧ CR d sf h' (wt d w s) ∧ KP h h' := by
  obtain ⟨ld, st, li, fe, br, bk, sp, ff⟩ := s
  obtain ⟨o1, o2, o3, o4, o5⟩ := ho
  obtain ⟨h1, e1, r1, k1⟩ := c_take (w := w) hc
  have hl2 : (if li = 0 then ld + w else ld) ≤ 100 := by split <;> omega
  obtain ⟨h2, e2, r2, k2⟩ := c_break hd (by omega) hl2 o5 r1
  refine ⟨h1, h2, e1, e2, ?_, k1.tr k2⟩
  unfold wt
  by_cases h0 : li = 0
  · simp only [h0, if_true] at r2 ⊢
    exact r2
  · simp only [h0, if_false] at r2 ⊢
    have hz := o4 h0
    rw [wb_f (by omega)] at r2
    exact r2
set_option maxHeartbeats 4000000 in
theorem c_pay {d sf : Nat} {h : HP} {ld st li fe br bk sp ff : Nat} (hld : ld ≤ 100) (hst : st ≤ 36) (hc : CR d sf h (ld, st, li, fe, br, bk, sp, ff)) : ∃ h', f_Wa_payIfLast h = some h' ∧ CR d sf h' (ld, st, li, if li = 0 ∧ ld = st then fe + ld else fe, br, bk, sp, ff) ∧ KP h h' := by
  have hl := hc.li
  obtain ⟨c2, c3, c4, c10, c6, c7, c11, c8, c12⟩ := hc
  have q1 : (nI ld = nI st) ↔ ld = st := nI_eq (by omega) (by omega)
  unfold f_Wa_payIfLast
  simp only [ltt_s, rI, hl, c3, c4, q1, c6]
  by_cases h0 : li = 0
  · by_cases h1 : ld = st
    · simp only [h0, h1, if_true, and_self]
      have c10' : h.1 53 10 = 0 := hl.mpr h0
      refine ⟨_, rfl, ?_, ?_⟩
      · simp [CR, rd_sI, c2, c3, c4, c6, c7, c8, c11, c12, nI_add, c10', h1]
      · exact ⟨by simp [rd_sI], by simp [rd_sI], by simp [rd_sI], FR.s FR.rf (by decide)⟩
    · simp only [h0, h1, if_true, if_false, and_false]
      exact ⟨h, rfl, ⟨c2, c3, c4, h0 ▸ c10, c6, c7, c11, c8, c12⟩, KP.rf⟩
  · simp only [h0, if_false, false_and]
    exact ⟨h, rfl, ⟨c2, c3, c4, c10, c6, c7, c11, c8, c12⟩, KP.rf⟩
theorem c_straw {d sf : Nat} {h : HP} {s : WS} (hd : d < 24) (hsf : sf ≤ 36) (ho : wok sf s) (hc : CR d sf h s) : ∃ h1 h2 h', f_Wa_take 1 h = some h1 ∧ f_Wa_breakIfOver (nI d) h1 = some h2 ∧ f_Wa_payIfLast h2 = some h' ∧ CR d sf h' (wsw d s) ∧ KP h h' := by
  obtain ⟨ld, st, li, fe, br, bk, sp, ff⟩ := s
  obtain ⟨o1, o2, o3, o4, o5⟩ := ho
  obtain ⟨h1, e1, r1, k1⟩ := c_take (w := 1) hc
  have hl2 : (if li = 0 then ld + 1 else ld) ≤ 100 := by split <;> omega
  obtain ⟨h2, e2, r2, k2⟩ := c_break hd (by omega) hl2 o5 r1
  unfold wsw
  by_cases h0 : li = 0
  · simp only [h0, if_true] at r2 ⊢
    by_cases hlt : st < ld + 1
    · rw [wb_t hlt] at r2
      obtain ⟨h3, e3, r3, k3⟩ := c_pay (by omega) (by omega) r2
      refine ⟨h1, h2, h3, e1, e2, e3, ?_, (k1.tr k2).tr k3⟩
      rw [if_neg (by omega), wb_t hlt]
      rw [if_neg (by omega)] at r3
      exact r3
    · rw [wb_f hlt] at r2
      obtain ⟨h3, e3, r3, k3⟩ := c_pay (by omega) (by omega) r2
      refine ⟨h1, h2, h3, e1, e2, e3, ?_, (k1.tr k2).tr k3⟩
      rw [wb_f hlt]
      by_cases he : ld + 1 = st
      · rw [if_pos ⟨rfl, he⟩] at r3
        rw [if_pos he]
        exact r3
      · rw [if_neg (fun z => he z.2)] at r3
        rw [if_neg he]
        exact r3
  · simp only [h0, if_false] at r2 ⊢
    have hz := o4 h0
    rw [wb_f (by omega)] at r2
    obtain ⟨h3, e3, r3, k3⟩ := c_pay (by omega) (by omega) r2
    refine ⟨h1, h2, h3, e1, e2, e3, ?_, (k1.tr k2).tr k3⟩
    rw [if_neg (fun z => h0 z.1)] at r3
    exact r3
theorem c_room {d sf : Nat} {h : HP} {ld st li fe br bk sp ff : Nat} (hls : ld ≤ st) (hc : CR d sf h (ld, st, li, fe, br, bk, sp, ff)) : ∃ h', f_Wa_measureRoom h = some h' ∧ CR d sf h' (ld, st, li, fe, br, bk, sp, ff) ∧ (h'.1 53 1 = h.1 53 1 ∧ FR [53] h h') ∧ h'.1 53 9 = nI (if li = 0 then st - ld else 0) := by
  have hl := hc.li
  obtain ⟨c2, c3, c4, c10, c6, c7, c11, c8, c12⟩ := hc
  have q1 : nI st - nI ld = nI (st - ld) := pk_sub hls
  unfold f_Wa_measureRoom
  simp only [ltt_s, rI, hl, c3, c4, q1]
  by_cases h0 : li = 0
  · simp only [h0, if_true, bd1_s]
    have c10' : h.1 53 10 = 0 := hl.mpr h0
    refine ⟨_, rfl, ?_, ?_, ?_⟩
    · simp [CR, rd_sI, c2, c3, c4, c6, c7, c8, c11, c12, c10']
    · exact ⟨by simp [rd_sI], FR.s FR.rf (by decide)⟩
    · simp [rd_sI]
  · simp only [h0, if_false, bd1_s]
    refine ⟨_, rfl, ?_, ?_, ?_⟩
    · have c10' := c10.resolve_left (fun z => h0 z.2)
      obtain ⟨g1, -, f, g2, g3⟩ := c10'
      simp only [CR, rd_sI]
      simp [c2, c3, c4, c6, c7, c8, c11, c12, g1, g2, h0]
      exact ⟨f, rfl, g3⟩
    · exact ⟨by simp [rd_sI], FR.s FR.rf (by decide)⟩
    · simp [rd_sI, nI_0]
theorem nI_lit (n : Nat) : (OfNat.ofNat n : Int32) = nI n := rfl
theorem rem3 {d : Nat} (hd : d < 24) : (nI d - nI d / 3 * 3 = 2) ↔ d % 3 = 2 := by
  have e : nI d - nI d / nI 3 * nI 3 = nI (d % 3) := pk_rem (by omega) (by omega) (by omega)
  have e2 : nI d - nI d / 3 * 3 = nI (d % 3) := e
  rw [e2]
  exact nI_eq (b := 2) (by omega) (by omega)
theorem rem8 {d : Nat} (hd : d < 24) : (nI d - nI d / 8 * 8 = 7) ↔ d % 8 = 7 := by
  have e : nI d - nI d / nI 8 * nI 8 = nI (d % 8) := pk_rem (by omega) (by omega) (by omega)
  have e2 : nI d - nI d / 8 * 8 = nI (d % 8) := e
  rw [e2]
  exact nI_eq (b := 7) (by omega) (by omega)
def wst (d so sf ld st : Nat) : Nat := if ld = 0 then (if st < sf then st + 1 else st) else if wears d so ld st = true then st - 1 else st
set_option maxHeartbeats 4000000 in
theorem c_wear0 {d so sf : Nat} {h : HP} {ld st fe br bk sp ff : Nat} (hd : d < 24) (hsf : sf ≤ 36) (hso : so ≤ 2) (hls : ld ≤ st) (hst : st ≤ sf) (hs : h.1 53 1 = nI so) (hc : CR d sf h (ld, st, 0, fe, br, bk, sp, ff)) : ∃ h1, f_Wa_wear (nI d) h = some h1 ∧ CR d sf h1 (ld, wst d so sf ld st, 0, fe, br, bk, sp, ff) ∧ KP h h1 := by
  have c10 : h.1 53 10 = 0 := hc.li.mpr rfl
  obtain ⟨c2, c3, c4, -, c6, c7, c11, c8, c12⟩ := hc
  have q1 : (nI ld = 0) ↔ ld = 0 := nI_eq (b := 0) (by omega) (by omega)
  have q2 : (nI sf ≤ nI st) ↔ sf ≤ st := nI_leI (by omega) (by omega)
  have q3 : (nI so = 2) ↔ so = 2 := nI_eq (b := 2) (by omega) (by omega)
  have q4 : (nI so = 0) ↔ so = 0 := nI_eq (b := 0) (by omega) (by omega)
  have q5 : (nI so = 1) ↔ so = 1 := nI_eq (b := 1) (by omega) (by omega)
  have q6 : (2 * nI ld ≤ nI st) ↔ 2 * ld ≤ st := by
    have e : (2 : Int32) * nI ld = nI (2 * ld) := pk_mul 2 ld
    rw [e]
    exact nI_leI (by omega) (by omega)
  have q7 : (nI st ≤ 0) ↔ st ≤ 0 := nI_leI (b := 0) (by omega) (by omega)
  have q8 := rem3 hd
  have same : ∀ st', st' = st → CR d sf h (ld, st', 0, fe, br, bk, sp, ff) := fun st' e => by
    subst e
    exact ⟨c2, c3, c4, Or.inl ⟨c10, rfl⟩, c6, c7, c11, c8, c12⟩
  have less : ¬ st ≤ 0 → CR d sf (sI h 53 4 (nI st - 1)) (ld, st - 1, 0, fe, br, bk, sp, ff) := fun hz => by
    simp [CR, rd_sI, c2, c3, c6, c7, c8, c11, c12, c10, n1_sub hz]
  have kless : KP h (sI h 53 4 (nI st - 1)) := ⟨by simp [rd_sI], by simp [rd_sI], by simp [rd_sI], FR.s FR.rf (by decide)⟩
  unfold f_Wa_wear
  simp only [ltt_s, rI, c10, c3, c4, c2, hs, q1, q2, q3, q4, q5, q6, q7, q8, if_true]
  by_cases h0 : ld = 0
  · simp only [h0, if_true]
    by_cases h1 : sf ≤ st
    · have e : st = sf := by omega
      simp only [h1, if_true, bd1_s]
      refine ⟨_, rfl, ?_, ⟨by simp [rd_sI], by simp [rd_sI], by simp [rd_sI], FR.s FR.rf (by decide)⟩⟩
      have e2 : wst d so sf 0 st = sf := by
        simp only [wst, if_true]
        rw [if_neg (by omega)]
        exact e
      rw [e2]
      simp [CR, rd_sI, c2, c3, c6, c7, c8, c11, c12, c10, h0]
    · simp only [h1, if_false, bd1_s]
      refine ⟨_, rfl, ?_, ⟨by simp [rd_sI], by simp [rd_sI], by simp [rd_sI], FR.s FR.rf (by decide)⟩⟩
      have e2 : wst d so sf 0 st = st + 1 := by
        simp only [wst, if_true]
        rw [if_pos (by omega)]
      rw [e2]
      simp [CR, rd_sI, c2, c3, c6, c7, c8, c11, c12, c10, h0, nI_1]
  · simp only [h0, if_false]
    have wt1 : wears d so ld st = true → wst d so sf ld st = st - 1 := fun z => by simp [wst, h0, z]
    have wt0 : ¬ wears d so ld st = true → wst d so sf ld st = st := fun z => by simp [wst, h0, z]
    have fin1 : wears d so ld st = true → ∃ h1, (if (1 : Int32) = 0 then some h else if st ≤ 0 then some h else some (sI h 53 4 (nI st - 1))) = some h1 ∧ CR d sf h1 (ld, wst d so sf ld st, 0, fe, br, bk, sp, ff) ∧ KP h h1 := fun z => by
      rw [if_neg (by decide), wt1 z]
      have hz : ¬ st ≤ 0 := by omega
      rw [if_neg hz]
      exact ⟨_, rfl, less hz, kless⟩
    have fin0 : ¬ wears d so ld st = true → ∃ h1, (if (0 : Int32) = 0 then some h else if st ≤ 0 then some h else some (sI h 53 4 (nI st - 1))) = some h1 ∧ CR d sf h1 (ld, wst d so sf ld st, 0, fe, br, bk, sp, ff) ∧ KP h h1 := fun z => by
      rw [if_pos rfl, wt0 z]
      exact ⟨_, rfl, same _ rfl, KP.rf⟩
    by_cases s2 : so = 2
    · simp only [s2, if_true, bd1_s]
      subst s2
      exact fin1 (by simp [wears])
    · simp only [s2, if_false]
      by_cases s0 : so = 0
      · subst s0
        simp only [if_true]
        by_cases hm : d % 3 = 2
        · simp only [hm, if_true, bd1_s]
          exact fin1 (by simp [wears, hm])
        · simp only [hm, if_false, bd1_s]
          have : ¬ (0 = 1) := by decide
          simp only [this, if_false, bd1_s]
          exact fin0 (by simp [wears, hm])
      · have s1 : so = 1 := by omega
        subst s1
        simp only [if_true, if_false, s0]
        by_cases hw : 2 * ld ≤ st
        · simp only [hw, if_true, bd1_s]
          exact fin0 (by simp [wears]; omega)
        · simp only [hw, if_false, bd1_s]
          exact fin1 (by simp [wears]; omega)
/-- wear, then break if over -/
theorem c_wear {d so sf : Nat} {h : HP} {s : WS} (hd : d < 24) (hsf : sf ≤ 36) (hso : so ≤ 2) (ho : wok sf s) (hs : h.1 53 1 = nI so) (hc : CR d sf h s) : ∃ h1 h', f_Wa_wear (nI d) h = some h1 ∧ f_Wa_breakIfOver (nI d) h1 = some h' ∧ CR d sf h' (ww d so sf s) ∧ KP h h' := by
  obtain ⟨ld, st, li, fe, br, bk, sp, ff⟩ := s
  obtain ⟨o1, o2, o3, o4, o5⟩ := ho
  by_cases h0 : li = 0
  · subst h0
    obtain ⟨h1, e1, r1, k1⟩ := c_wear0 hd hsf hso o1 o2 hs hc
    have hw : wst d so sf ld st ≤ 36 := by
      unfold wst
      split
      · split <;> omega
      · split <;> omega
    obtain ⟨h2, e2, r2, k2⟩ := c_break hd hw (by omega) o5 r1
    refine ⟨h1, h2, e1, e2, ?_, k1.tr k2⟩
    unfold ww
    simp only [if_true]
    by_cases hz : ld = 0
    · subst hz
      simp only [if_true]
      rw [wb_f (by omega)] at r2
      have e3 : wst d so sf 0 st = if st < sf then st + 1 else st := by simp [wst]
      rw [e3] at r2
      exact r2
    · simp only [hz, if_false]
      have e3 : wst d so sf ld st = if wears d so ld st = true then st - 1 else st := by simp only [wst, hz, if_false]
      rw [e3] at r2
      exact r2
  · have hf : ¬ h.1 53 10 = 0 := fun z => h0 (hc.li.mp z)
    obtain ⟨h2, e2, r2, k2⟩ := c_break hd (by omega) (by omega) o5 hc
    refine ⟨h, h2, ?_, e2, ?_, k2⟩
    · unfold f_Wa_wear
      simp only [ltt_s, rI, hf, if_false]
    · have hz := o4 h0
      rw [wb_f (by omega)] at r2
      unfold ww
      simp only [h0, if_false]
      exact r2
theorem c_well {d sf : Nat} {h : HP} {s : WS} (hd : d < 24) (hc : CR d sf h s) : ∃ h', f_Wa_unloadAtWell (nI d) h = some h' ∧ CR d sf h' (wl d s) ∧ KP h h' := by
  obtain ⟨ld, st, li, fe, br, bk, sp, ff⟩ := s
  obtain ⟨c2, c3, c4, c10, c6, c7, c11, c8, c12⟩ := hc
  have q8 := rem8 hd
  unfold f_Wa_unloadAtWell wl
  simp only [ltt_s, rI, q8, c3, c7]
  by_cases hm : d % 8 = 7
  · simp only [hm, if_true]
    refine ⟨_, rfl, ?_, ⟨by simp [rd_sI], by simp [rd_sI], by simp [rd_sI], FR.s (FR.s FR.rf (by decide)) (by decide)⟩⟩
    simp [CR, rd_sI, c2, c3, c4, c6, c7, c8, c11, c12, c10, nI_add, nI_0]
  · simp only [hm, if_false]
    exact ⟨h, rfl, ⟨c2, c3, c4, c10, c6, c7, c11, c8, c12⟩, KP.rf⟩
