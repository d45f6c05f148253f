/-! best, whole, tired, at, count, fault, camel, bale -/
def bst (f : Nat → Nat) : Nat → Nat
  | 0 => 0
  | n + 1 => if f (n + 1) ≤ f (bst f n) then bst f n else n + 1
theorem bst_le (f : Nat → Nat) : ∀ n, bst f n ≤ n
  | 0 => Nat.le_refl _
  | n + 1 => by
    unfold bst
    have := bst_le f n
    split <;> omega
def bstI (f : Nat → Nat) (n : Nat) : Int32 := if n = 0 then -1 else nI (bst f (n - 1))
def bsmI (f : Nat → Nat) (n : Nat) : Int32 := if n = 0 then -1 else nI (f (bst f (n - 1)))
theorem bstI_s (f : Nat → Nat) (j : Nat) : bstI f (j + 1 + 1) = if f (j + 1) ≤ f (bst f j) then nI (bst f j) else nI (j + 1) := by
  have e : bst f (j + 1) = if f (j + 1) ≤ f (bst f j) then bst f j else j + 1 := rfl
  show nI (bst f (j + 1)) = _
  rw [e]
  split <;> rfl
theorem bsmI_s (f : Nat → Nat) (j : Nat) : bsmI f (j + 1 + 1) = if f (j + 1) ≤ f (bst f j) then nI (f (bst f j)) else nI (f (j + 1)) := by
  have e : bst f (j + 1) = if f (j + 1) ≤ f (bst f j) then bst f j else j + 1 := rfl
  show nI (f (bst f (j + 1))) = _
  rw [e]
  split <;> rfl
theorem le_m1 {x : Nat} (hx : x < 2 ^ 31) : ¬ (nI x ≤ -1) := by
  rw [Int32.le_iff_toInt_le, nI_toInt hx]
  have : (-1 : Int32).toInt = -1 := by decide
  omega
/-- what a camel brings and how it breaks is little -/
theorem wb_br {d : Nat} {s : WS} : a_br (wb d s) = a_br s ∧ a_bk (wb d s) ≤ a_bk s + 1 ∧ a_ld (wb d s) ≤ a_ld s := by
  obtain ⟨ld, st, li, fe, br, bk, sp, ff⟩ := s
  by_cases h : st < ld
  · rw [wb_t h]
    exact ⟨rfl, Nat.le_refl _, Nat.zero_le _⟩
  · rw [wb_f h]
    exact ⟨rfl, Nat.le_succ _, Nat.le_refl _⟩
theorem wt_br {d w : Nat} {s : WS} : a_br (wt d w s) = a_br s ∧ a_bk (wt d w s) ≤ a_bk s + 1 := by
  by_cases h : a_li s = 0
  · obtain ⟨ld, st, li, fe, br, bk, sp, ff⟩ := s
    rw [show wt d w (ld, st, li, fe, br, bk, sp, ff) = wb d (ld + w, st, li, fe, br, bk, sp, ff) from if_pos h]
    have h2 := wb_br (d := d) (s := (ld + w, st, li, fe, br, bk, sp, ff))
    exact ⟨h2.1, h2.2.1⟩
  · rw [wt_li h]
    exact ⟨rfl, Nat.le_succ _⟩
theorem wsw_br {d : Nat} {s : WS} : a_br (wsw d s) = a_br s ∧ a_bk (wsw d s) ≤ a_bk s + 1 := by
  by_cases h : a_li s = 0
  · obtain ⟨ld, st, li, fe, br, bk, sp, ff⟩ := s
    rw [show wsw d (ld, st, li, fe, br, bk, sp, ff) = (if ld + 1 = st then (ld + 1, st, li, fe + (ld + 1), br, bk, sp, ff) else wb d (ld + 1, st, li, fe, br, bk, sp, ff)) from if_pos h]
    by_cases z : ld + 1 = st
    · rw [if_pos z]
      exact ⟨rfl, Nat.le_succ _⟩
    · rw [if_neg z]
      have h2 := wb_br (d := d) (s := (ld + 1, st, li, fe, br, bk, sp, ff))
      exact ⟨h2.1, h2.2.1⟩
  · rw [wsw_li h]
    exact ⟨rfl, Nat.le_succ _⟩
theorem ww_br {d so sf : Nat} {s : WS} : a_br (ww d so sf s) = a_br s ∧ a_bk (ww d so sf s) ≤ a_bk s + 1 := by
  by_cases h : a_li s = 0
  · obtain ⟨ld, st, li, fe, br, bk, sp, ff⟩ := s
    rw [show ww d so sf (ld, st, li, fe, br, bk, sp, ff) = (if ld = 0 then (ld, if st < sf then st + 1 else st, li, fe, br, bk, sp, ff) else wb d (ld, if wears d so ld st = true then st - 1 else st, li, fe, br, bk, sp, ff)) from if_pos h]
    by_cases z : ld = 0
    · rw [if_pos z]
      exact ⟨rfl, Nat.le_succ _⟩
    · rw [if_neg z]
      have h2 := wb_br (d := d) (s := (ld, if wears d so ld st = true then st - 1 else st, li, fe, br, bk, sp, ff))
      exact ⟨h2.1, h2.2.1⟩
  · rw [ww_li h]
    exact ⟨rfl, Nat.le_succ _⟩
theorem wB_br {bd bo : Nat → Int32} {bw : Nat → Nat} {d k : Nat} {s : WS} : ∀ n, a_br (wB bd bo bw d k n s) = a_br s ∧ a_bk (wB bd bo bw d k n s) ≤ a_bk s + n
  | 0 => ⟨rfl, Nat.le_refl _⟩
  | n + 1 => by
    unfold wB
    have h := wB_br (bd := bd) (bo := bo) (bw := bw) (d := d) (k := k) (s := s) n
    split
    · have h2 := wt_br (d := d) (w := bw n) (s := wB bd bo bw d k n s)
      exact ⟨h2.1.trans h.1, by omega⟩
    · exact ⟨h.1, by omega⟩
theorem wS_br {sd so : Nat → Int32} {out : Nat → Bool} {d k : Nat} {s : WS} : ∀ n, a_br (wS sd so out d k n s) = a_br s ∧ a_bk (wS sd so out d k n s) ≤ a_bk s + n
  | 0 => ⟨rfl, Nat.le_refl _⟩
  | n + 1 => by
    unfold wS
    have h := wS_br (sd := sd) (so := so) (out := out) (d := d) (k := k) (s := s) n
    split
    · have h2 := wsw_br (d := d) (s := wS sd so out d k n s)
      exact ⟨h2.1.trans h.1, by omega⟩
    · exact ⟨h.1, by omega⟩
theorem wl_br {d : Nat} {s : WS} : a_br (wl d s) ≤ a_br s + a_ld s ∧ a_bk (wl d s) = a_bk s := by
  obtain ⟨ld, st, li, fe, br, bk, sp, ff⟩ := s
  rw [show wl d (ld, st, li, fe, br, bk, sp, ff) = (if d % 8 = 7 then (0, st, li, fe, br + ld, bk, sp, ff) else (ld, st, li, fe, br, bk, sp, ff)) from rfl]
  by_cases z : d % 8 = 7
  · rw [if_pos z]
    exact ⟨Nat.le_refl _, rfl⟩
  · rw [if_neg z]
    exact ⟨Nat.le_add_right _ _, rfl⟩
theorem wok_ld {sf : Nat} {s : WS} (h : wok sf s) : a_ld s ≤ sf := by
  obtain ⟨ld, st, li, fe, br, bk, sp, ff⟩ := s
  exact Nat.le_trans h.1 h.2.1
theorem WE_br {D : DT} {d k : Nat} (hd : d < 24) : a_br (WE D d k) ≤ a_br (WR D k d) + 4 * dfg D k ∧ a_bk (WE D d k) ≤ a_bk (WR D k d) + (dnb D + dns D + 1) := by
  have o := wok_ww (so := dso D k) hd (wok_wM (D := D) (k := k) hd (wok_WR (D := D) (k := k) (d := d) (by omega)))
  have h1 := wl_br (d := d) (s := ww d (dso D k) (4 * dfg D k) (wM D d k (WR D k d)))
  have h2 := ww_br (d := d) (so := dso D k) (sf := 4 * dfg D k) (s := wM D d k (WR D k d))
  have h3 := wS_br (sd := dsd D) (so := dsk D) (out := tbit (dlo D)) (d := d) (k := k) (s := wB (dbd D) (dbo D) (dbw D) d k (dnb D) (WR D k d)) (dns D)
  have h4 := wB_br (bd := dbd D) (bo := dbo D) (bw := dbw D) (d := d) (k := k) (s := WR D k d) (dnb D)
  have h5 := wok_ld o
  have e : WE D d k = wl d (ww d (dso D k) (4 * dfg D k) (wM D d k (WR D k d))) := rfl
  have e2 : wM D d k (WR D k d) = wS (dsd D) (dsk D) (tbit (dlo D)) d k (dns D) (wB (dbd D) (dbo D) (dbw D) d k (dnb D) (WR D k d)) := rfl
  rw [e]
  rw [e2] at h1 h2 h5 ⊢
  omega
theorem WR_br {D : DT} {k : Nat} : ∀ d, d ≤ 24 → a_br (WR D k d) ≤ d * (4 * dfg D k) ∧ a_bk (WR D k d) ≤ d * (dnb D + dns D + 1)
  | 0, _ => ⟨Nat.zero_le _, Nat.zero_le _⟩
  | d + 1, h => by
    have h1 := WR_br (D := D) (k := k) d (by omega)
    have h2 := WE_br (D := D) (k := k) (d := d) (by omega)
    have h3 := we_f (WE D d k)
    have m1 : (d + 1) * (4 * dfg D k) = d * (4 * dfg D k) + 4 * dfg D k := Nat.succ_mul _ _
    have m2 : (d + 1) * (dnb D + dns D + 1) = d * (dnb D + dns D + 1) + (dnb D + dns D + 1) := Nat.succ_mul _ _
    rw [WR_s, h3.2.1, h3.2.2.1, m1, m2]
    exact ⟨by omega, by omega⟩
/-- bounds of the data -/
def DB (D : DT) : Prop := dnc D ≤ 8 ∧ dnb D ≤ 10 ∧ dns D ≤ 17 ∧ ∀ k, k < dnc D → dfg D k ≤ 9
theorem WE_b {D : DT} {k : Nat} (hb : DB D) (hk : k < dnc D) : av (WE D 23 k) 4 ≤ 864 ∧ av (WE D 23 k) 5 ≤ 672 := by
  have h1 := WR_br (D := D) (k := k) 24 (by omega)
  obtain ⟨e1, e2, e3, e4⟩ := W24 D k
  obtain ⟨b1, b2, b3, b4⟩ := hb
  have := b4 k hk
  rw [e2, e3] at h1
  omega
theorem CD.b {D : DT} {h : HP} (hc : CD D h) : DB D := ⟨hc.2.2.1, hc.2.2.2.1, by have := hc.2.2.2.2.1; omega, fun k hk => (hc.2.2.2.2.2.2.2.2.2.2 k hk).2.2.2.2⟩
theorem c_broughtBy {D : DT} {k : Nat} {h : HP} (hc : CD D h) (hk : k < 1000) : ∃ h', f_Cv_broughtBy (nI k) h = some (nI (if k < dnc D then av (WE D 23 k) 4 else 0), h') ∧ FR [52, 53] h h' := by
  have b1 := hc.2.2.1
  have q : (nI (dnc D) ≤ nI k) ↔ dnc D ≤ k := nI_leI (by omega) (by omega)
  unfold f_Cv_broughtBy
  rw [if_neg (nI_pos (by omega))]
  simp only [ltt_s, rI, hc.1, q]
  by_cases z : dnc D ≤ k
  · rw [if_pos z, if_neg (by omega)]
    exact ⟨h, rfl, FR.rf⟩
  · rw [if_neg z, if_pos (by omega)]
    obtain ⟨h1, e1, m1, f1⟩ := c_march (k := k) (by omega) hc
    have e2 := c_behind (w := 4) (d := 23) m1 (by omega) (by omega) (by omega)
    rw [e1, bd1_s, show f_Wa_behind 23 4 h1 = _ from e2, bd2_s]
    exact ⟨h1, rfl, f1⟩
theorem l_best {D : DT} : ∀ (fu i : Nat) (h : HP), CD D h → i ≤ dnc D → dnc D < i + fu → ∃ v u h', lp_Cv_bestCamel_6 fu (nI i) (bsmI (fun k => av (WE D 23 k) 4) i) (bstI (fun k => av (WE D 23 k) 4) i) h = some (v, u, bstI (fun k => av (WE D 23 k) 4) (dnc D), h') ∧ FR [52, 53] h h' := by
  intro fu
  induction fu with
  | zero => intro i h _ h1 h2; omega
  | succ fu ih =>
    intro i h hc hi hf
    have b1 := hc.2.2.1
    have q : (nI (dnc D) ≤ nI i) ↔ dnc D ≤ i := nI_leI (by omega) (by omega)
    rw [lp_Cv_bestCamel_6]
    simp only [ltt_s, rI, hc.1, q]
    by_cases he : dnc D ≤ i
    · have e : i = dnc D := by omega
      subst e
      simp only [Nat.le_refl, if_true]
      exact ⟨_, _, h, rfl, FR.rf⟩
    · simp only [he, if_false]
      obtain ⟨h1, e1, f1⟩ := c_broughtBy (k := i) hc (by omega)
      rw [if_pos (by omega)] at e1
      simp only [e1, bd2_s, nI_1]
      have wb1 := (WE_b hc.b (k := i) (by omega)).1
      obtain ⟨v, u, h', p1, p2⟩ := ih (i + 1) h1 (hc.keep f1) (by omega) (by omega)
      refine ⟨v, u, h', ?_, f1.tr p2⟩
      rw [← p1]
      by_cases h0 : i = 0
      · subst h0
        have e2 : ¬ (nI (av (WE D 23 0) 4) ≤ bsmI (fun k => av (WE D 23 k) 4) 0) := le_m1 (by omega)
        rw [if_neg e2, bd2_s]
        rfl
      · obtain ⟨j, rfl⟩ : ∃ j, i = j + 1 := ⟨i - 1, by omega⟩
        have hj := bst_le (fun k => av (WE D 23 k) 4) j
        have wb2 := (WE_b hc.b (k := bst (fun k => av (WE D 23 k) 4) j) (by omega)).1
        have q2 : (nI (av (WE D 23 (j + 1)) 4) ≤ nI (av (WE D 23 (bst (fun k => av (WE D 23 k) 4) j)) 4)) ↔ av (WE D 23 (j + 1)) 4 ≤ av (WE D 23 (bst (fun k => av (WE D 23 k) 4) j)) 4 := nI_leI (by omega) (by omega)
        have e5 : bsmI (fun k => av (WE D 23 k) 4) (j + 1) = nI (av (WE D 23 (bst (fun k => av (WE D 23 k) 4) j)) 4) := rfl
        have e6 : bstI (fun k => av (WE D 23 k) 4) (j + 1) = nI (bst (fun k => av (WE D 23 k) 4) j) := rfl
        rw [bstI_s, bsmI_s, e5, e6]
        simp only [q2]
        split <;> rfl
theorem l_mbest {D : DT} {h : HP} (hb : DB D) (h2 : h.1 34 2 = nI (dnc D)) (hr : MR (dnc D) 24 (fun k => WR D k 24) h) : ∀ (fu i : Nat), i ≤ dnc D → dnc D < i + fu → ∃ v, lp_Mo_bestOf_8 fu (nI i) (bstI (fun k => av (WE D 23 k) 4) i) h = some (v, bstI (fun k => av (WE D 23 k) 4) (dnc D), h) := by
  intro fu
  induction fu with
  | zero => intro i h1 h2; omega
  | succ fu ih =>
    intro i hi hf
    have b1 := hb.1
    have q : (nI (dnc D) ≤ nI i) ↔ dnc D ≤ i := nI_leI (by omega) (by omega)
    have e18 : ∀ k, k < dnc D → h.1 18 k = nI (av (WE D 23 k) 4) := fun k hk => by
      rw [(hr.1 k hk).2.2.2.2.1]
      exact congrArg nI (W24 D k).2.1
    rw [lp_Mo_bestOf_8]
    simp only [ltt_s, rI, h2, q]
    by_cases he : dnc D ≤ i
    · have e : i = dnc D := by omega
      subst e
      simp only [Nat.le_refl, if_true]
      exact ⟨_, rfl⟩
    · simp only [he, if_false, nI_1]
      obtain ⟨v, p1⟩ := ih (i + 1) (by omega) (by omega)
      refine ⟨v, ?_⟩
      rw [← p1]
      by_cases h0 : i = 0
      · subst h0
        rw [if_pos (show bstI (fun k => av (WE D 23 k) 4) 0 = -1 from rfl), bd1_s]
        rfl
      · obtain ⟨j, rfl⟩ : ∃ j, i = j + 1 := ⟨i - 1, by omega⟩
        have hj := bst_le (fun k => av (WE D 23 k) 4) j
        have e5 : bstI (fun k => av (WE D 23 k) 4) (j + 1) = nI (bst (fun k => av (WE D 23 k) 4) j) := rfl
        have wb1 := (WE_b hb (k := j + 1) (by omega)).1
        have wb2 := (WE_b hb (k := bst (fun k => av (WE D 23 k) 4) j) (by omega)).1
        have i1 : inb (nI (j + 1)) 8 = true := inb_lit (by omega) (by omega)
        have i2 : inb (nI (bst (fun k => av (WE D 23 k) 4) j)) 8 = true := inb_lit (by omega) (by omega)
        have q2 : (nI (av (WE D 23 (j + 1)) 4) ≤ nI (av (WE D 23 (bst (fun k => av (WE D 23 k) 4) j)) 4)) ↔ av (WE D 23 (j + 1)) 4 ≤ av (WE D 23 (bst (fun k => av (WE D 23 k) 4) j)) 4 := nI_leI (by omega) (by omega)
        rw [bstI_s, e5, if_neg (nI_nm1 (by omega))]
        simp only [i1, i2, ckk_t, rA_nI (show j + 1 < 2 ^ 31 by omega), rA_nI (show bst (fun k => av (WE D 23 k) 4) j < 2 ^ 31 by omega), e18 (j + 1) (by omega), e18 (bst (fun k => av (WE D 23 k) 4) j) (by omega), q2]
        split <;> rfl
theorem qc_best {D : DT} {h0 : HP} (t : QS D h0) : Q h0 f_CS_best (bstI (fun k => av (WE D 23 k) 4) (dnc D)) := fun h hs => by
  have hc := (t.sf hs).1
  have b1 := hc.2.2.1
  obtain ⟨v, u, h', e, f⟩ := l_best 400 0 h hc (Nat.zero_le _) (by omega)
  refine ⟨h', ?_, hs.tr (c_sf f)⟩
  unfold f_CS_best f_Cv_bestCamel
  rw [show lp_Cv_bestCamel_6 400 0 (-1) (-1) h = _ from e, bd4_s, bd2_s]
theorem MD.b {D : DT} {h : HP} (hm : MD D h) : DB D := ⟨hm.2.2.1, hm.2.2.2.1, hm.2.2.2.2.1, fun k hk => (hm.2.2.2.2.2.2.2.2.2 k hk).2.2.2.2⟩
theorem qm_best {D : DT} {h0 : HP} (t : QS D h0) : QM D h0 f_Mo_bestOf (bstI (fun k => av (WE D 23 k) 4) (dnc D)) := fun h hs => by
  obtain ⟨h', e, r, m, s⟩ := m_told (t.sf hs)
  have b1 := m.2.2.1
  obtain ⟨v, e2⟩ := l_mbest m.b m.1 r.1 400 0 (Nat.zero_le _) (by omega)
  refine ⟨h', ?_, hs.tr s, m.mc⟩
  unfold f_Mo_bestOf
  rw [e, bd1_s, show lp_Mo_bestOf_8 400 0 (-1) h' = _ from e2, bd3_s]
theorem o_best : op_best Inv := Q.op (fun h0 hi => by
  obtain ⟨D, t⟩ := hi.qs
  exact ⟨_, qc_best t, (qm_best t).q.w (fun _ => rfl)⟩)
/-- bits of those that hold -/
def bts (p : Nat → Bool) : Nat → Int32
  | 0 => 0
  | n + 1 => if p n = true then bts p n ||| 1 <<< (nI n &&& 31) else bts p n
theorem l_whole {D : DT} : ∀ (fu i : Nat) (h : HP), CD D h → i ≤ dnc D → dnc D < i + fu → ∃ v h', lp_Cv_wholeCamels_4 fu (nI i) (bts (fun k => decide (a_bk (WR D k 24) = 0)) i) h = some (v, bts (fun k => decide (a_bk (WR D k 24) = 0)) (dnc D), h') ∧ FR [52, 53] h h' := by
  intro fu
  induction fu with
  | zero => intro i h _ h1 h2; omega
  | succ fu ih =>
    intro i h hc hi hf
    have b1 := hc.2.2.1
    have q : (nI (dnc D) ≤ nI i) ↔ dnc D ≤ i := nI_leI (by omega) (by omega)
    rw [lp_Cv_wholeCamels_4]
    simp only [ltt_s, rI, hc.1, q]
    by_cases he : dnc D ≤ i
    · have e : i = dnc D := by omega
      subst e
      simp only [Nat.le_refl, if_true]
      exact ⟨_, h, rfl, FR.rf⟩
    · simp only [he, if_false]
      obtain ⟨h1, e1, m1, f1⟩ := c_march (k := i) (by omega) hc
      have hbk : a_bk (WR D i 24) ≤ 672 := by
        rw [(W24 D i).2.2.1]
        exact (WE_b hc.b (by omega)).2
      have q0 : (nI (a_bk (WR D i 24)) = 0) ↔ a_bk (WR D i 24) = 0 := nI_eq (b := 0) (by omega) (by omega)
      simp only [e1, bd1_s, m1.f.1, q0, nI_1]
      obtain ⟨v, h', p1, p2⟩ := ih (i + 1) h1 (hc.keep f1) (by omega) (by omega)
      refine ⟨v, h', ?_, f1.tr p2⟩
      rw [← p1]
      by_cases z : a_bk (WR D i 24) = 0
      · rw [if_pos z, bd1_s, bts, if_pos (decide_eq_true z)]
      · rw [if_neg z, bd1_s, bts, if_neg (fun y => z (of_decide_eq_true y))]
theorem or_0 (x : Int32) : x ||| 0 = x := b_ext (fun i _ => by rw [b_or, b_0, Bool.or_false])
theorem l_mwhole {D : DT} {h : HP} (hb : DB D) (h2 : h.1 34 2 = nI (dnc D)) (hr : MR (dnc D) 24 (fun k => WR D k 24) h) : ∀ (fu i : Nat), i ≤ dnc D → dnc D < i + fu → ∃ v, lp_Mo_wholeOf_8 fu (nI i) (bts (fun k => decide (a_bk (WR D k 24) = 0)) i) h = some (v, bts (fun k => decide (a_bk (WR D k 24) = 0)) (dnc D), h) := by
  intro fu
  induction fu with
  | zero => intro i h1 h2; omega
  | succ fu ih =>
    intro i hi hf
    have b1 := hb.1
    have q : (nI (dnc D) ≤ nI i) ↔ dnc D ≤ i := nI_leI (by omega) (by omega)
    rw [lp_Mo_wholeOf_8]
    simp only [ltt_s, rI, h2, q]
    by_cases he : dnc D ≤ i
    · have e : i = dnc D := by omega
      subst e
      simp only [Nat.le_refl, if_true]
      exact ⟨_, rfl⟩
    · simp only [he, if_false, nI_1]
      have hbk : a_bk (WR D i 24) ≤ 672 := by
        rw [(W24 D i).2.2.1]
        exact (WE_b hb (by omega)).2
      have q0 : (nI (a_bk (WR D i 24)) = 0) ↔ a_bk (WR D i 24) = 0 := nI_eq (b := 0) (by omega) (by omega)
      have i1 : inb (nI i) 8 = true := inb_lit (by omega) (by omega)
      have e17 : h.1 17 i = nI (a_bk (WR D i 24)) := (hr.1 i (by omega)).2.2.2.2.2
      obtain ⟨v, p1⟩ := ih (i + 1) (by omega) (by omega)
      refine ⟨v, ?_⟩
      rw [← p1]
      simp only [i1, ckk_t, rA_nI (show i < 2 ^ 31 by omega), e17, q0]
      by_cases z : a_bk (WR D i 24) = 0
      · rw [if_pos z, bd1_s, bts, if_pos (decide_eq_true z)]
      · rw [if_neg z, bd1_s, bts, if_neg (fun y => z (of_decide_eq_true y)), or_0]
theorem qc_whole {D : DT} {h0 : HP} (t : QS D h0) : Q h0 f_CS_whole (bts (fun k => decide (a_bk (WR D k 24) = 0)) (dnc D)) := fun h hs => by
  have hc := (t.sf hs).1
  have b1 := hc.2.2.1
  obtain ⟨v, h', e, f⟩ := l_whole 400 0 h hc (Nat.zero_le _) (by omega)
  refine ⟨h', ?_, hs.tr (c_sf f)⟩
  unfold f_CS_whole f_Cv_wholeCamels
  rw [show lp_Cv_wholeCamels_4 400 0 0 h = _ from e, bd3_s, bd2_s]
theorem qm_whole {D : DT} {h0 : HP} (t : QS D h0) : QM D h0 f_Mo_wholeOf (bts (fun k => decide (a_bk (WR D k 24) = 0)) (dnc D)) := fun h hs => by
  obtain ⟨h', e, r, m, s⟩ := m_told (t.sf hs)
  have b1 := m.2.2.1
  obtain ⟨v, e2⟩ := l_mwhole m.b m.1 r.1 400 0 (Nat.zero_le _) (by omega)
  refine ⟨h', ?_, hs.tr s, m.mc⟩
  unfold f_Mo_wholeOf
  rw [e, bd1_s, show lp_Mo_wholeOf_8 400 0 0 h' = _ from e2, bd3_s]
theorem o_whole : op_whole Inv := Q.op (fun h0 hi => by
  obtain ⟨D, t⟩ := hi.qs
  exact ⟨_, qc_whole t, (qm_whole t).q.w (fun _ => rfl)⟩)
