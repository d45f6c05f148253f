/-! spare -/
def wfb (s : WS) : Prop := a_ff s = 24 ↔ a_bk s = 0
theorem wfb_wb {d : Nat} {s : WS} (hd : d < 24) (h : wfb s) : wfb (wb d s) := by
  obtain ⟨ld, st, li, fe, br, bk, sp, ff⟩ := s
  by_cases c : st < ld
  · rw [wb_t c]
    show (if ff = 24 then d else ff) = 24 ↔ bk + 1 = 0
    split <;> omega
  · rw [wb_f c]
    exact h
theorem wfb_wt {d w : Nat} {s : WS} (hd : d < 24) (h : wfb s) : wfb (wt d w s) := by
  by_cases c : a_li s = 0
  · obtain ⟨ld, st, li, fe, br, bk, sp, ff⟩ := s
    rw [show wt d w (ld, st, li, fe, br, bk, sp, ff) = wb d (ld + w, st, li, fe, br, bk, sp, ff) from if_pos c]
    exact wfb_wb hd h
  · rw [wt_li c]
    exact h
theorem wfb_wsw {d : Nat} {s : WS} (hd : d < 24) (h : wfb s) : wfb (wsw d s) := by
  by_cases c : a_li s = 0
  · obtain ⟨ld, st, li, fe, br, bk, sp, ff⟩ := s
    rw [show wsw d (ld, st, li, fe, br, bk, sp, ff) = (if ld + 1 = st then (ld + 1, st, li, fe + (ld + 1), br, bk, sp, ff) else wb d (ld + 1, st, li, fe, br, bk, sp, ff)) from if_pos c]
    by_cases z : ld + 1 = st
    · rw [if_pos z]
      exact h
    · rw [if_neg z]
      exact wfb_wb hd h
  · rw [wsw_li c]
    exact h
theorem wfb_ww {d so sf : Nat} {s : WS} (hd : d < 24) (h : wfb s) : wfb (ww d so sf s) := by
  by_cases c : a_li s = 0
  · obtain ⟨ld, st, li, fe, br, bk, sp, ff⟩ := s
    rw [show ww d so sf (ld, st, li, fe, br, bk, sp, ff) = (if ld = 0 then (ld, if st < sf then st + 1 else st, li, fe, br, bk, sp, ff) else wb d (ld, if wears d so ld st = true then st - 1 else st, li, fe, br, bk, sp, ff)) from if_pos c]
    by_cases z : ld = 0
    · rw [if_pos z]
      exact h
    · rw [if_neg z]
      exact wfb_wb hd h
  · rw [ww_li c]
    exact h
theorem wfb_wl {d : Nat} {s : WS} (h : wfb s) : wfb (wl d s) := by
  obtain ⟨ld, st, li, fe, br, bk, sp, ff⟩ := s
  rw [show wl d (ld, st, li, fe, br, bk, sp, ff) = (if d % 8 = 7 then (0, st, li, fe, br + ld, bk, sp, ff) else (ld, st, li, fe, br, bk, sp, ff)) from rfl]
  by_cases z : d % 8 = 7
  · rw [if_pos z]; exact h
  · rw [if_neg z]; exact h
theorem wfb_wB {bd bo : Nat → Int32} {bw : Nat → Nat} {d k : Nat} {s : WS} (hd : d < 24) (h : wfb s) : ∀ n, wfb (wB bd bo bw d k n s)
  | 0 => h
  | n + 1 => by
    unfold wB
    split
    · exact wfb_wt hd (wfb_wB hd h n)
    · exact wfb_wB hd h n
theorem wfb_wS {sd so : Nat → Int32} {out : Nat → Bool} {d k : Nat} {s : WS} (hd : d < 24) (h : wfb s) : ∀ n, wfb (wS sd so out d k n s)
  | 0 => h
  | n + 1 => by
    unfold wS
    split
    · exact wfb_wsw hd (wfb_wS hd h n)
    · exact wfb_wS hd h n
theorem wfb_we {s : WS} (h : wfb s) : wfb (we s) := by
  obtain ⟨ld, st, li, fe, br, bk, sp, ff⟩ := s
  exact h
theorem wfb_WR {D : DT} {k : Nat} : ∀ d, d ≤ 24 → wfb (WR D k d)
  | 0, _ => ⟨fun _ => rfl, fun _ => rfl⟩
  | d + 1, h => wfb_we (wfb_wl (wfb_ww (by omega) (wfb_wS (by omega) (wfb_wB (by omega) (wfb_WR d (by omega)) _) _)))
def bks (D : DT) : Nat := sumN (dnc D) (fun k => av (WE D 23 k) 5)
def stB (D : DT) : Bool := decide (bks D = 0)
theorem sumN_le {f : Nat → Nat} {c : Nat} : ∀ n, (∀ k, k < n → f k ≤ c) → sumN n f ≤ n * c
  | 0, _ => by
    show 0 ≤ 0 * c
    omega
  | n + 1, h => by
    have h1 := sumN_le n (fun k hk => h k (by omega))
    have h2 := h n (by omega)
    have h3 : (n + 1) * c = n * c + c := Nat.succ_mul n c
    show sumN n f + f n ≤ (n + 1) * c
    omega
theorem sumN_z {f : Nat → Nat} : ∀ n, sumN n f = 0 → ∀ k, k < n → f k = 0
  | 0, _, k, hk => by omega
  | n + 1, h, k, hk => by
    have h1 : sumN n f + f n = 0 := h
    by_cases e : k = n
    · subst e; omega
    · exact sumN_z n (by omega) k (by omega)
theorem bks_b {D : DT} (hb : DB D) : bks D ≤ 5376 := by
  have h := sumN_le (f := fun k => av (WE D 23 k) 5) (c := 672) (dnc D) (fun k hk => (WE_b hb hk).2)
  have b := hb.1
  have e : bks D = sumN (dnc D) (fun k => av (WE D 23 k) 5) := rfl
  rw [← e] at h
  have h2 : dnc D * 672 ≤ 8 * 672 := Nat.mul_le_mul_right _ b
  omega
theorem stB_ff {D : DT} : stB D = true ↔ ∀ k, k < dnc D → a_ff (WR D k 24) = 24 := by
  unfold stB
  rw [decide_eq_true_eq]
  constructor
  · intro h k hk
    have := sumN_z (f := fun k => av (WE D 23 k) 5) (dnc D) h k hk
    refine (wfb_WR 24 (by omega)).mpr ?_
    rw [(W24 D k).2.2.1]
    exact this
  · intro h
    refine sumN_0 (dnc D) (fun k hk => ?_)
    rw [← (W24 D k).2.2.1]
    exact (wfb_WR 24 (by omega)).mp (h k hk)
theorem FT.st {D : DT} {fd fw : Int32} (hn : dnc D ≤ 8) (h : FT (dnc D) (fun k => WR D k 24) fd fw) : fw = -1 ↔ stB D = true := by
  rw [stB_ff]
  rcases h with ⟨a1, a2, a3⟩ | ⟨m, w, a1, a2, a3, a4, a5, a6⟩
  · exact ⟨fun _ => a1, fun _ => a3⟩
  · constructor
    · intro h
      rw [a4] at h
      exact absurd h (nI_nm1 (by omega))
    · intro h
      have h5 : a_ff (WR D w 24) = m := a5
      have h6 : a_ff (WR D w 24) = 24 := h w a2
      omega
def Dlo (D : DT) (x : Int32) : DT := (dnc D, dnb D, dns D, dso D, dfg D, dbd D, dbo D, dbw D, dsd D, dsk D, x)
theorem Dlo_self {D : DT} {x : Int32} (h : dlo D = x) : Dlo D x = D := by
  subst h
  rfl
theorem CD.lo {D : DT} {x : Int32} {h : HP} (hc : CD D h) (h60 : h.2.2 = 60) : CD (Dlo D x) (sI h 54 3 x) := by
  obtain ⟨c1, c2, b1, b2, b3, c3, c4, c5, c6, c7, c8⟩ := hc
  obtain ⟨r1, r2, r3, r4⟩ := rf_60
  have e2 : (sI h 54 3 x).2.2 = 60 := h60
  have g : ∀ a, a ≠ 54 → (sI h 54 3 x).1 a = h.1 a := fun a ha => sI_na ha
  rw [h60] at c5 c6
  rw [r1, r2] at c6
  exact ⟨by rw [g 70 (by decide)]; exact c1, by rw [g 66 (by decide)]; exact c2, b1, b2, b3, fun j hj => by rw [g 62 (by decide), g 64 (by decide), g 63 (by decide)]; exact c3 j hj, Or.inl e2, by rw [e2, g 60 (by decide)]; exact c5, fun j hj => by rw [e2, r1, r2, g 59 (by decide), g 58 (by decide)]; exact c6 j hj, sI_eq, fun j hj => by rw [g 68 (by decide), g 67 (by decide)]; exact c8 j hj⟩
theorem MD.lo {D : DT} {x : Int32} {h : HP} (hm : MD D h) : MD (Dlo D x) (sI h 34 15 x) := by
  obtain ⟨m1, m2, m3, m4, m5, m6, m7, m8, m9, m10⟩ := hm
  have g : ∀ a, a ≠ 34 → (sI h 34 15 x).1 a = h.1 a := fun a ha => sI_na ha
  exact ⟨by rw [sI_nj (by decide)]; exact m1, by rw [sI_nj (by decide)]; exact m2, m3, m4, m5, by rw [sI_nj (by decide)]; exact m6, sI_eq, fun j hj => by rw [g 27 (by decide), g 29 (by decide), g 28 (by decide)]; exact m8 j hj, fun j hj => by rw [g 24 (by decide), g 23 (by decide)]; exact m9 j hj, fun j hj => by rw [g 31 (by decide), g 30 (by decide)]; exact m10 j hj⟩
theorem SF.lo {x : Int32} {h : HP} : SF h (sI h 34 15 x) := SF.of (cs := [34]) (FR.rf.s (by decide)) (by decide) (by simp [rd_sI]) (by simp [rd_sI]) (by simp [rd_sI])
theorem qc_all {D : DT} {h0 : HP} {x : Int32} (t : QS D h0) : Q h0 (f_Pl_allStandWithout x) (bI (stB (Dlo D x))) := fun h hs => by
  have t' := t.sf hs
  have h60 : h.2.2 = 60 := t'.2.2.2.2.2.2.1
  have h54 : h.1 54 3 = 0 := t'.1.2.2.2.2.2.2.2.2.2.1.trans t'.2.2.2.2.2.2.2.1
  obtain ⟨fd, fw, h1, e1, ft, f1⟩ := c_first (t'.1.lo (x := x) h60)
  have F : F1 54 3 h h1 := (F1.w (by decide)).tr (F1.c f1 (by decide) (by decide) (by decide))
  have S := F.end.resolve_right (by decide)
  rw [h54] at S
  refine ⟨sI h1 54 3 0, ?_, hs.tr S⟩
  have q := FT.st (D := Dlo D x) t'.1.2.2.1 ft
  unfold f_Pl_allStandWithout
  rw [ltt_s, e1, bd2_s]
  simp only [q]
  by_cases z : stB (Dlo D x) = true
  · rw [if_pos z, z]
    rfl
  · rw [if_neg z, show stB (Dlo D x) = false from by simpa using z]
    rfl
theorem m_isSp {D : DT} {x y : Int32} {h : HP} (hm : MD (Dlo D y) h) : ∃ h', f_Mo_isSpared x h = some (bI (stB (Dlo D x)), h') ∧ MD (Dlo D x) h' ∧ SF h h' ∧ h'.1 9 = h.1 9 := by
  have m1 : MD (Dlo D x) (sI h 34 15 x) := hm.lo
  obtain ⟨h1, e1, r1, k1⟩ := m_runs m1
  have m2 := m1.keep k1
  have e2 : f_Mo_brokeAll h1 = some (nI (bks (Dlo D x)), h1) := m_brokeAll m2.1 m2.2.2.1 r1.1
  have hb := bks_b m2.b
  have q : (nI (bks (Dlo D x)) = 0) ↔ bks (Dlo D x) = 0 := nI_eq (b := 0) (by omega) (by omega)
  refine ⟨h1, ?_, m2, SF.lo.tr k1.sf, ?_⟩
  · unfold f_Mo_isSpared
    rw [ltt_s, e1, bd1_s, e2, bd2_s]
    simp only [q]
    unfold stB
    by_cases z : bks (Dlo D x) = 0
    · rw [if_pos z, decide_eq_true z]
      rfl
    · rw [if_neg z, decide_eq_false z]
      rfl
  · rw [k1.1.2 9 (by decide), sI_na (by decide)]
/-- what is to be spared: how many (3: none), which -/
abbrev SR : Type := Nat × Nat × Nat
def spB (p : Nat → Nat → Bool) (a : Nat) (R : SR) : Nat → Nat → SR
  | 0, _ => R
  | m + 1, b => if p a b = true then (2, a, b) else spB p a R m (b + 1)
def spA (p : Nat → Nat → Bool) (n : Nat) : Nat → Nat → SR
  | 0, _ => (3, 0, 0)
  | m + 1, a => spB p a (spA p n m (a + 1)) (n - (a + 1)) (a + 1)
def sp1 (p1 : Nat → Bool) (p : Nat → Nat → Bool) (n : Nat) : Nat → Nat → SR
  | 0, _ => spA p n n 0
  | m + 1, a => if p1 a = true then (1, a, 0) else sp1 p1 p n m (a + 1)
def o1b (a : Nat) : Int32 := 1 <<< (nI a &&& 31)
def spD (D : DT) : SR := if stB (Dlo D 0) = true then (0, 0, 0) else sp1 (fun a => stB (Dlo D (o1b a))) (fun a b => stB (Dlo D (o1b a ||| o1b b))) (dns D) (dns D) 0
def okR (n : Nat) (R : SR) : Prop := R.1 = 0 ∨ R.1 = 3 ∨ (R.1 = 1 ∧ R.2.1 < n) ∨ (R.1 = 2 ∧ R.2.1 < R.2.2 ∧ R.2.2 < n)
theorem spB_ok {p : Nat → Nat → Bool} {a n : Nat} {R : SR} (hR : okR n R) : ∀ m b, a < b → b + m = n → okR n (spB p a R m b)
  | 0, _, _, _ => hR
  | m + 1, b, h1, h2 => by
    unfold spB
    split
    · exact Or.inr (Or.inr (Or.inr ⟨rfl, h1, by show b < n; omega⟩))
    · exact spB_ok hR m (b + 1) (by omega) (by omega)
theorem spA_ok {p : Nat → Nat → Bool} {n : Nat} : ∀ m a, a + m = n → okR n (spA p n m a)
  | 0, _, _ => Or.inr (Or.inl rfl)
  | m + 1, a, h => spB_ok (spA_ok m (a + 1) (by omega)) _ _ (by omega) (by omega)
theorem sp1_ok {p1 : Nat → Bool} {p : Nat → Nat → Bool} {n : Nat} : ∀ m a, a + m = n → okR n (sp1 p1 p n m a)
  | 0, _, _ => spA_ok n 0 (by omega)
  | m + 1, a, h => by
    unfold sp1
    split
    · exact Or.inr (Or.inr (Or.inl ⟨rfl, by show a < n; omega⟩))
    · exact sp1_ok m (a + 1) (by omega)
theorem spD_ok {D : DT} : okR (dns D) (spD D) := by
  unfold spD
  split
  · exact Or.inl rfl
  · exact sp1_ok _ _ (by omega)
def cvl (R : SR) : Int32 := if R.1 = 0 then 0 else if R.1 = 1 then o1b R.2.1 else if R.1 = 2 then o1b R.2.1 ||| o1b R.2.2 else -1
def mvl (R : SR) : Int32 := if R.1 = 3 then -1 else nI R.1
def PR (R : SR) (h : HP) : Prop := (R.1 = 1 ∨ R.1 = 2 → h.1 9 0 = nI R.2.1) ∧ (R.1 = 2 → h.1 9 1 = nI R.2.2)
theorem l_sp59 {D : DT} {h0 : HP} {a n : Nat} {R : SR} {kz : Int32 → HP → Option (Int32 × HP)} (t : QS D h0) (hn : n ≤ 8) (hk : ∀ v h, SF h0 h → ∃ h', kz v h = some (cvl R, h') ∧ SF h0 h') : ∀ (fu m b : Nat) (h : HP), SF h0 h → b + m = n → m < fu → ∃ h', lp_Pl_sparedStraws_59 (nI a) (nI n) kz fu (nI b) h = some (cvl (spB (fun a b => stB (Dlo D (o1b a ||| o1b b))) a R m b), h') ∧ SF h0 h' := by
  intro fu
  induction fu with
  | zero => intro m b h _ h1 h2; omega
  | succ fu ih =>
    intro m b h hs hm hf
    have q : (nI n ≤ nI b) ↔ n ≤ b := nI_leI (by omega) (by omega)
    rw [lp_Pl_sparedStraws_59]
    simp only [q]
    cases m with
    | zero =>
      rw [if_pos (by omega)]
      exact hk _ h hs
    | succ m =>
      rw [if_neg (by omega)]
      obtain ⟨h1, e1, s1⟩ := qc_all (x := o1b a ||| o1b b) t h hs
      rw [show f_Pl_allStandWithout ((1 <<< (nI a &&& 31)) ||| (1 <<< (nI b &&& 31))) h = _ from e1, bd2_s, bI_if]
      have eS : spB (fun a b => stB (Dlo D (o1b a ||| o1b b))) a R (m + 1) b = if stB (Dlo D (o1b a ||| o1b b)) = true then (2, a, b) else spB (fun a b => stB (Dlo D (o1b a ||| o1b b))) a R m (b + 1) := rfl
      rw [eS]
      by_cases z : stB (Dlo D (o1b a ||| o1b b)) = true
      · rw [if_pos z, if_pos z]
        exact ⟨h1, rfl, s1⟩
      · rw [if_neg z, if_neg z, ltt_s, nI_1]
        exact ih m (b + 1) h1 s1 (by omega) (by omega)
theorem l_sp50 {D : DT} {h0 : HP} {n : Nat} (t : QS D h0) (hn : n ≤ 8) : ∀ (fu m a : Nat) (h : HP), SF h0 h → a + m = n → m < fu → ∃ h', lp_Pl_sparedStraws_50 (nI n) (fun (_ : Int32) (h24 : HP) => some ((-1), h24)) fu (nI a) h = some (cvl (spA (fun a b => stB (Dlo D (o1b a ||| o1b b))) n m a), h') ∧ SF h0 h' := by
  intro fu
  induction fu with
  | zero => intro m b h _ h1 h2; omega
  | succ fu ih =>
    intro m a h hs hm hf
    have q : (nI n ≤ nI a) ↔ n ≤ a := nI_leI (by omega) (by omega)
    rw [lp_Pl_sparedStraws_50]
    simp only [q]
    cases m with
    | zero =>
      rw [if_pos (by omega)]
      exact ⟨h, rfl, hs⟩
    | succ m =>
      rw [if_neg (by omega), ltt_s, nI_1]
      exact l_sp59 (R := spA (fun a b => stB (Dlo D (o1b a ||| o1b b))) n m (a + 1)) t hn (fun v h1 s1 => by
        rw [ltt_s]
        exact ih m (a + 1) h1 s1 (by omega) (by omega)) 400 (n - (a + 1)) (a + 1) h hs (by omega) (by omega)
theorem l_sp23 {D : DT} {h0 : HP} {n : Nat} (t : QS D h0) (hn : n ≤ 8) : ∀ (fu m a : Nat) (h : HP), SF h0 h → a + m = n → m < fu → ∃ h', lp_Pl_sparedStraws_23 (nI n) fu (nI a) h = some (cvl (sp1 (fun a => stB (Dlo D (o1b a))) (fun a b => stB (Dlo D (o1b a ||| o1b b))) n m a), h') ∧ SF h0 h' := by
  intro fu
  induction fu with
  | zero => intro m b h _ h1 h2; omega
  | succ fu ih =>
    intro m a h hs hm hf
    have q : (nI n ≤ nI a) ↔ n ≤ a := nI_leI (by omega) (by omega)
    rw [lp_Pl_sparedStraws_23]
    simp only [q]
    cases m with
    | zero =>
      rw [if_pos (by omega)]
      exact l_sp50 t hn 400 n 0 h hs (by omega) (by omega)
    | succ m =>
      rw [if_neg (by omega)]
      obtain ⟨h1, e1, s1⟩ := qc_all (x := o1b a) t h hs
      rw [show f_Pl_allStandWithout (1 <<< (nI a &&& 31)) h = _ from e1, bd2_s, bI_if]
      have eS : sp1 (fun a => stB (Dlo D (o1b a))) (fun a b => stB (Dlo D (o1b a ||| o1b b))) n (m + 1) a = if stB (Dlo D (o1b a)) = true then (1, a, 0) else sp1 (fun a => stB (Dlo D (o1b a))) (fun a b => stB (Dlo D (o1b a ||| o1b b))) n m (a + 1) := rfl
      rw [eS]
      by_cases z : stB (Dlo D (o1b a)) = true
      · rw [if_pos z, if_pos z]
        exact ⟨h1, rfl, s1⟩
      · rw [if_neg z, if_neg z, ltt_s, nI_1]
        exact ih m (a + 1) h1 s1 (by omega) (by omega)
theorem qc_spared {D : DT} {h0 : HP} (t : QS D h0) : Q h0 f_Pl_sparedStraws (cvl (spD D)) := fun h hs => by
  obtain ⟨h1, e1, s1⟩ := qc_all (x := 0) t h hs
  have t1 := t.sf s1
  unfold f_Pl_sparedStraws spD
  rw [e1, bd2_s, bI_if]
  by_cases z : stB (Dlo D 0) = true
  · rw [if_pos z, if_pos z]
    exact ⟨h1, rfl, s1⟩
  · rw [if_neg z, if_neg z, t1.1.o, ckk_t, ltt_s, ltt_s, rI, t1.1.2.2.2.2.2.2.2.1]
    exact l_sp23 t t.1.2.2.2.2.1 400 (dns D) 0 h1 s1 (by omega) (by have := t.1.2.2.2.2.1; omega)
theorem SF.nine {h : HP} {j : Nat} {v : Int32} : SF h (sI h 9 j v) := SF.ofs (cs := [9]) (FR.rf.s (by decide)) (by decide) (by decide)
theorem MD.nine {D : DT} {h : HP} {j : Nat} {v : Int32} (hm : MD D h) : MD D (sI h 9 j v) := by
  obtain ⟨m1, m2, m3, m4, m5, m6, m7, m8, m9, m10⟩ := hm
  have g : ∀ a, a ≠ 9 → (sI h 9 j v).1 a = h.1 a := fun a ha => sI_na ha
  exact ⟨by rw [g 34 (by decide)]; exact m1, by rw [g 34 (by decide)]; exact m2, m3, m4, m5, by rw [g 34 (by decide)]; exact m6, by rw [g 34 (by decide)]; exact m7, fun j hj => by rw [g 27 (by decide), g 29 (by decide), g 28 (by decide)]; exact m8 j hj, fun j hj => by rw [g 24 (by decide), g 23 (by decide)]; exact m9 j hj, fun j hj => by rw [g 31 (by decide), g 30 (by decide)]; exact m10 j hj⟩
theorem l_ms63 {D : DT} {h0 : HP} {a n : Nat} {R : SR} {kz : Int32 → HP → Option (Int32 × HP)} (h9 : h0.1 34 9 = nI n) (hn : n ≤ 8) (hk : ∀ v h y, SF h0 h → MD (Dlo D y) h → ∃ h', kz v h = some (mvl R, h') ∧ SF h0 h' ∧ PR R h') : ∀ (fu m b : Nat) (y : Int32) (h : HP), SF h0 h → MD (Dlo D y) h → b + m = n → m < fu → ∃ h', lp_Mo_spareBy_63 (nI a) kz fu (nI b) h = some (mvl (spB (fun a b => stB (Dlo D (o1b a ||| o1b b))) a R m b), h') ∧ SF h0 h' ∧ PR (spB (fun a b => stB (Dlo D (o1b a ||| o1b b))) a R m b) h' := by
  intro fu
  induction fu with
  | zero => intro m b y h _ _ h1 h2; omega
  | succ fu ih =>
    intro m b y h hs hd hm hf
    have q : (nI n ≤ nI b) ↔ n ≤ b := nI_leI (by omega) (by omega)
    rw [lp_Mo_spareBy_63]
    simp only [ltt_s, rI, hs.2.2.1, h9, q]
    cases m with
    | zero =>
      rw [if_pos (by omega)]
      exact hk _ h y hs hd
    | succ m =>
      rw [if_neg (by omega), in02, ckk_t, in12, ckk_t, wA0, wA1]
      obtain ⟨h1, e1, d1, s1, n1⟩ := m_isSp (x := o1b a ||| o1b b) ((hd.nine (j := 0) (v := nI a)).nine (j := 1) (v := nI b))
      rw [show f_Mo_isSpared ((1 <<< (nI a &&& 31)) ||| (1 <<< (nI b &&& 31))) (sI (sI h 9 0 (nI a)) 9 1 (nI b)) = _ from e1, bd2_s, bI_if]
      have s2 : SF h0 h1 := ((hs.tr SF.nine).tr SF.nine).tr s1
      have eS : spB (fun a b => stB (Dlo D (o1b a ||| o1b b))) a R (m + 1) b = if stB (Dlo D (o1b a ||| o1b b)) = true then (2, a, b) else spB (fun a b => stB (Dlo D (o1b a ||| o1b b))) a R m (b + 1) := rfl
      rw [eS]
      by_cases z : stB (Dlo D (o1b a ||| o1b b)) = true
      · rw [if_pos z, if_pos z]
        refine ⟨h1, rfl, s2, fun _ => ?_, fun _ => ?_⟩
        · rw [n1]
          simp [rd_sI]
        · rw [n1]
          simp [rd_sI]
      · rw [if_neg z, if_neg z, nI_1]
        exact ih m (b + 1) _ h1 s2 d1 (by omega) (by omega)
theorem l_ms51 {D : DT} {h0 : HP} {n : Nat} (h9 : h0.1 34 9 = nI n) (hn : n ≤ 8) : ∀ (fu m a : Nat) (y : Int32) (h : HP), SF h0 h → MD (Dlo D y) h → a + m = n → m < fu → ∃ h', lp_Mo_spareBy_51 (fun (_ : Int32) (h28 : HP) => some ((-1), h28)) fu (nI a) h = some (mvl (spA (fun a b => stB (Dlo D (o1b a ||| o1b b))) n m a), h') ∧ SF h0 h' ∧ PR (spA (fun a b => stB (Dlo D (o1b a ||| o1b b))) n m a) h' := by
  intro fu
  induction fu with
  | zero => intro m b y h _ _ h1 h2; omega
  | succ fu ih =>
    intro m a y h hs hd hm hf
    have q : (nI n ≤ nI a) ↔ n ≤ a := nI_leI (by omega) (by omega)
    rw [lp_Mo_spareBy_51, show rI h 34 9 = nI n from hs.2.2.1.trans h9, ltt_s]
    cases m with
    | zero =>
      rw [if_pos (q.mpr (by omega))]
      have hp : PR (3, 0, 0) h := ⟨fun z => absurd z (by decide), fun z => absurd z (by decide)⟩
      have hv : mvl (3, 0, 0) = -1 := if_pos rfl
      have e0 : spA (fun a b => stB (Dlo D (o1b a ||| o1b b))) n 0 a = (3, 0, 0) := rfl
      rw [e0, hv]
      exact ⟨h, rfl, hs, hp⟩
    | succ m =>
      have eS : spA (fun a b => stB (Dlo D (o1b a ||| o1b b))) n (m + 1) a = spB (fun a b => stB (Dlo D (o1b a ||| o1b b))) a (spA (fun a b => stB (Dlo D (o1b a ||| o1b b))) n m (a + 1)) (n - (a + 1)) (a + 1) := rfl
      rw [if_neg (fun z => by have := q.mp z; omega), ltt_s, nI_1, eS]
      exact l_ms63 (R := spA (fun a b => stB (Dlo D (o1b a ||| o1b b))) n m (a + 1)) h9 hn (fun v h1 y1 s1 d1 => by
        rw [ltt_s]
        exact ih m (a + 1) y1 h1 s1 d1 (by omega) (by omega)) 400 (n - (a + 1)) (a + 1) y h hs hd (by omega) (by omega)
theorem l_ms16 {D : DT} {h0 : HP} {n : Nat} (h9 : h0.1 34 9 = nI n) (hn : n ≤ 8) : ∀ (fu m a : Nat) (y : Int32) (h : HP), SF h0 h → MD (Dlo D y) h → a + m = n → m < fu → ∃ h', lp_Mo_spareBy_16 fu (nI a) h = some (mvl (sp1 (fun a => stB (Dlo D (o1b a))) (fun a b => stB (Dlo D (o1b a ||| o1b b))) n m a), h') ∧ SF h0 h' ∧ PR (sp1 (fun a => stB (Dlo D (o1b a))) (fun a b => stB (Dlo D (o1b a ||| o1b b))) n m a) h' := by
  intro fu
  induction fu with
  | zero => intro m b y h _ _ h1 h2; omega
  | succ fu ih =>
    intro m a y h hs hd hm hf
    have q : (nI n ≤ nI a) ↔ n ≤ a := nI_leI (by omega) (by omega)
    rw [lp_Mo_spareBy_16]
    simp only [ltt_s, rI, hs.2.2.1, h9, q]
    cases m with
    | zero =>
      rw [if_pos (by omega)]
      exact l_ms51 h9 hn 400 n 0 y h hs hd (by omega) (by omega)
    | succ m =>
      rw [if_neg (by omega), in02, ckk_t, wA0]
      obtain ⟨h1, e1, d1, s1, n1⟩ := m_isSp (x := o1b a) (hd.nine (j := 0) (v := nI a))
      rw [show f_Mo_isSpared (1 <<< (nI a &&& 31)) (sI h 9 0 (nI a)) = _ from e1, bd2_s, bI_if]
      have s2 : SF h0 h1 := (hs.tr SF.nine).tr s1
      have eS : sp1 (fun a => stB (Dlo D (o1b a))) (fun a b => stB (Dlo D (o1b a ||| o1b b))) n (m + 1) a = if stB (Dlo D (o1b a)) = true then (1, a, 0) else sp1 (fun a => stB (Dlo D (o1b a))) (fun a b => stB (Dlo D (o1b a ||| o1b b))) n m (a + 1) := rfl
      rw [eS]
      by_cases z : stB (Dlo D (o1b a)) = true
      · rw [if_pos z, if_pos z]
        refine ⟨h1, rfl, s2, fun _ => ?_, fun z => absurd z (show ¬ 1 = 2 by decide)⟩
        rw [n1]
        simp [rd_sI]
      · rw [if_neg z, if_neg z, nI_1]
        exact ih m (a + 1) _ h1 s2 d1 (by omega) (by omega)
theorem qm_spared {D : DT} {h0 : HP} (t : QS D h0) : ∀ h, SF h0 h → ∃ h', f_Mo_spareBy h = some (mvl (spD D), h') ∧ SF h0 h' ∧ PR (spD D) h' := fun h hs => by
  obtain ⟨h1, e1, m1, s1⟩ := m_asTold (t.sf hs)
  have m1' : MD (Dlo D 0) h1 := by
    rw [Dlo_self t.2.2.2.2.2.2.2.1]
    exact m1
  obtain ⟨h2, e2, d2, s2, n2⟩ := m_isSp (x := 0) m1'
  unfold f_Mo_spareBy spD
  rw [e1, bd1_s, e2, bd2_s, bI_if]
  have s3 : SF h0 h2 := (hs.tr s1).tr s2
  by_cases z : stB (Dlo D 0) = true
  · rw [if_pos z, if_pos z]
    have hp : PR (0, 0, 0) h2 := ⟨fun z => absurd z (by decide), fun z => absurd z (by decide)⟩
    exact ⟨h2, rfl, s3, hp⟩
  · rw [if_neg z, if_neg z]
    have ns := t.1.2.2.2.2.1
    exact l_ms16 t.2.2.2.1.2.2.1 ns 400 (dns D) 0 0 h2 s3 d2 (by omega) (by omega)
theorem bd2_if {α β γ : Type} {c : Prop} [Decidable c] {a a' : α} {b b' : β} {f : α → β → Option γ} : bd2 (if c then some (a, b) else some (a', b')) f = if c then f a b else f a' b' := by
  by_cases h : c
  · rw [if_pos h, if_pos h]; rfl
  · rw [if_neg h, if_neg h]; rfl
theorem bc_h {x : Int32} {h : HP} : f_In_bitCount x h = (f_In_bitCount x hz_).map (fun p => (p.1, h)) := rfl
theorem bc_v {x v : Int32} {h : HP} (e : (f_In_bitCount x hz_).map (fun p => p.1) = some v) : f_In_bitCount x h = some (v, h) := by
  rw [bc_h]
  cases hx : f_In_bitCount x hz_ with
  | none => rw [hx] at e; cases e
  | some p =>
    rw [hx] at e
    cases e
    rfl
theorem tz_h {x : Int32} {h : HP} : f_In_numberOfTrailingZeros x h = (f_In_numberOfTrailingZeros x hz_).map (fun p => (p.1, h)) := by
  unfold f_In_numberOfTrailingZeros
  simp only [ltt_s, bd2_if, apply_ite (Option.map (fun p : Int32 × HP => (p.1, h))), Option.map_some]
theorem tz_v {x v : Int32} {h : HP} (e : (f_In_numberOfTrailingZeros x hz_).map (fun p => p.1) = some v) : f_In_numberOfTrailingZeros x h = some (v, h) := by
  rw [tz_h]
  cases hx : f_In_numberOfTrailingZeros x hz_ with
  | none => rw [hx] at e; cases e
  | some p =>
    rw [hx] at e
    cases e
    rfl
theorem bc_0 : (f_In_bitCount 0 hz_).map (fun p => p.1) = some 0 := by decide +kernel
theorem bc_1 : ∀ a, a < 8 → (f_In_bitCount (o1b a) hz_).map (fun p => p.1) = some 1 := by decide +kernel
theorem bc_2 : ∀ a, a < 8 → ∀ b, b < 8 → a < b → (f_In_bitCount (o1b a ||| o1b b) hz_).map (fun p => p.1) = some 2 := by decide +kernel
theorem tz_1 : ∀ a, a < 8 → (f_In_numberOfTrailingZeros (o1b a) hz_).map (fun p => p.1) = some (nI a) := by decide +kernel
theorem tz_2 : ∀ a, a < 8 → ∀ b, b < 8 → a < b → (f_In_numberOfTrailingZeros (o1b a ||| o1b b) hz_).map (fun p => p.1) = some (nI a) := by decide +kernel
theorem o1_x : ∀ a, a < 8 → ¬ o1b a = 0 ∧ ¬ o1b a = -1 ∧ o1b a &&& (o1b a - 1) = 0 := by decide +kernel
theorem o2_x : ∀ a, a < 8 → ∀ b, b < 8 → a < b → ¬ (o1b a ||| o1b b) = 0 ∧ ¬ (o1b a ||| o1b b) = -1 ∧ (o1b a ||| o1b b) &&& ((o1b a ||| o1b b) - 1) = o1b b := by decide +kernel
/-- the answer of spare(i), of what is to be spared -/
def spI (R : SR) (i : Int32) : Int32 := if i = -1 then mvl R else if mvl R ≤ i then -1 else if i = 0 then nI R.2.1 else nI R.2.2
def spE (v a : Int32) (h : HP) : Option (Int32 × HP) := if v = (-1) then some ((-1), h) else if a = (-1) then bd2 (f_In_bitCount v h) (fun v h => some (v, h)) else bd1 ((if a = 0 then some v else some (v &&& (v - 1))) : Option Int32) (fun w => if w = 0 then some ((-1), h) else bd2 (f_In_numberOfTrailingZeros w h) (fun v h => some (v, h)))
theorem spE_v {n : Nat} {R : SR} {a : Int32} {h : HP} (hn : n ≤ 8) (hR : okR n R) (ha : a = -1 ∨ a = 0 ∨ a = 1) : spE (cvl R) a h = some (spI R a, h) := by
  obtain ⟨k, x, y⟩ := R
  have m10 : ¬ (-1 : Int32) = 0 := by decide
  have z1 : ¬ (0 : Int32) = -1 := by decide
  have z2 : ¬ (1 : Int32) = -1 := by decide
  rcases hR with e | e | ⟨e, e1⟩ | ⟨e, e1, e2⟩
  · have e : k = 0 := e
    subst e
    have c : cvl (0, x, y) = 0 := rfl
    rw [c]
    unfold spE
    rw [if_neg z1]
    rcases ha with rfl | rfl | rfl
    · rw [if_pos rfl, bc_v bc_0, bd2_s]
      rfl
    · rw [if_neg z1, if_pos rfl, bd1_s, if_pos rfl]
      rfl
    · rw [if_neg z2, if_neg i1_0, bd1_s, show (0 : Int32) &&& (0 - 1) = 0 from by decide, if_pos rfl]
      rfl
  · have e : k = 3 := e
    subst e
    rcases ha with rfl | rfl | rfl
    · rfl
    · rfl
    · rfl
  · have e : k = 1 := e
    subst e
    have e1 : x < n := e1
    obtain ⟨a1, a2, a3⟩ := o1_x x (by omega)
    have c : cvl (1, x, y) = o1b x := rfl
    rw [c]
    unfold spE
    rw [if_neg a2]
    rcases ha with rfl | rfl | rfl
    · rw [if_pos rfl, bc_v (bc_1 x (by omega)), bd2_s]
      rfl
    · rw [if_neg z1, if_pos rfl, bd1_s, if_neg a1, tz_v (tz_1 x (by omega)), bd2_s]
      rfl
    · rw [if_neg z2, if_neg i1_0, bd1_s, a3, if_pos rfl]
      rfl
  · have e : k = 2 := e
    subst e
    have e1 : x < y := e1
    have e2 : y < n := e2
    obtain ⟨a1, a2, a3⟩ := o2_x x (by omega) y (by omega) e1
    obtain ⟨b1, b2, b3⟩ := o1_x y (by omega)
    have c : cvl (2, x, y) = o1b x ||| o1b y := rfl
    rw [c]
    unfold spE
    rw [if_neg a2]
    rcases ha with rfl | rfl | rfl
    · rw [if_pos rfl, bc_v (bc_2 x (by omega) y (by omega) e1), bd2_s]
      rfl
    · rw [if_neg z1, if_pos rfl, bd1_s, if_neg a1, tz_v (tz_2 x (by omega) y (by omega) e1), bd2_s]
      rfl
    · rw [if_neg z2, if_neg i1_0, bd1_s, a3, if_neg b1, tz_v (tz_1 y (by omega)), bd2_s]
      rfl
theorem m_ofRow {n : Nat} {R : SR} {a : Int32} {h : HP} (hR : okR n R) (hP : PR R h) (ha : a = -1 ∨ a = 0 ∨ a = 1) : f_Mo_ofRow (mvl R) a h = some (spI R a, h) := by
  obtain ⟨k, x, y⟩ := R
  have z1 : ¬ (0 : Int32) = -1 := by decide
  have z2 : ¬ (1 : Int32) = -1 := by decide
  unfold f_Mo_ofRow spI
  rcases ha with rfl | rfl | rfl
  · rw [if_pos rfl, if_pos rfl]
  · rw [if_neg z1, if_neg z1]
    by_cases c : mvl (k, x, y) ≤ 0
    · rw [if_pos c, if_pos c]
    · rw [if_neg c, if_neg c, in02, ckk_t, rA0, ltt_s, if_pos rfl]
      have h9 : h.1 9 0 = nI x := by
        refine hP.1 ?_
        rcases hR with e | e | ⟨e, e1⟩ | ⟨e, e1, e2⟩
        · have e : k = 0 := e
          subst e
          exact absurd (show mvl (0, x, y) ≤ 0 by show (nI 0 : Int32) ≤ 0; decide) c
        · have e : k = 3 := e
          subst e
          exact absurd (show mvl (3, x, y) ≤ 0 by show (-1 : Int32) ≤ 0; decide) c
        · exact Or.inl e
        · exact Or.inr e
      rw [h9]
  · rw [if_neg z2, if_neg z2]
    by_cases c : mvl (k, x, y) ≤ 1
    · rw [if_pos c, if_pos c]
    · rw [if_neg c, if_neg c, in12, ckk_t, rA1, ltt_s, if_neg i1_0]
      have h9 : h.1 9 1 = nI y := by
        refine hP.2 ?_
        rcases hR with e | e | ⟨e, e1⟩ | ⟨e, e1, e2⟩
        · have e : k = 0 := e
          subst e
          exact absurd (show mvl (0, x, y) ≤ 1 by show (nI 0 : Int32) ≤ 1; decide) c
        · have e : k = 3 := e
          subst e
          exact absurd (show mvl (3, x, y) ≤ 1 by show (-1 : Int32) ≤ 1; decide) c
        · have e : k = 1 := e
          subst e
          exact absurd (show mvl (1, x, y) ≤ 1 by show (nI 1 : Int32) ≤ 1; decide) c
        · exact e
      rw [h9]
theorem qc_spare {D : DT} {h0 : HP} {a : Int32} (t : QS D h0) (ha : a = -1 ∨ a = 0 ∨ a = 1) : Q h0 (f_CS_spare a) (spI (spD D) a) := fun h hs => by
  obtain ⟨h1, e1, s1⟩ := qc_spared t h hs
  refine ⟨h1, ?_, s1⟩
  have e2 := spE_v (h := h1) t.1.2.2.2.2.1 (spD_ok (D := D)) ha
  rw [← e2]
  unfold f_CS_spare
  rcases ha with rfl | rfl | rfl
  · rw [if_pos rfl, e1, bd2_s]
    rfl
  · rw [if_neg (by decide), if_neg (by decide), if_pos (by decide), e1, bd2_s]
    rfl
  · rw [if_neg (by decide), if_neg (by decide), if_pos (by decide), e1, bd2_s]
    rfl
theorem spr_c {a : Int32} : (a = -1 ∨ a = 0 ∨ a = 1) ↔ ¬ a < -1 ∧ ¬ 1 < a := by
  rw [Int32.lt_iff_toInt_lt, Int32.lt_iff_toInt_lt, ← Int32.toInt_inj, ← Int32.toInt_inj, ← Int32.toInt_inj]
  have h1 : (-1 : Int32).toInt = -1 := by decide
  have h2 : (0 : Int32).toInt = 0 := by decide
  have h3 : (1 : Int32).toInt = 1 := by decide
  rw [h1, h2, h3]
  omega
theorem o_spare : op_spare Inv := fun a => Q.op (fun h0 hi => by
  obtain ⟨D, t⟩ := hi.qs
  by_cases ha : a = -1 ∨ a = 0 ∨ a = 1
  · refine ⟨_, qc_spare t ha, fun h hs => ?_⟩
    obtain ⟨h1, e1, s1, p1⟩ := qm_spared t h hs
    refine ⟨h1, ?_, s1⟩
    have h2 := spr_c.mp ha
    unfold f_Mo_spare f_Mo_in
    rw [if_neg h2.1, if_neg h2.2, bd2_s, if_neg i1_0, e1, bd2_s, m_ofRow spD_ok p1 ha, bd2_s]
  · have h2 : a < -1 ∨ 1 < a := by
      by_cases c : a < -1
      · exact Or.inl c
      · by_cases c2 : 1 < a
        · exact Or.inr c2
        · exact absurd (spr_c.mpr ⟨c, c2⟩) ha
    have n1 : ¬ a = -1 := fun z => ha (Or.inl z)
    refine ⟨-2, fun h hs => ⟨h, ?_, hs⟩, fun h hs => ⟨h, ?_, hs⟩⟩
    · unfold f_CS_spare
      rw [if_neg n1]
      rw [show (if a < 2 then bd2 (f_Pl_sparedStraws h) (fun (v16 : Int32) (h17 : HP) => (if v16 = (-1) then some ((-1), h17) else (if a = (-1) then bd2 (f_In_bitCount v16 h17) (fun (v25 : Int32) (h26 : HP) => some (v25, h26)) else bd1 ((if a = 0 then some (v16) else some (v16 &&& (v16 - 1))) : Option (Int32)) (fun (v20 : Int32) => (if v20 = 0 then some ((-1), h17) else bd2 (f_In_numberOfTrailingZeros v20 h17) (fun (v23 : Int32) (h24 : HP) => some (v23, h24))))))) else some ((-2), h)) = if a < 2 then bd2 (f_Pl_sparedStraws h) (fun v h => spE v a h) else some (-2, h) from rfl]
      by_cases c : a < 0
      · rw [if_pos c]
      · rw [if_neg c]
        have c2 : ¬ a < 2 := fun z => by
          have : inb a 2 = true := (inb_t (n := 2) (by omega)).mpr ⟨c, z⟩
          rcases inb2 this with y | y
          · exact ha (Or.inr (Or.inl y))
          · exact ha (Or.inr (Or.inr y))
        rw [if_neg c2]
    · unfold f_Mo_spare f_Mo_in
      rcases h2 with c | c
      · rw [if_pos c, bd2_s, if_pos rfl]
      · by_cases c2 : a < -1
        · rw [if_pos c2, bd2_s, if_pos rfl]
        · rw [if_neg c2, if_pos c, bd2_s, if_pos rfl])
