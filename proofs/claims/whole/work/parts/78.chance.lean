/-! chance -/
def brk (D : DT) (k : Nat) (x : Int32) : Nat := if 0 < a_bk (WR (Dlo D x) k 24) then 1 else 0
theorem brk_le {D : DT} {k : Nat} {x : Int32} : brk D k x ≤ 1 := by
  unfold brk
  split <;> omega
theorem brk_cong {D : DT} {k : Nat} {x y : Int32} (h : ∀ i, i < dns D → dsk D i = nI k → tbit x i = tbit y i) : brk D k x = brk D k y := by
  have e : WR (Dlo D x) k 24 = WR (Dlo D y) k 24 := WR_cong (D := Dlo D y) (D' := Dlo D x) rfl rfl 24 (fun j s _ => by
    show wS (dsd D) (dsk D) (tbit x) j k (dns D) (wB (dbd D) (dbo D) (dbw D) j k (dnb D) s) = wS (dsd D) (dsk D) (tbit y) j k (dns D) (wB (dbd D) (dbo D) (dbw D) j k (dnb D) s)
    exact wS_cong _ (fun i hi => ⟨fun z => ⟨z.1, z.2.1, by rw [← h i hi z.2.1]; exact z.2.2⟩, fun z => ⟨z.1, z.2.1, by rw [h i hi z.2.1]; exact z.2.2⟩⟩))
  unfold brk
  rw [e]
def owB (D : DT) (k : Nat) : Nat → Bool := fun i => decide (i < dns D) && decide (dsk D i = nI k)
def own (D : DT) (k : Nat) : Int32 := bts (fun i => decide (dsk D i = nI k)) (dns D)
def fF : Nat → Bool := fun _ => false
theorem own_b {D : DT} {k i : Nat} (hn : dns D ≤ 8) (hi : i < 32) : bt (own D k) i = owB D k i := bts_b (dns D) (by omega) i hi
theorem ow_n {D : DT} {k i : Nat} (h : dns D ≤ i) : owB D k i = false := by
  unfold owB
  rw [decide_eq_false (by omega)]
  rfl
def BC (D : DT) (k : Nat) (g : Nat → Bool) : Nat := brk D k (lof (fun i => owB D k i && !g i))
def BM (D : DT) (k : Nat) (f : Nat → Bool) : Nat := brk D k (lof f)
theorem BMC {D : DT} {k : Nat} (hn : dns D ≤ 8) (f g : Nat → Bool) (h : ∀ i, i < dns D → owB D k i = true → f i = !g i) : BM D k f = BC D k g := brk_cong (fun i hi hs => by
  have o : owB D k i = true := by
    unfold owB
    rw [decide_eq_true hi, decide_eq_true hs]
    rfl
  rw [lof_t (by omega), lof_t (by omega), o, Bool.true_and]
  exact h i hi o)
def tC (D : DT) (k c s : Nat) : Nat := pw (fun i => if s.testBit i = true then (if owB D k i = true then c else 0) else (if owB D k i = true then 16 - c else 1)) 8 * BC D k (mix 8 s fF)
def tM (D : DT) (k c s : Nat) : Nat := pw (fun i => if s.testBit i = true then 16 - c else c) (dns D) * BM D k (mix (dns D) s fF)
def aC (D : DT) (k c : Nat) : Nat := sumN 256 (tC D k c)
def aM (D : DT) (k c : Nat) : Nat := sumN (2 ^ dns D) (tM D k c)
theorem aMC {D : DT} {k c : Nat} (hn : dns D ≤ 8) (hc : c ≤ 16) : aM D k c = 16 ^ pcB (fun i => !owB D k i) (dns D) * aC D k c := by
  have e1 : aM D k c = TT (fun _ => 16 - c) (fun _ => c) (BM D k) (dns D) fF := set_sum (a := fun _ => 16 - c) (b := fun _ => c) (B := BM D k) (dns D) fF
  have e2 : aC D k c = TT (fun i => if owB D k i = true then c else 0) (fun i => if owB D k i = true then 16 - c else 1) (BC D k) 8 fF := set_sum (a := fun i => if owB D k i = true then c else 0) (b := fun i => if owB D k i = true then 16 - c else 1) (B := BC D k) 8 fF
  rw [e1, e2]
  exact tt_up (by omega) (fun f g h => BMC hn f g h) (fun i hi => ow_n hi) 8 hn fF fF
theorem tC_le {D : DT} {k c s : Nat} (hc : c ≤ 16) : tC D k c s ≤ 4294967296 := by
  have h1 := pw_le (u := fun i => if s.testBit i = true then (if owB D k i = true then c else 0) else (if owB D k i = true then 16 - c else 1)) (fun i => by
    show (if s.testBit i = true then (if owB D k i = true then c else 0) else (if owB D k i = true then 16 - c else 1)) ≤ 16
    split <;> split <;> omega) 8
  have h2 : BC D k (mix 8 s fF) ≤ 1 := brk_le
  have h3 := Nat.mul_le_mul h1 h2
  have h4 : (16 : Nat) ^ 8 * 1 = 4294967296 := by decide
  rw [h4] at h3
  exact h3
theorem pM_le {c n s : Nat} (hc : c ≤ 16) (hn : n ≤ 8) : pw (fun i => if s.testBit i = true then 16 - c else c) n ≤ 4294967296 := by
  have h1 := pw_le (u := fun i => if s.testBit i = true then 16 - c else c) (fun i => by
    show (if s.testBit i = true then 16 - c else c) ≤ 16
    split <;> omega) n
  have h2 : 16 ^ n ≤ 16 ^ 8 := Nat.pow_le_pow_right (by decide) hn
  have h4 : (16 : Nat) ^ 8 = 4294967296 := by decide
  rw [h4] at h2
  exact Nat.le_trans h1 h2
theorem tM_le {D : DT} {k c s : Nat} (hc : c ≤ 16) (hn : dns D ≤ 8) : tM D k c s ≤ 4294967296 := by
  have h1 := pM_le (s := s) hc hn
  have h2 : BM D k (mix (dns D) s fF) ≤ 1 := brk_le
  have h3 := Nat.mul_le_mul h1 h2
  rw [Nat.mul_one] at h3
  exact h3
theorem aC_lt {D : DT} {k c : Nat} (hc : c ≤ 16) : aC D k c < 2 ^ 63 := by
  have h := sumN_le (f := tC D k c) (c := 4294967296) 256 (fun s _ => tC_le hc)
  have e : aC D k c = sumN 256 (tC D k c) := rfl
  rw [← e] at h
  omega
theorem aM_lt {D : DT} {k c : Nat} (hc : c ≤ 16) (hn : dns D ≤ 8) : aM D k c < 2 ^ 63 := by
  have h := sumN_le (f := tM D k c) (c := 4294967296) (2 ^ dns D) (fun s _ => tM_le hc hn)
  have h2 : 2 ^ dns D ≤ 2 ^ 8 := Nat.pow_le_pow_right (by decide) hn
  have h3 := Nat.mul_le_mul_right 4294967296 h2
  have e : aM D k c = sumN (2 ^ dns D) (tM D k c) := rfl
  rw [← e] at h
  omega
theorem l_on {D : DT} {k : Nat} {h : HP} (hc : CD D h) (h60 : h.2.2 = 60) : ∀ (fu i : Nat), i ≤ dns D → dns D < i + fu → ∃ w, lp_St_onCamel_4 60 (nI k) fu (nI i) (bts (fun i => decide (dsk D i = nI k)) i) h = some (w, own D k, h) := by
  intro fu
  induction fu with
  | zero => intro i h1 h2; omega
  | succ fu ih =>
    intro i hi hf
    have n8 := hc.2.2.2.2.1
    obtain ⟨r1, r2, -, -⟩ := rf_60
    have c5 := hc.2.2.2.2.2.2.2.1
    rw [h60] at c5
    have q : (nI (dns D) ≤ nI i) ↔ dns D ≤ i := nI_leI (by omega) (by omega)
    rw [lp_St_onCamel_4]
    simp only [ltt_s, rI, c5, q, r2]
    by_cases he : dns D ≤ i
    · have e : i = dns D := by omega
      subst e
      rw [if_pos he]
      exact ⟨_, rfl⟩
    · rw [if_neg he]
      have c6 := (hc.2.2.2.2.2.2.2.2.1 i (by omega)).2
      rw [h60, r2] at c6
      have hb : inb (nI i) 8 = true := inb_lit (by omega) (by omega)
      rw [hb, ckk_t, rA_nI (by omega), c6, nI_1]
      obtain ⟨w, p1⟩ := ih (i + 1) (by omega) (by omega)
      refine ⟨w, ?_⟩
      rw [← p1, bts_s]
      by_cases z : dsk D i = nI k
      · rw [if_pos z, bd1_s, if_pos (decide_eq_true z)]
      · rw [if_neg z, bd1_s, if_neg (fun y => z (of_decide_eq_true y))]
theorem c_brk {D : DT} {k : Nat} {x : Int32} {h : HP} (t : QS D h) (hk : k < dnc D) : ∃ h', f_Od_breaksWithout x (nI k) h = some (bI (decide (0 < a_bk (WR (Dlo D x) k 24))), h') ∧ SF h h' ∧ h'.2 = h.2 := by
  have h60 : h.2.2 = 60 := t.2.2.2.2.2.2.1
  have h54 : h.1 54 3 = 0 := t.1.2.2.2.2.2.2.2.2.2.1.trans t.2.2.2.2.2.2.2.1
  have c1 : CD (Dlo D x) (sI h 54 3 x) := t.1.lo h60
  obtain ⟨h1, e1, m1, f1⟩ := c_march (D := Dlo D x) (k := k) hk c1
  have F : F1 54 3 h h1 := (F1.w (by decide)).tr (F1.c f1 (by decide) (by decide) (by decide))
  have S := F.end.resolve_right (by decide)
  rw [h54] at S
  have hb : a_bk (WR (Dlo D x) k 24) ≤ 672 := by
    rw [(W24 (Dlo D x) k).2.2.1]
    exact (WE_b c1.b hk).2
  have q : (nI (a_bk (WR (Dlo D x) k 24)) ≤ 0) ↔ a_bk (WR (Dlo D x) k 24) ≤ 0 := nI_leI (b := 0) (by omega) (by omega)
  refine ⟨sI h1 54 3 0, ?_, S, f1.1⟩
  unfold f_Od_breaksWithout
  rw [ltt_s, e1, bd1_s]
  simp only [ltt_s, rI, m1.f.1, q]
  by_cases z : 0 < a_bk (WR (Dlo D x) k 24)
  · rw [if_neg (by omega), decide_eq_true z]
    rfl
  · rw [if_pos (by omega), decide_eq_false z]
    rfl
theorem l_pow {c p : Nat} {h : HP} (hc : c < 2 ^ 31) (hp : p ≤ 8) : ∀ (fu i : Nat), i ≤ p → p < i + fu → ∃ w, lp_Od_power_5 (nI c) (nI p) fu (nI i) (lN (c ^ i)) h = some (w, lN (c ^ p), h) := by
  intro fu
  induction fu with
  | zero => intro i h1 h2; omega
  | succ fu ih =>
    intro i hi hf
    have q : (nI p ≤ nI i) ↔ p ≤ i := nI_leI (by omega) (by omega)
    rw [lp_Od_power_5]
    simp only [q]
    by_cases he : p ≤ i
    · have e : i = p := by omega
      subst e
      rw [if_pos he]
      exact ⟨_, rfl⟩
    · rw [if_neg he, ltt_s, ltt_s, nI_l hc, lN_mul, nI_1, ← Nat.pow_succ]
      exact ih (i + 1) (by omega) (by omega)
theorem c_pow {c p : Nat} {h : HP} (hc : c < 2 ^ 31) (hp : p ≤ 8) : f_Od_power (nI c) (nI p) h = some (lN (c ^ p), h) := by
  obtain ⟨w, e⟩ := l_pow (h := h) hc hp 400 0 (Nat.zero_le _) (by omega)
  unfold f_Od_power
  rw [show lp_Od_power_5 (nI c) (nI p) 400 0 1 h = _ from e, bd3_s]
theorem SF.l {h : HP} {a j : Nat} {v : Int64} : SF h (sL h a j v) := ⟨rfl, fun _ _ _ => rfl, rfl, rfl, rfl⟩
theorem sL_eq {h : HP} {a j : Nat} {v : Int64} : (sL h a j v).2.1 a j = v := by simp [sL]
theorem sL_nj {h : HP} {a j i : Nat} {v : Int64} (hi : i ≠ j) : (sL h a j v).2.1 a i = h.2.1 a i := by simp [sL, hi]
theorem sub_e {D : DT} {k s : Nat} (hn : dns D ≤ 8) (hs : s < 256) : (nI s &&& (own D k ^^^ (-1)) = 0) ↔ ∀ i, i < 8 → s.testBit i = true → owB D k i = true := by
  have hb : ∀ i, i < 32 → bt (nI s &&& (own D k ^^^ (-1))) i = (s.testBit i && !owB D k i) := fun i hi => by
    rw [b_and, b_xor, b_m1 i hi, bt_nI hi, own_b hn hi, Bool.xor_true]
  constructor
  · intro h i hi hb2
    have h2 := hb i (by omega)
    rw [h, b_0, hb2] at h2
    simpa using h2
  · intro h
    refine b_ext (fun i hi => ?_)
    rw [hb i hi, b_0]
    by_cases z : i < 8
    · by_cases y : s.testBit i = true
      · rw [y, h i z y]
        rfl
      · rw [show s.testBit i = false by simpa using y]
        rfl
    · have hp : (2 : Nat) ^ 8 ≤ 2 ^ i := Nat.pow_le_pow_right (by decide) (by omega)
      rw [Nat.testBit_lt_two_pow (x := s) (i := i) (by omega)]
      rfl
theorem lo_e {D : DT} {k s : Nat} (hn : dns D ≤ 8) (hs : s < 256) : own D k &&& (nI s ^^^ (-1)) = lof (fun i => owB D k i && !(mix 8 s fF i)) := by
  refine b_ext (fun i hi => ?_)
  rw [b_and, b_xor, b_m1 i hi, bt_nI hi, own_b hn hi, Bool.xor_true, lof_b hi]
  by_cases z : i < 8
  · rw [decide_eq_true z, Bool.true_and]
    unfold mix
    rw [if_pos z]
  · rw [decide_eq_false z, Bool.false_and, ow_n (by omega)]
    rfl
theorem own_e {D : DT} {k : Nat} (hn : dns D ≤ 8) : own D k = lof (owB D k) := by
  refine b_ext (fun i hi => ?_)
  rw [own_b hn hi, lof_b hi]
  by_cases z : i < 8
  · rw [decide_eq_true z, Bool.true_and]
  · rw [decide_eq_false z, Bool.false_and, ow_n (by omega)]
theorem l_of {D : DT} {h0 : HP} {k c : Nat} (t : QS D h0) (hk : k < dnc D) (hc : c ≤ 16) : ∀ (fu s : Nat) (h : HP), SF h0 h → h.2.1 44 1 = lN (sumN s (tC D k c)) → s ≤ 256 → 256 < s + fu → ∃ w h', lp_Od_ofBreaking_20 (own D k) (nI c) (nI k) fu (nI s) h = some (w, h') ∧ SF h0 h' ∧ h'.2.1 44 1 = lN (aC D k c) := by
  intro fu
  induction fu with
  | zero => intro s h _ _ h1 h2; omega
  | succ fu ih =>
    intro s h hs hl hs2 hf
    have n8 := t.1.2.2.2.2.1
    have q : (256 ≤ nI s) ↔ 256 ≤ s := nI_leI (a := 256) (by omega) (by omega)
    rw [lp_Od_ofBreaking_20]
    simp only [q]
    by_cases he : 256 ≤ s
    · have e : s = 256 := by omega
      subst e
      rw [if_pos he]
      exact ⟨_, h, rfl, hs, hl⟩
    · rw [if_neg he]
      have hs3 : s < 256 := by omega
      have q1 := sub_e (D := D) (k := k) n8 hs3
      have eS : sumN (s + 1) (tC D k c) = sumN s (tC D k c) + tC D k c s := rfl
      by_cases z : nI s &&& (own D k ^^^ (-1)) = 0
      · rw [if_pos z, bd1_s, if_neg i1_0, lo_e n8 hs3]
        have sub := q1.mp z
        obtain ⟨h1, e1, s1, l1⟩ := c_brk (x := lof (fun i => owB D k i && !(mix 8 s fF i))) (t.sf hs) hk
        rw [e1, bd2_s, bI_if]
        have hl1 : h1.2.1 44 1 = lN (sumN s (tC D k c)) := by rw [l1]; exact hl
        by_cases y : 0 < a_bk (WR (Dlo D (lof (fun i => owB D k i && !(mix 8 s fF i)))) k 24)
        · have eB : BC D k (mix 8 s fF) = 1 := if_pos y
          have k1 := pcB_le (fun i => s.testBit i) 8
          have k2 := pcB_le (fun i => owB D k i && !(mix 8 s fF i)) 8
          have eT : tC D k c s = c ^ pcB (fun i => s.testBit i) 8 * (16 - c) ^ pcB (fun i => owB D k i && !(mix 8 s fF i)) 8 := by
            unfold tC
            rw [eB, Nat.mul_one, ← pw_two (c := c) (e := 16 - c) (ow := owB D k) (m := fun i => s.testBit i) 8 sub]
            congr 2
          have e16 : (16 : Int32) - nI c = nI (16 - c) := pk_sub (a := 16) hc
          rw [if_pos (decide_eq_true y), rL, hl1, ltt_s, bc_v (bc_n s hs3), bd2_s, c_pow (by omega) k1, bd2_s, c_bc, bd2_s, e16, c_pow (by omega) k2, bd2_s, lN_mul, lN_add, ltt_s, bd1_s, ltt_s, nI_1, ← eT, ← eS]
          exact ih (s + 1) _ ((hs.tr s1).tr SF.l) sL_eq (by omega) (by omega)
        · have eB : BC D k (mix 8 s fF) = 0 := if_neg y
          have eT : tC D k c s = 0 := by
            unfold tC
            rw [eB, Nat.mul_zero]
          rw [if_neg (fun w => y (of_decide_eq_true w)), bd1_s, ltt_s, nI_1]
          rw [eT, Nat.add_zero] at eS
          exact ih (s + 1) h1 (hs.tr s1) (by rw [eS]; exact hl1) (by omega) (by omega)
      · rw [if_neg z, bd1_s, if_pos rfl, bd1_s, ltt_s, nI_1]
        have eT : tC D k c s = 0 := by
          have ex : ∃ i, i < 8 ∧ s.testBit i = true ∧ owB D k i = false := by
            apply Classical.byContradiction
            intro w
            refine z (q1.mpr (fun i hi hb => ?_))
            cases ho : owB D k i
            · exact absurd ⟨i, hi, hb, ho⟩ w
            · rfl
          obtain ⟨i, i1, i2, i3⟩ := ex
          unfold tC
          rw [pw_zero 8 i i1 (by simp [i2, i3]), Nat.zero_mul]
        rw [eT, Nat.add_zero] at eS
        exact ih (s + 1) h hs (by rw [eS]; exact hl) (by omega) (by omega)
theorem two_1 {q : Nat} (hq : q ≤ 40) : (lg_cmp (lN (2 ^ q)) 1 ≤ 0) ↔ q = 0 := by
  have h2 : 2 ^ q ≤ 2 ^ 40 := Nat.pow_le_pow_right (by decide) hq
  have e : (2 : Nat) ^ 40 = 1099511627776 := by decide
  rw [lg_cmp_le, show (1 : Int64) = lN 1 from rfl, pk_lLE (by omega) (by omega)]
  constructor
  · intro h
    cases q with
    | zero => rfl
    | succ q =>
      have h3 : 1 ≤ 2 ^ q := Nat.one_le_two_pow
      rw [Nat.pow_succ] at h
      omega
  · intro h
    subst h
    decide
theorem l_red : ∀ (fu i q A : Nat) (h : HP), h.2.1 44 1 = lN A → h.2.1 44 2 = lN (2 ^ q) → A < 2 ^ 63 → q ≤ 40 → i + q ≤ 64 → q < fu → ∃ v h', lp_Od_reduce_2 fu (nI i) h = some (v, h') ∧ h'.2.1 44 1 = lN (A / Nat.gcd A (2 ^ q)) ∧ h'.2.1 44 2 = lN (2 ^ q / Nat.gcd A (2 ^ q)) ∧ SF h h' := by
  intro fu
  induction fu with
  | zero => intro i q A h _ _ _ _ _ h1; omega
  | succ fu ih =>
    intro i q A h l1 l2 hA hq hi hf
    have qi : (64 ≤ nI i) ↔ 64 ≤ i := nI_leI (a := 64) (by omega) (by omega)
    have q2 := two_1 hq
    rw [lp_Od_reduce_2]
    rw [show rL h 44 2 = lN (2 ^ q) from l2, show rL h 44 1 = lN A from l1]
    simp only [ltt_s, qi, q2]
    cases q with
    | zero =>
      have e1 : A / Nat.gcd A (2 ^ 0) = A := by rw [Nat.pow_zero, Nat.gcd_one_right, Nat.div_one]
      have e2 : 2 ^ 0 / Nat.gcd A (2 ^ 0) = 2 ^ 0 := by rw [Nat.pow_zero, Nat.gcd_one_right, Nat.div_one]
      rw [e1, e2]
      by_cases z : 64 ≤ i
      · rw [if_pos z]
        exact ⟨_, h, rfl, l1, l2, SF.rf⟩
      · rw [if_neg z, if_pos rfl]
        exact ⟨_, h, rfl, l1, l2, SF.rf⟩
    | succ q =>
      rw [if_neg (by omega), if_neg (by omega)]
      have h2 : 2 ^ (q + 1) ≤ 2 ^ 40 := Nat.pow_le_pow_right (by decide) hq
      have e40 : (2 : Nat) ^ 40 = 1099511627776 := by decide
      have er : lN A - lN A / 2 * 2 = lN (A % 2) := pk_lRem (b := 2) hA (by omega) (by omega)
      have q3 : (lg_cmp (lN (A % 2)) 0 = 0) ↔ A % 2 = 0 := by
        rw [lg_cmp_eq, show (0 : Int64) = lN 0 from rfl, pk_lEQ (by omega) (by omega)]
      rw [er]
      simp only [q3]
      by_cases z : A % 2 = 0
      · rw [if_pos z]
        have ed : lN A / 2 = lN (A / 2) := pk_lDiv (b := 2) hA (by omega) (by omega)
        have l2' : rL (sL h 44 1 (lN (A / 2))) 44 2 = lN (2 ^ (q + 1)) := by
          show (sL h 44 1 (lN (A / 2))).2.1 44 2 = _
          rw [sL_nj (by decide)]
          exact l2
        have ed2 : lN (2 ^ (q + 1)) / 2 = lN (2 ^ q) := by
          rw [show lN (2 ^ (q + 1)) / 2 = lN (2 ^ (q + 1) / 2) from pk_lDiv (b := 2) (by omega) (by omega) (by omega), Nat.pow_succ, Nat.mul_div_cancel _ (by decide)]
        rw [ed, l2', ed2, nI_1]
        obtain ⟨v, h', p1, p2, p3, p4⟩ := ih (i + 1) q (A / 2) (sL (sL h 44 1 (lN (A / 2))) 44 2 (lN (2 ^ q))) (by rw [sL_nj (by decide), sL_eq]) sL_eq (by omega) (by omega) (by omega) (by omega)
        obtain ⟨B, rfl⟩ : ∃ B, A = 2 * B := ⟨A / 2, by omega⟩
        rw [Nat.mul_div_cancel_left _ (by decide : 0 < 2)] at p1 p2 p3
        refine ⟨v, h', ?_, ?_, ?_, ?_⟩
        · rw [Nat.mul_div_cancel_left _ (by decide : 0 < 2)]
          exact p1
        · rw [even_gcd.1]
          exact p2
        · rw [even_gcd.2]
          exact p3
        · exact (SF.l.tr SF.l).tr p4
      · rw [if_neg z]
        have e : Nat.gcd A (2 ^ (q + 1)) = 1 := odd_gcd (by omega)
        rw [e, Nat.div_one, Nat.div_one]
        exact ⟨_, h, rfl, l1, l2, SF.rf⟩
def chI (A q : Nat) (a : Int32) : Int64 := if a = 0 then lN (A / Nat.gcd A (2 ^ q)) else lN (2 ^ q / Nat.gcd A (2 ^ q))
def chQ (D : DT) (k : Nat) : Nat := 4 * pcB (owB D k) 8
theorem c_of {D : DT} {h : HP} {k c : Nat} (t : QS D h) (hk : k < dnc D) (hc : c ≤ 16) : ∃ h', f_Od_ofBreaking (nI c) (nI k) h = some h' ∧ SF h h' ∧ h'.2.1 44 1 = lN (aC D k c / Nat.gcd (aC D k c) (2 ^ chQ D k)) ∧ h'.2.1 44 2 = lN (2 ^ chQ D k / Nat.gcd (aC D k c) (2 ^ chQ D k)) := by
  have h60 : h.2.2 = 60 := t.2.2.2.2.2.2.1
  have n8 := t.1.2.2.2.2.1
  obtain ⟨w, e1⟩ := l_on (k := k) t.1 h60 400 0 (Nat.zero_le _) (by omega)
  have e1' : f_St_onCamel 60 (nI k) h = some (own D k, h) := by
    unfold f_St_onCamel
    rw [show lp_St_onCamel_4 60 (nI k) 400 0 0 h = _ from e1, bd3_s]
  obtain ⟨w2, h2, e2, s2, l2⟩ := l_of t hk hc 400 0 (sL h 44 1 0) SF.l sL_eq (by omega) (by omega)
  have m8 := pcB_le (owB D k) 8
  have e16 : (16 : Nat) ^ pcB (owB D k) 8 = 2 ^ chQ D k := by
    unfold chQ
    rw [Nat.pow_mul]
  obtain ⟨v, h3, e3, p1, p2, s3⟩ := l_red 400 0 (chQ D k) (aC D k c) (sL h2 44 2 (lN (16 ^ pcB (owB D k) 8))) (by rw [sL_nj (by decide)]; exact l2) (by rw [sL_eq, e16]) (aC_lt hc) (by unfold chQ; omega) (by unfold chQ; omega) (by unfold chQ; omega)
  refine ⟨h3, ?_, (s2.tr SF.l).tr s3, p1, p2⟩
  have eb : f_In_bitCount (own D k) h2 = some (nI (pcB (owB D k) 8), h2) := by
    rw [own_e n8]
    exact c_bc
  unfold f_Od_ofBreaking f_Od_reduce
  rw [t.1.o, ckk_t, h60, ltt_s, e1', bd2_s, ltt_s, show lp_Od_ofBreaking_20 (own D k) (nI c) (nI k) 400 0 (sL h 44 1 0) = _ from e2, bd2_s, eb, bd2_s, show f_Od_power 16 (nI (pcB (owB D k) 8)) h2 = _ from c_pow (c := 16) (by omega) m8, bd2_s, ltt_s, show lp_Od_reduce_2 400 0 (sL h2 44 2 (lN (16 ^ pcB (owB D k) 8))) = _ from e3, bd2_s, bd1_s]
theorem c16_c {α : Type} {a : Int32} {x y : α} : (if a < 0 then x else if 16 < a then x else y) = if inb a 17 = true then y else x := if3 (inb_n (n := 16) (by omega))
theorem qc_chance {D : DT} {h0 : HP} {k c : Nat} {a : Int32} (t : QS D h0) (hk : k < dnc D) (hc : c ≤ 16) (ha : inb a 2 = true) : Q h0 (f_CS_chance (nI c) (nI k) a) (chI (aC D k c) (chQ D k) a) := fun h hs => by
  have t' := t.sf hs
  have b1 := t.1.2.2.1
  obtain ⟨h1, e1, s1, p1, p2⟩ := c_of t' hk hc
  refine ⟨h1, ?_, hs.tr s1⟩
  unfold f_CS_chance chI
  rw [c16_c, if_pos (inb_lit (by omega) (by omega)), c_isCamel t'.1, bd2_s, bI_if, if_pos (inb_lit hk (by omega)), two_c, if_pos ha, e1, bd1_s]
  by_cases z : a = 0
  · rw [if_pos z, if_pos z, rL, p1, ltt_s]
  · rw [if_neg z, if_neg z, rL, p2, ltt_s]
theorem l_m27c {n s c : Nat} {v6 : Int64} {a2 a3 : Int32} {h : HP} (h9 : h.1 34 9 = nI n) (hn : n ≤ 8) (hc : c ≤ 16) : ∀ (fu i : Nat), i ≤ n → n < i + fu → ∃ w, lp_Mo_chanceOf_27 (nI s) v6 (nI c) a2 a3 fu (nI i) (lN (pw (fun i => if s.testBit i = true then 16 - c else c) i)) h = some (w, lN (pw (fun i => if s.testBit i = true then 16 - c else c) n), h) := by
  intro fu
  induction fu with
  | zero => intro i h1 h2; omega
  | succ fu ih =>
    intro i hi hf
    have q : (nI n ≤ nI i) ↔ n ≤ i := nI_leI (by omega) (by omega)
    rw [lp_Mo_chanceOf_27]
    simp only [ltt_s, rI, h9, q]
    by_cases he : n ≤ i
    · have e : i = n := by omega
      subst e
      rw [if_pos he]
      exact ⟨_, rfl⟩
    · rw [if_neg he, m_isIn (show i < 32 by omega), bd2_s, tbit_bt (show i < 32 by omega), bt_nI (show i < 32 by omega), nI_1]
      have e16 : (16 : Int32) - nI c = nI (16 - c) := pk_sub (a := 16) hc
      obtain ⟨w, p1⟩ := ih (i + 1) (by omega) (by omega)
      refine ⟨w, ?_⟩
      rw [← p1]
      have eP : pw (fun i => if s.testBit i = true then 16 - c else c) (i + 1) = pw (fun i => if s.testBit i = true then 16 - c else c) i * (if s.testBit i = true then 16 - c else c) := rfl
      rw [eP]
      by_cases z : s.testBit i = true
      · rw [if_pos z, if_neg i1_0, bd1_s, e16, nI_l (by omega), lN_mul, if_pos z]
      · rw [if_neg z, if_pos rfl, bd1_s, nI_l (by omega), lN_mul, if_neg z]
theorem o1_n : ∀ n, n < 9 → o1b n = nI (2 ^ n) := by decide +kernel
theorem mix_n {n s : Nat} (hn : n ≤ 8) (hs : s < 2 ^ n) : lof (mix n s fF) = nI s := by
  refine b_ext (fun i hi => ?_)
  rw [lof_b hi, bt_nI hi]
  unfold mix
  by_cases z : i < n
  · rw [if_pos z, decide_eq_true (by omega), Bool.true_and]
  · have hp : (2 : Nat) ^ n ≤ 2 ^ i := Nat.pow_le_pow_right (by decide) (by omega)
    rw [if_neg z, Nat.testBit_lt_two_pow (x := s) (i := i) (by omega)]
    exact Bool.and_false _
theorem l_m10 {D : DT} {k c : Nat} {a3 : Int32} (hk : k < dnc D) (hn : dns D ≤ 8) (hc : c ≤ 16) : ∀ (fu s : Nat) (x : Int32) (h : HP), MD (Dlo D x) h → h.1 34 9 = nI (dns D) → s ≤ 2 ^ dns D → 2 ^ dns D < s + fu → ∃ w y h', lp_Mo_chanceOf_10 (nI c) (nI k) a3 fu (nI s) (lN (sumN s (tM D k c))) h = some (w, lN (aM D k c), h') ∧ MD (Dlo D y) h' ∧ SF h h' := by
  intro fu
  induction fu with
  | zero => intro s x h _ _ h1 h2; omega
  | succ fu ih =>
    intro s x h hm h9 hs hf
    have b1 : dnc D ≤ 8 := hm.2.2.1
    have h28 : 2 ^ dns D ≤ 2 ^ 8 := Nat.pow_le_pow_right (by decide) hn
    have q : (1 <<< (nI (dns D) &&& 31) ≤ nI s) ↔ 2 ^ dns D ≤ s := by
      rw [show (1 : Int32) <<< (nI (dns D) &&& 31) = nI (2 ^ dns D) from o1_n (dns D) (by omega)]
      exact nI_leI (by omega) (by omega)
    rw [lp_Mo_chanceOf_10, show rI h 34 9 = nI (dns D) from h9, ltt_s]
    by_cases he : 2 ^ dns D ≤ s
    · have e : s = 2 ^ dns D := by omega
      rw [if_pos (q.mpr he)]
      subst e
      exact ⟨_, x, h, rfl, hm, SF.rf⟩
    · rw [if_neg (fun z => he (q.mp z))]
      obtain ⟨w1, e1⟩ := l_m27c (s := s) (v6 := lN (sumN s (tM D k c))) (a2 := nI k) (a3 := a3) h9 hn hc 400 0 (Nat.zero_le _) (by omega)
      rw [show lp_Mo_chanceOf_27 (nI s) (lN (sumN s (tM D k c))) (nI c) (nI k) a3 400 0 1 h = _ from e1, bd3_s]
      have hW := pM_le (c := c) (n := dns D) (s := s) hc hn
      have eS : sumN (s + 1) (tM D k c) = sumN s (tM D k c) + tM D k c s := rfl
      have eT : tM D k c s = pw (fun i => if s.testBit i = true then 16 - c else c) (dns D) * BM D k (mix (dns D) s fF) := rfl
      obtain ⟨W, hWe⟩ : ∃ W, W = pw (fun i => if s.testBit i = true then 16 - c else c) (dns D) := ⟨_, rfl⟩
      rw [← hWe] at hW eT ⊢
      have q2 : (lg_cmp (lN W) 0 ≤ 0) ↔ W ≤ 0 := by
        rw [lg_cmp_le, show (0 : Int64) = lN 0 from rfl, pk_lLE (by omega) (by omega)]
      by_cases z : W ≤ 0
      · rw [if_pos (q2.mpr z), bd2_s, ltt_s, nI_1]
        rw [eT, show W = 0 by omega, Nat.zero_mul, Nat.add_zero] at eS
        obtain ⟨w, y, h', p1, p2, p3⟩ := ih (s + 1) x h hm h9 (by omega) (by omega)
        rw [eS] at p1
        exact ⟨w, y, h', p1, p2, p3⟩
      · rw [if_neg (fun y => z (q2.mp y)), ltt_s]
        have m1 : MD (Dlo D (nI s)) (sI h 34 15 (nI s)) := hm.lo
        obtain ⟨h1, e2, r2, k2⟩ := m_runs m1
        have s1 : SF h h1 := SF.lo.tr k2.sf
        have hb : inb (nI k) 8 = true := inb_lit (by omega) (by omega)
        have e17 : h1.1 17 k = nI (a_bk (WR (Dlo D (nI s)) k 24)) := (r2.1.1 k hk).2.2.2.2.2
        have hbk : a_bk (WR (Dlo D (nI s)) k 24) ≤ 672 := by
          rw [(W24 (Dlo D (nI s)) k).2.2.1]
          exact (WE_b m1.b hk).2
        have q3 : (nI (a_bk (WR (Dlo D (nI s)) k 24)) ≤ 0) ↔ a_bk (WR (Dlo D (nI s)) k 24) ≤ 0 := nI_leI (b := 0) (by omega) (by omega)
        have eBM : BM D k (mix (dns D) s fF) = if 0 < a_bk (WR (Dlo D (nI s)) k 24) then 1 else 0 := by
          unfold BM brk
          rw [mix_n hn (by omega)]
        rw [e2, bd1_s, hb, ckk_t, rA_nI (by omega), e17, ltt_s]
        have ev : (if nI (a_bk (WR (Dlo D (nI s)) k 24)) ≤ 0 then some (0 : Int64) else some (lN W)) = some (lN (tM D k c s)) := by
          rw [eT, eBM]
          by_cases y : 0 < a_bk (WR (Dlo D (nI s)) k 24)
          · rw [if_neg (fun u => by have := q3.mp u; omega), if_pos y, Nat.mul_one]
          · rw [if_pos (q3.mpr (by omega)), if_neg y, Nat.mul_zero]
            rfl
        rw [ev, bd1_s, lN_add, ltt_s, bd2_s, ltt_s, nI_1, ← eS]
        obtain ⟨w, y, h', p1, p2, p3⟩ := ih (s + 1) (nI s) h1 (m1.keep k2) (s1.2.2.1.trans h9) (by omega) (by omega)
        exact ⟨w, y, h', p1, p2, s1.tr p3⟩
theorem l_gcd {a1 a2 : Int64} {a3 : Int32} {h : HP} : ∀ (K fu x y : Nat), x < 2 ^ 63 → y < 2 ^ 63 → y < 2 ^ K → 2 * K + 2 ≤ fu → ∃ v, lp_Mo_lowest_6 a1 a2 a3 fu (lN y) (lN x) h = some (v, lN (Nat.gcd x y), h) := by
  have zero : ∀ fu x, 1 ≤ fu → ∃ v, lp_Mo_lowest_6 a1 a2 a3 fu (lN 0) (lN x) h = some (v, lN (Nat.gcd x 0), h) := fun fu x hf => by
    obtain ⟨f, rfl⟩ : ∃ f, fu = f + 1 := ⟨fu - 1, by omega⟩
    rw [lp_Mo_lowest_6, if_pos (by decide), Nat.gcd_zero_right]
    exact ⟨_, rfl⟩
  have step : ∀ fu x y, x < 2 ^ 63 → y < 2 ^ 63 → 0 < y → lp_Mo_lowest_6 a1 a2 a3 (fu + 1) (lN y) (lN x) h = lp_Mo_lowest_6 a1 a2 a3 fu (lN (x % y)) (lN y) h := fun fu x y hx hy h0 => by
    have ne : ¬ lN y = 0 := fun z => by
      have := (pk_lEQ hy (show 0 < 2 ^ 63 by omega)).mp (show lN y = lN 0 from z)
      omega
    rw [lp_Mo_lowest_6, if_neg (fun z => ne ((lg_cmp_eq _ _).mp z)), decide_eq_true ne, ckk_t, ltt_s, pk_lRem hx h0 hy]
  intro K
  induction K with
  | zero =>
    intro fu x y hx hy hk hf
    have e : y = 0 := by omega
    subst e
    exact zero fu x (by omega)
  | succ K ih =>
    intro fu x y hx hy hk hf
    by_cases z : y = 0
    · subst z
      exact zero fu x (by omega)
    · obtain ⟨f, rfl⟩ : ∃ f, fu = f + 2 := ⟨fu - 2, by omega⟩
      have hr : x % y < y := Nat.mod_lt _ (by omega)
      rw [show f + 2 = (f + 1) + 1 from rfl, step (f + 1) x y hx hy (by omega)]
      have e1 : Nat.gcd x y = Nat.gcd y (x % y) := by
        rw [Nat.gcd_comm x y, Nat.gcd_rec y x, Nat.gcd_comm]
      rw [e1]
      by_cases z2 : x % y = 0
      · rw [z2]
        exact zero (f + 1) y (by omega)
      · have hr2 : y % (x % y) < x % y := Nat.mod_lt _ (by omega)
        rw [step f y (x % y) hy (by omega) (by omega)]
        have e2 : Nat.gcd y (x % y) = Nat.gcd (x % y) (y % (x % y)) := by
          rw [Nat.gcd_comm y (x % y), Nat.gcd_rec (x % y) y, Nat.gcd_comm]
        rw [e2]
        have hd : y % (x % y) + x % y ≤ y := by
          have h1 := Nat.div_add_mod y (x % y)
          have h2 : 1 ≤ y / (x % y) := (Nat.one_le_div_iff (by omega)).mpr (by omega)
          have h3 := Nat.mul_le_mul_left (x % y) h2
          rw [Nat.mul_one] at h3
          omega
        have hk2 : 2 ^ (K + 1) = 2 * 2 ^ K := by rw [Nat.pow_succ, Nat.mul_comm]
        exact ih f (x % y) (y % (x % y)) (by omega) (by omega) (by omega) (by omega)
theorem m_lowest {T B : Nat} {a : Int32} {h : HP} (hT : T < 2 ^ 63) (hB : B < 2 ^ 40) (h0 : 0 < B) : f_Mo_lowest (lN T) (lN B) a h = some (if a = 0 then lN (T / Nat.gcd T B) else lN (B / Nat.gcd T B), h) := by
  have e40 : (2 : Nat) ^ 40 = 1099511627776 := by decide
  obtain ⟨v, e⟩ := l_gcd (a1 := lN T) (a2 := lN B) (a3 := a) (h := h) 40 400 T B hT (by omega) hB (by omega)
  have g0 : 0 < Nat.gcd T B := Nat.gcd_pos_of_pos_right _ h0
  have g1 : Nat.gcd T B ≤ B := Nat.gcd_le_right _ h0
  have ne : ¬ lN (Nat.gcd T B) = 0 := fun z => by
    have := (pk_lEQ (show Nat.gcd T B < 2 ^ 63 by omega) (show 0 < 2 ^ 63 by omega)).mp (show lN (Nat.gcd T B) = lN 0 from z)
    omega
  unfold f_Mo_lowest
  rw [e, bd3_s, decide_eq_true ne, ckk_t, ckk_t, pk_lDiv hT g0 (by omega), pk_lDiv (by omega) g0 (by omega)]
  by_cases z : a = 0
  · rw [if_pos z, if_pos z]
  · rw [if_neg z, if_neg z]
theorem sh_4 : ∀ n, n < 9 → (1 : Int64) <<< (Int32.toInt64 (4 * nI n) &&& 63) = lN (2 ^ (4 * n)) := by decide +kernel
theorem pc_sum {p : Nat → Bool} : ∀ n, pcB p n + pcB (fun i => !p i) n = n
  | 0 => rfl
  | n + 1 => by
    have ih := pc_sum (p := p) n
    show pcB p n + (if p n = true then 1 else 0) + (pcB (fun i => !p i) n + (if (!p n) = true then 1 else 0)) = n + 1
    cases p n <;> simp <;> omega
theorem pc_up {p : Nat → Bool} {n : Nat} (h : ∀ i, n ≤ i → p i = false) : ∀ m, pcB p (n + m) = pcB p n
  | 0 => rfl
  | m + 1 => by
    show pcB p (n + m) + (if p (n + m) = true then 1 else 0) = _
    rw [pc_up h m, h (n + m) (by omega)]
    rfl
theorem qm_chance {D : DT} {h0 : HP} {k c : Nat} {a : Int32} (t : QS D h0) (hk : k < dnc D) (hc : c ≤ 16) : QM D h0 (f_Mo_chanceOf (nI c) (nI k) a) (chI (aC D k c) (chQ D k) a) := fun h hs => by
  have n8 := t.1.2.2.2.2.1
  obtain ⟨h1, e1, m1, s1⟩ := m_asTold (t.sf hs)
  have m1' : MD (Dlo D 0) h1 := by
    rw [Dlo_self t.2.2.2.2.2.2.2.1]
    exact m1
  have s2 := hs.tr s1
  have h9 : h1.1 34 9 = nI (dns D) := s2.2.2.1.trans t.2.2.2.1.2.2.1
  have h28 : 2 ^ dns D ≤ 2 ^ 8 := Nat.pow_le_pow_right (by decide) n8
  obtain ⟨w, y, h2, e2, m2, s3⟩ := l_m10 (a3 := a) hk n8 hc 400 0 0 h1 m1' h9 (Nat.zero_le _) (by omega)
  have h92 : h2.1 34 9 = nI (dns D) := s3.2.2.1.trans h9
  have hB : 2 ^ (4 * dns D) ≤ 2 ^ 32 := Nat.pow_le_pow_right (by decide) (by omega)
  have hB0 : 0 < 2 ^ (4 * dns D) := Nat.pow_pos (by decide)
  refine ⟨h2, ?_, s2.tr s3, m2.mc⟩
  unfold f_Mo_chanceOf
  rw [e1, bd1_s, show lp_Mo_chanceOf_10 (nI c) (nI k) a 400 0 0 h1 = _ from e2, bd3_s, show rI h2 34 9 = nI (dns D) from h92, ltt_s, sh_4 (dns D) (by omega), m_lowest (aM_lt hc n8) (by omega) hB0, bd2_s]
  have hm : pcB (owB D k) 8 = pcB (owB D k) (dns D) := by
    obtain ⟨m, hm⟩ : ∃ m, 8 = dns D + m := ⟨8 - dns D, by omega⟩
    rw [hm]
    exact pc_up (fun i hi => ow_n hi) m
  have hs16 : 2 ^ (4 * dns D) = 16 ^ pcB (fun i => !owB D k i) (dns D) * 2 ^ chQ D k := by
    have h3 := pc_sum (p := owB D k) (dns D)
    unfold chQ
    rw [hm, Nat.pow_mul, Nat.pow_mul, show (2 : Nat) ^ 4 = 16 from by decide, ← Nat.pow_add, Nat.add_comm, h3]
  have p0 : 0 < 16 ^ pcB (fun i => !owB D k i) (dns D) := Nat.pow_pos (by decide)
  unfold chI
  rw [aMC n8 hc, hs16, Nat.gcd_mul_left, Nat.mul_div_mul_left _ _ p0, Nat.mul_div_mul_left _ _ p0]
theorem no_e : (-9223372036854775808 : Int64) - Int32.toInt64 (-2) = -9223372036854775806 := by decide
theorem m_no {h : HP} : f_Mo_no (-2) h = some (-9223372036854775806, h) := by
  unfold f_Mo_no
  rw [no_e]
theorem m_in16 {a : Int32} {h : HP} : f_Mo_in a 0 16 h = some (bI (inb a 17), h) := m_inN (n := 16) (by omega)
theorem o_chance : op_chance Inv := fun a1 a2 a3 => Q.op (fun h0 hi => by
  obtain ⟨D, t⟩ := hi.qs
  have b1 := t.1.2.2.1
  by_cases z0 : inb a1 17 = true
  · by_cases z1 : inb a2 (dnc D) = true
    · by_cases z2 : inb a3 2 = true
      · obtain ⟨c, c1, c2⟩ := (inb_iff (by omega)).mp z0
        obtain ⟨k, k1, k2⟩ := (inb_iff (by omega)).mp z1
        refine ⟨chI (aC D k c) (chQ D k) a3, by rw [c2, k2]; exact qc_chance t k1 (by omega) z2, fun h hs => ?_⟩
        obtain ⟨h1, e1, m1, s1⟩ := m_isCamel (a := a2) (t.sf hs)
        unfold f_Mo_chance
        rw [m_in16, bd2_s, bI_if, if_pos z0, e1, bd2_s, bI_if, if_pos z1, m_isTwo, bd2_s, bI_if, if_pos z2, bd2_id, c2, k2]
        exact (qm_chance t k1 (by omega)).q h1 (hs.tr s1)
      · refine ⟨-9223372036854775806, fun h hs => ⟨h, ?_, hs⟩, fun h hs => ?_⟩
        · unfold f_CS_chance
          rw [c16_c, if_pos z0, c_isCamel (t.sf hs).1, bd2_s, bI_if, if_pos z1, two_c, if_neg z2]
        · obtain ⟨h1, e1, m1, s1⟩ := m_isCamel (a := a2) (t.sf hs)
          refine ⟨h1, ?_, hs.tr s1⟩
          unfold f_Mo_chance
          rw [m_in16, bd2_s, bI_if, if_pos z0, e1, bd2_s, bI_if, if_pos z1, m_isTwo, bd2_s, bI_if, if_neg z2, m_no, bd2_s]
    · refine ⟨-9223372036854775806, fun h hs => ⟨h, ?_, hs⟩, fun h hs => ?_⟩
      · unfold f_CS_chance
        rw [c16_c, if_pos z0, c_isCamel (t.sf hs).1, bd2_s, bI_if, if_neg z1]
      · obtain ⟨h1, e1, m1, s1⟩ := m_isCamel (a := a2) (t.sf hs)
        refine ⟨h1, ?_, hs.tr s1⟩
        unfold f_Mo_chance
        rw [m_in16, bd2_s, bI_if, if_pos z0, e1, bd2_s, bI_if, if_neg z1, m_no, bd2_s]
  · refine ⟨-9223372036854775806, fun h hs => ⟨h, ?_, hs⟩, fun h hs => ⟨h, ?_, hs⟩⟩
    · unfold f_CS_chance
      rw [c16_c, if_neg z0]
    · unfold f_Mo_chance
      rw [m_in16, bd2_s, bI_if, if_neg z0, m_no, bd2_s])
