/-! years -/
def rmI (v m : Int32) : Int32 := ((Int32.toUInt32 v >>> (Int32.toUInt32 16 &&& Int32.toUInt32 31)).toInt32) - ((Int32.toUInt32 v >>> (Int32.toUInt32 16 &&& Int32.toUInt32 31)).toInt32) / m * m
theorem rm_f (v m : Int32) : ((Int32.toUInt32 v >>> (Int32.toUInt32 16 &&& Int32.toUInt32 31)).toInt32) - ((Int32.toUInt32 v >>> (Int32.toUInt32 16 &&& Int32.toUInt32 31)).toInt32) / m * m = rmI v m := rfl
theorem rmI_b {v : Int32} {m : Nat} (h1 : 0 < m) (h2 : m ≤ 8) : ∃ c, c < 8 ∧ rmI v (nI m) = nI c := by
  have e := pk_ushr v 16 16 (by decide)
  have hv : v.toBitVec.toNat < 2 ^ 32 := v.toBitVec.isLt
  have hd : v.toBitVec.toNat / 2 ^ 16 < 65536 := by omega
  have ex : (v.toUInt32 >>> (Int32.toUInt32 16 &&& Int32.toUInt32 31)).toInt32 = nI (v.toBitVec.toNat / 2 ^ 16) := Int32.toBitVec_inj.mp (BitVec.eq_of_toNat_eq (by rw [e, pk_tn (by omega)]))
  unfold rmI
  rw [ex, pk_rem (by omega) h1 (by omega)]
  exact ⟨_, Nat.lt_of_lt_of_le (Nat.mod_lt _ h1) h2, rfl⟩
def sdq (x : Int32) : Nat → Int32
  | 0 => x
  | i + 1 => 1103515245 * sdq x i + 12345
def Dyr (D : DT) (x : Int32) (n : Nat) : DT := (dnc D, dnb D, (if dnc D = 0 then 0 else n), dso D, dfg D, dbd D, dbo D, dbw D, fun i => rmI (sdq x (2 * i + 1)) 24, fun i => rmI (sdq x (2 * i + 2)) (nI (dnc D)), 0)
theorem c_app57 {a b : Int32} {i : Nat} {h : HP} (hi : i < 8) (e : h.1 57 2 = nI i) : f_St_append 57 a b h = some (1, sI (sI (sI h 56 i a) 55 i b) 57 2 (nI (i + 1))) := by
  obtain ⟨-, -, r1, r2⟩ := rf_60
  have q : (nI i < 8) ↔ i < 8 := nI_ltI (b := 8) (by omega) (by omega)
  have hb : inb (nI i) 8 = true := inb_lit hi (by omega)
  have hl : i < 2 ^ 31 := by omega
  have t1 : (sI h 56 i a).1 57 2 = nI i := by simp [rd_sI, e]
  have t2 : (sI (sI h 56 i a) 55 i b).1 57 2 = nI i := by simp [rd_sI, e]
  unfold f_St_append
  simp only [ltt_s, rI, r1, r2, e, q, hi, if_true, hb, ckk_t, wA_nI hl, t1, t2, nI_1]
theorem l_draw {x a2 : Int32} {n nc : Nat} (hn : n ≤ 8) (hc : 0 < nc) (hc8 : nc ≤ 8) : ∀ (fu i : Nat) (h : HP), h.1 57 2 = nI i → i ≤ n → n < i + fu → (∀ j, j < i → h.1 56 j = rmI (sdq x (2 * j + 1)) 24 ∧ h.1 55 j = rmI (sdq x (2 * j + 2)) (nI nc)) → ∃ w u h', lp_St_draw_16 57 a2 (nI n) (nI nc) fu (nI i) (sdq x (2 * i)) h = some (w, u, h') ∧ h'.1 57 2 = nI n ∧ (∀ j, j < n → h'.1 56 j = rmI (sdq x (2 * j + 1)) 24 ∧ h'.1 55 j = rmI (sdq x (2 * j + 2)) (nI nc)) ∧ FR [55, 56, 57] h h' := by
  intro fu
  induction fu with
  | zero => intro i h _ h1 h2; omega
  | succ fu ih =>
    intro i h e hi hf hj
    have q : (nI n ≤ nI i) ↔ n ≤ i := nI_leI (by omega) (by omega)
    rw [lp_St_draw_16]
    simp only [q]
    by_cases he : n ≤ i
    · have ei : i = n := by omega
      subst ei
      rw [if_pos he]
      exact ⟨_, _, h, rfl, e, hj, FR.rf⟩
    · rw [if_neg he]
      have hne : decide (¬ nI nc = 0) = true := decide_eq_true (nI_ne0 hc (by omega))
      unfold f_St_nextSeed
      have sq1 : (1103515245 : Int32) * sdq x (2 * i) + 12345 = sdq x (2 * i + 1) := rfl
      have sq2 : (1103515245 : Int32) * sdq x (2 * i + 1) + 12345 = sdq x (2 * i + 2) := rfl
      rw [bd2_s, ltt_s, bd2_s, hne, ckk_t, sq1, sq2, rm_f (sdq x (2 * i + 1)) 24, rm_f (sdq x (2 * i + 2)) (nI nc)]
      have ap := c_app57 (a := rmI (sdq x (2 * i + 1)) 24) (b := rmI (sdq x (2 * i + 2)) (nI nc)) (show i < 8 by omega) e
      rw [ap, bd2_s, ltt_s, nI_1]
      obtain ⟨w, u, h', p1, p2, p3, p4⟩ := ih (i + 1) (sI (sI (sI h 56 i (rmI (sdq x (2 * i + 1)) 24)) 55 i (rmI (sdq x (2 * i + 2)) (nI nc))) 57 2 (nI (i + 1))) (by simp [rd_sI]) (by omega) (by omega) (fun j hj' => by
        by_cases ej : j = i
        · subst ej
          simp [rd_sI]
        · have := hj j (by omega)
          simp [rd_sI, ej, this])
      exact ⟨w, u, h', p1, p2, p3, FR.tr (by repeat' (first | exact FR.rf | refine FR.s ?_ (by decide))) p4⟩
theorem c_draw {D : DT} {x : Int32} {n : Nat} {h : HP} (hn : n ≤ 8) (hc : CD D h) (h60 : h.2.2 = 60) (h54 : h.1 54 3 = 0) : ∃ h', f_St_draw 57 x (nI n) (nI (dnc D)) h = some h' ∧ CD (Dyr D x n) (sR h' 57) ∧ FR [55, 56, 57] h h' := by
  have b1 := hc.2.2.1
  have q : (0 < nI (dnc D)) ↔ 0 < dnc D := nI_ltI (a := 0) (by omega) (by omega)
  obtain ⟨c1, c2, b1, b2, b3, c3, c4, c5, c6, c7, c8⟩ := hc
  obtain ⟨r1, r2, r3, r4⟩ := rf_60
  have mk : ∀ h' : HP, FR [55, 56, 57] h h' → h'.1 57 2 = nI (dns (Dyr D x n)) → (∀ i, i < dns (Dyr D x n) → h'.1 56 i = dsd (Dyr D x n) i ∧ h'.1 55 i = dsk (Dyr D x n) i) → CD (Dyr D x n) (sR h' 57) := fun h' f x1 x2 => by
    refine ⟨?_, ?_, b1, b2, ?_, fun i hi => ?_, Or.inr rfl, ?_, fun i hi => ?_, ?_, fun i hi => ?_⟩
    · show h'.1 70 4 = _
      rw [f.e 70]; exact c1
    · show h'.1 66 4 = _
      rw [f.e 66]; exact c2
    · show (if dnc D = 0 then 0 else n) ≤ 8
      split <;> omega
    · show h'.1 62 i = _ ∧ h'.1 64 i = _ ∧ h'.1 63 i = _ ∧ _
      rw [f.e 62, f.e 64, f.e 63]; exact c3 i hi
    · exact x1
    · show h'.1 (rf1 57 0) i = _ ∧ h'.1 (rf1 57 1) i = _
      rw [r3, r4]
      exact x2 i hi
    · show h'.1 54 3 = 0
      rw [f.e 54]; exact h54
    · show h'.1 68 i = _ ∧ h'.1 67 i = _ ∧ _
      rw [f.e 68, f.e 67]; exact c8 i hi
  unfold f_St_draw
  rw [ltt_s]
  simp only [q]
  by_cases z : 0 < dnc D
  · rw [if_pos z]
    have en : dns (Dyr D x n) = n := if_neg (by omega)
    obtain ⟨w, u, h', p1, p2, p3, p4⟩ := l_draw (x := x) (a2 := x) hn z b1 400 0 (sI h 57 2 0) (by simp [rd_sI, nI_0]) (Nat.zero_le _) (by omega) (fun j hj => absurd hj (Nat.not_lt_zero _))
    have f : FR [55, 56, 57] h h' := (FR.rf.s (by decide)).tr p4
    rw [show lp_St_draw_16 57 x (nI n) (nI (dnc D)) 400 0 x (sI h 57 2 0) = _ from p1, bd3_s]
    exact ⟨h', rfl, mk h' f (by rw [en]; exact p2) (fun i hi => p3 i (by rw [en] at hi; exact hi)), f⟩
  · rw [if_neg z]
    have en : dns (Dyr D x n) = 0 := if_pos (by omega)
    have f : FR [55, 56, 57] h (sI h 57 2 0) := FR.rf.s (by decide)
    exact ⟨_, rfl, mk _ f (by rw [en]; simp [rd_sI, nI_0]) (fun i hi => by rw [en] at hi; omega), f⟩
theorem yr_c {α : Type} {a : Int32} {x y : α} : (if a < 0 then x else if 8 < a then x else y) = if inb a 9 = true then y else x := if3 (inb_n (n := 8) (by omega))
def yrI (D : DT) (x : Int32) (n : Nat) (a : Int32) : Int32 := nI (sumN (dnc D) (fun k => av (WE (Dyr D x n) 23 k) (if a = 0 then 5 else 4)))
theorem qc_years {D : DT} {h0 : HP} {x a : Int32} {n : Nat} (t : QS D h0) (hn : n ≤ 8) (ha : inb a 2 = true) : Q h0 (f_CS_years x (nI n) a) (yrI D x n a) := fun h hs => by
  have t' := t.sf hs
  have h60 : h.2.2 = 60 := t'.2.2.2.2.2.2.1
  have h54 : h.1 54 3 = 0 := t'.1.2.2.2.2.2.2.2.2.2.1.trans t'.2.2.2.2.2.2.2.1
  obtain ⟨h1, e1, c1, f1⟩ := c_draw (x := x) hn t'.1 h60 h54
  have hw : (if a = 0 then 5 else 4) < 8 := by split <;> omega
  have h6 : (if a = 0 then 5 else 4) ≠ 6 := by split <;> omega
  obtain ⟨h2, e2, f2⟩ := c_inAll (w := if a = 0 then 5 else 4) c1 hw h6
  have ew : (if a = 0 then some (5 : Int32) else some 4) = some (nI (if a = 0 then 5 else 4)) := by
    by_cases z : a = 0
    · rw [if_pos z, if_pos z]; rfl
    · rw [if_neg z, if_neg z]; rfl
  refine ⟨sR h2 60, ?_, hs.tr ?_⟩
  · unfold f_CS_years
    rw [yr_c, if_pos (inb_lit (by omega) (by omega)), two_c, if_pos ha, ltt_s, rI, t'.1.1, e1, bd1_s, ltt_s, ew, bd1_s, e2, bd2_s, ltt_s]
    rfl
  · have g : ∀ b, b ∉ [52, 53, 55, 56, 57] → (sR h2 60).1 b = h.1 b := fun b hb => by
      show h2.1 b = h.1 b
      simp only [List.mem_cons, List.not_mem_nil, or_false] at hb
      rw [f2.2 b (by simp only [List.mem_cons, List.not_mem_nil, or_false]; omega)]
      show h1.1 b = h.1 b
      exact f1.2 b (by simp only [List.mem_cons, List.not_mem_nil, or_false]; omega)
    have sub : ∀ q, q ∈ [52, 53, 55, 56, 57] → q ∈ scr := by decide
    refine ⟨h60.symm, fun b hb _ => g b (fun z => hb (sub b z)), ?_, ?_, ?_⟩
    · rw [g 34 (by decide)]
    · rw [g 34 (by decide)]
    · rw [g 34 (by decide)]
theorem l_myr {x a2 a3 : Int32} {n nc : Nat} (hn : n ≤ 8) (hc : 0 < nc) (hc8 : nc ≤ 8) : ∀ (fu i : Nat) (h : HP), h.1 34 12 = nI n → h.1 34 2 = nI nc → i ≤ n → n < i + fu → (∀ j, j < i → h.1 24 j = rmI (sdq x (2 * j + 1)) 24 ∧ h.1 23 j = rmI (sdq x (2 * j + 2)) (nI nc)) → ∃ w u h', lp_Mo_yearsOf_26 x a2 a3 fu (nI i) (sdq x (2 * i)) h = some (w, u, h') ∧ (∀ j, j < n → h'.1 24 j = rmI (sdq x (2 * j + 1)) 24 ∧ h'.1 23 j = rmI (sdq x (2 * j + 2)) (nI nc)) ∧ FR [23, 24] h h' := by
  intro fu
  induction fu with
  | zero => intro i h _ _ h1 h2; omega
  | succ fu ih =>
    intro i h e12 e2 hi hf hj
    have q : (nI n ≤ nI i) ↔ n ≤ i := nI_leI (by omega) (by omega)
    rw [lp_Mo_yearsOf_26]
    rw [show rI h 34 12 = nI n from e12, ltt_s]
    by_cases he : n ≤ i
    · have ei : i = n := by omega
      subst ei
      rw [if_pos (q.mpr he)]
      exact ⟨_, _, h, rfl, hj, FR.rf⟩
    · rw [if_neg (fun z => he (q.mp z))]
      have hne : decide (¬ nI nc = 0) = true := decide_eq_true (nI_ne0 hc (by omega))
      have hb : inb (nI i) 17 = true := inb_lit (by omega) (by omega)
      have sq1 : (1103515245 : Int32) * sdq x (2 * i) + 12345 = sdq x (2 * i + 1) := rfl
      have sq2 : (1103515245 : Int32) * sdq x (2 * i + 1) + 12345 = sdq x (2 * i + 2) := rfl
      rw [ltt_s, hb, ckk_t, wA_nI (by omega), ltt_s, ltt_s, sq1, sq2, rm_f (sdq x (2 * i + 1)) 24]
      have e2' : rI (sI h 24 i (rmI (sdq x (2 * i + 1)) 24)) 34 2 = nI nc := by
        show (sI h 24 i _).1 34 2 = _
        rw [sI_na (by decide)]; exact e2
      rw [e2', ltt_s, hne, ckk_t, ckk_t, wA_nI (by omega), rm_f (sdq x (2 * i + 2)) (nI nc), ltt_s, ltt_s, nI_1]
      obtain ⟨w, u, h', p1, p2, p3⟩ := ih (i + 1) (sI (sI h 24 i (rmI (sdq x (2 * i + 1)) 24)) 23 i (rmI (sdq x (2 * i + 2)) (nI nc))) (by simp [rd_sI, e12]) (by simp [rd_sI, e2]) (by omega) (by omega) (fun j hj' => by
        by_cases ej : j = i
        · subst ej
          simp [rd_sI]
        · have := hj j (by omega)
          simp [rd_sI, ej, this])
      exact ⟨w, u, h', p1, p2, FR.tr (by repeat' (first | exact FR.rf | refine FR.s ?_ (by decide))) p3⟩
theorem qm_years {D : DT} {h0 : HP} {x a : Int32} {n : Nat} (t : QS D h0) (hn : n ≤ 8) : Q h0 (f_Mo_yearsOf x (nI n) a) (yrI D x n a) := fun h hs => by
  obtain ⟨h1, e1, m1, s1⟩ := m_asTold (t.sf hs)
  have b1 := m1.2.2.1
  have lo : dlo D = 0 := t.2.2.2.2.2.2.2.1
  have q : (nI (dnc D) = 0) ↔ dnc D = 0 := nI_eq (b := 0) (by omega) (by omega)
  obtain ⟨h2, h2e⟩ : ∃ h2, h2 = sI h1 34 12 (nI (dns (Dyr D x n))) := ⟨_, rfl⟩
  have n8 : dns (Dyr D x n) ≤ 8 := by
    show (if dnc D = 0 then 0 else n) ≤ 8
    split <;> omega
  have ew : (if nI (dnc D) = 0 then some (0 : Int32) else some (nI n)) = some (nI (dns (Dyr D x n))) := by
    by_cases z : dnc D = 0
    · have en : dns (Dyr D x n) = 0 := if_pos z
      rw [if_pos (q.mpr z), en]
      rfl
    · have en : dns (Dyr D x n) = n := if_neg z
      rw [if_neg (fun y => z (q.mp y)), en]
  have h22 : h2.1 34 2 = nI (dnc D) := by rw [h2e, sI_nj (by decide)]; exact m1.1
  have h212 : h2.1 34 12 = nI (dns (Dyr D x n)) := by rw [h2e, sI_eq]
  have lp : ∃ w u h3, lp_Mo_yearsOf_26 x (nI n) a 400 0 x h2 = some (w, u, h3) ∧ (∀ j, j < dns (Dyr D x n) → h3.1 24 j = rmI (sdq x (2 * j + 1)) 24 ∧ h3.1 23 j = rmI (sdq x (2 * j + 2)) (nI (dnc D))) ∧ FR [23, 24] h2 h3 := by
    by_cases z : dnc D = 0
    · have en : dns (Dyr D x n) = 0 := if_pos z
      rw [en] at h212 ⊢
      refine ⟨0, x, h2, ?_, fun j hj => absurd hj (Nat.not_lt_zero _), FR.rf⟩
      rw [show (400 : Nat) = 399 + 1 from rfl, lp_Mo_yearsOf_26, show rI h2 34 12 = 0 from h212, ltt_s, if_pos (by decide)]
    · exact l_myr (x := x) (a2 := nI n) (a3 := a) n8 (by omega) b1 400 0 h2 h212 h22 (Nat.zero_le _) (by omega) (fun j hj => absurd hj (Nat.not_lt_zero _))
  obtain ⟨w, u, h3, e3, p3, f3⟩ := lp
  have m3 : MD (Dyr D x n) h3 := by
    obtain ⟨m1, m2, m3, m4, m5, m6, m7, m8, m9, m10⟩ := m1
    have g : ∀ b i, b ≠ 34 → b ≠ 24 → b ≠ 23 → h3.1 b i = h1.1 b i := fun b i z1 z2 z3 => by
      rw [f3.2 b (by simp only [List.mem_cons, List.not_mem_nil, or_false]; omega), h2e, sI_na z1]
    refine ⟨by rw [f3.e 34]; exact h22, by rw [f3.e 34, h2e, sI_nj (by decide)]; exact m2, m3, m4, by omega, by rw [f3.e 34]; exact h212, by rw [f3.e 34, h2e, sI_nj (by decide), m7, lo]; rfl, fun i hi => ?_, fun i hi => ?_, fun i hi => ?_⟩
    · rw [g 27 i (by decide) (by decide) (by decide), g 29 i (by decide) (by decide) (by decide), g 28 i (by decide) (by decide) (by decide)]
      exact m8 i hi
    · have z : 0 < dnc D := by
        have hi' : i < (if dnc D = 0 then 0 else n) := hi
        by_cases y : dnc D = 0
        · rw [if_pos y] at hi'; omega
        · omega
      exact ⟨(p3 i hi).1, (p3 i hi).2, rmI_b z m3⟩
    · rw [g 31 i (by decide) (by decide) (by decide), g 30 i (by decide) (by decide) (by decide)]
      exact m10 i hi
  obtain ⟨h4, e4, r4, k4⟩ := m_runs m3
  have m4 := m3.keep k4
  have eb := m_brokeAll m4.1 m4.2.2.1 r4.1
  have et := m_throughNow m4.1 m4.2.2.1 r4.1
  have s2 : SF h1 h3 := by
    refine SF.of (cs := [23, 24, 34]) ?_ (by decide) ?_ ?_ ?_
    · rw [h2e] at f3
      exact FR.tr (FR.s FR.rf (by decide)) (f3.mono (by decide))
    · rw [f3.e 34, h2e, sI_nj (by decide)]
    · rw [f3.e 34, h2e, sI_nj (by decide)]
    · rw [f3.e 34, h2e, sI_nj (by decide)]
  refine ⟨h4, ?_, ((hs.tr s1).tr s2).tr k4.sf⟩
  unfold f_Mo_yearsOf yrI
  rw [e1, bd1_s, show rI h1 34 2 = nI (dnc D) from m1.1, ltt_s, ew, bd1_s, ltt_s, ← h2e, e3, bd3_s, e4, bd1_s]
  by_cases z : a = 0
  · rw [if_pos z, eb, bd2_s, if_pos z]
    rfl
  · rw [if_neg z, et, bd2_s, if_neg z]
    rfl
theorem m_in8 {a : Int32} {h : HP} : f_Mo_in a 0 8 h = some (bI (inb a 9), h) := m_inN (n := 8) (by omega)
theorem o_years : op_years Inv := fun a1 a2 a3 => Q.op (fun h0 hi => by
  obtain ⟨D, t⟩ := hi.qs
  by_cases z1 : inb a2 9 = true
  · by_cases z2 : inb a3 2 = true
    · obtain ⟨n, n1, n2⟩ := (inb_iff (by omega)).mp z1
      refine ⟨yrI D a1 n a3, by rw [n2]; exact qc_years t (by omega) z2, fun h hs => ?_⟩
      unfold f_Mo_years
      rw [m_in8, bd2_s, bI_if, if_pos z1, m_isTwo, bd2_s, bI_if, if_pos z2, n2, bd2_id]
      exact qm_years t (by omega) h hs
    · refine ⟨-2, fun h hs => ⟨h, ?_, hs⟩, fun h hs => ⟨h, ?_, hs⟩⟩
      · unfold f_CS_years
        rw [yr_c, if_pos z1, two_c, if_neg z2]
      · unfold f_Mo_years
        rw [m_in8, bd2_s, bI_if, if_pos z1, m_isTwo, bd2_s, bI_if, if_neg z2]
  · refine ⟨-2, fun h hs => ⟨h, ?_, hs⟩, fun h hs => ⟨h, ?_, hs⟩⟩
    · unfold f_CS_years
      rw [yr_c, if_neg z1]
    · unfold f_Mo_years
      rw [m_in8, bd2_s, bI_if, if_neg z1])
