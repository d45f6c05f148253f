/-! the texts: how the class reads them -/
def okC (p : Nat) (x : Int32) : Bool := if p = 0 then (decide (x = 121) || decide (x = 111) || decide (x = 115)) else if p = 1 then (!decide (x < 49) && !decide (57 < x)) else decide (x = 59)
def okB (p : Nat) (x : Int32) : Bool := if p = 0 then (!decide (x < 97) && !decide (104 < x)) else if p = 1 then (!decide (x < 49) && !decide (57 < x)) else if p = 2 then (!decide (x < 97) && !decide (120 < x)) else decide (x = 59)
/-- v is the text's fault: the first byte that doesn't fit, or the end where it ends too early, or -1 -/
def FS (ok : Nat → Int32 → Bool) (per n : Nat) (b : Nat → Int32) (v : Int32) : Prop := (∃ p, p < n ∧ v = nI p ∧ ok (p % per) (b p) = false ∧ ∀ q, q < p → ok (q % per) (b q) = true) ∨ ((∀ q, q < n → ok (q % per) (b q) = true) ∧ (((n = 0 ∨ n % per = per - 1) ∧ v = -1) ∨ (¬ (n = 0 ∨ n % per = per - 1) ∧ v = nI n)))
theorem nI_nm1 {d : Nat} (hd : d < 1000) : nI d ≠ -1 := by
  intro h
  have h2 : (nI d).toInt = (-1 : Int32).toInt := by rw [h]
  rw [nI_toInt (by omega)] at h2
  have h3 : (-1 : Int32).toInt = -1 := by decide
  omega
theorem FS.uniq {ok : Nat → Int32 → Bool} {per n : Nat} {b : Nat → Int32} {v w : Int32} (h1 : FS ok per n b v) (h2 : FS ok per n b w) : v = w := by
  rcases h1 with ⟨p, a1, a2, a3, a4⟩ | ⟨a1, a2⟩
  · rcases h2 with ⟨q, b1, b2, b3, b4⟩ | ⟨b1, b2⟩
    · have e : p = q := by
        rcases Nat.lt_trichotomy p q with z | z | z
        · have := b4 p z
          rw [a3] at this
          cases this
        · exact z
        · have := a4 q z
          rw [b3] at this
          cases this
      rw [a2, b2, e]
    · have := b1 p a1
      rw [a3] at this
      cases this
  · rcases h2 with ⟨q, b1, b2, b3, b4⟩ | ⟨b1, b2⟩
    · have := a1 q b1
      rw [b3] at this
      cases this
    · rcases a2 with ⟨c1, c2⟩ | ⟨c1, c2⟩ <;> rcases b2 with ⟨d1, d2⟩ | ⟨d1, d2⟩
      · rw [c2, d2]
      · exact absurd c1 d1
      · exact absurd d1 c1
      · rw [c2, d2]
theorem FS.m1 {ok : Nat → Int32 → Bool} {per n : Nat} {b : Nat → Int32} (hn : n < 1000) (h : FS ok per n b (-1)) : (∀ q, q < n → ok (q % per) (b q) = true) ∧ (n = 0 ∨ n % per = per - 1) := by
  rcases h with ⟨p, a1, a2, -⟩ | ⟨a1, ⟨a2, -⟩ | ⟨-, a3⟩⟩
  · exact absurd a2.symm (nI_nm1 (by omega))
  · exact ⟨a1, a2⟩
  · exact absurd a3.symm (nI_nm1 hn)
theorem FS.cong {ok : Nat → Int32 → Bool} {per n : Nat} {b b' : Nat → Int32} {v : Int32} (e : ∀ q, q < n → b' q = b q) (h : FS ok per n b v) : FS ok per n b' v := by
  rcases h with ⟨p, a1, a2, a3, a4⟩ | ⟨a1, a2⟩
  · exact Or.inl ⟨p, a1, a2, by rw [e p a1]; exact a3, fun q hq => by rw [e q (by omega)]; exact a4 q hq⟩
  · exact Or.inr ⟨fun q hq => by rw [e q hq]; exact a1 q hq, a2⟩
theorem isb {x u w : Int32} {h : HP} : f_CS_isBetween x u w h = some (if (!decide (x < u) && !decide (w < x)) = true then 1 else 0, h) := by
  unfold f_CS_isBetween
  by_cases h1 : x < u
  · simp [h1]
  · by_cases h2 : w < x
    · simp [h1, h2]
    · simp [h1, h2]
theorem z01b {c : Prop} [Decidable c] : z01 (if c then (1 : Int32) else 0) = true := by
  by_cases h : c
  · rw [if_pos h]; rfl
  · rw [if_neg h]; rfl
theorem fits_C {p : Nat} {x : Int32} {h : HP} (hp : p < 3) : f_Ca_fits (nI p) x h = some (if okC p x = true then 1 else 0, h) := by
  have e : p = 0 ∨ p = 1 ∨ p = 2 := by omega
  rcases e with rfl | rfl | rfl
  · unfold f_Ca_fits
    rw [if_pos (by decide)]
    unfold okC
    rw [if_pos rfl]
    by_cases h1 : x = 121
    · simp [h1]
    · by_cases h2 : x = 111
      · simp [h2]
      · by_cases h3 : x = 115
        · simp [h3]
        · simp [h1, h2, h3]
  · unfold f_Ca_fits
    rw [if_neg (by decide), if_pos (by decide), isb, bd2_s, z01b, ckk_t]
    rfl
  · unfold f_Ca_fits
    rw [if_neg (by decide), if_neg (by decide)]
    by_cases h1 : x = 59
    · simp [h1, okC]
    · simp [h1, okC]
theorem fits_B {p : Nat} {x : Int32} {h : HP} (hp : p < 4) : f_Ba_fits (nI p) x h = some (if okB p x = true then 1 else 0, h) := by
  have e : p = 0 ∨ p = 1 ∨ p = 2 ∨ p = 3 := by omega
  rcases e with rfl | rfl | rfl | rfl
  · unfold f_Ba_fits
    rw [if_pos (by decide), isb, bd2_s, z01b, ckk_t]
    rfl
  · unfold f_Ba_fits
    rw [if_neg (by decide), if_pos (by decide), isb, bd2_s, z01b, ckk_t]
    rfl
  · unfold f_Ba_fits
    rw [if_neg (by decide), if_neg (by decide), if_pos (by decide), isb, bd2_s, z01b, ckk_t]
    rfl
  · unfold f_Ba_fits
    rw [if_neg (by decide), if_neg (by decide), if_neg (by decide)]
    by_cases h1 : x = 59
    · simp [h1, okB]
    · simp [h1, okB]
theorem ff_C {n : Nat} {h : HP} (hn : n ≤ 23) (h2 : h.1 70 2 = nI n) (h1 : h.1 70 1 = 3) : ∀ (fu i : Nat), i ≤ n → n < i + fu → (∀ q, q < i → okC (q % 3) (h.1 69 q) = true) → ∃ v, lp_Tx_findFault_4 70 fu (nI i) (nI (i % 3)) h = some (v, h) ∧ FS okC 3 n (h.1 69) v := by
  intro fu
  induction fu with
  | zero => intro i h1 h2; omega
  | succ fu ih =>
    intro i hi hf hok
    have q : (nI n ≤ nI i) ↔ n ≤ i := nI_leI (by omega) (by omega)
    have q0 : (nI n = 0) ↔ n = 0 := nI_eq (b := 0) (by omega) (by omega)
    have e1 : (3 : Int32) - 1 = nI 2 := by decide
    have q1 : (nI (i % 3) = nI 2) ↔ i % 3 = 2 := nI_eq (by omega) (by omega)
    have e2 : rf1 70 0 = 69 := by decide
    have e3 : ln 69 = 23 := by decide
    rw [lp_Tx_findFault_4]
    simp only [ltt_s, rI, h2, h1, q, q0, e1, q1, e2, e3]
    by_cases he : n ≤ i
    · have e : i = n := by omega
      subst e
      simp only [Nat.le_refl, if_true]
      by_cases h0 : i = 0
      · simp only [h0, if_true, bd1_s, one_ne, if_false]
        exact ⟨_, rfl, Or.inr ⟨fun q hq => absurd hq (Nat.not_lt_zero _), Or.inl ⟨Or.inl rfl, rfl⟩⟩⟩
      · by_cases hm : i % 3 = 2
        · simp only [h0, hm, if_true, if_false, bd1_s, one_ne]
          exact ⟨_, rfl, Or.inr ⟨hok, Or.inl ⟨Or.inr hm, rfl⟩⟩⟩
        · simp only [h0, hm, if_true, if_false, bd1_s]
          exact ⟨_, rfl, Or.inr ⟨hok, Or.inr ⟨fun z => z.elim h0 hm, rfl⟩⟩⟩
    · simp only [he, if_false]
      have hb : inb (nI i) 23 = true := inb_lit (by omega) (by omega)
      have hft := fits_C (p := i % 3) (x := h.1 69 i) (h := h) (by omega)
      simp only [hb, ckk_t, rA_nI (show i < 2 ^ 31 by omega), if_true, hft, bd2_s]
      by_cases hk : okC (i % 3) (h.1 69 i) = true
      · simp only [hk, if_true, one_ne, if_false, h1, e1, q1, nI_1]
        have hok' : ∀ q, q < i + 1 → okC (q % 3) (h.1 69 q) = true := fun q hq => by
          by_cases eq : q = i
          · subst eq; exact hk
          · exact hok q (by omega)
        by_cases hm : i % 3 = 2
        · have e4 : (i + 1) % 3 = 0 := by omega
          simp only [hm, if_true, bd1_s]
          have := ih (i + 1) (by omega) (by omega) hok'
          rw [e4] at this
          exact this
        · have e4 : (i + 1) % 3 = i % 3 + 1 := by omega
          simp only [hm, if_false, bd1_s]
          have := ih (i + 1) (by omega) (by omega) hok'
          rw [e4] at this
          exact this
      · simp only [hk, if_false, if_true]
        exact ⟨_, rfl, Or.inl ⟨i, by omega, rfl, by simpa using hk, hok⟩⟩
theorem ff_B {n : Nat} {h : HP} (hn : n ≤ 39) (h2 : h.1 66 2 = nI n) (h1 : h.1 66 1 = 4) : ∀ (fu i : Nat), i ≤ n → n < i + fu → (∀ q, q < i → okB (q % 4) (h.1 65 q) = true) → ∃ v, lp_Tx_findFault_4 66 fu (nI i) (nI (i % 4)) h = some (v, h) ∧ FS okB 4 n (h.1 65) v := by
  intro fu
  induction fu with
  | zero => intro i h1 h2; omega
  | succ fu ih =>
    intro i hi hf hok
    have q : (nI n ≤ nI i) ↔ n ≤ i := nI_leI (by omega) (by omega)
    have q0 : (nI n = 0) ↔ n = 0 := nI_eq (b := 0) (by omega) (by omega)
    have e1 : (4 : Int32) - 1 = nI 3 := by decide
    have q1 : (nI (i % 4) = nI 3) ↔ i % 4 = 3 := nI_eq (by omega) (by omega)
    have e2 : rf1 66 0 = 65 := by decide
    have e3 : ln 65 = 39 := by decide
    rw [lp_Tx_findFault_4]
    simp only [ltt_s, rI, h2, h1, q, q0, e1, q1, e2, e3]
    by_cases he : n ≤ i
    · have e : i = n := by omega
      subst e
      simp only [Nat.le_refl, if_true]
      by_cases h0 : i = 0
      · simp only [h0, if_true, bd1_s, one_ne, if_false]
        exact ⟨_, rfl, Or.inr ⟨fun q hq => absurd hq (Nat.not_lt_zero _), Or.inl ⟨Or.inl rfl, rfl⟩⟩⟩
      · by_cases hm : i % 4 = 3
        · simp only [h0, hm, if_true, if_false, bd1_s, one_ne]
          exact ⟨_, rfl, Or.inr ⟨hok, Or.inl ⟨Or.inr hm, rfl⟩⟩⟩
        · simp only [h0, hm, if_true, if_false, bd1_s]
          exact ⟨_, rfl, Or.inr ⟨hok, Or.inr ⟨fun z => z.elim h0 hm, rfl⟩⟩⟩
    · simp only [he, if_false]
      have hb : inb (nI i) 39 = true := inb_lit (by omega) (by omega)
      have hft := fits_B (p := i % 4) (x := h.1 65 i) (h := h) (by omega)
      simp only [hb, ckk_t, rA_nI (show i < 2 ^ 31 by omega), show ((66 : Nat) = 70) = False from by decide, if_false, hft, bd2_s]
      by_cases hk : okB (i % 4) (h.1 65 i) = true
      · simp only [hk, if_true, one_ne, if_false, h1, e1, q1, nI_1]
        have hok' : ∀ q, q < i + 1 → okB (q % 4) (h.1 65 q) = true := fun q hq => by
          by_cases eq : q = i
          · subst eq; exact hk
          · exact hok q (by omega)
        by_cases hm : i % 4 = 3
        · have e4 : (i + 1) % 4 = 0 := by omega
          simp only [hm, if_true, bd1_s]
          have := ih (i + 1) (by omega) (by omega) hok'
          rw [e4] at this
          exact this
        · have e4 : (i + 1) % 4 = i % 4 + 1 := by omega
          simp only [hm, if_false, bd1_s]
          have := ih (i + 1) (by omega) (by omega) hok'
          rw [e4] at this
          exact this
      · simp only [hk, if_false, if_true]
        exact ⟨_, rfl, Or.inl ⟨i, by omega, rfl, by simpa using hk, hok⟩⟩
def sortI (x : Int32) : Int32 := if x = 121 then 0 else if x = 111 then 1 else 2
/-- the parsed camels: how many, of what sort, how strong -/
def AC (j : Nat) (h : HP) : Prop := ∀ i, i < j → h.1 68 i = sortI (h.1 69 (3 * i)) ∧ h.1 67 i = h.1 69 (3 * i + 1) - 48
def AB (j : Nat) (h : HP) : Prop := ∀ i, i < j → h.1 64 i = h.1 65 (4 * i) - 97 ∧ h.1 63 i = h.1 65 (4 * i + 1) - 48 ∧ h.1 62 i = h.1 65 (4 * i + 2) - 97
set_option maxHeartbeats 4000000 in
theorem pl_C {n : Nat} (hn : n ≤ 23) (hm : n = 0 ∨ n % 3 = 2) : ∀ (fu j : Nat) (h : HP), h.1 70 2 = nI n → h.1 70 1 = 3 → h.1 70 4 = nI j → j ≤ (n + 1) / 3 → (n + 1) / 3 < j + fu → AC j h → ∃ v h', lp_Tx_parse_23 70 fu (nI (3 * j)) h = some (v, h') ∧ h'.1 70 4 = nI ((n + 1) / 3) ∧ AC ((n + 1) / 3) h' ∧ FR [67, 68, 70] h h' ∧ (∀ i, i ≠ 4 → h'.1 70 i = h.1 70 i) := by
  intro fu
  induction fu with
  | zero => intro j h _ _ _ h1 h2; omega
  | succ fu ih =>
    intro j h h2 h1 h4 hj hf ha
    have q : (nI n ≤ nI (3 * j)) ↔ n ≤ 3 * j := nI_leI (by omega) (by omega)
    rw [lp_Tx_parse_23]
    simp only [ltt_s, rI, h2, h4, q, if_true]
    by_cases he : n ≤ 3 * j
    · have e : j = (n + 1) / 3 := by omega
      simp only [he, if_true]
      refine ⟨_, h, rfl, by rw [← e]; exact h4, by rw [← e]; exact ha, FR.rf, fun _ _ => rfl⟩
    · simp only [he, if_false]
      have b1 : inb (nI (3 * j)) 23 = true := inb_lit (by omega) (by omega)
      have b2 : inb (nI (3 * j + 1)) 23 = true := inb_lit (by omega) (by omega)
      have b3 : inb (nI j) 8 = true := inb_lit (by omega) (by omega)
      have hjl : j < 2 ^ 31 := by omega
      have e1 : (if h.1 69 (3 * j) = 121 then some (0 : Int32) else if h.1 69 (3 * j) = 111 then some 1 else some 2) = some (sortI (h.1 69 (3 * j))) := by
        unfold sortI
        split
        · rfl
        · split <;> rfl
      have e2 : (sI h 68 j (sortI (h.1 69 (3 * j)))).1 69 (3 * j + 1) = h.1 69 (3 * j + 1) := by simp [rd_sI]
      have e3 : f_Ca_learn (nI j) (nI (3 * j)) h = some (sI (sI h 68 j (sortI (h.1 69 (3 * j)))) 67 j (h.1 69 (3 * j + 1) - 48)) := by
        unfold f_Ca_learn
        simp only [b1, b2, b3, ckk_t, ltt_s, rA_nI (show 3 * j < 2 ^ 31 by omega), nI_1, rA_nI (show 3 * j + 1 < 2 ^ 31 by omega), wA_nI hjl, e1, bd1_s, e2]
      have e4 : (sI (sI h 68 j (sortI (h.1 69 (3 * j)))) 67 j (h.1 69 (3 * j + 1) - 48)).1 70 4 = nI j := by simp [rd_sI, h4]
      simp only [e3, bd1_s, e4, nI_1]
      have e5 : (sI (sI (sI h 68 j (sortI (h.1 69 (3 * j)))) 67 j (h.1 69 (3 * j + 1) - 48)) 70 4 (nI (j + 1))).1 70 1 = 3 := by simp [rd_sI, h1]
      have e6 : nI (3 * j) + 3 = nI (3 * (j + 1)) := by
        rw [show 3 * (j + 1) = 3 * j + 3 by omega]
        exact nI_add (3 * j) 3
      simp only [e5, e6]
      obtain ⟨v, h', p1, p2, p3, p4, p5⟩ := ih (j + 1) (sI (sI (sI h 68 j (sortI (h.1 69 (3 * j)))) 67 j (h.1 69 (3 * j + 1) - 48)) 70 4 (nI (j + 1))) (by simp [rd_sI, h2]) e5 (by simp [rd_sI]) (by omega) (by omega) (fun i hi => by
        by_cases ei : i = j
        · subst ei
          simp [rd_sI]
        · have := ha i (by omega)
          simp [rd_sI, ei, this])
      refine ⟨v, h', p1, p2, p3, FR.tr ?_ p4, fun i hi => by rw [p5 i hi]; simp [rd_sI, hi]⟩
      repeat' (first | exact FR.rf | refine FR.s ?_ (by decide))
set_option maxHeartbeats 4000000 in
theorem pl_B {n : Nat} (hn : n ≤ 39) (hm : n = 0 ∨ n % 4 = 3) : ∀ (fu j : Nat) (h : HP), h.1 66 2 = nI n → h.1 66 1 = 4 → h.1 66 4 = nI j → j ≤ (n + 1) / 4 → (n + 1) / 4 < j + fu → AB j h → ∃ v h', lp_Tx_parse_23 66 fu (nI (4 * j)) h = some (v, h') ∧ h'.1 66 4 = nI ((n + 1) / 4) ∧ AB ((n + 1) / 4) h' ∧ FR [62, 63, 64, 66] h h' ∧ (∀ i, i ≠ 4 → h'.1 66 i = h.1 66 i) := by
  intro fu
  induction fu with
  | zero => intro j h _ _ _ h1 h2; omega
  | succ fu ih =>
    intro j h h2 h1 h4 hj hf ha
    have q : (nI n ≤ nI (4 * j)) ↔ n ≤ 4 * j := nI_leI (by omega) (by omega)
    rw [lp_Tx_parse_23]
    simp only [ltt_s, rI, h2, h4, q, show ((66 : Nat) = 70) = False from by decide, if_false]
    by_cases he : n ≤ 4 * j
    · have e : j = (n + 1) / 4 := by omega
      simp only [he, if_true]
      refine ⟨_, h, rfl, by rw [← e]; exact h4, by rw [← e]; exact ha, FR.rf, fun _ _ => rfl⟩
    · simp only [he, if_false]
      have b1 : inb (nI (4 * j)) 39 = true := inb_lit (by omega) (by omega)
      have b2 : inb (nI (4 * j + 1)) 39 = true := inb_lit (by omega) (by omega)
      have b2' : inb (nI (4 * j + 2)) 39 = true := inb_lit (by omega) (by omega)
      have b3 : inb (nI j) 10 = true := inb_lit (by omega) (by omega)
      have hjl : j < 2 ^ 31 := by omega
      have n2 : nI (4 * j) + 2 = nI (4 * j + 2) := nI_add (4 * j) 2
      obtain ⟨x0, hx0⟩ : ∃ x, x = h.1 65 (4 * j) - 97 := ⟨_, rfl⟩
      obtain ⟨x1, hx1⟩ : ∃ x, x = h.1 65 (4 * j + 1) - 48 := ⟨_, rfl⟩
      obtain ⟨x2, hx2⟩ : ∃ x, x = h.1 65 (4 * j + 2) - 97 := ⟨_, rfl⟩
      have e2 : (sI h 64 j x0).1 65 (4 * j + 1) = h.1 65 (4 * j + 1) := by simp [rd_sI]
      have e2' : (sI (sI h 64 j x0) 63 j x1).1 65 (4 * j + 2) = h.1 65 (4 * j + 2) := by simp [rd_sI]
      have e3 : f_Ba_learn (nI j) (nI (4 * j)) h = some (sI (sI (sI h 64 j x0) 63 j x1) 62 j x2) := by
        unfold f_Ba_learn
        simp only [b1, b2, b2', b3, ckk_t, ltt_s, rA_nI (show 4 * j < 2 ^ 31 by omega), nI_1, n2, rA_nI (show 4 * j + 1 < 2 ^ 31 by omega), rA_nI (show 4 * j + 2 < 2 ^ 31 by omega), wA_nI hjl, ← hx0, e2, ← hx1, e2', ← hx2]
      have e4 : (sI (sI (sI h 64 j x0) 63 j x1) 62 j x2).1 66 4 = nI j := by simp [rd_sI, h4]
      simp only [e3, bd1_s, e4, nI_1]
      have e5 : (sI (sI (sI (sI h 64 j x0) 63 j x1) 62 j x2) 66 4 (nI (j + 1))).1 66 1 = 4 := by simp [rd_sI, h1]
      have e6 : nI (4 * j) + 4 = nI (4 * (j + 1)) := by
        rw [show 4 * (j + 1) = 4 * j + 4 by omega]
        exact nI_add (4 * j) 4
      simp only [e5, e6]
      obtain ⟨v, h', p1, p2, p3, p4, p5⟩ := ih (j + 1) (sI (sI (sI (sI h 64 j x0) 63 j x1) 62 j x2) 66 4 (nI (j + 1))) (by simp [rd_sI, h2]) e5 (by simp [rd_sI]) (by omega) (by omega) (fun i hi => by
        by_cases ei : i = j
        · subst ei
          simp [rd_sI, hx0, hx1, hx2]
        · have := ha i (by omega)
          simp [rd_sI, ei, this])
      refine ⟨v, h', p1, p2, p3, FR.tr ?_ p4, fun i hi => by rw [p5 i hi]; simp [rd_sI, hi]⟩
      repeat' (first | exact FR.rf | refine FR.s ?_ (by decide))
/-- the class's text of camels, read -/
def TC (n nc : Nat) (h : HP) : Prop := n ≤ 23 ∧ h.1 70 2 = nI n ∧ h.1 70 1 = 3 ∧ FS okC 3 n (h.1 69) (h.1 70 3) ∧ nc = (if h.1 70 3 = -1 then (n + 1) / 3 else 0) ∧ h.1 70 4 = nI nc ∧ AC nc h
def TB (n nb : Nat) (h : HP) : Prop := n ≤ 39 ∧ h.1 66 2 = nI n ∧ h.1 66 1 = 4 ∧ FS okB 4 n (h.1 65) (h.1 66 3) ∧ nb = (if h.1 66 3 = -1 then (n + 1) / 4 else 0) ∧ h.1 66 4 = nI nb ∧ AB nb h
theorem parse_C {n : Nat} {h : HP} (hn : n ≤ 23) (h2 : h.1 70 2 = nI n) (h1 : h.1 70 1 = 3) : ∃ h' nc, f_Tx_parse 70 h = some h' ∧ TC n nc h' ∧ FR [67, 68, 70] h h' := by
  obtain ⟨v, e1, fs⟩ := ff_C hn h2 h1 400 0 (Nat.zero_le _) (by omega) (fun q hq => absurd hq (Nat.not_lt_zero _))
  unfold f_Tx_parse f_Tx_findFault
  rw [show lp_Tx_findFault_4 70 400 0 0 h = some (v, h) from e1]
  have e3 : (sI (sI h 70 3 v) 70 4 0).1 70 3 = v := by simp [rd_sI]
  simp only [bd2_s, ltt_s, rI, e3]
  have f2 : FR [67, 68, 70] h (sI (sI h 70 3 v) 70 4 0) := by
    repeat' (first | exact FR.rf | refine FR.s ?_ (by decide))
  by_cases hv : v = -1
  · subst hv
    obtain ⟨a1, a2⟩ := fs.m1 (by omega)
    obtain ⟨w, h', p1, p2, p3, p4, p5⟩ := pl_C hn a2 400 0 (sI (sI h 70 3 (-1)) 70 4 0) (by simp [rd_sI, h2]) (by simp [rd_sI, h1]) (by simp [rd_sI, nI_0]) (Nat.zero_le _) (by omega) (fun i hi => absurd hi (Nat.not_lt_zero _))
    simp only [if_true, show lp_Tx_parse_23 70 400 0 _ = _ from p1, bd2_s]
    have p53 : h'.1 70 3 = -1 := by rw [p5 3 (by decide)]; simp [rd_sI]
    refine ⟨h', (n + 1) / 3, rfl, ⟨hn, by rw [p5 2 (by decide)]; simp [rd_sI, h2], by rw [p5 1 (by decide)]; simp [rd_sI, h1], ?_, by rw [p53, if_pos rfl], p2, p3⟩, f2.tr p4⟩
    rw [p53, (f2.tr p4).2 69 (by decide)]
    exact fs
  · simp only [hv, if_false]
    refine ⟨_, _, rfl, ⟨hn, by simp [rd_sI, h2], by simp [rd_sI, h1], ?_, rfl, ?_, ?_⟩, f2⟩
    · rw [e3, f2.2 69 (by decide)]
      exact fs
    · rw [e3, if_neg hv]
      simp [rd_sI, nI_0]
    · rw [e3, if_neg hv]
      exact fun i hi => absurd hi (Nat.not_lt_zero _)
theorem parse_B {n : Nat} {h : HP} (hn : n ≤ 39) (h2 : h.1 66 2 = nI n) (h1 : h.1 66 1 = 4) : ∃ h' nb, f_Tx_parse 66 h = some h' ∧ TB n nb h' ∧ FR [62, 63, 64, 66] h h' := by
  obtain ⟨v, e1, fs⟩ := ff_B hn h2 h1 400 0 (Nat.zero_le _) (by omega) (fun q hq => absurd hq (Nat.not_lt_zero _))
  unfold f_Tx_parse f_Tx_findFault
  rw [show lp_Tx_findFault_4 66 400 0 0 h = some (v, h) from e1]
  have e3 : (sI (sI h 66 3 v) 66 4 0).1 66 3 = v := by simp [rd_sI]
  simp only [bd2_s, ltt_s, rI, e3]
  have f2 : FR [62, 63, 64, 66] h (sI (sI h 66 3 v) 66 4 0) := by
    repeat' (first | exact FR.rf | refine FR.s ?_ (by decide))
  by_cases hv : v = -1
  · subst hv
    obtain ⟨a1, a2⟩ := fs.m1 (by omega)
    obtain ⟨w, h', p1, p2, p3, p4, p5⟩ := pl_B hn a2 400 0 (sI (sI h 66 3 (-1)) 66 4 0) (by simp [rd_sI, h2]) (by simp [rd_sI, h1]) (by simp [rd_sI, nI_0]) (Nat.zero_le _) (by omega) (fun i hi => absurd hi (Nat.not_lt_zero _))
    simp only [if_true, show lp_Tx_parse_23 66 400 0 _ = _ from p1, bd2_s]
    have p53 : h'.1 66 3 = -1 := by rw [p5 3 (by decide)]; simp [rd_sI]
    refine ⟨h', (n + 1) / 4, rfl, ⟨hn, by rw [p5 2 (by decide)]; simp [rd_sI, h2], by rw [p5 1 (by decide)]; simp [rd_sI, h1], ?_, by rw [p53, if_pos rfl], p2, p3⟩, f2.tr p4⟩
    rw [p53, (f2.tr p4).2 65 (by decide)]
    exact fs
  · simp only [hv, if_false]
    refine ⟨_, _, rfl, ⟨hn, by simp [rd_sI, h2], by simp [rd_sI, h1], ?_, rfl, ?_, ?_⟩, f2⟩
    · rw [e3, f2.2 65 (by decide)]
      exact fs
    · rw [e3, if_neg hv]
      simp [rd_sI, nI_0]
    · rw [e3, if_neg hv]
      exact fun i hi => absurd hi (Nat.not_lt_zero _)
