/-! the texts: how the reference reads them -/
def rpb (v2 a1 : Int32) (fu : Nat) (v12 v13 : Int32) (h14 : HP) : Option (Int32 × HP) :=
 bd2 ((if a1 = 0 then bd2 (f_Mo_readsCamel v13 v12 h14) (fun (v22 : Int32) (h23 : HP) => some (v22, h23)) else bd2 (f_Mo_readsBale v13 v12 h14) (fun (v20 : Int32) (h21 : HP) => some (v20, h21))) : Option (Int32 × HP)) (fun (v17 : Int32) (h18 : HP) =>
 (if v2 ≤ v17 then
 ltt (v13 + 1) (fun (v25 : Int32) =>
 ltt (v12 + v2) (fun (v26 : Int32) =>
 ckk (inb a1 2) (ltt (rA h18 33 a1) (fun (v27 : Int32) =>
 (if v26 = v27 then
 bd1 ((if a1 = 0 then some (v25) else ltt (rI h18 34 2) (fun (v35 : Int32) => some (v35))) : Option (Int32)) (fun (v33 : Int32) =>
 ltt (sI h18 34 2 v33) (fun (h36 : HP) =>
 bd1 ((if a1 = 1 then some (v25) else ltt (rI h36 34 5) (fun (v39 : Int32) => some (v39))) : Option (Int32)) (fun (v37 : Int32) =>
 ltt (sI h36 34 5 v37) (fun (h40 : HP) =>
 some ((-1), h40)))))
 else
 bd2 (f_Mo_byteAt a1 v26 h18) (fun (v29 : Int32) (h30 : HP) =>
 (if v29 = 59 then
 ltt (v26 + 1) (fun (v32 : Int32) =>
 lp_Mo_readsParts_48 v2 a1 fu v32 v25 h30)
 else
 some (v26, h30))))))))
 else
 some (v12 + v17, h18)))
theorem rp_eq (v2 a1 : Int32) (fu : Nat) (v12 v13 : Int32) (h : HP) : lp_Mo_readsParts_48 v2 a1 (fu + 1) v12 v13 h = ckk (inb a1 2) (if v12 < rA h 33 a1 then rpb v2 a1 fu v12 v13 h else if v12 ≤ 0 then some ((-1), h) else rpb v2 a1 fu v12 v13 h) := rfl
theorem m_in {x u w : Int32} {h : HP} : f_Mo_in x u w h = some (if (!decide (x < u) && !decide (w < x)) = true then 1 else 0, h) := isb
theorem i0_1 : ¬ ((0 : Int32) = 1) := by decide
theorem i1_0 : ¬ ((1 : Int32) = 0) := by decide
theorem byte0 {n q : Nat} {h : HP} (hn : h.1 33 0 = nI n) (hn2 : n ≤ 39) (hq : q < 78) : f_Mo_byteAt 0 (nI q) h = some (if n ≤ q then -1 else h.1 32 q, h) := by
  have e0 : rA h 33 0 = nI n := hn
  have e1 : (39 : Int32) * 0 + nI q = nI q := by
    rw [show (39 : Int32) * 0 = nI 0 from by decide, nI_add, Nat.zero_add]
  have b0 : inb 0 2 = true := by decide
  have b1 : inb (nI q) 78 = true := inb_lit (by omega) (by omega)
  have q1 : (nI n ≤ nI q) ↔ n ≤ q := nI_leI (by omega) (by omega)
  unfold f_Mo_byteAt
  simp only [e0, b0, ckk_t, ltt_s, q1, e1, b1, rA_nI (show q < 2 ^ 31 by omega)]
  by_cases z : n ≤ q
  · rw [if_pos z, if_pos z]
  · rw [if_neg z, if_neg z]
theorem byte1 {n q : Nat} {h : HP} (hn : h.1 33 1 = nI n) (hn2 : n ≤ 39) (hq : q < 50) : f_Mo_byteAt 1 (nI q) h = some (if n ≤ q then -1 else h.1 32 (39 + q), h) := by
  have e0 : rA h 33 1 = nI n := hn
  have e1 : (39 : Int32) * 1 + nI q = nI (39 + q) := by
    rw [show (39 : Int32) * 1 = nI 39 from by decide, nI_add]
  have b0 : inb 1 2 = true := by decide
  have q1 : (nI n ≤ nI q) ↔ n ≤ q := nI_leI (by omega) (by omega)
  unfold f_Mo_byteAt
  simp only [e0, b0, ckk_t, ltt_s, q1, e1, rA_nI (show 39 + q < 2 ^ 31 by omega)]
  by_cases z : n ≤ q
  · rw [if_pos z, if_pos z]
  · have b1 : inb (nI (39 + q)) 78 = true := inb_lit (by omega) (by omega)
    rw [if_neg z, if_neg z, b1, ckk_t]
def MAC (j : Nat) (b : Nat → Int32) (h : HP) : Prop := ∀ i, i < j → h.1 31 i = sortI (b (3 * i)) ∧ h.1 30 i = b (3 * i + 1) - 48
def MAB (j : Nat) (b : Nat → Int32) (h : HP) : Prop := ∀ i, i < j → h.1 29 i = b (4 * i) - 97 ∧ h.1 28 i = b (4 * i + 1) - 48 ∧ h.1 27 i = b (4 * i + 2) - 97
def bx (n : Nat) (b : Nat → Int32) (q : Nat) : Int32 := if n ≤ q then -1 else b q
theorem bx_lt {n q : Nat} {b : Nat → Int32} (h : q < n) : bx n b q = b q := if_neg (by omega)
theorem bx_ge {n q : Nat} {b : Nat → Int32} (h : n ≤ q) : bx n b q = -1 := if_pos h
set_option maxHeartbeats 4000000 in
theorem reads_C {n j : Nat} {b : Nat → Int32} {h : HP} (hn : n ≤ 23) (hj : j < 8) (h33 : h.1 33 0 = nI n) (hb : ∀ q, q < n → h.1 32 q = b q) : f_Mo_readsCamel (nI j) (nI (3 * j)) h = if okC 0 (bx n b (3 * j)) = true then (if okC 1 (bx n b (3 * j + 1)) = true then some (2, sI (sI h 31 j (sortI (bx n b (3 * j)))) 30 j (bx n b (3 * j + 1) - 48)) else some (1, h)) else some (0, h) := by
  have e1 := byte0 (q := 3 * j) h33 (by omega) (by omega)
  have e2 := byte0 (q := 3 * j + 1) h33 (by omega) (by omega)
  have hx : ∀ q, (if n ≤ q then -1 else h.1 32 q) = bx n b q := fun q => by
    unfold bx
    by_cases z : n ≤ q
    · rw [if_pos z, if_pos z]
    · rw [if_neg z, if_neg z, hb q (by omega)]
  rw [hx] at e1 e2
  have q8 : ¬ (nI j = 8) := nI_ne (b := 8) (by omega) (by omega) (by omega)
  have b9 : inb (nI j) 9 = true := inb_lit (by omega) (by omega)
  obtain ⟨x0, hx0⟩ : ∃ x, x = bx n b (3 * j) := ⟨_, rfl⟩
  obtain ⟨x1, hx1⟩ : ∃ x, x = bx n b (3 * j + 1) := ⟨_, rfl⟩
  rw [← hx0] at e1 ⊢
  rw [← hx1] at e2 ⊢
  obtain ⟨v5, e5, p5, r5⟩ : ∃ v5, (if x0 = 121 then some (0 : Int32) else if x0 = 111 then some 1 else if x0 = 115 then some 2 else some (-1)) = some v5 ∧ (okC 0 x0 = true → v5 = sortI x0 ∧ ¬ v5 = -1) ∧ (¬ okC 0 x0 = true → v5 = -1) := by
    unfold okC sortI
    by_cases z1 : x0 = 121
    · subst z1
      exact ⟨0, by simp, fun _ => by decide, fun z => absurd (by decide) z⟩
    · by_cases z2 : x0 = 111
      · subst z2
        exact ⟨1, by simp, fun _ => by decide, fun z => absurd (by decide) z⟩
      · by_cases z3 : x0 = 115
        · subst z3
          exact ⟨2, by simp, fun _ => by decide, fun z => absurd (by decide) z⟩
        · exact ⟨-1, by simp [z1, z2, z3], fun z => by simp [z1, z2, z3] at z, fun _ => rfl⟩
  unfold f_Mo_readsCamel
  simp only [e1, bd2_s, e5, bd1_s, nI_1, e2, q8, if_false, m_in]
  by_cases k0 : okC 0 x0 = true
  · obtain ⟨p6, p7⟩ := p5 k0
    simp only [k0, if_true, p7, if_false]
    by_cases k1 : okC 1 x1 = true
    · have k1' : (!decide (x1 < 49) && !decide (57 < x1)) = true := k1
      simp only [k1, k1', if_true, one_ne, if_false, b9, ckk_t, ltt_s, wA_nI (show j < 2 ^ 31 by omega), p6]
    · have k1' : ¬ (!decide (x1 < 49) && !decide (57 < x1)) = true := k1
      rw [if_neg k1, if_neg k1']
      rfl
  · rw [if_pos (r5 k0), if_neg k0]
set_option maxHeartbeats 4000000 in
theorem reads_B {n j : Nat} {b : Nat → Int32} {h : HP} (hn : n ≤ 39) (hj : j < 10) (h33 : h.1 33 1 = nI n) (hb : ∀ q, q < n → h.1 32 (39 + q) = b q) : f_Mo_readsBale (nI j) (nI (4 * j)) h = if okB 0 (bx n b (4 * j)) = true then (if okB 1 (bx n b (4 * j + 1)) = true then (if okB 2 (bx n b (4 * j + 2)) = true then some (3, sI (sI (sI h 29 j (bx n b (4 * j) - 97)) 28 j (bx n b (4 * j + 1) - 48)) 27 j (bx n b (4 * j + 2) - 97)) else some (2, h)) else some (1, h)) else some (0, h) := by
  have e1 := byte1 (q := 4 * j) h33 (by omega) (by omega)
  have e2 := byte1 (q := 4 * j + 1) h33 (by omega) (by omega)
  have e3 := byte1 (q := 4 * j + 2) h33 (by omega) (by omega)
  have hx : ∀ q, (if n ≤ q then -1 else h.1 32 (39 + q)) = bx n b q := fun q => by
    unfold bx
    by_cases z : n ≤ q
    · rw [if_pos z, if_pos z]
    · rw [if_neg z, if_neg z, hb q (by omega)]
  rw [hx] at e1 e2 e3
  have q8 : ¬ (nI j = 10) := nI_ne (b := 10) (by omega) (by omega) (by omega)
  have b9 : inb (nI j) 11 = true := inb_lit (by omega) (by omega)
  have n2 : nI (4 * j) + 2 = nI (4 * j + 2) := nI_add (4 * j) 2
  obtain ⟨x0, hx0⟩ : ∃ x, x = bx n b (4 * j) := ⟨_, rfl⟩
  obtain ⟨x1, hx1⟩ : ∃ x, x = bx n b (4 * j + 1) := ⟨_, rfl⟩
  obtain ⟨x2, hx2⟩ : ∃ x, x = bx n b (4 * j + 2) := ⟨_, rfl⟩
  rw [← hx0] at e1 ⊢
  rw [← hx1] at e2 ⊢
  rw [← hx2] at e3 ⊢
  unfold f_Mo_readsBale
  simp only [e1, bd2_s, nI_1, n2, e2, e3, q8, if_false, m_in]
  by_cases k0 : okB 0 x0 = true
  · have k0' : (!decide (x0 < 97) && !decide (104 < x0)) = true := k0
    simp only [k0, k0', if_true, one_ne, if_false]
    by_cases k1 : okB 1 x1 = true
    · have k1' : (!decide (x1 < 49) && !decide (57 < x1)) = true := k1
      simp only [k1, k1', if_true, one_ne, if_false]
      by_cases k2 : okB 2 x2 = true
      · have k2' : (!decide (x2 < 97) && !decide (120 < x2)) = true := k2
        simp only [k2, k2', if_true, one_ne, if_false, b9, ckk_t, ltt_s, wA_nI (show j < 2 ^ 31 by omega)]
      · have k2' : ¬ (!decide (x2 < 97) && !decide (120 < x2)) = true := k2
        rw [if_neg k2, if_neg k2']
        rfl
    · have k1' : ¬ (!decide (x1 < 49) && !decide (57 < x1)) = true := k1
      rw [if_neg k1, if_neg k1']
      rfl
  · have k0' : ¬ (!decide (x0 < 97) && !decide (104 < x0)) = true := k0
    rw [if_neg k0, if_neg k0']
    rfl
theorem okC_m1 {p : Nat} : okC p (-1) = false := by
  unfold okC
  split
  · decide
  · split <;> decide
theorem okB_m1 {p : Nat} : okB p (-1) = false := by
  unfold okB
  split
  · decide
  · split
    · decide
    · split <;> decide
/-- the first place at which a byte, or the end, doesn't fit -/
theorem FS.at {ok : Nat → Int32 → Bool} {per n at_ : Nat} {b : Nat → Int32} (hm : ∀ p, ok p (-1) = false) (hle : at_ ≤ n) (hpos : at_ < n ∨ ¬ (n = 0 ∨ n % per = per - 1)) (hok : ∀ q, q < at_ → ok (q % per) (b q) = true) (hx : ok (at_ % per) (bx n b at_) = false) : FS ok per n b (nI at_) := by
  by_cases z : at_ < n
  · rw [bx_lt z] at hx
    exact Or.inl ⟨at_, z, rfl, hx, hok⟩
  · have e : at_ = n := by omega
    subst e
    exact Or.inr ⟨hok, Or.inr ⟨hpos.resolve_left z, rfl⟩⟩
theorem bx_ok {ok : Nat → Int32 → Bool} {n q p : Nat} {b : Nat → Int32} (hm : ∀ p, ok p (-1) = false) (h : ok p (bx n b q) = true) : q < n ∧ bx n b q = b q := by
  by_cases z : n ≤ q
  · rw [bx_ge z, hm] at h
    cases h
  · exact ⟨by omega, bx_lt (by omega)⟩
set_option maxHeartbeats 4000000 in
theorem rp_C {n : Nat} {b : Nat → Int32} (hn : n ≤ 23) : ∀ (fu j : Nat) (h : HP), h.1 33 0 = nI n → (∀ q, q < n → h.1 32 q = b q) → 3 * j ≤ n → 8 < j + fu → (∀ q, q < 3 * j → okC (q % 3) (b q) = true) → MAC j b h → h.1 34 2 = 0 → ∃ v h', lp_Mo_readsParts_48 2 0 fu (nI (3 * j)) (nI j) h = some (v, h') ∧ FS okC 3 n b v ∧ h'.1 34 2 = nI (if v = -1 then (n + 1) / 3 else 0) ∧ MAC (if v = -1 then (n + 1) / 3 else 0) b h' ∧ FR [30, 31, 34] h h' ∧ (∀ i, i ≠ 2 → h'.1 34 i = h.1 34 i) := by
  intro fu
  induction fu with
  | zero => intro j h _ _ h1 h2; omega
  | succ fu ih =>
    intro j h h33 hb hj hf hok ha h342
    have hj8 : j < 8 := by omega
    have b0 : inb 0 2 = true := by decide
    have e33 : rA h 33 0 = nI n := h33
    have q1 : (nI (3 * j) < nI n) ↔ 3 * j < n := nI_ltI (by omega) (by omega)
    have q2 : (nI (3 * j) ≤ 0) ↔ 3 * j ≤ 0 := nI_leI (b := 0) (by omega) (by omega)
    rw [rp_eq, b0, ckk_t, e33]
    simp only [q1, q2]
    by_cases hz : n = 0
    · rw [if_neg (by omega), if_pos (by omega)]
      refine ⟨_, h, rfl, Or.inr ⟨fun q hq => absurd hq (by omega), Or.inl ⟨Or.inl hz, rfl⟩⟩, ?_, ?_, FR.rf, fun _ _ => rfl⟩
      · rw [if_pos rfl, h342, hz]
        rfl
      · rw [if_pos rfl, hz]
        exact fun i hi => absurd hi (by omega)
    · have body : ∃ v h', rpb 2 0 fu (nI (3 * j)) (nI j) h = some (v, h') ∧ FS okC 3 n b v ∧ h'.1 34 2 = nI (if v = -1 then (n + 1) / 3 else 0) ∧ MAC (if v = -1 then (n + 1) / 3 else 0) b h' ∧ FR [30, 31, 34] h h' ∧ (∀ i, i ≠ 2 → h'.1 34 i = h.1 34 i) := by
        have stop : ∀ p, p ≤ n → p < 1000 → (p < n ∨ ¬ (n = 0 ∨ n % 3 = 3 - 1)) → (∀ q, q < p → okC (q % 3) (b q) = true) → okC (p % 3) (bx n b p) = false → ∀ h1 : HP, h1.1 34 2 = 0 → FR [30, 31, 34] h h1 → (∀ i, i ≠ 2 → h1.1 34 i = h.1 34 i) → ∃ v h', (some (nI p, h1) : Option (Int32 × HP)) = some (v, h') ∧ FS okC 3 n b v ∧ h'.1 34 2 = nI (if v = -1 then (n + 1) / 3 else 0) ∧ MAC (if v = -1 then (n + 1) / 3 else 0) b h' ∧ FR [30, 31, 34] h h' ∧ (∀ i, i ≠ 2 → h'.1 34 i = h.1 34 i) := fun p p1 p2 p3 p4 p5 h1 g1 g2 g3 => by
          refine ⟨_, h1, rfl, FS.at (fun _ => okC_m1) p1 p3 p4 p5, ?_, ?_, g2, g3⟩
          · rw [if_neg (nI_nm1 p2), g1]
            rfl
          · rw [if_neg (nI_nm1 p2)]
            exact fun i hi => absurd hi (Nat.not_lt_zero _)
        unfold rpb
        rw [if_pos rfl, reads_C hn hj8 h33 hb]
        have m0 : 3 * j % 3 = 0 := by omega
        have m1 : (3 * j + 1) % 3 = 1 := by omega
        have m2 : (3 * j + 2) % 3 = 2 := by omega
        by_cases k0 : okC 0 (bx n b (3 * j)) = true
        · obtain ⟨l0, x0⟩ := bx_ok (ok := okC) (p := 0) (fun _ => okC_m1) k0
          have ok1 : ∀ q, q < 3 * j + 1 → okC (q % 3) (b q) = true := fun q hq => by
            by_cases e : q = 3 * j
            · subst e; rw [m0, ← x0]; exact k0
            · exact hok q (by omega)
          by_cases k1 : okC 1 (bx n b (3 * j + 1)) = true
          · obtain ⟨l1, x1⟩ := bx_ok (ok := okC) (p := 1) (fun _ => okC_m1) k1
            have ok2 : ∀ q, q < 3 * j + 2 → okC (q % 3) (b q) = true := fun q hq => by
              by_cases e : q = 3 * j + 1
              · subst e; rw [m1, ← x1]; exact k1
              · exact ok1 q (by omega)
            rw [if_pos k0, if_pos k1, x0, x1]
            have hle : ((2 : Int32) ≤ 2) := by decide
            have n2 : nI (3 * j) + 2 = nI (3 * j + 2) := nI_add (3 * j) 2
            obtain ⟨g, hg⟩ : ∃ g, g = sI (sI h 31 j (sortI (b (3 * j)))) 30 j (b (3 * j + 1) - 48) := ⟨_, rfl⟩
            rw [← hg]
            have g33 : rA g 33 0 = nI n := by
              show g.1 33 0 = nI n
              rw [hg]
              simp [rd_sI, h33]
            have g342 : g.1 34 2 = 0 := by rw [hg]; simp [rd_sI, h342]
            have g34 : ∀ i, g.1 34 i = h.1 34 i := fun i => by rw [hg]; simp [rd_sI]
            have gf : FR [30, 31, 34] h g := by
              rw [hg]
              repeat' (first | exact FR.rf | refine FR.s ?_ (by decide))
            have ga : MAC (j + 1) b g := fun i hi => by
              rw [hg]
              by_cases e : i = j
              · subst e
                simp [rd_sI]
              · have := ha i (by omega)
                simp [rd_sI, e, this]
            have q3 : (nI (3 * j + 2) = nI n) ↔ 3 * j + 2 = n := nI_eq (by omega) (by omega)
            simp only [bd2_s, hle, if_true, ltt_s, nI_1, n2, b0, ckk_t, g33, q3]
            by_cases hen : 3 * j + 2 = n
            · simp only [hen, if_true, bd1_s, i0_1, if_false, rI]
              have e3 : j + 1 = (n + 1) / 3 := by omega
              refine ⟨_, _, rfl, Or.inr ⟨by rw [← hen]; exact ok2, Or.inl ⟨Or.inr (by omega), rfl⟩⟩, ?_, ?_, ?_, ?_⟩
              · rw [if_pos rfl, ← e3]
                simp [rd_sI]
              · rw [if_pos rfl, ← e3]
                exact fun i hi => by have := ga i hi; simp [rd_sI, this]
              · exact (gf.s (by decide)).s (by decide)
              · intro i hi
                simp only [rd_sI]
                by_cases e5 : i = 5
                · subst e5
                  simp [g34]
                · simp [hi, e5, g34]
            · simp only [hen, if_false]
              have e4 := byte0 (q := 3 * j + 2) (h := g) g33 (by omega) (by omega)
              have e4' : (if n ≤ 3 * j + 2 then -1 else g.1 32 (3 * j + 2)) = b (3 * j + 2) := by
                rw [if_neg (by omega), hg]
                simp [rd_sI, hb (3 * j + 2) (by omega)]
              rw [e4'] at e4
              simp only [e4, bd2_s]
              by_cases k2 : b (3 * j + 2) = 59
              · simp only [k2, if_true, nI_1]
                have e6 : 3 * j + 2 + 1 = 3 * (j + 1) := by omega
                rw [e6]
                obtain ⟨v, h', p1, p2, p3, p4, p5, p6⟩ := ih (j + 1) g g33 (fun q hq => by rw [gf.2 32 (by decide)]; exact hb q hq) (by omega) (by omega) (fun q hq => by
                  by_cases e : q = 3 * j + 2
                  · subst e; rw [m2, k2]; rfl
                  · exact ok2 q (by omega)) ga g342
                exact ⟨v, h', p1, p2, p3, p4, gf.tr p5, fun i hi => (p6 i hi).trans (g34 i)⟩
              · simp only [k2, if_false]
                refine stop (3 * j + 2) (by omega) (by omega) (Or.inl (by omega)) ok2 ?_ g g342 gf (fun i _ => g34 i)
                rw [m2, bx_lt (by omega)]
                show decide (b (3 * j + 2) = 59) = false
                exact decide_eq_false k2
          · rw [if_pos k0, if_neg k1]
            have hle : ¬ ((2 : Int32) ≤ 1) := by decide
            simp only [bd2_s, hle, if_false, nI_1]
            refine stop (3 * j + 1) (by omega) (by omega) ?_ ok1 (by rw [m1]; simpa using k1) h h342 FR.rf (fun _ _ => rfl)
            by_cases z : 3 * j + 1 < n
            · exact Or.inl z
            · exact Or.inr (by omega)
        · rw [if_neg k0]
          have hle : ¬ ((2 : Int32) ≤ 0) := by decide
          have n0 : nI (3 * j) + 0 = nI (3 * j) := nI_add (3 * j) 0
          simp only [bd2_s, hle, if_false, n0]
          refine stop (3 * j) hj (by omega) ?_ hok (by rw [m0]; simpa using k0) h h342 FR.rf (fun _ _ => rfl)
          by_cases z : 3 * j < n
          · exact Or.inl z
          · exact Or.inr (by omega)
      by_cases hlt : 3 * j < n
      · rw [if_pos hlt]
        exact body
      · rw [if_neg hlt, if_neg (by omega)]
        exact body
set_option maxHeartbeats 4000000 in
theorem rp_B {n : Nat} {b : Nat → Int32} (hn : n ≤ 39) : ∀ (fu j : Nat) (h : HP), h.1 33 1 = nI n → (∀ q, q < n → h.1 32 (39 + q) = b q) → 4 * j ≤ n → 10 < j + fu → (∀ q, q < 4 * j → okB (q % 4) (b q) = true) → MAB j b h → h.1 34 5 = 0 → ∃ v h', lp_Mo_readsParts_48 3 1 fu (nI (4 * j)) (nI j) h = some (v, h') ∧ FS okB 4 n b v ∧ h'.1 34 5 = nI (if v = -1 then (n + 1) / 4 else 0) ∧ MAB (if v = -1 then (n + 1) / 4 else 0) b h' ∧ FR [27, 28, 29, 34] h h' ∧ (∀ i, i ≠ 5 → h'.1 34 i = h.1 34 i) := by
  intro fu
  induction fu with
  | zero => intro j h _ _ h1 h2; omega
  | succ fu ih =>
    intro j h h33 hb hj hf hok ha h342
    have hj8 : j < 10 := by omega
    have b0 : inb 1 2 = true := by decide
    have e33 : rA h 33 1 = nI n := h33
    have q1 : (nI (4 * j) < nI n) ↔ 4 * j < n := nI_ltI (by omega) (by omega)
    have q2 : (nI (4 * j) ≤ 0) ↔ 4 * j ≤ 0 := nI_leI (b := 0) (by omega) (by omega)
    rw [rp_eq, b0, ckk_t, e33]
    simp only [q1, q2]
    by_cases hz : n = 0
    · rw [if_neg (by omega), if_pos (by omega)]
      refine ⟨_, h, rfl, Or.inr ⟨fun q hq => absurd hq (by omega), Or.inl ⟨Or.inl hz, rfl⟩⟩, ?_, ?_, FR.rf, fun _ _ => rfl⟩
      · rw [if_pos rfl, h342, hz]
        rfl
      · rw [if_pos rfl, hz]
        exact fun i hi => absurd hi (by omega)
    · have body : ∃ v h', rpb 3 1 fu (nI (4 * j)) (nI j) h = some (v, h') ∧ FS okB 4 n b v ∧ h'.1 34 5 = nI (if v = -1 then (n + 1) / 4 else 0) ∧ MAB (if v = -1 then (n + 1) / 4 else 0) b h' ∧ FR [27, 28, 29, 34] h h' ∧ (∀ i, i ≠ 5 → h'.1 34 i = h.1 34 i) := by
        have stop : ∀ p, p ≤ n → p < 1000 → (p < n ∨ ¬ (n = 0 ∨ n % 4 = 4 - 1)) → (∀ q, q < p → okB (q % 4) (b q) = true) → okB (p % 4) (bx n b p) = false → ∀ h1 : HP, h1.1 34 5 = 0 → FR [27, 28, 29, 34] h h1 → (∀ i, i ≠ 5 → h1.1 34 i = h.1 34 i) → ∃ v h', (some (nI p, h1) : Option (Int32 × HP)) = some (v, h') ∧ FS okB 4 n b v ∧ h'.1 34 5 = nI (if v = -1 then (n + 1) / 4 else 0) ∧ MAB (if v = -1 then (n + 1) / 4 else 0) b h' ∧ FR [27, 28, 29, 34] h h' ∧ (∀ i, i ≠ 5 → h'.1 34 i = h.1 34 i) := fun p p1 p2 p3 p4 p5 h1 g1 g2 g3 => by
          refine ⟨_, h1, rfl, FS.at (fun _ => okB_m1) p1 p3 p4 p5, ?_, ?_, g2, g3⟩
          · rw [if_neg (nI_nm1 p2), g1]
            rfl
          · rw [if_neg (nI_nm1 p2)]
            exact fun i hi => absurd hi (Nat.not_lt_zero _)
        unfold rpb
        rw [if_neg i1_0, reads_B hn hj8 h33 hb]
        have m0 : 4 * j % 4 = 0 := by omega
        have m1 : (4 * j + 1) % 4 = 1 := by omega
        have m2 : (4 * j + 2) % 4 = 2 := by omega
        have m3 : (4 * j + 3) % 4 = 3 := by omega
        by_cases k0 : okB 0 (bx n b (4 * j)) = true
        · obtain ⟨l0, x0⟩ := bx_ok (ok := okB) (p := 0) (fun _ => okB_m1) k0
          have ok1 : ∀ q, q < 4 * j + 1 → okB (q % 4) (b q) = true := fun q hq => by
            by_cases e : q = 4 * j
            · subst e; rw [m0, ← x0]; exact k0
            · exact hok q (by omega)
          by_cases k1 : okB 1 (bx n b (4 * j + 1)) = true
          · obtain ⟨l1, x1⟩ := bx_ok (ok := okB) (p := 1) (fun _ => okB_m1) k1
            have ok2 : ∀ q, q < 4 * j + 2 → okB (q % 4) (b q) = true := fun q hq => by
              by_cases e : q = 4 * j + 1
              · subst e; rw [m1, ← x1]; exact k1
              · exact ok1 q (by omega)
            by_cases k2 : okB 2 (bx n b (4 * j + 2)) = true
            · obtain ⟨l2, x2⟩ := bx_ok (ok := okB) (p := 2) (fun _ => okB_m1) k2
              have ok3 : ∀ q, q < 4 * j + 3 → okB (q % 4) (b q) = true := fun q hq => by
                by_cases e : q = 4 * j + 2
                · subst e; rw [m2, ← x2]; exact k2
                · exact ok2 q (by omega)
              rw [if_pos k0, if_pos k1, if_pos k2, x0, x1, x2]
              have hle : ((3 : Int32) ≤ 3) := by decide
              have n2 : nI (4 * j) + 3 = nI (4 * j + 3) := nI_add (4 * j) 3
              obtain ⟨g, hg⟩ : ∃ g, g = sI (sI (sI h 29 j (b (4 * j) - 97)) 28 j (b (4 * j + 1) - 48)) 27 j (b (4 * j + 2) - 97) := ⟨_, rfl⟩
              rw [← hg]
              have g33 : rA g 33 1 = nI n := by
                show g.1 33 1 = nI n
                rw [hg]
                simp [rd_sI, h33]
              have g342 : g.1 34 5 = 0 := by rw [hg]; simp [rd_sI, h342]
              have g34 : ∀ i, g.1 34 i = h.1 34 i := fun i => by rw [hg]; simp [rd_sI]
              have gf : FR [27, 28, 29, 34] h g := by
                rw [hg]
                repeat' (first | exact FR.rf | refine FR.s ?_ (by decide))
              have ga : MAB (j + 1) b g := fun i hi => by
                rw [hg]
                by_cases e : i = j
                · subst e
                  simp [rd_sI]
                · have := ha i (by omega)
                  simp [rd_sI, e, this]
              have q3 : (nI (4 * j + 3) = nI n) ↔ 4 * j + 3 = n := nI_eq (by omega) (by omega)
              simp only [bd2_s, hle, if_true, ltt_s, nI_1, n2, b0, ckk_t, g33, q3]
              by_cases hen : 4 * j + 3 = n
              · simp only [hen, if_true, bd1_s, i1_0, if_false, rI]
                have e3 : j + 1 = (n + 1) / 4 := by omega
                refine ⟨_, _, rfl, Or.inr ⟨by rw [← hen]; exact ok3, Or.inl ⟨Or.inr (by omega), rfl⟩⟩, ?_, ?_, ?_, ?_⟩
                · rw [if_pos rfl, ← e3]
                  simp [rd_sI]
                · rw [if_pos rfl, ← e3]
                  exact fun i hi => by have := ga i hi; simp [rd_sI, this]
                · exact (gf.s (by decide)).s (by decide)
                · intro i hi
                  simp only [rd_sI]
                  by_cases e5 : i = 2
                  · subst e5
                    simp [g34]
                  · simp [hi, e5, g34]
              · simp only [hen, if_false]
                have e4 := byte1 (q := 4 * j + 3) (h := g) g33 (by omega) (by omega)
                have e4' : (if n ≤ 4 * j + 3 then -1 else g.1 32 (39 + (4 * j + 3))) = b (4 * j + 3) := by
                  rw [if_neg (by omega), hg]
                  simp [rd_sI, hb (4 * j + 3) (by omega)]
                rw [e4'] at e4
                simp only [e4, bd2_s]
                by_cases k3 : b (4 * j + 3) = 59
                · simp only [k3, if_true, nI_1]
                  have e6 : 4 * j + 3 + 1 = 4 * (j + 1) := by omega
                  rw [e6]
                  obtain ⟨v, h', p1, p2, p3, p4, p5, p6⟩ := ih (j + 1) g g33 (fun q hq => by rw [gf.2 32 (by decide)]; exact hb q hq) (by omega) (by omega) (fun q hq => by
                    by_cases e : q = 4 * j + 3
                    · subst e; rw [m3, k3]; rfl
                    · exact ok3 q (by omega)) ga g342
                  exact ⟨v, h', p1, p2, p3, p4, gf.tr p5, fun i hi => (p6 i hi).trans (g34 i)⟩
                · simp only [k3, if_false]
                  refine stop (4 * j + 3) (by omega) (by omega) (Or.inl (by omega)) ok3 ?_ g g342 gf (fun i _ => g34 i)
                  rw [m3, bx_lt (by omega)]
                  show decide (b (4 * j + 3) = 59) = false
                  exact decide_eq_false k3
            · rw [if_pos k0, if_pos k1, if_neg k2]
              have hle : ¬ ((3 : Int32) ≤ 2) := by decide
              have n2 : nI (4 * j) + 2 = nI (4 * j + 2) := nI_add (4 * j) 2
              simp only [bd2_s, hle, if_false, n2]
              refine stop (4 * j + 2) (by omega) (by omega) ?_ ok2 (by rw [m2]; simpa using k2) h h342 FR.rf (fun _ _ => rfl)
              by_cases z : 4 * j + 2 < n
              · exact Or.inl z
              · exact Or.inr (by omega)
          · rw [if_pos k0, if_neg k1]
            have hle : ¬ ((3 : Int32) ≤ 1) := by decide
            simp only [bd2_s, hle, if_false, nI_1]
            refine stop (4 * j + 1) (by omega) (by omega) ?_ ok1 (by rw [m1]; simpa using k1) h h342 FR.rf (fun _ _ => rfl)
            by_cases z : 4 * j + 1 < n
            · exact Or.inl z
            · exact Or.inr (by omega)
        · rw [if_neg k0]
          have hle : ¬ ((3 : Int32) ≤ 0) := by decide
          have n0 : nI (4 * j) + 0 = nI (4 * j) := nI_add (4 * j) 0
          simp only [bd2_s, hle, if_false, n0]
          refine stop (4 * j) hj (by omega) ?_ hok (by rw [m0]; simpa using k0) h h342 FR.rf (fun _ _ => rfl)
          by_cases z : 4 * j < n
          · exact Or.inl z
          · exact Or.inr (by omega)
      by_cases hlt : 4 * j < n
      · rw [if_pos hlt]
        exact body
      · rw [if_neg hlt, if_neg (by omega)]
        exact body
